/-! texts, signs, words out of texts -/
/-- whether a byte is a sign, as a number -/
def sg (c : Nat) : Nat := if (97 ≤ c ∧ c ≤ 122) ∨ (65 ≤ c ∧ c ≤ 90) ∨ (48 ≤ c ∧ c ≤ 57) then 1 else 0
theorem sg_le (c : Nat) : sg c ≤ 1 := by
  unfold sg
  split <;> omega
theorem in_n {x l m : Nat} (hx : x < 2 ^ 31) (hl : l < 2 ^ 31) (hm : m < 2 ^ 31) : M_in (nI x) (nI l) (nI m) = some (nI (if l ≤ x ∧ x ≤ m then 1 else 0)) := by
  unfold M_in
  rw [ilt hx hl, ilt hm hx]
  by_cases h1 : x < l
  · rw [if_pos h1, if_neg (by omega)]; rfl
  · rw [if_neg h1]
    by_cases h2 : m < x
    · rw [if_pos h2, if_neg (by omega)]; rfl
    · rw [if_neg h2, if_pos (by omega)]; rfl
theorem isSign_m {c : Nat} (hc : c < 128) : M_isSign (nI c) = some (nI (sg c)) := by
  unfold M_isSign
  show bd1 (M_in (nI c) (nI 97) (nI 122)) (fun r5 => if r5 = 0 then (bd1 (M_in (nI c) (nI 65) (nI 90)) fun r16 => if r16 = 0 then (bd1 (M_in (nI c) (nI 48) (nI 57)) fun r27 => if r27 = 0 then (some 0) else (some 1)) else (some 1)) else (some 1)) = _
  rw [in_n (by omega) (by decide) (by decide), bd1_in]
  unfold sg
  by_cases h1 : 97 ≤ c ∧ c ≤ 122
  · rw [if_pos h1, if_neg (by decide), if_pos (Or.inl h1)]; rfl
  · rw [if_neg h1, if_pos (by decide), in_n (by omega) (by decide) (by decide), bd1_in]
    by_cases h2 : 65 ≤ c ∧ c ≤ 90
    · rw [if_pos h2, if_neg (by decide), if_pos (Or.inr (Or.inl h2))]; rfl
    · rw [if_neg h2, if_pos (by decide), in_n (by omega) (by decide) (by decide), bd1_in]
      by_cases h3 : 48 ≤ c ∧ c ≤ 57
      · rw [if_pos h3, if_neg (by decide), if_pos (Or.inr (Or.inr h3))]; rfl
      · rw [if_neg h3, if_pos (by decide), if_neg (by omega)]; rfl
theorem isSign_c : ∀ c, c < 128 → C7_isSign (nI c) = some (nI (sg c)) := by decide +kernel
theorem isSign_cm : C7_isSign (-1) = some 0 := by decide +kernel
theorem byte_c : ∀ c, c < 128 → vp_nar .byte (nI c).toInt8.toInt32 = nI c := by decide +kernel
theorem byteAt_in {T : Nat → Nat} {tl i : Nat} (ht : tl ≤ 120) (hi : i < tl) : C4_byteAt (nf T) (nI tl) (nI i) = some (nI (T i)) := by
  unfold C4_byteAt
  rw [ineg (by omega), il (by omega) (by omega), if_neg (by omega)]
  show (if nI 120 ≤ nI i then _ else _) = _
  rw [il (by decide) (by omega), if_neg (by omega), ga_n (by omega) (by decide), nI_clamp (by omega)]
  rfl
theorem byteAt_out {T : Nat → Nat} {tl i : Nat} (ht : tl ≤ 120) (hi : tl ≤ i) (h2 : i < 2 ^ 31) : C4_byteAt (nf T) (nI tl) (nI i) = some (-1) := by
  unfold C4_byteAt
  rw [ineg h2, il (by omega) h2, if_pos hi]
/-- how many signs stand in a row from a place on -/
def srn (T : Nat → Nat) (tl : Nat) : Nat → Nat → Nat
  | _, 0 => 0
  | i, k + 1 => if i < tl ∧ sg (T i) = 1 then 1 + srn T tl (i + 1) k else 0
theorem srn_s {T : Nat → Nat} {tl : Nat} : ∀ (k i : Nat), srn T tl i k ≤ k ∧ (∀ j, j < srn T tl i k → i + j < tl ∧ sg (T (i + j)) = 1) ∧ (srn T tl i k < k → ¬ (i + srn T tl i k < tl ∧ sg (T (i + srn T tl i k)) = 1))
  | 0, i => ⟨Nat.le_refl _, fun j hj => absurd hj (Nat.not_lt_zero j), fun h => absurd h (Nat.lt_irrefl _)⟩
  | k + 1, i => by
    obtain ⟨h1, h2, h3⟩ := srn_s (T := T) (tl := tl) k (i + 1)
    by_cases hc : i < tl ∧ sg (T i) = 1
    · have e : srn T tl i (k + 1) = 1 + srn T tl (i + 1) k := if_pos hc
      rw [e]
      refine ⟨by omega, fun j hj => ?_, fun hlt => ?_⟩
      · cases j with
        | zero => exact hc
        | succ j =>
          have := h2 j (by omega)
          rw [show i + (j + 1) = i + 1 + j by omega]
          exact this
      · rw [show i + (1 + srn T tl (i + 1) k) = i + 1 + srn T tl (i + 1) k by omega]
        exact h3 (by omega)
    · have e : srn T tl i (k + 1) = 0 := if_neg hc
      rw [e]
      exact ⟨Nat.zero_le _, fun j hj => absurd hj (Nat.not_lt_zero j), fun _ => hc⟩
/-! a word of the class grows -/
theorem uN_i64 {x : Nat} (hx : x < 2 ^ 31) : uN (nI x).toInt64 = x := by
  rw [nI_l hx]
  show (lN x).toUInt64.toNat = x
  have e : (lN x).toUInt64.toNat = x % 2 ^ 64 := rfl
  rw [e]
  omega
theorem uN_shk {x s : Nat} (hx : x < 128) (hs : s ≤ 56) : uN ((nI x).toInt64 <<< ((nI s).toInt64 &&& 63)) = x * 2 ^ s := by
  have h : (((nI s).toInt64 &&& 63).toBitVec.smod 64).toNat = s := by
    have : ∀ s, s ≤ 56 → (((nI s).toInt64 &&& 63).toBitVec.smod 64).toNat = s := by decide +kernel
    exact this s hs
  show ((nI x).toInt64.toBitVec <<< (((nI s).toInt64 &&& 63).toBitVec.smod 64).toNat).toNat = _
  rw [h, BitVec.toNat_shiftLeft, Nat.shiftLeft_eq]
  have e : (nI x).toInt64.toBitVec.toNat = x := uN_i64 (by omega)
  rw [e]
  have h2 : x * 2 ^ s ≤ 127 * 2 ^ 56 := Nat.mul_le_mul (by omega) (Nat.pow_le_pow_right (by decide) hs)
  exact Nat.mod_eq_of_lt (Nat.lt_of_le_of_lt h2 (by decide))
/-- the longs of a word hold its signs -/
def wbits (B : Nat → Int64) (len : Nat) (s : Nat → Nat) : Prop := ∀ b, b < 192 → cb B b = bt8 len s b
theorem tb (x i : Nat) : x / 2 ^ i % 2 = if x.testBit i then 1 else 0 := by
  rw [tb_div]
  by_cases h : x / 2 ^ i % 2 = 1
  · rw [h]; rfl
  · have := Nat.mod_lt (x / 2 ^ i) (show 0 < 2 by decide)
    rw [if_neg (by rw [decide_eq_true_eq]; exact h)]
    omega
theorem app_bits {B : Nat → Int64} {j x : Nat} {s : Nat → Nat} (hB : wbits B j s) (hj : j < 24) (hx : x < 128) (hs : ∀ i, i < 24 → s i < 128) : wbits (vp_updL B (j / 8) (B (j / 8) ||| ((nI x).toInt64 <<< ((nI (56 - 8 * (j % 8))).toInt64 &&& 63)))) (j + 1) (un s j x) := by
  intro b hb
  have old := hB b hb
  unfold cb at old ⊢
  by_cases hq : b / 64 = j / 8
  · have e : vp_updL B (j / 8) (B (j / 8) ||| ((nI x).toInt64 <<< ((nI (56 - 8 * (j % 8))).toInt64 &&& 63))) (b / 64) = B (j / 8) ||| ((nI x).toInt64 <<< ((nI (56 - 8 * (j % 8))).toInt64 &&& 63)) := if_pos hq
    rw [e, uN_or, uN_shk hx (by omega), tb, Nat.testBit_or, Nat.mul_comm, Nat.testBit_two_pow_mul]
    rw [hq, tb] at old
    unfold bt8 at old ⊢
    rcases Nat.lt_trichotomy (b / 8) j with z | z | z
    · -- an earlier sign
      have h1 : x.testBit (63 - b % 64 - (56 - 8 * (j % 8))) = false := Nat.testBit_lt_two_pow (Nat.lt_of_lt_of_le hx (by
        show 2 ^ 7 ≤ _
        exact Nat.pow_le_pow_right (by decide) (by omega)))
      rw [h1, Bool.and_false, Bool.or_false, old, if_pos z, if_pos (by omega), un_n (by omega)]
    · -- this one
      rw [if_neg (show ¬ b / 8 < j by omega)] at old
      have h2 : (uN (B (j / 8))).testBit (63 - b % 64) = false := by
        cases hc : (uN (B (j / 8))).testBit (63 - b % 64) with
        | false => rfl
        | true => rw [hc] at old; simp at old
      rw [h2, Bool.false_or, show decide (56 - 8 * (j % 8) ≤ 63 - b % 64) = true from decide_eq_true (by omega), Bool.true_and, ← tb, if_pos (by omega), z, un_s, show 63 - b % 64 - (56 - 8 * (j % 8)) = 7 - b % 8 by omega]
    · rw [if_neg (show ¬ b / 8 < j by omega)] at old
      have h2 : (uN (B (j / 8))).testBit (63 - b % 64) = false := by
        cases hc : (uN (B (j / 8))).testBit (63 - b % 64) with
        | false => rfl
        | true => rw [hc] at old; simp at old
      rw [h2, Bool.false_or, show decide (56 - 8 * (j % 8) ≤ 63 - b % 64) = false from decide_eq_false (by omega), Bool.false_and, if_neg (show ¬ b / 8 < j + 1 by omega)]
      rfl
  · have e : vp_updL B (j / 8) (B (j / 8) ||| ((nI x).toInt64 <<< ((nI (56 - 8 * (j % 8))).toInt64 &&& 63))) (b / 64) = B (b / 64) := if_neg hq
    rw [e, old]
    unfold bt8
    by_cases z : b / 8 < j
    · rw [if_pos z, if_pos (by omega), un_n (by omega)]
    · rw [if_neg z, if_neg (by omega)]
theorem append_n {cs : Nat → Int32} {cbits : Nat → Nat → Int64} {w j x : Nat} {s : Nat → Nat} (hl : cs w = nI j) (hB : wbits (cbits w) j s) (hj : j < 24) (hx : x < 128) (hs : ∀ i, i < 24 → s i < 128) : ∃ B, C6_append cs cbits w (nI x) = some (va_up cs w (nI (j + 1)), va_up cbits w B) ∧ wbits B (j + 1) (un s j x) := by
  refine ⟨_, ?_, app_bits hB hj hx hs⟩
  unfold C6_append
  have e1 : nI j >>> ((3 : Int32) &&& 31) = nI (j / 8) := pk_shrN (by omega) _ 3 (by decide)
  have e2 : nI j &&& 7 = nI (j % 8) := pk_andN (by omega) 3 (by decide)
  have e3 : (56 : Int32) - 8 * nI (j % 8) = nI (56 - 8 * (j % 8)) := by
    show nI 56 - nI 8 * nI (j % 8) = _
    rw [pk_mul, pk_sub (by omega)]
  rw [hl, e1, e2, e3]
  show (if nI 24 ≤ nI j then _ else (if nI (j / 8) < 0 then _ else (if nI 3 ≤ nI (j / 8) then _ else _))) = _
  rw [il (by decide) (by omega), if_neg (by omega), ineg (by omega), il (by decide) (by omega), if_neg (by omega), ga_n (by omega) (by decide), ga_n (by omega) (by decide), nI_clamp (by omega)]
  show some (va_up cs w (nI j + nI 1), _) = _
  rw [nI_add]
theorem empty_n {cs : Nat → Int32} {cbits : Nat → Nat → Int64} {w : Nat} : ∃ B, C6_empty cs cbits w = some (va_up cs w 0, va_up cbits w B) ∧ ∀ s, wbits B 0 s := by
  have key : ∀ (d i n : Nat) (cbits : Nat → Nat → Int64), i + d = 3 → d < n → (∀ k, k < i → cbits w k = 0) → ∃ B, C6_empty_L2 w (fun c_signs c_bits => some ((va_up c_signs w 0), c_bits)) n cs cbits (nI i) = some (va_up cs w 0, va_up cbits w B) ∧ ∀ k, k < 3 → B k = 0 := by
    intro d
    induction d with
    | zero =>
      intro i n cbits hi hn hz
      obtain ⟨n, rfl⟩ : ∃ m, n = m + 1 := ⟨n - 1, by omega⟩
      refine ⟨cbits w, ?_, fun k hk => hz k (by omega)⟩
      rw [C6_empty_L2]
      show (if nI 3 ≤ nI i then _ else _) = _
      rw [il (by decide) (by omega), if_pos (by omega)]
      have e : va_up cbits w (cbits w) = cbits := by
        funext z
        unfold va_up
        split
        · rename_i q; rw [q]
        · rfl
      rw [e]
    | succ d ih =>
      intro i n cbits hi hn hz
      obtain ⟨n, rfl⟩ : ∃ m, n = m + 1 := ⟨n - 1, by omega⟩
      obtain ⟨B, e1, h1⟩ := ih (i + 1) n (va_up cbits w (vp_updL (cbits w) i (0 : Int64))) (by omega) (by omega) (fun k hk => by
        rw [vu_s]
        unfold vp_updL
        split
        · rfl
        · exact hz k (by omega))
      refine ⟨B, ?_, h1⟩
      rw [bx_uu] at e1
      rw [C6_empty_L2]
      show (if nI 3 ≤ nI i then _ else ga (nI i) 3 (C6_empty_L2 w _ n cs _ (nI i + nI 1))) = _
      rw [il (by decide) (by omega), if_neg (by omega), ga_n (by omega) (by decide), nI_clamp (by omega), nI_add]
      exact e1
  obtain ⟨B, e1, h1⟩ := key 3 0 FU cbits (by omega) (by decide) (fun k hk => absurd hk (Nat.not_lt_zero k))
  refine ⟨B, e1, fun s b hb => ?_⟩
  unfold cb bt8
  rw [h1 _ (by omega), if_neg (Nat.not_lt_zero _)]
  show uN 0 / _ % 2 = 0
  have : uN 0 = 0 := rfl
  rw [this, Nat.zero_div]
theorem wbits_congr {B : Nat → Int64} {len : Nat} {s s' : Nat → Nat} (h : wbits B len s) (he : ∀ i, i < len → s i = s' i) : wbits B len s' := by
  intro b hb
  rw [h b hb]
  unfold bt8
  by_cases z : b / 8 < len
  · rw [if_pos z, if_pos z, he _ z]
  · rw [if_neg z, if_neg z]
/-- the class reads signs into a word -/
theorem readSigns_n {T : Nat → Nat} {tl fr w : Nat} (ht : tl ≤ 120) (hT : ∀ i, T i < 128) (hfr : fr ≤ 120) (cs : Nat → Int32) (cbits : Nat → Nat → Int64) : ∃ B, C4_readSigns (nf T) (nI tl) cs cbits (nI fr) w = some (nI (fr + srn T tl fr 24), va_up cs w (nI (srn T tl fr 24)), va_up cbits w B) ∧ wbits B (srn T tl fr 24) (fun i => T (fr + i)) := by
  obtain ⟨h1, h2, h3⟩ := srn_s (T := T) (tl := tl) 24 fr
  generalize hm : srn T tl fr 24 = m at *
  unfold C4_readSigns
  obtain ⟨B0, e0, w0⟩ := empty_n (cs := cs) (cbits := cbits) (w := w)
  rw [e0, bd2_in]
  have key : ∀ (d j n : Nat) (B : Nat → Int64), j + d = m → d < n → wbits B j (fun i => T (fr + i)) → ∃ B', C4_readSigns_L9 (nf T) (nI tl) (nI fr) w (fun c_signs c_bits v3 => some (v3, c_signs, c_bits)) n (va_up cs w (nI j)) (va_up cbits w B) (nI (fr + j)) (nI j) = some (nI (fr + m), va_up cs w (nI m), va_up cbits w B') ∧ wbits B' m (fun i => T (fr + i)) := by
    intro d
    induction d with
    | zero =>
      intro j n B hj hn hB
      obtain ⟨n, rfl⟩ : ∃ m, n = m + 1 := ⟨n - 1, by omega⟩
      have hjm : j = m := by omega
      subst hjm
      refine ⟨B, ?_, hB⟩
      rw [C4_readSigns_L9]
      show (if nI 24 ≤ nI j then _ else _) = _
      rw [il (by decide) (by omega)]
      by_cases hc : 24 ≤ j
      · rw [if_pos hc]
      · have hno := h3 (by omega)
        rw [if_neg hc]
        by_cases hi : fr + j < tl
        · have hs0 : sg (T (fr + j)) = 0 := by
            have := sg_le (T (fr + j))
            omega
          rw [byteAt_in ht hi, bd1_in, isSign_c _ (hT _), bd1_in, hs0, if_pos (by decide)]
        · rw [byteAt_out ht (by omega) (by omega), bd1_in, isSign_cm, bd1_in, if_pos rfl]
    | succ d ih =>
      intro j n B hj hn hB
      obtain ⟨n, rfl⟩ : ∃ m, n = m + 1 := ⟨n - 1, by omega⟩
      obtain ⟨hi, hsg⟩ := h2 j (by omega)
      obtain ⟨B', e1, w1⟩ := append_n (cs := va_up cs w (nI j)) (cbits := va_up cbits w B) (w := w) (j := j) (x := T (fr + j)) (s := fun i => T (fr + i)) vu_s (by rw [vu_s]; exact hB) (by omega) (hT _) (fun i _ => hT _)
      rw [bx_uu, bx_uu] at e1
      have w2 : wbits B' (j + 1) (fun i => T (fr + i)) := wbits_congr w1 (fun i hi2 => by
        by_cases z : i = j
        · rw [z, un_s]
        · rw [un_n z])
      obtain ⟨B2, e2, w3⟩ := ih (j + 1) n B' (by omega) (by omega) w2
      refine ⟨B2, ?_, w3⟩
      rw [C4_readSigns_L9]
      show (if nI 24 ≤ nI j then _ else bd1 (C4_byteAt (nf T) (nI tl) (nI (fr + j))) fun r18 => bd1 (C7_isSign r18) fun r21 => if r21 = 0 then _ else bd1 (C4_byteAt (nf T) (nI tl) (nI (fr + j))) fun r30 => bd2 (C6_append (va_up cs w (nI j)) (va_up cbits w B) w r30) fun c_signs_33 c_bits_33 => C4_readSigns_L9 (nf T) (nI tl) (nI fr) w _ n c_signs_33 c_bits_33 (nI (fr + j) + nI 1) (nI j + nI 1)) = _
      rw [il (by decide) (by omega), if_neg (by omega), byteAt_in ht hi, bd1_in, isSign_c _ (hT _), bd1_in, hsg, if_neg (by decide), bd1_in, e1, bd2_in, nI_add, nI_add]
      exact e2
  exact key m 0 FU B0 (by omega) (Nat.lt_of_le_of_lt h1 (by decide)) (w0 _)
/-- whether the text is a word -/
def isw (T : Nat → Nat) (tl : Nat) : Prop := 0 < tl ∧ srn T tl 0 24 = tl
theorem isw_s {T : Nat → Nat} {tl : Nat} : isw T tl ↔ (1 ≤ tl ∧ tl ≤ 24) ∧ ∀ i, i < tl → sg (T i) = 1 := by
  obtain ⟨h1, h2, h3⟩ := srn_s (T := T) (tl := tl) 24 0
  unfold isw
  constructor
  · rintro ⟨a1, a2⟩
    rw [a2] at h1 h2
    exact ⟨⟨a1, h1⟩, fun i hi => by have := (h2 i hi).2; rw [Nat.zero_add] at this; exact this⟩
  · rintro ⟨⟨a1, a2⟩, a3⟩
    refine ⟨a1, ?_⟩
    rcases Nat.lt_trichotomy (srn T tl 0 24) tl with z | z | z
    · exact absurd ⟨by omega, by rw [Nat.zero_add]; exact a3 _ z⟩ (h3 (by omega))
    · exact z
    · have := (h2 tl z).1
      omega
theorem readWord_n {T : Nat → Nat} {tl w : Nat} (ht : tl ≤ 120) (hT : ∀ i, T i < 128) (cs : Nat → Int32) (cbits : Nat → Nat → Int64) : (isw T tl → ∃ B, C4_readWord (nf T) (nI tl) cs cbits w = some (1, va_up cs w (nI tl), va_up cbits w B) ∧ wbits B tl T) ∧ (¬ isw T tl → ∃ B m, C4_readWord (nf T) (nI tl) cs cbits w = some (0, va_up cs w m, va_up cbits w B)) := by
  obtain ⟨B, e1, w1⟩ := readSigns_n (T := T) (tl := tl) (fr := 0) (w := w) ht hT (Nat.zero_le _) cs cbits
  have hm := (srn_s (T := T) (tl := tl) 24 0).1
  have hrw : C4_readWord (nf T) (nI tl) cs cbits w = if srn T tl 0 24 = tl then (if tl ≤ 0 then some (0, va_up cs w (nI (srn T tl 0 24)), va_up cbits w B) else some (1, va_up cs w (nI (srn T tl 0 24)), va_up cbits w B)) else some (0, va_up cs w (nI (srn T tl 0 24)), va_up cbits w B) := by
    unfold C4_readWord
    show bd3 (C4_readSigns (nf T) (nI tl) cs cbits (nI 0) w) (fun r3 c_signs_3 c_bits_3 => if r3 = nI tl then (if nI tl ≤ nI 0 then some (0, c_signs_3, c_bits_3) else some (1, c_signs_3, c_bits_3)) else some (0, c_signs_3, c_bits_3)) = _
    rw [e1, bd3_in, Nat.zero_add, ie (by omega) (by omega), il (by omega) (by decide)]
  constructor
  · rintro ⟨a1, a2⟩
    rw [a2] at w1 hrw
    refine ⟨B, ?_, wbits_congr w1 (fun i _ => by rw [Nat.zero_add])⟩
    rw [hrw, if_pos rfl, if_neg (by omega)]
  · intro hno
    refine ⟨B, nI (srn T tl 0 24), ?_⟩
    rw [hrw]
    by_cases h : srn T tl 0 24 = tl
    · rw [if_pos h, if_pos (by unfold isw at hno; omega)]
    · rw [if_neg h]
/-- the reference's word out of the text -/
theorem isWord_n {T ak : Nat → Nat} {tl al : Nat} (ht : tl ≤ 120) (hT : ∀ i, T i < 128) : (isw T tl → ∃ ak', M_isWord (nf T) (nI tl) (nf ak) (nI al) = some (1, nf ak', nI tl) ∧ (∀ i, i < tl → ak' i = T i) ∧ ∀ i, ak' i = T i ∨ ak' i = ak i) ∧ (¬ isw T tl → ∃ ak', M_isWord (nf T) (nI tl) (nf ak) (nI al) = some (0, nf ak', nI al) ∧ ∀ i, ak' i = T i ∨ ak' i = ak i) := by
  unfold M_isWord
  have hin : M_in (nI tl) 1 24 = some (nI (if 1 ≤ tl ∧ tl ≤ 24 then 1 else 0)) := in_n (by omega) (by decide) (by decide)
  rw [hin, bd1_in]
  have hsw := isw_s (T := T) (tl := tl)
  by_cases hr : 1 ≤ tl ∧ tl ≤ 24
  · rw [if_pos hr]
    have key : ∀ (d i n : Nat) (ak1 : Nat → Nat), i + d = tl → d < n → (∀ j, j < i → ak1 j = T j) → (∀ j, ak1 j = T j ∨ ak1 j = ak j) → (∀ j, j < i → sg (T j) = 1) → ((∀ j, j < tl → sg (T j) = 1) → ∃ ak', M_isWord_L13 (nf T) (nI tl) (fun m_asked m_askedLength v1 => M_isWord_J53 (nf T) (nI tl) m_asked m_askedLength v1) n (nf ak1) (nI al) 1 (nI i) = some (1, nf ak', nI tl) ∧ (∀ j, j < tl → ak' j = T j) ∧ ∀ j, ak' j = T j ∨ ak' j = ak j) ∧ (¬ (∀ j, j < tl → sg (T j) = 1) → ∃ ak', M_isWord_L13 (nf T) (nI tl) (fun m_asked m_askedLength v1 => M_isWord_J53 (nf T) (nI tl) m_asked m_askedLength v1) n (nf ak1) (nI al) 1 (nI i) = some (0, nf ak', nI al) ∧ ∀ j, ak' j = T j ∨ ak' j = ak j) := by
      intro d
      induction d with
      | zero =>
        intro i n ak1 hi hn h1 h2 h3
        obtain ⟨n, rfl⟩ : ∃ m, n = m + 1 := ⟨n - 1, by omega⟩
        have hit : i = tl := by omega
        subst hit
        refine ⟨fun _ => ⟨ak1, ?_, h1, h2⟩, fun hn2 => absurd h3 hn2⟩
        rw [M_isWord_L13, il (by omega) (by omega), if_pos (Nat.le_refl _), M_isWord_J53, if_neg (by decide), gb_in (by decide)]
      | succ d ih =>
        intro i n ak1 hi hn h1 h2 h3
        obtain ⟨n, rfl⟩ : ∃ m, n = m + 1 := ⟨n - 1, by omega⟩
        have step : M_isWord_L13 (nf T) (nI tl) (fun m_asked m_askedLength v1 => M_isWord_J53 (nf T) (nI tl) m_asked m_askedLength v1) (n + 1) (nf ak1) (nI al) 1 (nI i) = M_isWord_L13 (nf T) (nI tl) (fun m_asked m_askedLength v1 => M_isWord_J53 (nf T) (nI tl) m_asked m_askedLength v1) n (nf (un ak1 i (T i))) (nI al) (nI (sg (T i))) (nI (i + 1)) := by
          rw [M_isWord_L13, il (by omega) (by omega), if_neg (by omega), if_neg (by decide), ga_n (by omega) (by decide), nI_clamp (by omega), nf_a, isSign_m (hT _), bd1_in, ga_n (by omega) (by decide), ga_n (by omega) (by decide), nf_upd]
          show M_isWord_L13 _ _ _ n _ _ _ (nI i + nI 1) = _
          rw [nI_add]
        have g1 : ∀ j, j < i + 1 → un ak1 i (T i) j = T j := fun j hj => by
          by_cases z : j = i
          · rw [z, un_s]
          · rw [un_n z]; exact h1 j (by omega)
        have g2 : ∀ j, un ak1 i (T i) j = T j ∨ un ak1 i (T i) j = ak j := fun j => by
          by_cases z : j = i
          · rw [z, un_s]; exact Or.inl rfl
          · rw [un_n z]; exact h2 j
        rw [step]
        by_cases hs1 : sg (T i) = 1
        · have := ih (i + 1) n (un ak1 i (T i)) (by omega) (by omega) g1 g2 (fun j hj => by
            by_cases z : j = i
            · rw [z]; exact hs1
            · exact h3 j (by omega))
          rw [hs1]
          exact this
        · have hs0 : sg (T i) = 0 := by
            have := sg_le (T i)
            omega
          refine ⟨fun hall => absurd (hall i (by omega)) hs1, fun _ => ⟨un ak1 i (T i), ?_, g2⟩⟩
          obtain ⟨n, rfl⟩ : ∃ m, n = m + 1 := ⟨n - 1, by omega⟩
          rw [hs0, M_isWord_L13, il (by omega) (by omega)]
          have fin : M_isWord_J53 (nf T) (nI tl) (nf (un ak1 i (T i))) (nI al) (nI 0) = some (0, nf (un ak1 i (T i)), nI al) := by
            rw [M_isWord_J53, if_pos (by decide), gb_in (by decide)]
            rfl
          by_cases hq : tl ≤ i + 1
          · rw [if_pos hq]; exact fin
          · rw [if_neg hq, if_pos (by decide)]; exact fin
    obtain ⟨k1, k2⟩ := key tl 0 FU ak (by omega) (Nat.lt_of_le_of_lt hr.2 (by decide)) (fun j hj => absurd hj (Nat.not_lt_zero j)) (fun j => Or.inr rfl) (fun j hj => absurd hj (Nat.not_lt_zero j))
    exact ⟨fun hi => k1 (hsw.mp hi).2, fun hi => k2 (fun hall => hi (hsw.mpr ⟨hr, hall⟩))⟩
  · rw [if_neg hr]
    refine ⟨fun hi => absurd (hsw.mp hi).1 hr, fun _ => ⟨ak, ?_, fun j => Or.inr rfl⟩⟩
    have fin : M_isWord_J53 (nf T) (nI tl) (nf ak) (nI al) (nI 0) = some (0, nf ak, nI al) := by
      rw [M_isWord_J53, if_pos (by decide), gb_in (by decide)]
      rfl
    rw [show FU = 19999 + 1 from rfl, M_isWord_L13]
    show (if nI tl ≤ nI 0 then _ else (if nI 0 = 0 then _ else _)) = _
    rw [il (by omega) (by decide)]
    by_cases hq : tl ≤ 0
    · rw [if_pos hq]; exact fin
    · rw [if_neg hq, if_pos (by decide)]; exact fin
