/-! the class's words: bits of three longs, the first difference -/
def uN (x : Int64) : Nat := x.toUInt64.toNat
theorem uN_lt (x : Int64) : uN x < 18446744073709551616 := x.toUInt64.toNat_lt
theorem uN_inj {x y : Int64} (h : uN x = uN y) : x = y := congrArg UInt64.toInt64 (UInt64.toNat_inj.mp h)
theorem uN_shr (x : Int64) (s : UInt64) : uN (x.toUInt64 >>> s).toInt64 = uN x / 2 ^ (s.toNat % 64) := by
  show (x.toUInt64 >>> s).toNat = _
  rw [UInt64.toNat_shiftRight, Nat.shiftRight_eq_div_pow]
  rfl
theorem uN_sk (x : Int64) {k : Nat} (hk : k < 64) : uN (x.toUInt64 >>> ((nI k).toInt64.toUInt64 &&& Int64.toUInt64 63)).toInt64 = uN x / 2 ^ k := by
  have h : ((nI k).toInt64.toUInt64 &&& Int64.toUInt64 63).toNat % 64 = k := by
    rw [nI_l (by omega), UInt64.toNat_and]
    have e : (lN k).toUInt64.toNat = k % 2 ^ 64 := rfl
    have e2 : (Int64.toUInt64 63).toNat = 2 ^ 6 - 1 := by decide
    rw [e, e2, Nat.and_two_pow_sub_one_eq_mod]
    omega
  rw [uN_shr, h]
theorem uN_xor (x y : Int64) : uN (x ^^^ y) = uN x ^^^ uN y := by
  show (x.toUInt64 ^^^ y.toUInt64).toNat = _
  exact UInt64.toNat_xor _ _
theorem uN_or (x y : Int64) : uN (x ||| y) = uN x ||| uN y := by
  show (x.toUInt64 ||| y.toUInt64).toNat = _
  exact UInt64.toNat_or _ _
theorem uN_i (y : Int64) : y.toInt32.toBitVec.toNat = uN y % 2 ^ 32 := by
  show (BitVec.signExtend 32 y.toBitVec).toNat = _
  rw [BitVec.signExtend_eq_setWidth_of_le _ (by decide), BitVec.toNat_setWidth]
  rfl
theorem i_and1 (y : Int64) : y.toInt32 &&& 1 = nI (uN y % 2) := by
  rw [pk_and _ 1 (by decide), uN_i]
  congr 1
  omega
/-- bit b of a row of three longs -/
def cb (B : Nat → Int64) (b : Nat) : Nat := uN (B (b / 64)) / 2 ^ (63 - b % 64) % 2
theorem cb_bits (B : Nat → Int64) : bits (cb B) := fun b => by unfold cb; omega
theorem bitAt_n {cbits : Nat → Nat → Int64} {w b : Nat} (hb : b < 192) : C6_bitAt cbits w (nI b) = some (nI (cb (cbits w) b)) := by
  unfold C6_bitAt
  have e1 : nI b >>> ((6 : Int32) &&& 31) = nI (b / 64) := pk_shrN (by omega) _ 6 (by decide)
  have e2 : nI b &&& 63 = nI (b % 64) := pk_andN (by omega) 6 (by decide)
  have e3 : (63 : Int32) - nI (b % 64) = nI (63 - b % 64) := by
    show nI 63 - nI (b % 64) = _
    rw [pk_sub (by omega)]
  rw [e1, e2, e3, ineg (by omega)]
  show (if nI 3 ≤ nI (b / 64) then _ else _) = _
  rw [il (by decide) (by omega), if_neg (by omega), ga_n (by omega) (by decide), nI_clamp (by omega), i_and1, uN_sk _ (by omega)]
  rfl
/-! leading zeros -/
theorem nI_m {n k : Nat} {c : Int32} (h : k ≤ n) (hc : c = - nI k) : nI n + c = nI (n - k) := by
  rw [hc, ← Int32.sub_eq_add_neg, pk_sub h]
theorem ush {u k : Nat} (s : Int32) (hu : u < 2 ^ 32) (hs : ((s.toUInt32 &&& Int32.toUInt32 31).toBitVec % 32).toNat = k) : ((nI u).toUInt32 >>> (s.toUInt32 &&& Int32.toUInt32 31)).toInt32 = nI (u / 2 ^ k) := pk_ushrN hu s k hs
theorem nlz61 {u n : Nat} (h1 : 1 ≤ u) (h2 : u < 16) (hn : 3 ≤ n) : ∃ t, t ≤ 3 ∧ 2 ^ t ≤ u ∧ u < 2 ^ (t + 1) ∧ J6_numberOfLeadingZeros_0f7a4_J61 (nI u) (nI n) = some (nI (n - t)) := by
  unfold J6_numberOfLeadingZeros_0f7a4_J61
  rw [ush (k := 1) 1 (by omega) (by decide), ush (k := 2) 2 (by omega) (by decide), ush (k := 1) 1 (by omega) (by decide)]
  show ∃ t, t ≤ 3 ∧ 2 ^ t ≤ u ∧ u < 2 ^ (t + 1) ∧ (if nI u < nI 4 then some (nI n - nI (u / 2 ^ 1)) else some ((nI n + (-2)) - nI (u / 2 ^ 2 / 2 ^ 1))) = _
  rw [ilt (by omega) (by decide)]
  by_cases h4 : u < 4
  · rw [if_pos h4, pk_sub (by omega)]
    by_cases h : u < 2
    · exact ⟨0, by omega, by omega, by omega, by rw [show u / 2 ^ 1 = 0 by omega]⟩
    · exact ⟨1, by omega, by omega, by omega, by rw [show u / 2 ^ 1 = 1 by omega]⟩
  · rw [if_neg h4, nI_m (k := 2) (by omega) (by decide), pk_sub (by omega)]
    by_cases h : u < 8
    · exact ⟨2, by omega, by omega, by omega, by rw [show u / 2 ^ 2 / 2 ^ 1 = 0 by omega, Nat.sub_zero]⟩
    · exact ⟨3, by omega, by omega, by omega, by rw [show u / 2 ^ 2 / 2 ^ 1 = 1 by omega, show n - 2 - 1 = n - 3 by omega]⟩
theorem pw_add (a b : Nat) : 2 ^ (a + b) = 2 ^ a * 2 ^ b := Nat.pow_add 2 a b
theorem nlz48 {u n : Nat} (h1 : 1 ≤ u) (h2 : u < 256) (hn : 7 ≤ n) : ∃ t, t ≤ 7 ∧ 2 ^ t ≤ u ∧ u < 2 ^ (t + 1) ∧ J6_numberOfLeadingZeros_0f7a4_J48 (nI u) (nI n) = some (nI (n - t)) := by
  unfold J6_numberOfLeadingZeros_0f7a4_J48
  rw [ush (k := 4) 4 (by omega) (by decide), nI_m (k := 4) (by omega) (by decide)]
  show ∃ t, t ≤ 7 ∧ 2 ^ t ≤ u ∧ u < 2 ^ (t + 1) ∧ (if nI u < nI 16 then _ else _) = _
  rw [ilt (by omega) (by decide)]
  by_cases h : u < 16
  · rw [if_pos h]
    obtain ⟨t, a1, a2, a3, a4⟩ := nlz61 h1 h (n := n) (by omega)
    exact ⟨t, by omega, a2, a3, a4⟩
  · rw [if_neg h]
    obtain ⟨t, a1, a2, a3, a4⟩ := nlz61 (u := u / 2 ^ 4) (by omega) (by omega) (n := n - 4) (by omega)
    refine ⟨t + 4, by omega, ?_, ?_, by rw [a4, show n - 4 - t = n - (t + 4) by omega]⟩
    · rw [pw_add]; omega
    · rw [show t + 4 + 1 = (t + 1) + 4 by omega, pw_add]; omega
theorem nlz33 {u n : Nat} (h1 : 1 ≤ u) (h2 : u < 65536) (hn : 15 ≤ n) : ∃ t, t ≤ 15 ∧ 2 ^ t ≤ u ∧ u < 2 ^ (t + 1) ∧ J6_numberOfLeadingZeros_0f7a4_J33 (nI u) (nI n) = some (nI (n - t)) := by
  unfold J6_numberOfLeadingZeros_0f7a4_J33
  rw [ush (k := 8) 8 (by omega) (by decide), nI_m (k := 8) (by omega) (by decide)]
  show ∃ t, t ≤ 15 ∧ 2 ^ t ≤ u ∧ u < 2 ^ (t + 1) ∧ (if nI u < nI 256 then _ else _) = _
  rw [ilt (by omega) (by decide)]
  by_cases h : u < 256
  · rw [if_pos h]
    obtain ⟨t, a1, a2, a3, a4⟩ := nlz48 h1 h (n := n) (by omega)
    exact ⟨t, by omega, a2, a3, a4⟩
  · rw [if_neg h]
    obtain ⟨t, a1, a2, a3, a4⟩ := nlz48 (u := u / 2 ^ 8) (by omega) (by omega) (n := n - 8) (by omega)
    refine ⟨t + 8, by omega, ?_, ?_, by rw [a4, show n - 8 - t = n - (t + 8) by omega]⟩
    · rw [pw_add]; omega
    · rw [show t + 8 + 1 = (t + 1) + 8 by omega, pw_add]; omega
theorem nlz6 {y : Int32} {u : Nat} (hy : y.toBitVec.toNat = u) (h1 : 1 ≤ u) (h2 : u < 2 ^ 32) : ∃ t, t ≤ 31 ∧ 2 ^ t ≤ u ∧ u < 2 ^ (t + 1) ∧ J6_numberOfLeadingZeros_0f7a4 y = some (nI (31 - t)) := by
  have hyu : y = nI u := by
    have e : (nI u).toBitVec.toNat = u := pk_tn h2
    exact Int32.toBitVec_inj.mp (BitVec.eq_of_toNat_eq (by rw [hy, e]))
  subst hyu
  unfold J6_numberOfLeadingZeros_0f7a4
  by_cases h : u < 2 ^ 31
  · rw [ush (k := 16) 16 (by omega) (by decide)]
    show ∃ t, t ≤ 31 ∧ 2 ^ t ≤ u ∧ u < 2 ^ (t + 1) ∧ (if nI 0 < nI u then (if nI u < nI 65536 then J6_numberOfLeadingZeros_0f7a4_J33 (nI u) (nI 31) else J6_numberOfLeadingZeros_0f7a4_J33 (nI (u / 2 ^ 16)) (nI 31 + (-16))) else _) = _
    rw [ilt (by decide) h, if_pos (by omega), ilt h (by decide), nI_m (k := 16) (by omega) (by decide)]
    by_cases h16 : u < 65536
    · rw [if_pos h16]
      obtain ⟨t, a1, a2, a3, a4⟩ := nlz33 h1 h16 (n := 31) (by omega)
      exact ⟨t, by omega, a2, a3, a4⟩
    · rw [if_neg h16]
      obtain ⟨t, a1, a2, a3, a4⟩ := nlz33 (u := u / 2 ^ 16) (by omega) (by omega) (n := 31 - 16) (by omega)
      refine ⟨t + 16, by omega, ?_, ?_, by rw [a4, show 31 - 16 - t = 31 - (t + 16) by omega]⟩
      · rw [pw_add]; omega
      · rw [show t + 16 + 1 = (t + 1) + 16 by omega, pw_add]; omega
  · have hneg : (nI u).toInt < 0 := by
      have e : (nI u).toInt = (nI u).toBitVec.toInt := rfl
      rw [e, BitVec.toInt_eq_toNat_cond, pk_tn h2]
      split <;> omega
    have hz : (0 : Int32).toInt = 0 := by decide
    rw [if_neg (fun q => by have := Int32.lt_iff_toInt_lt.mp q; omega), if_neg (fun q => by rw [q] at hneg; omega)]
    exact ⟨31, by omega, by omega, by omega, rfl⟩
theorem nlz_n {x : Int64} (hx : uN x ≠ 0) : ∃ t, t ≤ 63 ∧ 2 ^ t ≤ uN x ∧ uN x < 2 ^ (t + 1) ∧ J13_numberOfLeadingZeros_95d88 x = some (nI (63 - t)) := by
  unfold J13_numberOfLeadingZeros_95d88
  have hl := uN_lt x
  have hhi : ((x.toUInt64 >>> ((32 : Int32).toInt64.toUInt64 &&& Int64.toUInt64 63)).toInt64).toInt32.toBitVec.toNat = uN x / 2 ^ 32 := by
    rw [uN_i]
    have e : uN (x.toUInt64 >>> ((32 : Int32).toInt64.toUInt64 &&& Int64.toUInt64 63)).toInt64 = uN x / 2 ^ 32 := uN_sk x (k := 32) (by decide)
    rw [e]
    omega
  have hz : ((x.toUInt64 >>> ((32 : Int32).toInt64.toUInt64 &&& Int64.toUInt64 63)).toInt64).toInt32 = 0 ↔ uN x / 2 ^ 32 = 0 := by
    rw [← hhi]
    constructor
    · intro h; rw [h]; rfl
    · intro h; exact Int32.toBitVec_inj.mp (BitVec.eq_of_toNat_eq (by rw [h]; rfl))
  by_cases h : uN x / 2 ^ 32 = 0
  · rw [if_pos (hz.mpr h)]
    obtain ⟨t, a1, a2, a3, a4⟩ := nlz6 (y := x.toInt32) (u := uN x) (by rw [uN_i]; omega) (by omega) (by omega)
    refine ⟨t, by omega, a2, a3, ?_⟩
    rw [a4, bd1_in]
    show some (nI 32 + nI (31 - t)) = _
    rw [nI_add, show 32 + (31 - t) = 63 - t by omega]
  · rw [if_neg (fun q => h (hz.mp q))]
    obtain ⟨t, a1, a2, a3, a4⟩ := nlz6 hhi (by omega) (by omega)
    refine ⟨t + 32, by omega, ?_, ?_, ?_⟩
    · rw [pw_add]; omega
    · rw [show t + 32 + 1 = (t + 1) + 32 by omega, pw_add]; omega
    · rw [a4, bd1_in, show 31 - t = 63 - (t + 32) by omega]
theorem tb_div (x i : Nat) : x.testBit i = decide (x / 2 ^ i % 2 = 1) := Nat.testBit_eq_decide_div_mod_eq
/-- the first bit in which two longs differ, by the leading zeros of their xor -/
theorem xor_first {a b : Int64} (hne : a ≠ b) : ∃ z, z < 64 ∧ J13_numberOfLeadingZeros_95d88 (a ^^^ b) = some (nI z) ∧ uN a / 2 ^ (63 - z) % 2 ≠ uN b / 2 ^ (63 - z) % 2 ∧ ∀ y, y < z → uN a / 2 ^ (63 - y) % 2 = uN b / 2 ^ (63 - y) % 2 := by
  have hx : uN (a ^^^ b) ≠ 0 := by
    rw [uN_xor]
    intro h
    exact hne (uN_inj (Nat.eq_of_testBit_eq (fun i => by
      have : (uN a ^^^ uN b).testBit i = false := by rw [h]; exact Nat.zero_testBit i
      rw [Nat.testBit_xor] at this
      revert this
      cases (uN a).testBit i <;> cases (uN b).testBit i <;> simp)))
  obtain ⟨t, h1, h2, h3, h4⟩ := nlz_n hx
  have bit : ∀ i, (uN (a ^^^ b) / 2 ^ i % 2 = 1) ↔ uN a / 2 ^ i % 2 ≠ uN b / 2 ^ i % 2 := by
    intro i
    have e : (uN (a ^^^ b)).testBit i = ((uN a).testBit i ^^ (uN b).testBit i) := by rw [uN_xor, Nat.testBit_xor]
    rw [tb_div, tb_div, tb_div] at e
    have m1 := Nat.mod_lt (uN a / 2 ^ i) (show 0 < 2 by decide)
    have m2 := Nat.mod_lt (uN b / 2 ^ i) (show 0 < 2 by decide)
    have m0 := Nat.mod_lt (uN (a ^^^ b) / 2 ^ i) (show 0 < 2 by decide)
    generalize uN (a ^^^ b) / 2 ^ i % 2 = X at e m0 ⊢
    generalize uN a / 2 ^ i % 2 = Y at e m1 ⊢
    generalize uN b / 2 ^ i % 2 = Z at e m2 ⊢
    clear hne hx h1 h2 h3 h4
    rcases (show X = 0 ∨ X = 1 by omega) with rfl | rfl <;> rcases (show Y = 0 ∨ Y = 1 by omega) with rfl | rfl <;> rcases (show Z = 0 ∨ Z = 1 by omega) with rfl | rfl <;> first | (exfalso; revert e; decide) | decide
  refine ⟨63 - t, by omega, h4, ?_, fun y hy => ?_⟩
  · refine (bit _).mp ?_
    rw [show 63 - (63 - t) = t by omega]
    have : uN (a ^^^ b) / 2 ^ t = 1 := by
      rw [pw_add] at h3
      exact Nat.div_eq_of_lt_le (by omega) (by omega)
    rw [this]
  · rcases Nat.decEq (uN a / 2 ^ (63 - y) % 2) (uN b / 2 ^ (63 - y) % 2) with q | q
    · have := (bit _).mpr q
      have hz : uN (a ^^^ b) / 2 ^ (63 - y) = 0 := Nat.div_eq_of_lt (Nat.lt_of_lt_of_le h3 (Nat.pow_le_pow_right (by decide) (by omega)))
      rw [hz] at this
      cases this
    · exact q
theorem lgc (x : Int64) : lg_cmp x 0 = 0 ↔ x = 0 := by
  unfold lg_cmp
  constructor
  · intro h
    by_cases h1 : x > 0
    · rw [if_pos h1] at h; cases h
    · rw [if_neg h1] at h
      by_cases h2 : x = 0
      · exact h2
      · rw [if_neg h2] at h; cases h
  · intro h
    rw [h]
    decide
theorem xz (a b : Int64) : a ^^^ b = 0 ↔ a = b := by
  constructor
  · intro h
    have e := uN_xor a b
    rw [h] at e
    refine uN_inj (Nat.eq_of_testBit_eq (fun i => ?_))
    have : (uN a ^^^ uN b).testBit i = false := by rw [← e]; exact Nat.zero_testBit i
    rw [Nat.testBit_xor] at this
    revert this
    cases (uN a).testBit i <;> cases (uN b).testBit i <;> simp
  · intro h
    rw [h]
    exact uN_inj (by rw [uN_xor, Nat.xor_self]; rfl)
theorem parting_c {cbits : Nat → Nat → Int64} {w x : Nat} : C6_partingFrom cbits w x = some (enc (fd (cb (cbits w)) (cb (cbits x)))) := by
  unfold C6_partingFrom
  have key : ∀ (d i n : Nat), i + d = 3 → d < n → (∀ b, b < 64 * i → cb (cbits w) b = cb (cbits x) b) → C6_partingFrom_L2 cbits w x (fun v2 v3 => bd1 (J13_numberOfLeadingZeros_95d88 v3) fun r45 => some ((64 * v2) + r45)) (some (-1)) n (nI i) = some (enc (fd (cb (cbits w)) (cb (cbits x)))) := by
    intro d
    induction d with
    | zero =>
      intro i n hi hn hal
      obtain ⟨n, rfl⟩ : ∃ m, n = m + 1 := ⟨n - 1, by omega⟩
      rw [C6_partingFrom_L2]
      show (if nI 3 ≤ nI i then _ else _) = _
      rw [il (by decide) (by omega), if_pos (by omega), fd_all (fun b hb => hal b (by omega))]
      rfl
    | succ d ih =>
      intro i n hi hn hal
      obtain ⟨n, rfl⟩ : ∃ m, n = m + 1 := ⟨n - 1, by omega⟩
      rw [C6_partingFrom_L2]
      show (if nI 3 ≤ nI i then _ else (if nI 3 ≤ nI i then _ else _)) = _
      rw [il (by decide) (by omega), if_neg (by omega), il (by decide) (by omega), if_neg (by omega), ga_n (by omega) (by decide), ga_n (by omega) (by decide), nI_clamp (by omega)]
      by_cases he : cbits w i = cbits x i
      · rw [if_pos ((lgc _).mpr ((xz _ _).mpr he))]
        show C6_partingFrom_L2 _ _ _ _ _ n (nI i + nI 1) = _
        rw [nI_add]
        refine ih (i + 1) n (by omega) (by omega) (fun b hb => ?_)
        rcases Nat.lt_or_ge b (64 * i) with q | q
        · exact hal b q
        · unfold cb
          rw [show b / 64 = i by omega, he]
      · rw [if_neg (fun q => he ((xz _ _).mp ((lgc _).mp q)))]
        obtain ⟨z, h1, h2, h3, h4⟩ := xor_first he
        show bd1 (J13_numberOfLeadingZeros_95d88 (cbits w i ^^^ cbits x i)) (fun r45 => some ((nI 64 * nI i) + r45)) = _
        rw [h2, bd1_in, pk_mul, nI_add]
        have hf : fd (cb (cbits w)) (cb (cbits x)) = 64 * i + z := by
          refine fd_is (by omega) ?_ (fun b hb => ?_)
          · unfold cb
            rw [show (64 * i + z) / 64 = i by omega, show (64 * i + z) % 64 = z by omega]
            exact h3
          · rcases Nat.lt_or_ge b (64 * i) with q | q
            · exact hal b q
            · unfold cb
              rw [show b / 64 = i by omega]
              exact h4 (b % 64) (by omega)
        rw [hf, enc_some (by omega)]
  exact key 3 0 FU (by omega) (by decide) (fun b hb => absurd hb (by omega))
