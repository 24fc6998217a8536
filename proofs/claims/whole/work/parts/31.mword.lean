/-! the reference's words: lengths, signs, bits, first differences, order -/
def mlen (S : Nat → Nat) (al w : Nat) : Nat := if w = 48 then al else S (350 + w)
def msg (S ak : Nat → Nat) (w i : Nat) : Nat := if w = 48 then ak i else S (400 + 24 * w + i)
def bt8 (len : Nat) (sg : Nat → Nat) (b : Nat) : Nat := if b / 8 < len then sg (b / 8) / 2 ^ (7 - b % 8) % 2 else 0
def mbit (S ak : Nat → Nat) (al w : Nat) : Nat → Nat := bt8 (mlen S al w) (msg S ak w)
theorem bt8_bits (len : Nat) (sg : Nat → Nat) : bits (bt8 len sg) := by
  intro b
  unfold bt8
  split
  · omega
  · omega
theorem mbit_bits (S ak : Nat → Nat) (al w : Nat) : bits (mbit S ak al w) := bt8_bits _ _
/-- the words that a run may ask for: short, with signs that are small -/
def wok (S ak : Nat → Nat) (al w : Nat) : Prop := w ≤ 48 ∧ mlen S al w ≤ 24 ∧ ∀ i, i < 24 → msg S ak w i < 2 ^ 31
theorem lengthOf_n {S : Nat → Nat} {al w : Nat} (hw : w ≤ 48) : M_lengthOf (nf S) (nI al) (nI w) = some (nI (mlen S al w)) := by
  unfold M_lengthOf mlen
  show (if nI w = nI 48 then _ else ga (nI 350 + nI w) 1552 (some (nf S (nI 350 + nI w).toNatClampNeg))) = _
  rw [ie (by omega) (by decide)]
  by_cases h : w = 48
  · rw [if_pos h, if_pos h]
  · rw [if_neg h, if_neg h, nI_add, ga_n (by omega) (by decide), nI_clamp (by omega)]
    rfl
theorem signOf_n {S ak : Nat → Nat} {w i : Nat} (hw : w ≤ 48) (hi : i < 24) : M_signOf (nf S) (nf ak) (nI w) (nI i) = some (nI (msg S ak w i)) := by
  unfold M_signOf msg
  show (if nI w = nI 48 then _ else ga (nI 400 + nI 24 * nI w + nI i) 1552 (some (nf S (nI 400 + nI 24 * nI w + nI i).toNatClampNeg))) = _
  rw [ie (by omega) (by decide)]
  by_cases h : w = 48
  · rw [if_pos h, if_pos h, ga_n hi (by decide), nI_clamp (by omega)]
    rfl
  · rw [if_neg h, if_neg h, pk_mul, nI_add, nI_add, ga_n (by omega) (by decide), nI_clamp (by omega)]
    rfl
theorem sm8 : ∀ n, n < 8 → ((nI n &&& 31).toBitVec.smod 32).toNat = n := by decide
theorem bitOf_n {S ak : Nat → Nat} {al w b : Nat} (hw : wok S ak al w) (hb : b < 192) : M_bitOf (nf S) (nf ak) (nI al) (nI w) (nI b) = some (nI (mbit S ak al w b)) := by
  obtain ⟨h1, h2, h3⟩ := hw
  unfold M_bitOf
  rw [lengthOf_n h1]
  show (if nI (mlen S al w) ≤ nI b / nI 8 then some (nI 0) else bd1 (M_signOf (nf S) (nf ak) (nI w) (nI b / nI 8)) fun r18 => some ((r18 >>> ((nI 7 - (nI b - nI b / nI 8 * nI 8)) &&& 31)) &&& 1)) = _
  rw [pk_rem (by omega) (by decide) (by decide), pk_div (by omega) (by decide) (by decide), il (by omega) (by omega), pk_sub (by omega)]
  unfold mbit bt8
  by_cases h : mlen S al w ≤ b / 8
  · rw [if_pos h, if_neg (by omega)]
  · rw [if_neg h, if_pos (by omega), signOf_n h1 (by omega)]
    show some ((nI (msg S ak w (b / 8)) >>> (nI (7 - b % 8) &&& 31)) &&& 1) = _
    have h4 := h3 (b / 8) (by omega)
    rw [pk_shrN h4 _ (7 - b % 8) (sm8 _ (by omega))]
    have h5 : msg S ak w (b / 8) / 2 ^ (7 - b % 8) < 2 ^ 32 := Nat.lt_of_le_of_lt (Nat.div_le_self _ _) (by omega)
    rw [pk_andN h5 1 (by decide)]
theorem differ_L {S ak : Nat → Nat} {al x y : Nat} (hx : wok S ak al x) (hy : wok S ak al y) (k : Int32 → Option Int32) : ∀ (b n : Nat), b ≤ 192 → b < n → M_differ_L7 (nf S) (nf ak) (nI al) (nI x) (nI y) k n (enc (fdf (mbit S ak al x) (mbit S ak al y) b (192 - b))) (nI b + (-1)) = k (enc (fd (mbit S ak al x) (mbit S ak al y))) := by
  intro b
  induction b with
  | zero =>
    intro n _ hn
    obtain ⟨n, rfl⟩ : ∃ m, n = m + 1 := ⟨n - 1, by omega⟩
    rw [M_differ_L7, if_pos (by decide)]
    rfl
  | succ b ih =>
    intro n hb hn
    obtain ⟨n, rfl⟩ : ∃ m, n = m + 1 := ⟨n - 1, by omega⟩
    have hxb := mbit_bits S ak al x b
    have hyb := mbit_bits S ak al y b
    have ih := ih n (by omega) (by omega)
    rw [show 192 - b = (192 - (b + 1)) + 1 by omega] at ih
    rw [M_differ_L7, pk_m1, ineg (by omega), bitOf_n hx (by omega), bd1_in, bitOf_n hy (by omega), bd1_in, ie (by omega) (by omega)]
    by_cases he : mbit S ak al x b = mbit S ak al y b
    · rw [if_pos he]
      rw [show fdf (mbit S ak al x) (mbit S ak al y) b (192 - (b + 1) + 1) = fdf (mbit S ak al x) (mbit S ak al y) (b + 1) (192 - (b + 1)) from if_pos he] at ih
      exact ih
    · rw [if_neg he]
      rw [show fdf (mbit S ak al x) (mbit S ak al y) b (192 - (b + 1) + 1) = b from if_neg he, enc_some (by omega)] at ih
      exact ih
theorem differ_n {S ak : Nat → Nat} {al x y : Nat} (hx : wok S ak al x) (hy : wok S ak al y) : M_differ (nf S) (nf ak) (nI al) (nI x) (nI y) = some (enc (fd (mbit S ak al x) (mbit S ak al y))) := by
  unfold M_differ
  exact differ_L hx hy (fun v3 => some v3) 192 FU (Nat.le_refl _) (by decide)
/-- whether one is ahead, as a number -/
def ltb (f g : Nat → Nat) : Nat := if fd f g < 192 ∧ f (fd f g) = 0 then 1 else 0
theorem ltb_le (f g : Nat → Nat) : ltb f g ≤ 1 := by
  unfold ltb
  split <;> omega
theorem ltb_lt {f g : Nat → Nat} (hf : bits f) (hg : bits g) : ltb f g = 1 ↔ lt f g := by
  unfold ltb lt
  constructor
  · intro h
    by_cases hc : fd f g < 192 ∧ f (fd f g) = 0
    · refine ⟨hc.1, hc.2, ?_⟩
      have h1 := fd_ne hc.1
      have h2 := hg (fd f g)
      omega
    · rw [if_neg hc] at h
      cases h
  · intro h
    rw [if_pos ⟨h.1, h.2.1⟩]
theorem isAhead_n {S ak : Nat → Nat} {al x y : Nat} (hx : wok S ak al x) (hy : wok S ak al y) : M_isAhead (nf S) (nf ak) (nI al) (nI x) (nI y) = some (nI (ltb (mbit S ak al x) (mbit S ak al y))) := by
  unfold M_isAhead
  have hd := fd_le (mbit S ak al x) (mbit S ak al y)
  rw [differ_n hx hy, bd1_in, enc_m1 hd]
  unfold ltb
  by_cases h : fd (mbit S ak al x) (mbit S ak al y) = 192
  · rw [if_pos h, if_neg (by omega)]
    rfl
  · rw [if_neg h, enc_some h, bitOf_n hx (by omega), bd1_in]
    have hb := mbit_bits S ak al x (fd (mbit S ak al x) (mbit S ak al y))
    show (if nI (mbit S ak al x (fd (mbit S ak al x) (mbit S ak al y))) = nI 0 then some 1 else some 0) = _
    rw [ie (by omega) (by decide)]
    by_cases h2 : mbit S ak al x (fd (mbit S ak al x) (mbit S ak al y)) = 0
    · rw [if_pos h2, if_pos ⟨by omega, h2⟩]
      rfl
    · rw [if_neg h2, if_neg (fun q => h2 q.2)]
      rfl
/-- sums -/
def sumN (f : Nat → Nat) : Nat → Nat
  | 0 => 0
  | n + 1 => sumN f n + f n
theorem sumN_congr {f g : Nat → Nat} : ∀ {n : Nat}, (∀ k, k < n → f k = g k) → sumN f n = sumN g n
  | 0, _ => rfl
  | n + 1, h => by
    rw [sumN, sumN, sumN_congr (fun k hk => h k (by omega)), h n (by omega)]
theorem sumN_mono {f : Nat → Nat} {m n : Nat} (h : m ≤ n) : sumN f m ≤ sumN f n := by
  induction n with
  | zero =>
    rw [Nat.le_zero.mp h]
    exact Nat.le_refl _
  | succ n ih =>
    rcases Nat.lt_or_eq_of_le h with q | q
    · exact Nat.le_trans (ih (by omega)) (Nat.le_add_right _ _)
    · rw [q]
      exact Nat.le_refl _
theorem sumN_le1 {f : Nat → Nat} (h : ∀ k, f k ≤ 1) : ∀ n, sumN f n ≤ n
  | 0 => Nat.le_refl _
  | n + 1 => by
    have := sumN_le1 h n
    have := h n
    rw [sumN]
    omega
theorem ahead_L {S ak : Nat → Nat} {al N : Nat} (hN : N ≤ 48) (hS : S 0 = N) (hw : ∀ w, w < N → wok S ak al w) (ha : wok S ak al 48) (k : Int32 → Option Int32) : ∀ (d w n : Nat), w + d = N → d < n → M_ahead_L4 (nf S) (nf ak) (nI al) k n (nI (sumN (fun w => ltb (mbit S ak al w) (mbit S ak al 48)) w)) (nI w) = k (nI (sumN (fun w => ltb (mbit S ak al w) (mbit S ak al 48)) N)) := by
  intro d
  induction d with
  | zero =>
    intro w n hwd hn
    obtain ⟨n, rfl⟩ : ∃ m, n = m + 1 := ⟨n - 1, by omega⟩
    rw [M_ahead_L4, nf_a, hS, il (by omega) (by omega), if_pos (by omega)]
    rw [show w = N by omega]
  | succ d ih =>
    intro w n hwd hn
    obtain ⟨n, rfl⟩ : ∃ m, n = m + 1 := ⟨n - 1, by omega⟩
    have h1 := ltb_le (mbit S ak al w) (mbit S ak al 48)
    rw [M_ahead_L4, nf_a, hS, il (by omega) (by omega), if_neg (by omega)]
    show bd1 (M_isAhead (nf S) (nf ak) (nI al) (nI w) (nI 48)) _ = _
    rw [isAhead_n (hw w (by omega)) ha, bd1_in]
    show (if nI (ltb (mbit S ak al w) (mbit S ak al 48)) = nI 0 then M_ahead_L4 (nf S) (nf ak) (nI al) k n (nI (sumN (fun w => ltb (mbit S ak al w) (mbit S ak al 48)) w) + nI 0) (nI w + nI 1) else M_ahead_L4 (nf S) (nf ak) (nI al) k n (nI (sumN (fun w => ltb (mbit S ak al w) (mbit S ak al 48)) w) + nI 1) (nI w + nI 1)) = _
    rw [ie (by omega) (by decide), nI_add, nI_add, nI_add]
    have ih := ih (w + 1) n (by omega) (by omega)
    rw [show sumN (fun w => ltb (mbit S ak al w) (mbit S ak al 48)) (w + 1) = sumN (fun w => ltb (mbit S ak al w) (mbit S ak al 48)) w + ltb (mbit S ak al w) (mbit S ak al 48) from rfl] at ih
    by_cases h : ltb (mbit S ak al w) (mbit S ak al 48) = 0
    · rw [if_pos h]
      rw [h] at ih
      exact ih
    · rw [if_neg h]
      rw [show ltb (mbit S ak al w) (mbit S ak al 48) = 1 by omega] at ih
      exact ih
theorem ahead_n {S ak : Nat → Nat} {al : Nat} (hN : S 0 ≤ 48) (hw : ∀ w, w < S 0 → wok S ak al w) (ha : wok S ak al 48) : M_ahead (nf S) (nf ak) (nI al) = some (nI (sumN (fun w => ltb (mbit S ak al w) (mbit S ak al 48)) (S 0))) := by
  unfold M_ahead
  exact ahead_L hN rfl hw ha (fun v => some v) (S 0) 0 FU (by omega) (Nat.lt_of_le_of_lt hN (by decide))
/-- whether one of so many is the same -/
def thr (P : Nat → Nat) : Nat → Nat
  | 0 => 0
  | n + 1 => if thr P n = 0 then (if P n = 192 then 1 else 0) else 1
theorem thr_le (P : Nat → Nat) : ∀ n, thr P n ≤ 1
  | 0 => Nat.zero_le _
  | n + 1 => by
    rw [thr]
    split
    · split <;> omega
    · omega
theorem thr_s {P : Nat → Nat} : ∀ {n : Nat}, thr P n = 1 ↔ ∃ w, w < n ∧ P w = 192
  | 0 => ⟨fun h => absurd h (Nat.zero_ne_one), fun ⟨w, h, _⟩ => absurd h (Nat.not_lt_zero w)⟩
  | n + 1 => by
    have ih := thr_s (P := P) (n := n)
    have hl := thr_le P n
    rw [thr]
    constructor
    · intro h
      by_cases h0 : thr P n = 0
      · rw [if_pos h0] at h
        by_cases hp : P n = 192
        · exact ⟨n, by omega, hp⟩
        · rw [if_neg hp] at h
          cases h
      · obtain ⟨w, h1, h2⟩ := ih.mp (by omega)
        exact ⟨w, by omega, h2⟩
    · rintro ⟨w, h1, h2⟩
      by_cases h0 : thr P n = 0
      · rw [if_pos h0]
        have : w = n := by
          rcases Nat.lt_or_ge w n with q | q
          · have := ih.mpr ⟨w, q, h2⟩
            omega
          · omega
        rw [← this, if_pos h2]
      · rw [if_neg h0]
theorem isThere_L {S ak : Nat → Nat} {al N : Nat} (hN : N ≤ 48) (hS : S 0 = N) (hw : ∀ w, w < N → wok S ak al w) (ha : wok S ak al 48) (k : Int32 → Option Int32) : ∀ (d w n : Nat), w + d = N → d < n → M_isThere_L4 (nf S) (nf ak) (nI al) k n (nI (thr (fun w => fd (mbit S ak al w) (mbit S ak al 48)) w)) (nI w) = k (nI (thr (fun w => fd (mbit S ak al w) (mbit S ak al 48)) N)) := by
  intro d
  induction d with
  | zero =>
    intro w n hwd hn
    obtain ⟨n, rfl⟩ : ∃ m, n = m + 1 := ⟨n - 1, by omega⟩
    rw [M_isThere_L4, nf_a, hS, il (by omega) (by omega), if_pos (by omega)]
    rw [show w = N by omega]
  | succ d ih =>
    intro w n hwd hn
    obtain ⟨n, rfl⟩ : ∃ m, n = m + 1 := ⟨n - 1, by omega⟩
    have h1 := thr_le (fun w => fd (mbit S ak al w) (mbit S ak al 48)) w
    have h2 := fd_le (mbit S ak al w) (mbit S ak al 48)
    rw [M_isThere_L4, nf_a, hS, il (by omega) (by omega), if_neg (by omega)]
    show (if nI (thr (fun w => fd (mbit S ak al w) (mbit S ak al 48)) w) = nI 0 then bd1 (M_differ (nf S) (nf ak) (nI al) (nI w) (nI 48)) fun r22 => if r22 = (-1) then M_isThere_L4 (nf S) (nf ak) (nI al) k n (nI 1) (nI w + nI 1) else M_isThere_L4 (nf S) (nf ak) (nI al) k n (nI 0) (nI w + nI 1) else M_isThere_L4 (nf S) (nf ak) (nI al) k n (nI 1) (nI w + nI 1)) = _
    have ih := ih (w + 1) n (by omega) (by omega)
    rw [show thr (fun w => fd (mbit S ak al w) (mbit S ak al 48)) (w + 1) = if thr (fun w => fd (mbit S ak al w) (mbit S ak al 48)) w = 0 then (if fd (mbit S ak al w) (mbit S ak al 48) = 192 then 1 else 0) else 1 from rfl] at ih
    rw [ie (by omega) (by decide), nI_add]
    by_cases h : thr (fun w => fd (mbit S ak al w) (mbit S ak al 48)) w = 0
    · rw [if_pos h, differ_n (hw w (by omega)) ha, bd1_in, enc_m1 h2]
      rw [if_pos h] at ih
      by_cases h3 : fd (mbit S ak al w) (mbit S ak al 48) = 192
      · rw [if_pos h3]
        rw [if_pos h3] at ih
        exact ih
      · rw [if_neg h3]
        rw [if_neg h3] at ih
        exact ih
    · rw [if_neg h]
      rw [if_neg h] at ih
      exact ih
theorem isThere_n {S ak : Nat → Nat} {al : Nat} (hN : S 0 ≤ 48) (hw : ∀ w, w < S 0 → wok S ak al w) (ha : wok S ak al 48) : M_isThere (nf S) (nf ak) (nI al) = some (nI (thr (fun w => fd (mbit S ak al w) (mbit S ak al 48)) (S 0))) := by
  unfold M_isThere
  refine (isThere_L hN rfl hw ha (fun v => gb v (some v)) (S 0) 0 FU (by omega) (Nat.lt_of_le_of_lt hN (by decide))).trans ?_
  have h1 := thr_le (fun w => fd (mbit S ak al w) (mbit S ak al 48)) (S 0)
  refine gb_in ?_
  rcases (show thr (fun w => fd (mbit S ak al w) (mbit S ak al 48)) (S 0) = 0 ∨ thr (fun w => fd (mbit S ak al w) (mbit S ak al 48)) (S 0) = 1 by omega) with h | h
  · rw [h]; exact Or.inl rfl
  · rw [h]; exact Or.inr rfl
