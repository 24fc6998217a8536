/-! pages alone: what holds between a change's steps too -/
def ST (S : Nat → Nat) : Prop := TW S ∧ (∀ v, v < S 2 → ∀ p, p < S (3 + v) → 1 ≤ S (12 + 48 * v + p)) ∧ (0 < S 2 → S (3 + (S 2 - 1)) = 1) ∧ (∀ v, v + 1 < S 2 → ∀ p, p < S (3 + v) → 2 ≤ S (12 + 48 * v + p)) ∧ (1 < S 2 → 2 ≤ S (12 + 48 * (S 2 - 1)))
theorem st_half {S : Nat → Nat} (h : ST S) {v : Nat} (hv : v < S 2) (h1 : 1 < S 2) : 2 * S (3 + v) ≤ bel S v := by
  rw [← (h.1.2.2 v hv).2]
  refine sumN_ge (fun k hk => ?_)
  by_cases ht : v + 1 < S 2
  · exact h.2.2.2.1 v ht k hk
  · have e : v = S 2 - 1 := by omega
    have h3 := h.2.2.1 (by omega)
    rw [← e] at h3
    rw [h3] at hk
    have h4 := h.2.2.2.2 h1
    rw [← e] at h4
    rw [show k = 0 by omega]
    exact h4
theorem st_pg {S : Nat → Nat} (h : ST S) : ∀ (d v : Nat), v + d + 1 = S 2 → off S v + S (3 + v) + 1 ≤ 2 * S (3 + v) ∧ 2 ^ d ≤ S (3 + v) := by
  intro d
  induction d with
  | zero =>
    intro v hv
    have := h.2.2.1 (by omega)
    rw [show S 2 - 1 = v by omega] at this
    rw [off_top (by omega), this]
    exact ⟨by decide, by decide⟩
  | succ d ih =>
    intro v hv
    obtain ⟨i1, i2⟩ := ih (v + 1) (by omega)
    have ho := off_step (S := S) (v := v) (by omega)
    rw [show 4 + v = 3 + (v + 1) by omega] at ho
    have hh := st_half h (v := v + 1) (by omega) (by omega)
    unfold bel at hh
    rw [if_neg (by omega)] at hh
    have hh : 2 * S (3 + (v + 1)) ≤ S (3 + v) := hh
    rw [Nat.pow_succ]
    omega
/-- few pages, few levels -/
theorem st_few {S : Nat → Nat} (h : ST S) : tot S ≤ 47 ∧ S 2 ≤ 5 ∧ ∀ v, v < S 2 → off S v + S (3 + v) ≤ 47 := by
  have h48 := h.1.2.1
  by_cases h0 : S 2 = 0
  · unfold tot
    rw [h0]
    exact ⟨by show 0 ≤ 47; decide, by omega, fun v hv => absurd hv (by omega)⟩
  have hpg : ∀ v, v < S 2 → S (3 + v) ≤ 24 := by
    intro v hv
    by_cases h1 : 1 < S 2
    · have := st_half h hv h1
      have := bel_le h.1 hv
      omega
    · have := h.2.2.1 (by omega)
      rw [show S 2 - 1 = v by omega] at this
      omega
  obtain ⟨k1, k2⟩ := st_pg h (S 2 - 1) 0 (by omega)
  have h3 : S (3 + 0) = S 3 := rfl
  refine ⟨?_, ?_, fun v hv => ?_⟩
  · rw [tot_off (by omega)]
    have := hpg 0 (by omega)
    omega
  · have := hpg 0 (by omega)
    have hle := h.1.1
    rcases (show S 2 = 6 ∨ S 2 ≤ 5 by omega) with q | q
    · rw [q] at k2
      have : (2 : Nat) ^ (6 - 1) = 32 := by decide
      omega
    · exact q
  · have := (st_pg h (S 2 - 1 - v) v (by omega)).1
    have := hpg v hv
    omega
/-- a page is split: x stay, y come to a new one behind it -/
def spl (S : Nat → Nat) (v p x y : Nat) : Nat → Nat := fun j => if j = 3 + v then S (3 + v) + 1 else if j = 12 + 48 * v + p then x else if j = 12 + 48 * v + p + 1 then y else if 12 + 48 * v + p + 1 < j ∧ j ≤ 12 + 48 * v + S (3 + v) then S (j - 1) else S j
theorem spl_n {S : Nat → Nat} {v p x y : Nat} (hv : v ≤ 6) (hp : p < S (3 + v)) : un (un (un (shr S (12 + 48 * v + (p + 1)) (12 + 48 * v + S (3 + v))) (3 + v) (S (3 + v) + 1)) (12 + 48 * v + p) x) (12 + 48 * v + (p + 1)) y = spl S v p x y := by
  funext j
  unfold un shr spl
  by_cases q1 : j = 12 + 48 * v + (p + 1)
  · rw [if_pos q1, if_neg (by omega), if_neg (by omega), if_pos (by omega)]
  · rw [if_neg q1]
    by_cases q2 : j = 12 + 48 * v + p
    · rw [if_pos q2, if_neg (by omega), if_pos q2]
    · rw [if_neg q2]
      by_cases q3 : j = 3 + v
      · rw [if_pos q3, if_pos q3]
      · rw [if_neg q3, if_neg q3, if_neg q2, if_neg (show ¬ j = 12 + 48 * v + p + 1 by omega)]
        by_cases q4 : 12 + 48 * v + (p + 1) < j ∧ j ≤ 12 + 48 * v + S (3 + v)
        · rw [if_pos q4, if_pos (by omega)]
        · rw [if_neg q4, if_neg (by omega)]
section
variable {S : Nat → Nat} {v p x y : Nat}
theorem spl_pg (hv : v ≤ 6) (u : Nat) (hu : u ≤ 6) : spl S v p x y (3 + u) = if u = v then S (3 + v) + 1 else S (3 + u) := by
  unfold spl
  by_cases q : u = v
  · rw [if_pos q, if_pos (by omega)]
  · rw [if_neg q, if_neg (by omega), if_neg (by omega), if_neg (by omega), if_neg (by omega)]
theorem spl_sz (hv : v ≤ 6) (hp : p < S (3 + v)) (hpg : S (3 + v) ≤ 47) (u q : Nat) (hu : u ≤ 6) (hq : q < 48) : spl S v p x y (12 + 48 * u + q) = if u = v then (if q < p then S (12 + 48 * v + q) else if q = p then x else if q = p + 1 then y else if q ≤ S (3 + v) then S (12 + 48 * v + (q - 1)) else S (12 + 48 * v + q)) else S (12 + 48 * u + q) := by
  unfold spl
  by_cases h1 : u = v
  · rw [if_pos h1, h1, if_neg (by omega)]
    by_cases h2 : q < p
    · rw [if_pos h2, if_neg (by omega), if_neg (by omega), if_neg (by omega)]
    · rw [if_neg h2]
      by_cases h3 : q = p
      · rw [if_pos h3, if_pos (by omega)]
      · rw [if_neg h3, if_neg (by omega)]
        by_cases h4 : q = p + 1
        · rw [if_pos h4, if_pos (by omega)]
        · rw [if_neg h4, if_neg (by omega)]
          by_cases h5 : q ≤ S (3 + v)
          · rw [if_pos h5, if_pos (by omega), show 12 + 48 * v + q - 1 = 12 + 48 * v + (q - 1) by omega]
          · rw [if_neg h5, if_neg (by omega)]
  · rw [if_neg h1, if_neg (by omega), if_neg (by omega), if_neg (by omega), if_neg (by omega)]
theorem spl_low (j : Nat) (hj : j < 3 ∨ 348 ≤ j) (hv : v ≤ 6) (hp : p < S (3 + v)) (hpg : S (3 + v) ≤ 47) : spl S v p x y j = S j := by
  unfold spl
  rw [if_neg (by omega), if_neg (by omega), if_neg (by omega), if_neg (by omega)]
/-- entries ahead, once a page is split into halves that keep its entries -/
theorem spl_ent (hv : v ≤ 6) (hp : p < S (3 + v)) (hpg : S (3 + v) ≤ 47) (hxy : x + y = S (12 + 48 * v + p)) : (∀ q, q ≤ p → ent (spl S v p x y) v q = ent S v q) ∧ (∀ q, p < q → q ≤ S (3 + v) → ent (spl S v p x y) v (q + 1) = ent S v q) ∧ ent (spl S v p x y) v (p + 1) = ent S v p + x := by
  have h1 : ∀ q, q ≤ p → ent (spl S v p x y) v q = ent S v q := fun q hq => sumN_congr (fun k hk => by
    rw [spl_sz hv hp hpg v k hv (by omega), if_pos rfl, if_pos (by omega)])
  have h3 : ent (spl S v p x y) v (p + 1) = ent S v p + x := by
    rw [ent_s, h1 p (Nat.le_refl _), spl_sz hv hp hpg v p hv (by omega), if_pos rfl, if_neg (by omega), if_pos rfl]
  refine ⟨h1, fun q hq hq2 => ?_, h3⟩
  induction q with
  | zero => exact absurd hq (Nat.not_lt_zero p)
  | succ q ih =>
    by_cases z : q = p
    · subst z
      rw [ent_s, h3, spl_sz hv hp hpg v (q + 1) hv (by omega), if_pos rfl, if_neg (by omega), if_neg (by omega), if_pos rfl, ent_s]
      omega
    · rw [ent_s, ih (by omega) (by omega), spl_sz hv hp hpg v (q + 1) hv (by omega), if_pos rfl, if_neg (by omega), if_neg (by omega), if_neg (by omega), if_pos (by omega)]
      rfl
theorem ent_oth {S1 : Nat → Nat} {u : Nat} (h : ∀ q, q < 48 → S1 (12 + 48 * u + q) = S (12 + 48 * u + q)) {q : Nat} (hq : q ≤ 48) : ent S1 u q = ent S u q := sumN_congr (fun k hk => h k (by omega))
theorem off_spl (hv : v < S 2) (h6 : S 2 ≤ 6) (u : Nat) (hu : u < S 2) (hp : p < S (3 + v)) (hpg : S (3 + v) ≤ 47) : off (spl S v p x y) u = off S u + (if u < v then 1 else 0) := by
  have e2 : spl S v p x y 2 = S 2 := spl_low 2 (Or.inl (by decide)) (by omega) hp hpg
  have key : ∀ (d u : Nat), u + d + 1 = S 2 → off (spl S v p x y) u = off S u + (if u < v then 1 else 0) := by
    intro d
    induction d with
    | zero =>
      intro u hu
      rw [off_top (by rw [e2]; omega), off_top (by omega), if_neg (by omega)]
    | succ d ih =>
      intro u hu
      have i1 := ih (u + 1) (by omega)
      rw [off_step (S := spl S v p x y) (v := u) (by rw [e2]; omega), off_step (S := S) (v := u) (by omega), i1, show 4 + u = 3 + (u + 1) by omega, spl_pg (by omega) (u + 1) (by omega)]
      by_cases z : u + 1 = v
      · rw [if_pos z, if_neg (by omega), if_pos (by omega), z]
        omega
      · rw [if_neg z]
        by_cases z2 : u < v
        · rw [if_pos z2, if_pos (by omega)]
          omega
        · rw [if_neg z2, if_neg (by omega)]
          omega
  exact key (S 2 - 1 - u) u (by omega)
end
