/-! an entry more: the reference's and the class's loops side by side -/
/-- the flat row, but for one page that has an entry fewer there -/
def FlatM (S E : Nat → Nat) (v p : Nat) : Prop := ∀ u, u < S 2 → ∀ q, q < S (3 + u) → E (off S u + q) = S (12 + 48 * u + q) - (if u = v ∧ q = p then 1 else 0)
theorem off_lt {S : Nat → Nat} {u v : Nat} (huv : u < v) (hv : v < S 2) : off S v + S (3 + v) ≤ off S u := by
  have key : ∀ d u, u + d = v → 0 < d → off S v + S (3 + v) ≤ off S u := by
    intro d
    induction d with
    | zero => intro u _ q; omega
    | succ d ih =>
      intro u hu _
      have ho := off_step (S := S) (v := u) (by omega)
      by_cases hd : d = 0
      · rw [show u + 1 = v by omega, show 4 + u = 3 + v by omega] at ho
        omega
      · have := ih (u + 1) (by omega) (by omega)
        omega
  exact key (v - u) u (by omega) (by omega)
theorem off_tot {S : Nat → Nat} {v : Nat} (hv : v < S 2) : off S v + S (3 + v) ≤ tot S := by
  rw [tot_off (by omega)]
  have h3 : S (3 + 0) = S 3 := rfl
  by_cases h0 : v = 0
  · rw [h0]; omega
  · have := off_lt (S := S) (u := 0) (v := v) (by omega) hv
    omega
theorem tot_spl {S : Nat → Nat} {v p x y : Nat} (hv : v < S 2) (h6 : S 2 ≤ 6) (hp : p < S (3 + v)) (hpg : S (3 + v) ≤ 47) : tot (spl S v p x y) = tot S + 1 := by
  have e2 : spl S v p x y 2 = S 2 := spl_low 2 (Or.inl (by decide)) (by omega) hp hpg
  rw [tot_off (by rw [e2]; omega), tot_off (by omega), off_spl hv h6 0 (by omega) hp hpg]
  have e3 := spl_pg (S := S) (p := p) (x := x) (y := y) (show v ≤ 6 by omega) 0 (by decide)
  have h3 : S (3 + 0) = S 3 := rfl
  have h4 : spl S v p x y (3 + 0) = spl S v p x y 3 := rfl
  rw [← h4, e3]
  by_cases z : v = 0
  · rw [if_pos z.symm, if_neg (by omega), z]
    omega
  · rw [if_neg (fun q => z q.symm), if_pos (by omega)]
    omega
theorem flat_spl {S E : Nat → Nat} {v p x y : Nat} (hv : v < S 2) (h6 : S 2 ≤ 6) (hp : p < S (3 + v)) (hpg : ∀ u, u < S 2 → S (3 + u) ≤ 47) (hE : FlatM S E v p) : ∀ u, u < S 2 → ∀ q, q < spl S v p x y (3 + u) → un (shr (un E (off S v + p) x) (off S v + p + 1) (tot S)) (off S v + p + 1) y (off (spl S v p x y) u + q) = spl S v p x y (12 + 48 * u + q) := by
  intro u hu q hq
  have hpv := hpg v hv
  have hpu := hpg u hu
  rw [spl_pg (by omega) u (by omega)] at hq
  have hot := off_tot (S := S) hu
  rw [off_spl hv h6 u hu hp hpv, spl_sz (by omega) hp hpv u q (by omega) (by by_cases z : u = v <;> simp only [z, if_true, if_false] at hq <;> omega)]
  have ev : ∀ j, un (shr (un E (off S v + p) x) (off S v + p + 1) (tot S)) (off S v + p + 1) y j = (if j = off S v + p + 1 then y else if off S v + p + 1 < j ∧ j ≤ tot S then (if j - 1 = off S v + p then x else E (j - 1)) else (if j = off S v + p then x else E j)) := fun j => rfl
  rw [ev]
  clear ev
  rcases Nat.lt_trichotomy u v with z | z | z
  · -- below: all move one on
    have hlt := off_lt (S := S) z hv
    rw [if_neg (by omega)] at hq
    rw [if_pos z, if_neg (show ¬ u = v by omega), if_neg (by omega), if_pos (by omega), if_neg (by omega), show off S u + 1 + q - 1 = off S u + q by omega, hE u hu q hq, if_neg (by omega), Nat.sub_zero]
  · subst z
    rw [if_pos rfl] at hq
    rw [if_neg (Nat.lt_irrefl _), if_pos rfl, Nat.add_zero]
    by_cases h1 : q < p
    · rw [if_pos h1, if_neg (by omega), if_neg (by omega), if_neg (by omega), hE u hu q (by omega), if_neg (by omega), Nat.sub_zero]
    · rw [if_neg h1]
      by_cases h2 : q = p
      · rw [if_pos h2, if_neg (by omega), if_neg (by omega), if_pos (by omega)]
      · rw [if_neg h2]
        by_cases h3 : q = p + 1
        · rw [if_pos h3, if_pos (by omega)]
        · rw [if_neg h3, if_neg (by omega), if_pos (by omega), if_neg (by omega), if_pos (by omega), show off S u + q - 1 = off S u + (q - 1) by omega, hE u hu (q - 1) (by omega), if_neg (by omega), Nat.sub_zero]
  · -- above: as they were
    have hlt := off_lt (S := S) z hu
    rw [if_neg (by omega)] at hq
    rw [if_neg (show ¬ u < v by omega), if_neg (show ¬ u = v by omega), Nat.add_zero, if_neg (by omega), if_neg (by omega), if_neg (by omega), hE u hu q hq, if_neg (by omega), Nat.sub_zero]
/-- one page's number told anew leaves what the numbers of pages tell -/
theorem un_pg {S : Nat → Nat} {v p z : Nat} (hp : p < 48) : (∀ j, j < 12 → un S (12 + 48 * v + p) z j = S j) ∧ (∀ j, 348 ≤ j → v ≤ 6 → un S (12 + 48 * v + p) z j = S j) ∧ ∀ u q, q < 48 → un S (12 + 48 * v + p) z (12 + 48 * u + q) = if u = v ∧ q = p then z else S (12 + 48 * u + q) := by
  refine ⟨fun j hj => un_n (by omega), fun j hj hv => un_n (by omega), fun u q hq => ?_⟩
  by_cases h : u = v ∧ q = p
  · rw [if_pos h, h.1, h.2, un_s]
  · rw [if_neg h, un_n (by omega)]
theorem off_un {S : Nat → Nat} {v p z : Nat} (hp : p < 48) (h6 : S 2 ≤ 6) (u : Nat) : off (un S (12 + 48 * v + p) z) u = off S u := by
  obtain ⟨h1, _, _⟩ := un_pg (S := S) (v := v) (p := p) (z := z) hp
  unfold off
  rw [h1 2 (by decide)]
  exact sumN_congr (fun k hk => h1 _ (by omega))
theorem tot_un {S : Nat → Nat} {v p z : Nat} (hp : p < 48) (h6 : S 2 ≤ 6) : tot (un S (12 + 48 * v + p) z) = tot S := by
  obtain ⟨h1, _, _⟩ := un_pg (S := S) (v := v) (p := p) (z := z) hp
  unfold tot
  rw [h1 2 (by decide)]
  exact sumN_congr (fun k hk => h1 _ (by omega))
theorem ent_un {S : Nat → Nat} {v p z : Nat} (hp : p < 48) (u : Nat) : ∀ q, q ≤ 48 → ent (un S (12 + 48 * v + p) z) u q + (if u = v ∧ p < q then S (12 + 48 * v + p) else 0) = ent S u q + (if u = v ∧ p < q then z else 0)
  | 0, _ => by rw [if_neg (by omega), if_neg (by omega)]; rfl
  | q + 1, hq => by
    have ih := ent_un (S := S) (v := v) (z := z) hp u q (by omega)
    obtain ⟨_, _, h3⟩ := un_pg (S := S) (v := v) (p := p) (z := z) hp
    rw [ent_s, ent_s, h3 u q (by omega)]
    by_cases h1 : u = v
    · subst h1
      by_cases h2 : q = p
      · subst h2
        rw [if_neg (by omega), if_neg (by omega)] at ih
        rw [if_pos ⟨rfl, rfl⟩, if_pos (by omega), if_pos (by omega)]
        omega
      · rw [if_neg (by omega)]
        by_cases h4 : p < q
        · rw [if_pos ⟨rfl, h4⟩, if_pos ⟨rfl, h4⟩] at ih
          rw [if_pos (by omega), if_pos (by omega)]
          omega
        · rw [if_neg (by omega), if_neg (by omega)] at ih
          rw [if_neg (by omega), if_neg (by omega)]
          omega
    · rw [if_neg (by omega), if_neg (by omega)] at ih
      rw [if_neg (by omega), if_neg (by omega), if_neg (by omega)]
      omega
