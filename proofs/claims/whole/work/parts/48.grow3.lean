/-! splitting keeps the pages' shape -/
section
variable {S : Nat → Nat} {v p x y : Nat}
theorem st_pgle (h : ST S) {u : Nat} (hu : u < S 2) : S (3 + u) ≤ 47 := by
  have := (st_few h).2.2 u hu
  omega
/-- a page that isn't the top is split, the page above has an entry more -/
theorem st_up (h : ST S) (hv : v + 1 < S 2) (hp : p < S (3 + v)) {up : Nat} (hup : up < S (3 + (v + 1))) (hxy : x + y = S (12 + 48 * v + p)) (hx : 2 ≤ x) (hy : 2 ≤ y) : ST (un (spl S v p x y) (12 + 48 * (v + 1) + up) (S (12 + 48 * (v + 1) + up) + 1)) := by
  have h5 := (st_few h).2.1
  have hpv := st_pgle h (u := v) (by omega)
  have hpu := st_pgle h (u := v + 1) hv
  have hv6 : v ≤ 6 := by omega
  obtain ⟨z1, z2, z3⟩ := un_pg (S := spl S v p x y) (v := v + 1) (p := up) (z := S (12 + 48 * (v + 1) + up) + 1) (by omega)
  have lo : ∀ j, j < 3 → un (spl S v p x y) (12 + 48 * (v + 1) + up) (S (12 + 48 * (v + 1) + up) + 1) j = S j := fun j hj => by
    rw [z1 j (by omega), spl_low j (Or.inl hj) hv6 hp hpv]
  have pgs : ∀ u, u ≤ 6 → un (spl S v p x y) (12 + 48 * (v + 1) + up) (S (12 + 48 * (v + 1) + up) + 1) (3 + u) = if u = v then S (3 + v) + 1 else S (3 + u) := fun u hu => by
    rw [z1 (3 + u) (by omega), spl_pg hv6 u hu]
  have szs : ∀ u q, u ≤ 6 → q < 48 → un (spl S v p x y) (12 + 48 * (v + 1) + up) (S (12 + 48 * (v + 1) + up) + 1) (12 + 48 * u + q) = if u = v + 1 ∧ q = up then S (12 + 48 * (v + 1) + up) + 1 else spl S v p x y (12 + 48 * u + q) := fun u q hu hq => z3 u q hq
  have entv : ∀ u q, u ≠ v + 1 → q ≤ 48 → ent (un (spl S v p x y) (12 + 48 * (v + 1) + up) (S (12 + 48 * (v + 1) + up) + 1)) u q = ent (spl S v p x y) u q := fun u q hu hq => by
    have := ent_un (S := spl S v p x y) (v := v + 1) (p := up) (z := S (12 + 48 * (v + 1) + up) + 1) (by omega) u q hq
    rw [if_neg (by omega), if_neg (by omega)] at this
    exact this
  have sp : ∀ u q, u ≤ 6 → q < 48 → u ≠ v → spl S v p x y (12 + 48 * u + q) = S (12 + 48 * u + q) := fun u q hu hq hne => by
    rw [spl_sz hv6 hp hpv u q hu hq, if_neg hne]
  generalize hS2 : un (spl S v p x y) (12 + 48 * (v + 1) + up) (S (12 + 48 * (v + 1) + up) + 1) = S2 at *
  have e2 : S2 2 = S 2 := lo 2 (by decide)
  have e0 : S2 0 = S 0 := lo 0 (by decide)
  -- sizes of the level that was split
  have szv : ∀ q, q < S (3 + v) + 1 → 2 ≤ S2 (12 + 48 * v + q) := fun q hq => by
    rw [szs v q hv6 (by omega), if_neg (by omega), spl_sz hv6 hp hpv v q hv6 (by omega), if_pos rfl]
    by_cases c1 : q < p
    · rw [if_pos c1]; exact h.2.2.2.1 v hv q (by omega)
    · rw [if_neg c1]
      by_cases c2 : q = p
      · rw [if_pos c2]; exact hx
      · rw [if_neg c2]
        by_cases c3 : q = p + 1
        · rw [if_pos c3]; exact hy
        · rw [if_neg c3, if_pos (by omega)]; exact h.2.2.2.1 v hv (q - 1) (by omega)
  have szo : ∀ u q, u < S 2 → q < S (3 + u) → u ≠ v → S (12 + 48 * u + q) ≤ S2 (12 + 48 * u + q) := fun u q hu hq hne => by
    have := st_pgle h hu
    rw [szs u q (by omega) (by omega)]
    by_cases c : u = v + 1 ∧ q = up
    · rw [if_pos c, c.1, c.2]; omega
    · rw [if_neg c, sp u q (by omega) (by omega) hne]; exact Nat.le_refl _
  refine ⟨⟨by omega, by rw [e0]; exact h.1.2.1, fun u hu => ?_⟩, fun u hu q hq => ?_, fun _ => ?_, fun u hu q hq => ?_, fun _ => ?_⟩
  · rw [e2] at hu
    have hpu2 := st_pgle h hu
    rw [pgs u (by omega)]
    have hbel : bel S2 u = if u = v + 1 then S (3 + v) + 1 else bel S u := by
      unfold bel
      by_cases c0 : u = 0
      · rw [if_pos c0, if_neg (by omega), if_pos c0, e0]
      · rw [if_neg c0, if_neg c0, pgs (u - 1) (by omega)]
        by_cases c1 : u = v + 1
        · rw [if_pos (by omega), if_pos c1]
        · rw [if_neg (by omega), if_neg c1]
    rw [hbel]
    by_cases c1 : u = v
    · subst c1
      rw [if_pos rfl, if_neg (by omega)]
      refine ⟨by omega, ?_⟩
      rw [entv u _ (by omega) (by omega), (spl_ent hv6 hp hpv hxy).2.1 _ hp (Nat.le_refl _)]
      exact (h.1.2.2 u hu).2
    · rw [if_neg c1]
      refine ⟨by omega, ?_⟩
      by_cases c2 : u = v + 1
      · subst c2
        rw [if_pos rfl]
        have := ent_un (S := spl S v p x y) (v := v + 1) (p := up) (z := S (12 + 48 * (v + 1) + up) + 1) (by omega) (v + 1) (S (3 + (v + 1))) (by omega)
        rw [hS2, if_pos ⟨rfl, hup⟩, if_pos ⟨rfl, hup⟩, sp (v + 1) up (by omega) (by omega) (by omega), ent_oth (S := S) (fun q hq => sp (v + 1) q (by omega) hq (by omega)) (by omega), (h.1.2.2 (v + 1) hu).2] at this
        unfold bel at this
        rw [if_neg (by omega)] at this
        have h9 : S (3 + (v + 1 - 1)) = S (3 + v) := rfl
        omega
      · rw [if_neg c2, entv u _ c2 (by omega), ent_oth (S := S) (fun q hq => sp u q (by omega) hq c1) (by omega)]
        exact (h.1.2.2 u hu).2
  · rw [e2] at hu
    rw [pgs u (by omega)] at hq
    by_cases c1 : u = v
    · subst c1
      rw [if_pos rfl] at hq
      exact Nat.le_trans (by decide) (szv q hq)
    · rw [if_neg c1] at hq
      exact Nat.le_trans (h.2.1 u hu q hq) (szo u q hu hq c1)
  · rw [e2, pgs (S 2 - 1) (by omega), if_neg (by omega)]
    exact h.2.2.1 (by omega)
  · rw [e2] at hu
    rw [pgs u (by omega)] at hq
    by_cases c1 : u = v
    · subst c1
      rw [if_pos rfl] at hq
      exact szv q hq
    · rw [if_neg c1] at hq
      exact Nat.le_trans (h.2.2.2.1 u hu q hq) (szo u q (by omega) hq c1)
  · rw [e2]
    have := szo (S 2 - 1) 0 (by omega) (by rw [h.2.2.1 (by omega)]; decide) (by omega)
    rw [Nat.add_zero] at this
    exact Nat.le_trans (h.2.2.2.2 (by omega)) this
/-- the top is split under a new one -/
theorem st_top (h : ST S) (hv : v + 1 = S 2) (hxy : x + y = S (12 + 48 * v)) (hx : 2 ≤ x) (hy : 2 ≤ y) : ST (un (un (un (spl S v 0 x y) (3 + S 2) 1) (12 + 48 * S 2) 2) 2 (S 2 + 1)) := by
  have h5 := (st_few h).2.1
  have hpv := st_pgle h (u := v) (by omega)
  have hv6 : v ≤ 6 := by omega
  have htop := h.2.2.1 (by omega)
  rw [show S 2 - 1 = v by omega] at htop
  have hp : 0 < S (3 + v) := by omega
  have hxy : x + y = S (12 + 48 * v + 0) := hxy
  have lo : ∀ j, j < 2 → un (un (un (spl S v 0 x y) (3 + S 2) 1) (12 + 48 * S 2) 2) 2 (S 2 + 1) j = S j := fun j hj => by
    rw [un_n (by omega), un_n (by omega), un_n (by omega), spl_low j (Or.inl (by omega)) hv6 hp hpv]
  have pgs : ∀ u, u ≤ 6 → un (un (un (spl S v 0 x y) (3 + S 2) 1) (12 + 48 * S 2) 2) 2 (S 2 + 1) (3 + u) = if u = S 2 then 1 else if u = v then 2 else S (3 + u) := fun u hu => by
    rw [un_n (by omega), un_n (by omega)]
    by_cases c : u = S 2
    · rw [c, if_pos rfl, un_s]
    · rw [if_neg c, un_n (by omega), spl_pg hv6 u hu]
      by_cases c1 : u = v
      · rw [if_pos c1, if_pos c1, htop]
      · rw [if_neg c1, if_neg c1]
  have szs : ∀ u q, u ≤ 6 → q < 48 → un (un (un (spl S v 0 x y) (3 + S 2) 1) (12 + 48 * S 2) 2) 2 (S 2 + 1) (12 + 48 * u + q) = if u = S 2 ∧ q = 0 then 2 else spl S v 0 x y (12 + 48 * u + q) := fun u q hu hq => by
    rw [un_n (by omega)]
    by_cases c : u = S 2 ∧ q = 0
    · rw [if_pos c, c.1, c.2, Nat.add_zero, un_s]
    · rw [if_neg c, un_n (by omega), un_n (by omega)]
  have sp : ∀ u q, u ≤ 6 → q < 48 → u ≠ v → spl S v 0 x y (12 + 48 * u + q) = S (12 + 48 * u + q) := fun u q hu hq hne => by
    rw [spl_sz hv6 hp hpv u q hu hq, if_neg hne]
  have e2 : un (un (un (spl S v 0 x y) (3 + S 2) 1) (12 + 48 * S 2) 2) 2 (S 2 + 1) 2 = S 2 + 1 := un_s
  generalize hS2 : un (un (un (spl S v 0 x y) (3 + S 2) 1) (12 + 48 * S 2) 2) 2 (S 2 + 1) = S2 at *
  have e0 : S2 0 = S 0 := lo 0 (by decide)
  have sv0 : S2 (12 + 48 * v + 0) = x := by
    rw [szs v 0 hv6 (by decide), if_neg (by omega), spl_sz hv6 hp hpv v 0 hv6 (by decide), if_pos rfl, if_neg (by omega), if_pos rfl]
  have sv1 : S2 (12 + 48 * v + 1) = y := by
    rw [szs v 1 hv6 (by decide), if_neg (by omega), spl_sz hv6 hp hpv v 1 hv6 (by decide), if_pos rfl, if_neg (by omega), if_neg (by omega), if_pos rfl]
  have sL : S2 (12 + 48 * S 2 + 0) = 2 := by
    rw [szs (S 2) 0 (by omega) (by decide), if_pos ⟨rfl, rfl⟩]
  have so : ∀ u q, u < v → q < 48 → S2 (12 + 48 * u + q) = S (12 + 48 * u + q) := fun u q hu hq => by
    rw [szs u q (by omega) hq, if_neg (by omega), sp u q (by omega) hq (by omega)]
  refine ⟨⟨by omega, by rw [e0]; exact h.1.2.1, fun u hu => ?_⟩, fun u hu q hq => ?_, fun _ => ?_, fun u hu q hq => ?_, fun _ => ?_⟩
  · rw [e2] at hu
    rw [pgs u (by omega)]
    by_cases c : u = S 2
    · subst c
      rw [if_pos rfl]
      refine ⟨by decide, ?_⟩
      show 0 + S2 (12 + 48 * S 2 + 0) = _
      unfold bel
      rw [sL, if_neg (by omega), pgs (S 2 - 1) (by omega), if_neg (by omega), if_pos (by omega)]
    · rw [if_neg c]
      have hbel : bel S2 u = bel S u := by
        unfold bel
        by_cases c0 : u = 0
        · rw [if_pos c0, if_pos c0, e0]
        · rw [if_neg c0, if_neg c0, pgs (u - 1) (by omega), if_neg (by omega), if_neg (by omega)]
      rw [hbel]
      have hw := (h.1.2.2 u (by omega))
      by_cases c1 : u = v
      · subst c1
        rw [if_pos rfl]
        refine ⟨by decide, ?_⟩
        show 0 + S2 (12 + 48 * u + 0) + S2 (12 + 48 * u + 1) = _
        rw [sv0, sv1, ← hw.2, htop]
        show _ = 0 + S (12 + 48 * u + 0)
        omega
      · rw [if_neg c1]
        refine ⟨hw.1, ?_⟩
        rw [← hw.2]
        have := st_pgle h (u := u) (by omega)
        exact ent_oth (fun q hq => so u q (by omega) hq) (by omega)
  · rw [e2] at hu
    rw [pgs u (by omega)] at hq
    by_cases c : u = S 2
    · subst c
      rw [if_pos rfl] at hq
      rw [show q = 0 by omega, sL]
      decide
    · rw [if_neg c] at hq
      by_cases c1 : u = v
      · subst c1
        rw [if_pos rfl] at hq
        rcases (show q = 0 ∨ q = 1 by omega) with z | z
        · rw [z, sv0]; omega
        · rw [z, sv1]; omega
      · rw [if_neg c1] at hq
        have := st_pgle h (u := u) (by omega)
        rw [so u q (by omega) (by omega)]
        exact h.2.1 u (by omega) q hq
  · rw [e2, pgs (S 2 + 1 - 1) (by omega), if_pos (by omega)]
  · rw [e2] at hu
    rw [pgs u (by omega), if_neg (by omega)] at hq
    by_cases c1 : u = v
    · subst c1
      rw [if_pos rfl] at hq
      rcases (show q = 0 ∨ q = 1 by omega) with z | z
      · rw [z, sv0]; exact hx
      · rw [z, sv1]; exact hy
    · rw [if_neg c1] at hq
      have := st_pgle h (u := u) (by omega)
      rw [so u q (by omega) (by omega)]
      exact h.2.2.2.1 u (by omega) q hq
  · rw [e2, show S 2 + 1 - 1 = S 2 by omega]
    rw [Nat.add_zero] at sL
    rw [sL]
    exact Nat.le_refl _
end
