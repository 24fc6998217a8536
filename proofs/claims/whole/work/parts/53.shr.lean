/-! two pages become one -/
def jn (S : Nat → Nat) (v f x y : Nat) : Nat → Nat := un (shl (un (un S (12 + 48 * v + f) x) (12 + 48 * v + (f + 1)) y) (12 + 48 * v + (f + 1)) (12 + 48 * v + (S (3 + v) - 1))) (3 + v) (S (3 + v) - 1)
section
variable {S : Nat → Nat} {v f x y : Nat}
theorem jn_pg (hv : v ≤ 6) (u : Nat) (hu : u ≤ 6) : jn S v f x y (3 + u) = if u = v then S (3 + v) - 1 else S (3 + u) := by
  unfold jn
  by_cases q : u = v
  · rw [if_pos q, q, un_s]
  · rw [if_neg q, un_n (by omega)]
    unfold shl
    rw [if_neg (by omega), un_n (by omega), un_n (by omega)]
theorem jn_low (j : Nat) (hj : j < 3 ∨ 348 ≤ j) (hv : v ≤ 6) (hf : f + 1 < S (3 + v)) (hpg : S (3 + v) ≤ 48) : jn S v f x y j = S j := by
  unfold jn
  rw [un_n (by omega)]
  unfold shl
  rw [if_neg (by omega), un_n (by omega), un_n (by omega)]
theorem jn_sz (hv : v ≤ 6) (hf : f + 1 < S (3 + v)) (hpg : S (3 + v) ≤ 48) (u q : Nat) (hu : u ≤ 6) (hq : q < 48) (hq2 : u = v → q < S (3 + v) - 1) : jn S v f x y (12 + 48 * u + q) = if u = v then (if q < f then S (12 + 48 * v + q) else if q = f then x else S (12 + 48 * v + (q + 1))) else S (12 + 48 * u + q) := by
  unfold jn
  rw [un_n (by omega)]
  unfold shl
  by_cases h1 : u = v
  · have hq2 := hq2 h1
    rw [if_pos h1, h1]
    by_cases h2 : q < f
    · rw [if_pos h2, if_neg (by omega), un_n (by omega), un_n (by omega)]
    · rw [if_neg h2]
      by_cases h3 : q = f
      · rw [if_pos h3, if_neg (by omega), un_n (by omega), h3, un_s]
      · rw [if_neg h3, if_pos (by omega), un_n (by omega), un_n (by omega)]
        rfl
  · rw [if_neg h1, if_neg (by omega), un_n (by omega), un_n (by omega)]
theorem jn_ent (hv : v ≤ 6) (hf : f + 1 < S (3 + v)) (hpg : S (3 + v) ≤ 48) (hx : x = S (12 + 48 * v + f) + S (12 + 48 * v + (f + 1))) : ∀ q, q ≤ S (3 + v) - 1 → ent (jn S v f x y) v q = if q ≤ f then ent S v q else ent S v (q + 1)
  | 0, _ => by rw [if_pos (Nat.zero_le _)]; rfl
  | q + 1, hq => by
    have ih := jn_ent hv hf hpg hx q (by omega)
    rw [ent_s, ih, jn_sz hv hf hpg v q hv (by omega) (fun _ => by omega), if_pos rfl]
    by_cases h1 : q < f
    · rw [if_pos (by omega), if_pos h1, if_pos (by omega), ent_s]
    · rw [if_neg h1]
      by_cases h2 : q = f
      · rw [if_pos (by omega), if_pos h2, if_neg (by omega), ent_s, ent_s, h2, hx]
        omega
      · rw [if_neg (by omega), if_neg h2, if_neg (by omega), ent_s]
        rfl
theorem off_jn (hv : v < S 2) (h6 : S 2 ≤ 6) (hf : f + 1 < S (3 + v)) (hpg : S (3 + v) ≤ 48) (u : Nat) (hu : u < S 2) : off (jn S v f x y) u + (if u < v then 1 else 0) = off S u := by
  have e2 : jn S v f x y 2 = S 2 := jn_low 2 (Or.inl (by decide)) (by omega) hf hpg
  have key : ∀ (d u : Nat), u + d + 1 = S 2 → off (jn S v f x y) u + (if u < v then 1 else 0) = off S u := by
    intro d
    induction d with
    | zero =>
      intro u hu
      rw [off_top (by rw [e2]; omega), off_top (by omega), if_neg (by omega)]
    | succ d ih =>
      intro u hu
      have i1 := ih (u + 1) (by omega)
      rw [off_step (S := jn S v f x y) (v := u) (by rw [e2]; omega), off_step (S := S) (v := u) (by omega), show 4 + u = 3 + (u + 1) by omega, jn_pg (by omega) (u + 1) (by omega)]
      by_cases z : u + 1 = v
      · rw [if_neg (by omega)] at i1
        rw [if_pos z, if_pos (by omega)]
        rw [z] at i1 ⊢
        omega
      · rw [if_neg z]
        by_cases z2 : u < v
        · rw [if_pos (by omega)] at i1
          rw [if_pos z2]
          omega
        · rw [if_neg (by omega)] at i1
          rw [if_neg z2]
          omega
  exact key (S 2 - 1 - u) u (by omega)
theorem tot_jn (hv : v < S 2) (h6 : S 2 ≤ 6) (hf : f + 1 < S (3 + v)) (hpg : S (3 + v) ≤ 48) : tot (jn S v f x y) + 1 = tot S := by
  have e2 : jn S v f x y 2 = S 2 := jn_low 2 (Or.inl (by decide)) (by omega) hf hpg
  have h1 := off_jn (x := x) (y := y) hv h6 hf hpg 0 (by omega)
  rw [tot_off (by rw [e2]; omega), tot_off (by omega)]
  have e3 := jn_pg (S := S) (f := f) (x := x) (y := y) (show v ≤ 6 by omega) 0 (by decide)
  have h3 : S (3 + 0) = S 3 := rfl
  have h4 : jn S v f x y (3 + 0) = jn S v f x y 3 := rfl
  by_cases z : v = 0
  · rw [if_neg (by omega)] at h1
    rw [if_pos z.symm, z] at e3
    rw [z] at hf h1
    rw [z]
    rw [z] at h4
    omega
  · rw [if_pos (by omega)] at h1
    rw [if_neg (fun q => z q.symm)] at e3
    omega
theorem flat_jn {E : Nat → Nat} (hv : v < S 2) (h6 : S 2 ≤ 6) (hf : f + 1 < S (3 + v)) (hpg : ∀ u, u < S 2 → S (3 + u) ≤ 48) (hE : Flat S E) : ∀ u, u < S 2 → ∀ q, q < jn S v f x y (3 + u) → shl (un E (off S v + f) x) (off S v + f + 1) (tot S - 1) (off (jn S v f x y) u + q) = jn S v f x y (12 + 48 * u + q) := by
  intro u hu q hq
  have hpv := hpg v hv
  have hpu := hpg u hu
  rw [jn_pg (by omega) u (by omega)] at hq
  have hot := off_tot (S := S) hu
  have hov := off_tot (S := S) hv
  have hoj := off_jn (x := x) (y := y) hv h6 hf hpv u hu
  have hq3 : q < 48 ∧ (u = v → q < S (3 + v) - 1) := by
    by_cases z : u = v
    · rw [if_pos z] at hq; omega
    · rw [if_neg z] at hq; omega
  rw [jn_sz (by omega) hf hpv u q (by omega) hq3.1 hq3.2]
  have ev : ∀ j, shl (un E (off S v + f) x) (off S v + f + 1) (tot S - 1) j = if off S v + f + 1 ≤ j ∧ j < tot S - 1 then (if j + 1 = off S v + f then x else E (j + 1)) else (if j = off S v + f then x else E j) := fun j => rfl
  rw [ev]
  clear ev
  rcases Nat.lt_trichotomy u v with z | z | z
  · have hlt := off_lt (S := S) z hv
    rw [if_neg (by omega)] at hq
    rw [if_pos z] at hoj
    rw [if_neg (show ¬ u = v by omega), if_pos (by omega), if_neg (by omega), show off (jn S v f x y) u + q + 1 = off S u + q by omega, hE u hu q hq]
  · subst z
    rw [if_pos rfl] at hq ⊢
    rw [if_neg (Nat.lt_irrefl _)] at hoj
    rw [show off (jn S u f x y) u = off S u by omega]
    by_cases h1 : q < f
    · rw [if_pos h1, if_neg (by omega), if_neg (by omega), hE u hu q (by omega)]
    · rw [if_neg h1]
      by_cases h2 : q = f
      · rw [if_pos h2, if_neg (by omega), if_pos (by omega)]
      · rw [if_neg h2, if_pos (by omega), if_neg (by omega), show off S u + q + 1 = off S u + (q + 1) by omega, hE u hu (q + 1) (by omega)]
  · have hlt := off_lt (S := S) z hu
    rw [if_neg (by omega)] at hq
    rw [if_neg (by omega)] at hoj
    rw [if_neg (show ¬ u = v by omega), show off (jn S v f x y) u = off S u by omega, if_neg (by omega), if_neg (by omega), hE u hu q hq]
end
/-- the shape while an entry fewer is told upwards: one page may have few -/
def SHR (S : Nat → Nat) (v p : Nat) : Prop := TW S ∧ (1 < S 2 → ∀ u, u < S 2 → ∀ q, q < S (3 + u) → 1 ≤ S (12 + 48 * u + q)) ∧ S (3 + (S 2 - 1)) = 1 ∧ (∀ u, u + 1 < S 2 → ∀ q, q < S (3 + u) → ¬ (u = v ∧ q = p) → 2 ≤ S (12 + 48 * u + q)) ∧ (1 < S 2 → v + 1 ≠ S 2 → 2 ≤ S (12 + 48 * (S 2 - 1)))
/-- the shape once all is told: the top may have one entry alone -/
def SHD (S : Nat → Nat) : Prop := TW S ∧ (1 < S 2 → ∀ u, u < S 2 → ∀ q, q < S (3 + u) → 1 ≤ S (12 + 48 * u + q)) ∧ S (3 + (S 2 - 1)) = 1 ∧ ∀ u, u + 1 < S 2 → ∀ q, q < S (3 + u) → 2 ≤ S (12 + 48 * u + q)
section
variable {S : Nat → Nat} {v p : Nat}
/-- nothing to be told upwards -/
theorem shr_end (h : SHR S v p) (he : v + 1 < S 2 → 2 ≤ S (12 + 48 * v + p)) : SHD S := by
  obtain ⟨h1, h2, h3, h4, h5⟩ := h
  refine ⟨h1, h2, h3, fun u hu q hq => ?_⟩
  by_cases c : u = v ∧ q = p
  · rw [c.1, c.2]; exact he (by omega)
  · exact h4 u hu q hq c
/-- the two are shared out -/
theorem shr_share {f x y : Nat} (h : SHR S v p) (hv : v + 1 < S 2) (hf : f + 1 < S (3 + v)) (hpf : p = f ∨ p = f + 1) (hxy : x + y = S (12 + 48 * v + f) + S (12 + 48 * v + (f + 1))) (hx : 2 ≤ x) (hy : 2 ≤ y) : SHD (un (un S (12 + 48 * v + f) x) (12 + 48 * v + (f + 1)) y) ∧ ∀ u q, q < 48 → un (un S (12 + 48 * v + f) x) (12 + 48 * v + (f + 1)) y (12 + 48 * u + q) = if u = v ∧ q = f then x else if u = v ∧ q = f + 1 then y else S (12 + 48 * u + q) := by
  obtain ⟨⟨h11, h12, h13⟩, h2, h3, h4, h5⟩ := h
  have hpv := (h13 v (by omega)).1
  obtain ⟨a1, a2, a3⟩ := un_pg (S := S) (v := v) (p := f) (z := x) (by omega)
  obtain ⟨b1, b2, b3⟩ := un_pg (S := un S (12 + 48 * v + f) x) (v := v) (p := f + 1) (z := y) (by omega)
  have ea := ent_un (S := S) (v := v) (p := f) (z := x) (by omega)
  have eb := ent_un (S := un S (12 + 48 * v + f) x) (v := v) (p := f + 1) (z := y) (by omega)
  have sz : ∀ u q, q < 48 → un (un S (12 + 48 * v + f) x) (12 + 48 * v + (f + 1)) y (12 + 48 * u + q) = if u = v ∧ q = f then x else if u = v ∧ q = f + 1 then y else S (12 + 48 * u + q) := fun u q hq => by
    rw [b3 u q hq, a3 u q hq]
    by_cases c1 : u = v ∧ q = f + 1
    · rw [if_pos c1, if_neg (by omega), if_pos c1]
    · rw [if_neg c1, if_neg c1]
  refine ⟨?_, sz⟩
  have lo : ∀ j, j < 12 → un (un S (12 + 48 * v + f) x) (12 + 48 * v + (f + 1)) y j = S j := fun j hj => by rw [b1 j hj, a1 j hj]
  rw [a3 v (f + 1) (by omega), if_neg (by omega)] at eb
  generalize un (un S (12 + 48 * v + f) x) (12 + 48 * v + (f + 1)) y = S2 at *
  have e2 : S2 2 = S 2 := lo 2 (by decide)
  refine ⟨⟨by omega, by rw [lo 0 (by decide)]; exact h12, fun u hu => ?_⟩, fun _ u hu q hq => ?_, ?_, fun u hu q hq => ?_⟩
  · rw [e2] at hu
    have hpu := h13 u hu
    rw [lo (3 + u) (by omega)]
    refine ⟨hpu.1, ?_⟩
    have e1 := ea u (S (3 + u)) (by omega)
    have e3 := eb u (S (3 + u)) (by omega)
    have hbel : bel S2 u = bel S u := by
      unfold bel
      rw [lo 0 (by decide), lo (3 + (u - 1)) (by omega)]
    rw [hbel, ← hpu.2]
    by_cases c : u = v
    · subst c
      rw [if_pos (by omega), if_pos (by omega)] at e1 e3
      omega
    · rw [if_neg (by omega), if_neg (by omega)] at e1 e3
      omega
  · rw [e2] at hu
    rw [lo (3 + u) (by omega)] at hq
    have := (h13 u hu).1
    rw [sz u q (by omega)]
    by_cases c1 : u = v ∧ q = f
    · rw [if_pos c1]; omega
    · rw [if_neg c1]
      by_cases c2 : u = v ∧ q = f + 1
      · rw [if_pos c2]; omega
      · rw [if_neg c2]; exact h2 (by omega) u hu q hq
  · rw [e2, lo (3 + (S 2 - 1)) (by omega)]; exact h3
  · rw [e2] at hu
    rw [lo (3 + u) (by omega)] at hq
    have := (h13 u (by omega)).1
    rw [sz u q (by omega)]
    by_cases c1 : u = v ∧ q = f
    · rw [if_pos c1]; exact hx
    · rw [if_neg c1]
      by_cases c2 : u = v ∧ q = f + 1
      · rw [if_pos c2]; exact hy
      · rw [if_neg c2]; exact h4 u hu q hq (by omega)
/-- the two become one, the page above has an entry fewer -/
theorem shr_join {f x y up : Nat} (h : SHR S v p) (hv : v + 1 < S 2) (hf : f + 1 < S (3 + v)) (hpf : p = f ∨ p = f + 1) (hup : up < S (3 + (v + 1))) (hx : x = S (12 + 48 * v + f) + S (12 + 48 * v + (f + 1))) : SHR (un (jn S v f x y) (12 + 48 * (v + 1) + up) (S (12 + 48 * (v + 1) + up) - 1)) (v + 1) up := by
  obtain ⟨⟨h11, h12, h13⟩, h2, h3, h4, h5⟩ := h
  have hpv := (h13 v (by omega)).1
  have hpu := (h13 (v + 1) hv).1
  have hv6 : v ≤ 6 := by omega
  have hge1 : 1 ≤ S (12 + 48 * v + f) := h2 (by omega) v (by omega) f (by omega)
  have hge2 : 1 ≤ S (12 + 48 * v + (f + 1)) := h2 (by omega) v (by omega) (f + 1) hf
  have hupz : 2 ≤ S (12 + 48 * (v + 1) + up) := by
    by_cases c : v + 1 + 1 = S 2
    · have h5 := h5 (by omega) (by omega)
      rw [show S 2 - 1 = v + 1 by omega] at h3 h5
      rw [show up = 0 by omega]
      exact h5
    · exact h4 (v + 1) (by omega) up hup (by omega)
  obtain ⟨a1, a2, a3⟩ := un_pg (S := jn S v f x y) (v := v + 1) (p := up) (z := S (12 + 48 * (v + 1) + up) - 1) (by omega)
  have ea := ent_un (S := jn S v f x y) (v := v + 1) (p := up) (z := S (12 + 48 * (v + 1) + up) - 1) (by omega)
  have lo : ∀ j, j < 3 → un (jn S v f x y) (12 + 48 * (v + 1) + up) (S (12 + 48 * (v + 1) + up) - 1) j = S j := fun j hj => by
    rw [a1 j (by omega), jn_low j (Or.inl hj) hv6 hf hpv]
  have pgs : ∀ u, u ≤ 6 → un (jn S v f x y) (12 + 48 * (v + 1) + up) (S (12 + 48 * (v + 1) + up) - 1) (3 + u) = if u = v then S (3 + v) - 1 else S (3 + u) := fun u hu => by
    rw [a1 (3 + u) (by omega), jn_pg hv6 u hu]
  have jo : ∀ u q, u ≤ 6 → q < 48 → u ≠ v → jn S v f x y (12 + 48 * u + q) = S (12 + 48 * u + q) := fun u q hu hq hne => by
    rw [jn_sz hv6 hf hpv u q hu hq (fun z => absurd z hne), if_neg hne]
  have je := jn_ent (y := y) hv6 hf hpv hx
  have jv : ∀ q, q < S (3 + v) - 1 → jn S v f x y (12 + 48 * v + q) = if q < f then S (12 + 48 * v + q) else if q = f then x else S (12 + 48 * v + (q + 1)) := fun q hq => by
    rw [jn_sz hv6 hf hpv v q hv6 (by omega) (fun _ => hq), if_pos rfl]
  generalize hS2 : un (jn S v f x y) (12 + 48 * (v + 1) + up) (S (12 + 48 * (v + 1) + up) - 1) = S2 at *
  have e2 : S2 2 = S 2 := lo 2 (by decide)
  -- sizes
  have szv : ∀ q, q < S (3 + v) - 1 → 2 ≤ S2 (12 + 48 * v + q) := fun q hq => by
    rw [a3 v q (by omega), if_neg (by omega), jv q hq]
    by_cases c1 : q < f
    · rw [if_pos c1]; exact h4 v hv q (by omega) (by omega)
    · rw [if_neg c1]
      by_cases c2 : q = f
      · rw [if_pos c2, hx]; omega
      · rw [if_neg c2]; exact h4 v hv (q + 1) (by omega) (by omega)
  have szo : ∀ u q, u ≤ 6 → q < 48 → u ≠ v → S2 (12 + 48 * u + q) = if u = v + 1 ∧ q = up then S (12 + 48 * (v + 1) + up) - 1 else S (12 + 48 * u + q) := fun u q hu hq hne => by
    rw [a3 u q hq, jo u q hu hq hne]
  refine ⟨⟨by omega, by rw [lo 0 (by decide)]; exact h12, fun u hu => ?_⟩, fun _ u hu q hq => ?_, ?_, fun u hu q hq hne => ?_, fun _ q => ?_⟩
  · rw [e2] at hu
    have hpw := h13 u hu
    rw [pgs u (by omega)]
    have hbel : bel S2 u = if u = v + 1 then S (3 + v) - 1 else bel S u := by
      unfold bel
      by_cases c0 : u = 0
      · rw [if_pos c0, if_neg (by omega), if_pos c0, lo 0 (by decide)]
      · rw [if_neg c0, if_neg c0, pgs (u - 1) (by omega)]
        by_cases c1 : u = v + 1
        · rw [if_pos (by omega), if_pos c1]
        · rw [if_neg (by omega), if_neg c1]
    rw [hbel]
    by_cases c : u = v
    · subst c
      rw [if_pos rfl, if_neg (by omega)]
      refine ⟨by omega, ?_⟩
      have e := ea u (S (3 + u) - 1) (by omega)
      rw [if_neg (by omega), if_neg (by omega), je _ (Nat.le_refl _), if_neg (by omega), show S (3 + u) - 1 + 1 = S (3 + u) by omega, hpw.2] at e
      exact e
    · rw [if_neg c]
      refine ⟨hpw.1, ?_⟩
      have e := ea u (S (3 + u)) (by omega)
      rw [ent_oth (S := S) (S1 := jn S v f x y) (fun q hq => jo u q (by omega) hq c) (by omega), hpw.2] at e
      by_cases c1 : u = v + 1
      · subst c1
        rw [if_pos rfl]
        rw [if_pos (show v + 1 = v + 1 ∧ up < S (3 + (v + 1)) from ⟨rfl, hup⟩), if_pos (show v + 1 = v + 1 ∧ up < S (3 + (v + 1)) from ⟨rfl, hup⟩), jo (v + 1) up (by omega) (by omega) (by omega)] at e
        have hb : bel S (v + 1) = S (3 + v) := by unfold bel; rw [if_neg (by omega)]; rfl
        omega
      · rw [if_neg (by omega), if_neg (by omega)] at e
        rw [if_neg c1]
        exact e
  · rw [e2] at hu
    rw [pgs u (by omega)] at hq
    by_cases c : u = v
    · rw [if_pos c] at hq
      rw [c]
      exact Nat.le_trans (by decide) (szv q hq)
    · rw [if_neg c] at hq
      have := (h13 u hu).1
      rw [szo u q (by omega) (by omega) c]
      by_cases c1 : u = v + 1 ∧ q = up
      · rw [if_pos c1]; omega
      · rw [if_neg c1]; exact h2 (by omega) u hu q hq
  · rw [e2, pgs (S 2 - 1) (by omega), if_neg (by omega)]; exact h3
  · rw [e2] at hu
    rw [pgs u (by omega)] at hq
    by_cases c : u = v
    · rw [if_pos c] at hq
      rw [c]
      exact szv q hq
    · rw [if_neg c] at hq
      have := (h13 u (by omega)).1
      rw [szo u q (by omega) (by omega) c, if_neg hne]
      exact h4 u hu q hq (by omega)
  · rw [e2] at q ⊢
    have := szo (S 2 - 1) 0 (by omega) (by decide) (by omega)
    rw [if_neg (by omega), Nat.add_zero] at this
    rw [this]
    exact h5 (by omega) (by omega)
end
