/-! the fewest entries; all facts of all -/
def Fw (x : Int32) (P : Nat → Prop) : Prop := (x = -1 ∧ ∀ y, ¬ P y) ∨ ∃ m, x = nI m ∧ m ≤ 8 ∧ P m ∧ ∀ y, P y → m ≤ y
theorem fw_eq {x x' : Int32} {P P' : Nat → Prop} (h : Fw x P) (h' : Fw x' P') (hP : ∀ y, P y ↔ P' y) : x = x' := by
  rcases h with ⟨a1, a2⟩ | ⟨m, a1, a2, a3, a4⟩
  · rcases h' with ⟨b1, b2⟩ | ⟨m', b1, b2, b3, b4⟩
    · rw [a1, b1]
    · exact absurd ((hP m').mpr b3) (a2 m')
  · rcases h' with ⟨b1, b2⟩ | ⟨m', b1, b2, b3, b4⟩
    · exact absurd ((hP m).mp a3) (b2 m)
    · have h1 := a4 m' ((hP m').mpr b3)
      have h2 := b4 m ((hP m).mp a3)
      rw [a1, b1, show m = m' by omega]
theorem fw_cong {x : Int32} {P P' : Nat → Prop} (h : Fw x P) (hP : ∀ y, P y ↔ P' y) : Fw x P' := by
  rcases h with ⟨a1, a2⟩ | ⟨m, a1, a2, a3, a4⟩
  · exact Or.inl ⟨a1, fun y q => a2 y ((hP y).mpr q)⟩
  · exact Or.inr ⟨m, a1, a2, (hP m).mp a3, fun y q => a4 y ((hP y).mpr q)⟩
theorem fw_1 {P : Nat → Prop} {z : Nat} (h : Fw (-1) P) (hz : z ≤ 8) : Fw (nI z) (fun y => P y ∨ y = z) := by
  have hn : ∀ y, ¬ P y := by
    rcases h with ⟨_, a2⟩ | ⟨m, a1, a2, _, _⟩
    · exact a2
    · exact absurd a1.symm (nneg1 (by omega))
  exact Or.inr ⟨z, rfl, hz, Or.inr rfl, fun y q => by
    rcases q with q | q
    · exact absurd q (hn y)
    · omega⟩
theorem fw_2 {P : Nat → Prop} {x : Int32} {z : Nat} (h : Fw x P) (hx : ¬ x = -1) (hz : z ≤ 8) (hle : x ≤ nI z) : Fw x (fun y => P y ∨ y = z) := by
  rcases h with ⟨a1, _⟩ | ⟨m, a1, a2, a3, a4⟩
  · exact absurd a1 hx
  · rw [a1] at hle
    have := (nI_leI (by omega) (by omega)).mp hle
    exact Or.inr ⟨m, a1, a2, Or.inl a3, fun y q => by
      rcases q with q | q
      · exact a4 y q
      · omega⟩
theorem fw_3 {P : Nat → Prop} {x : Int32} {z : Nat} (h : Fw x P) (hx : ¬ x = -1) (hz : z ≤ 8) (hle : ¬ x ≤ nI z) : Fw (nI z) (fun y => P y ∨ y = z) := by
  rcases h with ⟨a1, _⟩ | ⟨m, a1, a2, a3, a4⟩
  · exact absurd a1 hx
  · rw [a1] at hle
    have : z < m := by
      rcases Nat.lt_or_ge z m with q | q
      · exact q
      · exact absurd ((nI_leI (by omega) (by omega)).mpr q) hle
    exact Or.inr ⟨z, rfl, hz, Or.inr rfl, fun y q => by
      rcases q with q | q
      · have := a4 y q
        omega
      · omega⟩
theorem few_c {a : Nat → Nat} {LW : List Nat} {S : Nat → Nat} {cc cpg clv cm cs : Nat → Int32} {cbits : Nat → Nat → Int64} {cw : Nat → Nat → Nat} {ce : Nat → Nat → Int32} (h : WX S) (hc : Cpl LW S (a 14) cc cpg clv cm cs cbits cw ce) : ∃ x, C0_fewestEntries a cpg ce = some x ∧ Fw x (fun y => ∃ v p, v < S 2 ∧ p < S (3 + v) ∧ 1 ≤ off S v + p ∧ y = S (12 + 48 * v + p)) := by
  have ht := (tot_le h).1
  have key : ∀ (d q n : Nat) (x : Int32), q + d = max 1 (tot S) → 1 ≤ q → d < n → Fw x (fun y => ∃ v p, v < S 2 ∧ p < S (3 + v) ∧ 1 ≤ off S v + p ∧ off S v + p < q ∧ y = S (12 + 48 * v + p)) → ∃ x', C0_fewestEntries_L4 a cpg ce (fun v1 => some v1) n x (nI q) = some x' ∧ Fw x' (fun y => ∃ v p, v < S 2 ∧ p < S (3 + v) ∧ 1 ≤ off S v + p ∧ y = S (12 + 48 * v + p)) := by
    intro d
    induction d with
    | zero =>
      intro q n x hq h1 hn hf
      obtain ⟨n, rfl⟩ : ∃ m, n = m + 1 := ⟨n - 1, by omega⟩
      refine ⟨x, ?_, fw_cong hf (fun y => ⟨fun ⟨v, p, a1, a2, a3, a4, a5⟩ => ⟨v, p, a1, a2, a3, a5⟩, fun ⟨v, p, a1, a2, a3, a5⟩ => ⟨v, p, a1, a2, a3, by have := off_tot (S := S) a1; omega, a5⟩⟩)⟩
      rw [C0_fewestEntries_L4, hc.2.1, il (by omega) (by omega), if_pos (by omega)]
    | succ d ih =>
      intro q n x hq h1 hn hf
      obtain ⟨n, rfl⟩ : ∃ m, n = m + 1 := ⟨n - 1, by omega⟩
      obtain ⟨v, p, hv, hp, e⟩ := page_of h.1 (show q < tot S by omega)
      have hsz := (pgv h.1 hv hp).2.2
      have hcg : ∀ y, ((∃ v p, v < S 2 ∧ p < S (3 + v) ∧ 1 ≤ off S v + p ∧ off S v + p < q ∧ y = S (12 + 48 * v + p)) ∨ y = S (12 + 48 * v + p)) ↔ ∃ v p, v < S 2 ∧ p < S (3 + v) ∧ 1 ≤ off S v + p ∧ off S v + p < q + 1 ∧ y = S (12 + 48 * v + p) := fun y => by
        constructor
        · rintro (⟨u, r, a1, a2, a3, a4, a5⟩ | a5)
          · exact ⟨u, r, a1, a2, a3, by omega, a5⟩
          · exact ⟨v, p, hv, hp, by omega, by omega, a5⟩
        · rintro ⟨u, r, a1, a2, a3, a4, a5⟩
          by_cases cq : off S u + r < q
          · exact Or.inl ⟨u, r, a1, a2, a3, cq, a5⟩
          · have euv : u = v := by
              have eq2 : off S u + r = off S v + p := by omega
              rcases Nat.lt_trichotomy u v with z | z | z
              · have := off_lt (S := S) z hv
                omega
              · exact z
              · have := off_lt (S := S) z a1
                omega
            subst euv
            exact Or.inr (by rw [a5, show r = p by omega])
      have ent : C3_entriesOf cpg ce (a 14) (nI q) = some (nI (S (12 + 48 * v + p))) := by rw [e]; exact entriesOf_n hc.2.1 (by omega) ht (hc.2.2.2.2.1 v hv p hp)
      rw [C0_fewestEntries_L4, hc.2.1, il (by omega) (by omega), if_neg (by omega), ent, bd1_in, nI_p1]
      by_cases c1 : x = -1
      · rw [if_pos c1]
        rw [c1] at hf
        exact ih (q + 1) n _ (by omega) (by omega) (by omega) (fw_cong (fw_1 hf hsz) hcg)
      · rw [if_neg c1]
        by_cases c2 : x ≤ nI (S (12 + 48 * v + p))
        · rw [if_pos c2]
          exact ih (q + 1) n _ (by omega) (by omega) (by omega) (fw_cong (fw_2 hf c1 hsz c2) hcg)
        · rw [if_neg c2]
          exact ih (q + 1) n _ (by omega) (by omega) (by omega) (fw_cong (fw_3 hf c1 hsz c2) hcg)
  unfold C0_fewestEntries
  exact key (max 1 (tot S) - 1) 1 FU (-1) (by omega) (by omega) (by have : FU = 20000 := rfl; omega) (Or.inl ⟨rfl, fun y ⟨v, p, a1, a2, a3, a4, a5⟩ => by omega⟩)
theorem few_m {S : Nat → Nat} (h : WX S) : ∃ x, M_fewest (nf S) = some x ∧ Fw x (fun y => ∃ v p, v + 1 < S 2 ∧ p < S (3 + v) ∧ y = S (12 + 48 * v + p)) := by
  have h6 := h.1.1.1
  have key1 : ∀ (kk : Int32 → Int32 → Option Int32) (v : Nat), v + 1 < S 2 → ∀ (d p n : Nat) (x : Int32), p + d = S (3 + v) → d < n → Fw x (fun y => (∃ u r, u < v ∧ r < S (3 + u) ∧ y = S (12 + 48 * u + r)) ∨ ∃ r, r < p ∧ y = S (12 + 48 * v + r)) → ∃ x', M_fewest_L14 (nf S) kk n x (nI v) (nI p) = kk x' (nI v) ∧ Fw x' (fun y => ∃ u r, u < v + 1 ∧ r < S (3 + u) ∧ y = S (12 + 48 * u + r)) := by
    intro kk v hv d
    have hpg := (h.1.1.2.2 v (by omega)).1
    induction d with
    | zero =>
      intro p n x hp hn hf
      obtain ⟨n, rfl⟩ : ∃ m, n = m + 1 := ⟨n - 1, by omega⟩
      refine ⟨x, ?_, fw_cong hf (fun y => ⟨?_, ?_⟩)⟩
      · rw [M_fewest_L14]
        show ga (nI 3 + nI v) 1552 (if nf S (nI 3 + nI v).toNatClampNeg ≤ nI p then _ else _) = _
        rw [nI_add, ga_j (by omega) (by decide), nI_clamp (by omega), nf_a, il (by omega) (by omega), if_pos (by omega)]
      · rintro (⟨u, r, a1, a2, a3⟩ | ⟨r, a1, a2⟩)
        · exact ⟨u, r, by omega, a2, a3⟩
        · exact ⟨v, r, by omega, by omega, a2⟩
      · rintro ⟨u, r, a1, a2, a3⟩
        by_cases cu : u < v
        · exact Or.inl ⟨u, r, cu, a2, a3⟩
        · have : u = v := by omega
          subst this
          exact Or.inr ⟨r, by omega, a3⟩
    | succ d ih =>
      intro p n x hp hn hf
      obtain ⟨n, rfl⟩ : ∃ m, n = m + 1 := ⟨n - 1, by omega⟩
      have hsz := (pgv h.1 (show v < S 2 by omega) (show p < S (3 + v) by omega)).2.2
      have hcg : ∀ y, (((∃ u r, u < v ∧ r < S (3 + u) ∧ y = S (12 + 48 * u + r)) ∨ ∃ r, r < p ∧ y = S (12 + 48 * v + r)) ∨ y = S (12 + 48 * v + p)) ↔ ((∃ u r, u < v ∧ r < S (3 + u) ∧ y = S (12 + 48 * u + r)) ∨ ∃ r, r < p + 1 ∧ y = S (12 + 48 * v + r)) := fun y => by
        constructor
        · rintro ((a | ⟨r, a1, a2⟩) | a)
          · exact Or.inl a
          · exact Or.inr ⟨r, by omega, a2⟩
          · exact Or.inr ⟨p, by omega, a⟩
        · rintro (a | ⟨r, a1, a2⟩)
          · exact Or.inl (Or.inl a)
          · by_cases cr : r < p
            · exact Or.inl (Or.inr ⟨r, cr, a2⟩)
            · exact Or.inr (by rw [a2, show r = p by omega])
      have eJ : M_fewest_J41 (nf S) (M_fewest_L14 (nf S) kk n) kk (nI v) (nI p) = M_fewest_L14 (nf S) kk n (nI (S (12 + 48 * v + p))) (nI v) (nI (p + 1)) := by
        unfold M_fewest_J41
        rw [sizeOf_n (by omega), bd1_in, nI_p1]
      rw [M_fewest_L14]
      show ∃ x', ga (nI 3 + nI v) 1552 (if nf S (nI 3 + nI v).toNatClampNeg ≤ nI p then _ else _) = _ ∧ _
      rw [nI_add, ga_j (by omega) (by decide), nI_clamp (by omega), nf_a, il (by omega) (by omega), if_neg (by omega), eJ, sizeOf_n (by omega), bd1_in, nI_p1]
      by_cases c1 : x = -1
      · rw [if_pos c1]
        rw [c1] at hf
        exact ih (p + 1) n _ (by omega) (by omega) (fw_cong (fw_1 hf hsz) hcg)
      · rw [if_neg c1]
        by_cases c2 : x ≤ nI (S (12 + 48 * v + p))
        · rw [if_pos c2]
          exact ih (p + 1) n _ (by omega) (by omega) (fw_cong (fw_2 hf c1 hsz c2) hcg)
        · rw [if_neg c2]
          exact ih (p + 1) n _ (by omega) (by omega) (fw_cong (fw_3 hf c1 hsz c2) hcg)
  have key2 : ∀ (d v n : Nat) (x : Int32), v + d = S 2 - 1 → d < n → Fw x (fun y => ∃ u r, u < v ∧ r < S (3 + u) ∧ y = S (12 + 48 * u + r)) → ∃ x', M_fewest_L4 (nf S) (fun v1 => some v1) n x (nI v) = some x' ∧ Fw x' (fun y => ∃ v p, v + 1 < S 2 ∧ p < S (3 + v) ∧ y = S (12 + 48 * v + p)) := by
    intro d
    induction d with
    | zero =>
      intro v n x hv hn hf
      obtain ⟨n, rfl⟩ : ∃ m, n = m + 1 := ⟨n - 1, by omega⟩
      refine ⟨x, ?_, fw_cong hf (fun y => ⟨fun ⟨u, r, a1, a2, a3⟩ => ⟨u, r, by omega, a2, a3⟩, fun ⟨u, r, a1, a2, a3⟩ => ⟨u, r, by omega, a2, a3⟩⟩)⟩
      rw [M_fewest_L4]
      show bd1 (some (nI (S 2) - 1)) _ = _
      rw [bd1_in]
      by_cases c0 : S 2 = 0
      · rw [c0, show v = 0 by omega, if_pos (by decide)]
      · rw [show nI (S 2) - 1 = nI (S 2 - 1) from pk_sub (b := 1) (by omega), il (by omega) (by omega), if_pos (by omega)]
    | succ d ih =>
      intro v n x hv hn hf
      obtain ⟨n, rfl⟩ : ∃ m, n = m + 1 := ⟨n - 1, by omega⟩
      have hpg := (h.1.1.2.2 v (by omega)).1
      rw [M_fewest_L4]
      show ∃ x', bd1 (some (nI (S 2) - 1)) _ = _ ∧ _
      rw [bd1_in, show nI (S 2) - 1 = nI (S 2 - 1) from pk_sub (b := 1) (by omega), il (by omega) (by omega), if_neg (by omega)]
      obtain ⟨x1, r1, r2⟩ := key1 (fun v1 v2 => M_fewest_L4 (nf S) (fun v1 => some v1) n v1 (v2 + 1)) v (by omega) (S (3 + v)) 0 FU x (by omega) (by have : FU = 20000 := rfl; omega) (fw_cong hf (fun y => ⟨fun a => Or.inl a, fun a => a.resolve_right (fun ⟨r, a1, _⟩ => absurd a1 (Nat.not_lt_zero r))⟩))
      obtain ⟨x2, s1, s2⟩ := ih (v + 1) n x1 (by omega) (by omega) r2
      refine ⟨x2, ?_, s2⟩
      refine r1.trans ?_
      show M_fewest_L4 (nf S) (fun v1 => some v1) n x1 (nI v + 1) = _
      rw [nI_p1]
      exact s1
  unfold M_fewest
  exact key2 (S 2 - 1) 0 FU (-1) (by omega) (by have : FU = 20000 := rfl; omega) (Or.inl ⟨rfl, fun y ⟨u, r, a1, _⟩ => absurd a1 (Nat.not_lt_zero u)⟩)
theorem few_n {a : Nat → Nat} {LW : List Nat} {S : Nat → Nat} {cc cpg clv cm cs : Nat → Int32} {cbits : Nat → Nat → Int64} {cw : Nat → Nat → Nat} {ce : Nat → Nat → Int32} (h : WX S) (hc : Cpl LW S (a 14) cc cpg clv cm cs cbits cw ce) : ∃ x, C0_fewestEntries a cpg ce = some x ∧ M_fewest (nf S) = some x := by
  obtain ⟨x, e1, f1⟩ := few_c h hc
  obtain ⟨y, e2, f2⟩ := few_m h
  have e : x = y := fw_eq f1 f2 (fun z => by
    constructor
    · rintro ⟨v, p, a1, a2, a3, a4⟩
      refine ⟨v, p, ?_, a2, a4⟩
      rcases Nat.lt_or_ge (v + 1) (S 2) with q | q
      · exact q
      · have h1 := h.1.2.2.2.1 (by omega)
        rw [show S 2 - 1 = v by omega] at h1
        have := off_top (S := S) (v := v) (by omega)
        omega
    · rintro ⟨v, p, a1, a2, a3⟩
      refine ⟨v, p, by omega, a2, ?_, a3⟩
      have h1 := off_step (S := S) a1
      have h2 := (h.1.2.1 (v + 1) a1).1
      rw [show 4 + v = 3 + (v + 1) by omega] at h1
      omega)
  exact ⟨x, e1, by rw [e]; exact e2⟩
theorem all_n {a : Nat → Nat} {LW LK : List Nat} {S : Nat → Nat} {ch cf cl ca cp cc cpg clv cm cs : Nat → Int32} {cbits : Nat → Nat → Int64} {cw : Nat → Nat → Nat} {ce : Nat → Nat → Int32} (h : WX S) (hc : Cpl LW S (a 14) cc cpg clv cm cs cbits cw ce) (hs : Stl S ch cf cl ca cp) (hk : LKok a LK) {c : Nat} (hc7 : c < 7) : ∃ x, (∀ (c1 c2 c3 c4 c5 c6 : Nat → Int32) (x1 x2 x3 x4 x5 x6 : Int32), ∃ (d1 d2 d3 d4 d5 d6 : Nat → Int32) (y1 y2 y3 y4 y5 y6 : Int32), C0_wholeFact a LW LK ch cf cp cs cc cpg clv cm cbits cw ce c1 c2 c3 c4 c5 c6 x1 x2 x3 x4 x5 x6 (nI c) = some (x, d1, d2, d3, d4, d5, d6, y1, y2, y3, y4, y5, y6)) ∧ ∀ (ak : Nat → Nat) (al : Nat) (hs0 fb0 ff0 ft0 wp wk wg wd wr wl : Nat → Int32) (me mf mg md mr mp : Int32), (∀ j, ak j < 128) → al ≤ 24 → ∃ (ak' : Nat → Nat) (al' : Nat) (hs1 fb1 ff1 ft1 wp1 wk1 wg1 wd1 wr1 wl1 : Nat → Int32) (me1 mf1 mg1 md1 mr1 mp1 : Int32), M_allOf (nf S) (nf ak) hs0 fb0 ff0 ft0 wp wk wg wd wr wl (nI al) me mf mg md mr mp (nI c) = some (x, nf ak', hs1, fb1, ff1, ft1, wp1, wk1, wg1, wd1, wr1, wl1, nI al', me1, mf1, mg1, md1, mr1, mp1) ∧ (∀ j, ak' j < 128) ∧ al' ≤ 24 := by
  unfold C0_wholeFact M_allOf
  rcases (show c = 0 ∨ c = 1 ∨ c = 2 ∨ c = 3 ∨ c = 4 ∨ c = 5 ∨ c = 6 by omega) with rfl | rfl | rfl | rfl | rfl | rfl | rfl
  · refine ⟨nI (S 0), fun c1 c2 c3 c4 c5 c6 x1 x2 x3 x4 x5 x6 => ⟨c1, c2, c3, c4, c5, c6, x1, x2, x3, x4, x5, x6, ?_⟩, fun ak al hs0 fb0 ff0 ft0 wp wk wg wd wr wl me mf mg md mr mp ha hal => ⟨ak, al, hs0, fb0, ff0, ft0, wp, wk, wg, wd, wr, wl, me, mf, mg, md, mr, mp, ?_, ha, hal⟩⟩
    · rw [if_pos (by decide), hc.1]
    · rw [if_pos (by decide), nf_a]
  · refine ⟨nI (tot S), fun c1 c2 c3 c4 c5 c6 x1 x2 x3 x4 x5 x6 => ⟨c1, c2, c3, c4, c5, c6, x1, x2, x3, x4, x5, x6, ?_⟩, fun ak al hs0 fb0 ff0 ft0 wp wk wg wd wr wl me mf mg md mr mp ha hal => ⟨ak, al, hs0, fb0, ff0, ft0, wp, wk, wg, wd, wr, wl, me, mf, mg, md, mr, mp, ?_, ha, hal⟩⟩
    · rw [if_neg (by decide), if_pos (by decide), hc.2.1]
    · rw [if_neg (by decide), if_pos (by decide), manyPages_n h.1.1.1, bd1_in]
  · refine ⟨nI (S 2), fun c1 c2 c3 c4 c5 c6 x1 x2 x3 x4 x5 x6 => ⟨c1, c2, c3, c4, c5, c6, x1, x2, x3, x4, x5, x6, ?_⟩, fun ak al hs0 fb0 ff0 ft0 wp wk wg wd wr wl me mf mg md mr mp ha hal => ⟨ak, al, hs0, fb0, ff0, ft0, wp, wk, wg, wd, wr, wl, me, mf, mg, md, mr, mp, ?_, ha, hal⟩⟩
    · rw [if_neg (by decide), if_neg (by decide), if_pos (by decide), hc.2.2.1]
    · rw [if_neg (by decide), if_neg (by decide), if_pos (by decide), nf_a]
  · refine ⟨nI (S 1), fun c1 c2 c3 c4 c5 c6 x1 x2 x3 x4 x5 x6 => ⟨c1, c2, c3, c4, c5, c6, x1, x2, x3, x4, x5, x6, ?_⟩, fun ak al hs0 fb0 ff0 ft0 wp wk wg wd wr wl me mf mg md mr mp ha hal => ⟨ak, al, hs0, fb0, ff0, ft0, wp, wk, wg, wd, wr, wl, me, mf, mg, md, mr, mp, ?_, ha, hal⟩⟩
    · rw [if_neg (by decide), if_neg (by decide), if_neg (by decide), if_pos (by decide), hc.2.2.2.1]
    · rw [if_neg (by decide), if_neg (by decide), if_neg (by decide), if_pos (by decide), nf_a]
  · refine ⟨mxI (cow S) (S 0), fun c1 c2 c3 c4 c5 c6 x1 x2 x3 x4 x5 x6 => ?_, fun ak al hs0 fb0 ff0 ft0 wp wk wg wd wr wl me mf mg md mr mp ha hal => ?_⟩
    · obtain ⟨d1, d2, d3, d4, d5, d6, y1, y2, y3, y4, y5, y6, e⟩ := costs_c h hc hs hk 0 (by decide) c1 c2 c3 c4 c5 c6 x1 x2 x3 x4 x5 x6
      refine ⟨d1, d2, d3, d4, d5, d6, y1, y2, y3, y4, y5, y6, ?_⟩
      rw [if_neg (by decide), if_neg (by decide), if_neg (by decide), if_neg (by decide), if_pos (by decide), show (0 : Int32) = nI 0 from rfl, e, bd13_in, if_pos rfl]
    · obtain ⟨ak', al', hs1, fb1, ff1, ft1, wp1, wk1, wg1, wd1, wr1, wl1, me1, mf1, mg1, md1, mr1, mp1, e, r1, r2⟩ := costs_m h.1 ha hal 0 (by decide) hs0 fb0 ff0 ft0 wp wk wg wd wr wl me mf mg md mr mp
      refine ⟨ak', al', hs1, fb1, ff1, ft1, wp1, wk1, wg1, wd1, wr1, wl1, me1, mf1, mg1, md1, mr1, mp1, ?_, r1, r2⟩
      rw [if_neg (by decide), if_neg (by decide), if_neg (by decide), if_neg (by decide), if_pos (by decide), show (0 : Int32) = nI 0 from rfl, e, bd19_in, if_pos rfl]
  · refine ⟨smI (cow S) (S 0), fun c1 c2 c3 c4 c5 c6 x1 x2 x3 x4 x5 x6 => ?_, fun ak al hs0 fb0 ff0 ft0 wp wk wg wd wr wl me mf mg md mr mp ha hal => ?_⟩
    · obtain ⟨d1, d2, d3, d4, d5, d6, y1, y2, y3, y4, y5, y6, e⟩ := costs_c h hc hs hk 1 (by decide) c1 c2 c3 c4 c5 c6 x1 x2 x3 x4 x5 x6
      refine ⟨d1, d2, d3, d4, d5, d6, y1, y2, y3, y4, y5, y6, ?_⟩
      rw [if_neg (by decide), if_neg (by decide), if_neg (by decide), if_neg (by decide), if_neg (by decide), if_pos (by decide)]
      refine Eq.trans (congrArg (fun z => bd13 z _) e) ?_
      rw [bd13_in, if_neg (by decide)]
    · obtain ⟨ak', al', hs1, fb1, ff1, ft1, wp1, wk1, wg1, wd1, wr1, wl1, me1, mf1, mg1, md1, mr1, mp1, e, r1, r2⟩ := costs_m h.1 ha hal 1 (by decide) hs0 fb0 ff0 ft0 wp wk wg wd wr wl me mf mg md mr mp
      refine ⟨ak', al', hs1, fb1, ff1, ft1, wp1, wk1, wg1, wd1, wr1, wl1, me1, mf1, mg1, md1, mr1, mp1, ?_, r1, r2⟩
      rw [if_neg (by decide), if_neg (by decide), if_neg (by decide), if_neg (by decide), if_neg (by decide), if_pos (by decide)]
      refine Eq.trans (congrArg (fun z => bd19 z _) e) ?_
      rw [bd19_in, if_neg (by decide)]
  · obtain ⟨x, e1, e2⟩ := few_n h hc
    refine ⟨x, fun c1 c2 c3 c4 c5 c6 x1 x2 x3 x4 x5 x6 => ⟨c1, c2, c3, c4, c5, c6, x1, x2, x3, x4, x5, x6, ?_⟩, fun ak al hs0 fb0 ff0 ft0 wp wk wg wd wr wl me mf mg md mr mp ha hal => ⟨ak, al, hs0, fb0, ff0, ft0, wp, wk, wg, wd, wr, wl, me, mf, mg, md, mr, mp, ?_, ha, hal⟩⟩
    · rw [if_neg (by decide), if_neg (by decide), if_neg (by decide), if_neg (by decide), if_neg (by decide), if_neg (by decide), e1, bd1_in]
    · rw [if_neg (by decide), if_neg (by decide), if_neg (by decide), if_neg (by decide), if_neg (by decide), if_neg (by decide), e2, bd1_in]
