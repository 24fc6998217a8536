/-! the loops -/
theorem nI_p1 {x : Nat} : nI x + 1 = nI (x + 1) := nI_add x 1
theorem nI_z0 : (0 : Int32) = nI 0 := rfl
theorem nI_l2 : (2 : Int32) = nI 2 := rfl
theorem flat_new {S1 E1 : Nat → Nat} {L : Nat} (hL : S1 2 = L) (h1 : 1 ≤ L) (h5 : L ≤ 5) (htop : off S1 (L - 1) = 0) (hpg2 : ∀ u, u < L → S1 (3 + u) ≤ 47) (hF : ∀ u, u < L → ∀ q, q < S1 (3 + u) → E1 (off S1 u + q) = S1 (12 + 48 * u + q)) : tot (un (un (un S1 (3 + L) 1) (12 + 48 * L) 2) 2 (L + 1)) = tot S1 + 1 ∧ Flat (un (un (un S1 (3 + L) 1) (12 + 48 * L) 2) 2 (L + 1)) (un (shr E1 0 (tot S1)) 0 2) := by
  have pgs : ∀ u, u ≤ 6 → un (un (un S1 (3 + L) 1) (12 + 48 * L) 2) 2 (L + 1) (3 + u) = if u = L then 1 else S1 (3 + u) := fun u hu => by
    rw [un_n (by omega), un_n (by omega)]
    by_cases c : u = L
    · rw [if_pos c, c, un_s]
    · rw [if_neg c, un_n (by omega)]
  have szs : ∀ u q, u < L → q < 48 → un (un (un S1 (3 + L) 1) (12 + 48 * L) 2) 2 (L + 1) (12 + 48 * u + q) = S1 (12 + 48 * u + q) := fun u q hu hq => by
    rw [un_n (by omega), un_n (by omega), un_n (by omega)]
  have sL : un (un (un S1 (3 + L) 1) (12 + 48 * L) 2) 2 (L + 1) (12 + 48 * L + 0) = 2 := by
    rw [un_n (by omega), Nat.add_zero, un_s]
  have e2 : un (un (un S1 (3 + L) 1) (12 + 48 * L) 2) 2 (L + 1) 2 = L + 1 := un_s
  generalize un (un (un S1 (3 + L) 1) (12 + 48 * L) 2) 2 (L + 1) = S2 at *
  have offs : ∀ (d u : Nat), u + d + 1 = L → off S2 u = off S1 u + 1 := by
    intro d
    induction d with
    | zero =>
      intro u hu
      rw [off_step (S := S2) (v := u) (by omega), off_top (S := S2) (v := u + 1) (by omega), show 4 + u = 3 + (u + 1) by omega, pgs (u + 1) (by omega), if_pos (by omega)]
      rw [show L - 1 = u by omega] at htop
      rw [htop]
    | succ d ih =>
      intro u hu
      rw [off_step (S := S2) (v := u) (by omega), off_step (S := S1) (v := u) (by omega), ih (u + 1) (by omega), show 4 + u = 3 + (u + 1) by omega, pgs (u + 1) (by omega), if_neg (by omega)]
      omega
  have hoff : ∀ u, u < L → off S2 u = off S1 u + 1 := fun u hu => offs (L - 1 - u) u (by omega)
  refine ⟨?_, fun u hu q hq => ?_⟩
  · rw [tot_off (by omega), tot_off (by omega), hoff 0 (by omega)]
    have := pgs 0 (by decide)
    rw [if_neg (by omega)] at this
    have h3 : S2 (3 + 0) = S2 3 := rfl
    have h4 : S1 (3 + 0) = S1 3 := rfl
    omega
  · have ev : ∀ j, un (shr E1 0 (tot S1)) 0 2 j = (if j = 0 then 2 else if 0 < j ∧ j ≤ tot S1 then E1 (j - 1) else E1 j) := fun j => rfl
    rw [ev]
    rw [pgs u (by omega)] at hq
    by_cases c : u = L
    · subst c
      rw [if_pos rfl] at hq
      rw [show q = 0 by omega, off_top (by omega), if_pos rfl, sL]
    · rw [if_neg c] at hq
      have hpu := hpg2 u (by omega)
      have hot := off_tot (S := S1) (v := u) (by omega)
      rw [hoff u (by omega), if_neg (by omega), if_pos (by omega), show off S1 u + 1 + q - 1 = off S1 u + q by omega, hF u (by omega) q hq, szs u q (by omega) (by omega)]
theorem spl_le {S : Nat → Nat} {M v p x y : Nat} (hub : ∀ u q, u < S 2 → q < S (3 + u) → ¬ (u = v ∧ q = p) → S (12 + 48 * u + q) ≤ M) (hv : v < S 2) (h6 : S 2 ≤ 6) (hp : p < S (3 + v)) (hpv : S (3 + v) ≤ 47) (hx : x ≤ M) (hy : y ≤ M) (u q : Nat) (hu : u < S 2) (hq48 : q < 48) (hq : q < spl S v p x y (3 + u)) (hpu : S (3 + u) ≤ 47) : spl S v p x y (12 + 48 * u + q) ≤ M := by
  rw [spl_pg (by omega) u (by omega)] at hq
  rw [spl_sz (by omega) hp hpv u q (by omega) hq48]
  by_cases z : u = v
  · rw [if_pos z] at hq ⊢
    by_cases c1 : q < p
    · rw [if_pos c1]; exact hub v q hv (by omega) (by omega)
    · rw [if_neg c1]
      by_cases c2 : q = p
      · rw [if_pos c2]; exact hx
      · rw [if_neg c2]
        by_cases c3 : q = p + 1
        · rw [if_pos c3]; exact hy
        · rw [if_neg c3, if_pos (by omega)]; exact hub v (q - 1) hv (by omega) (by omega)
  · rw [if_neg z] at hq ⊢
    exact hub u q hu hq (by omega)
theorem grow_n {a : Nat → Nat} {LK : List Nat} (hk : LKok a LK) {M : Nat} (hM4 : 4 ≤ M) (hM8 : M ≤ 8) (wp : Nat → Nat) {cm cpage : Nat → Int32} (hcm : cm (a 14) = nI M) {L0 : Nat} (ma : Nat → Int32) (mal : Int32) (h1 f1 f2 f3 w1 w2 w3 w4 w5 w6 : Nat → Int32) (e1 e2 e3 e4 e5 e6 : Int32) (k : (Nat → Int32) → (Nat → Int32) → (Nat → Int32) → (Nat → Int32) → (Nat → Int32) → (Nat → Int32) → (Nat → Int32) → (Nat → Int32) → (Nat → Int32) → (Nat → Int32) → (Nat → Int32) → Int32 → Int32 → Int32 → Int32 → Int32 → Int32 → Option ((Nat → Int32) × (Nat → Int32) × (Nat → Int32) × (Nat → Int32) × (Nat → Int32) × (Nat → Int32) × (Nat → Int32) × (Nat → Int32) × (Nat → Int32) × (Nat → Int32) × (Nat → Int32) × Int32 × Int32 × Int32 × Int32 × Int32 × Int32)) :
    ∀ (d v n m : Nat) (S E : Nat → Nat) (cpg clv : Nat → Int32) (ce : Nat → Nat → Int32), v + d + 1 = S 2 → S 2 = L0 → ST S → S 1 = M → wp v < S (3 + v) → (∀ u q, u < S 2 → q < S (3 + u) → ¬ (u = v ∧ q = wp v) → S (12 + 48 * u + q) ≤ M) → S (12 + 48 * v + wp v) ≤ M + 1 → (∀ u, v ≤ u → u + 1 < S 2 → wp (u + 1) < S (3 + (u + 1)) ∧ ent S (u + 1) (wp (u + 1)) ≤ wp u ∧ wp u < ent S (u + 1) (wp (u + 1) + 1)) → FlatM S E v (wp v) → cpg (a 14) = nI (tot S) → clv (a 14) = nI (S 2) → ce (a 14) = nf E → (∀ u, v ≤ u → u < S 2 → cpage (a (30 + u)) = nI (off S u + wp u)) → d + 2 < n → d + 2 < m →
    ∃ (S' E' : Nat → Nat) (cpg' clv' : Nat → Int32) (ce' : Nat → Nat → Int32), M_adds_L64 ma mal k n (nf S) h1 f1 f2 f3 w1 w2 w3 w4 w5 w6 e1 e2 e3 e4 e5 e6 (nI (wp v)) (nI v) = k (nf S') h1 f1 f2 f3 w1 w2 w3 w4 w5 w6 e1 e2 e3 e4 e5 e6 ∧ C0_growUpwards_L22 a LK cm cpage (fun c_pages c_levels c_entries v4 v5 => bd1 (C3_setEntries c_pages c_entries (a 14) v4 v5) fun c_entries_70 => some (c_pages, c_levels, c_entries_70)) (fun c_pages c_levels c_entries => bd2 (C3_insertPage c_pages c_entries (a 14) 0 2) fun c_pages_111 c_entries_111 => some (c_pages_111, (va_up c_levels (a 14) ((c_levels (a 14)) + 1)), c_entries_111)) m cpg clv ce (nI L0) (nI ((M + 2) / 2)) (nI v) = some (cpg', clv', ce') ∧ ST S' ∧ (∀ u q, u < S' 2 → q < S' (3 + u) → S' (12 + 48 * u + q) ≤ M) ∧ (∀ j, j < 2 ∨ 348 ≤ j → S' j = S j) ∧ cpg' (a 14) = nI (tot S') ∧ clv' (a 14) = nI (S' 2) ∧ ce' (a 14) = nf E' ∧ Flat S' E' ∧ 1 ≤ S' 2 ∧ ∀ z, z ≠ a 14 → cpg' z = cpg z ∧ clv' z = clv z ∧ ce' z = ce z := by
  intro d
  induction d with
  | zero =>
    intro v n m S E cpg clv ce hv hL hST hS1 hp hub hsz hpar hF hcp hcl hce hpa hn hm
    obtain ⟨n, rfl⟩ : ∃ t, n = t + 2 := ⟨n - 2, by omega⟩
    obtain ⟨m, rfl⟩ : ∃ t, m = t + 2 := ⟨m - 2, by omega⟩
    obtain ⟨t47, l5, pg47⟩ := st_few hST
    have hpv := st_pgle hST (u := v) (by omega)
    have hot := pg47 v (by omega)
    have htt := off_tot (S := S) (v := v) (by omega)
    have hsz1 := hST.2.1 v (by omega) _ hp
    have hEp := hF v (by omega) _ hp
    rw [if_pos ⟨rfl, rfl⟩] at hEp
    rw [M_adds_L64, sizeOf_n (by omega), bd1_in, nf_a, hS1, il (by omega) (by omega), C0_growUpwards_L22, il (by omega) (by omega), if_neg (show ¬ L0 ≤ v by omega), lookOf_n hk (by omega), bd1_in, gm_in (hk.1 v (by omega)), hpa v (Nat.le_refl _) (by omega), entriesOf_n (x := S (12 + 48 * v + wp v) - 1) hcp (by omega) (by omega) (by rw [hce, nf_a, hEp]), bd1_in, hcm]
    show ∃ (S' E' : Nat → Nat) (cpg' clv' : Nat → Int32) (ce' : Nat → Nat → Int32), _ ∧ (if nI M < nI (S (12 + 48 * v + wp v) - 1) + nI 1 then _ else bd1 (C3_setEntries cpg ce (a 14) (nI (off S v + wp v)) (nI (S (12 + 48 * v + wp v) - 1) + nI 1)) _) = _ ∧ _
    rw [nI_add, show S (12 + 48 * v + wp v) - 1 + 1 = S (12 + 48 * v + wp v) by omega, ilt (by omega) (by omega)]
    by_cases hc : S (12 + 48 * v + wp v) ≤ M
    · refine ⟨S, un E (off S v + wp v) (S (12 + 48 * v + wp v)), cpg, clv, va_up ce (a 14) (nf (un E (off S v + wp v) (S (12 + 48 * v + wp v)))), ?_, ?_, hST, fun u q hu hq => ?_, fun _ _ => rfl, hcp, hcl, vu_s, fun u hu q hq => ?_, by omega, fun z hz => ⟨rfl, rfl, vu_n hz⟩⟩
      · rw [if_pos hc]
      · rw [if_neg (by omega), setEntries_n (E := E) hcp (by omega) (by omega) hce, bd1_in]
      · by_cases z : u = v ∧ q = wp v
        · rw [z.1, z.2]; exact hc
        · exact hub u q hu hq z
      · by_cases z : u = v ∧ q = wp v
        · rw [z.1, z.2, un_s]
        · have hne : off S u + q ≠ off S v + wp v := by
            rcases Nat.lt_trichotomy u v with y | y | y
            · have := off_lt (S := S) y (by omega); omega
            · subst y; omega
            · omega
          rw [un_n hne, hF u hu q hq, if_neg z, Nat.sub_zero]
    · have hMp : S (12 + 48 * v + wp v) = M + 1 := by omega
      have htop := hST.2.2.1 (by omega)
      rw [show S 2 - 1 = v by omega] at htop
      have hw0 : wp v = 0 := by omega
      have hfl := flat_spl (x := (M + 1 + 1) / 2) (y := (M + 1) / 2) (show v < S 2 by omega) (by omega) hp (fun u hu => st_pgle hST hu) hF
      have e12 : spl S v (wp v) ((M + 1 + 1) / 2) ((M + 1) / 2) 2 = S 2 := spl_low 2 (Or.inl (by decide)) (by omega) hp hpv
      have e11 : spl S v (wp v) ((M + 1 + 1) / 2) ((M + 1) / 2) 1 = S 1 := spl_low 1 (Or.inl (by decide)) (by omega) hp hpv
      have htsp := tot_spl (x := (M + 1 + 1) / 2) (y := (M + 1) / 2) (show v < S 2 by omega) (by omega) hp hpv
      have hoff1 := off_spl (x := (M + 1 + 1) / 2) (y := (M + 1) / 2) (show v < S 2 by omega) (by omega) v (by omega) hp hpv
      rw [if_neg (Nat.lt_irrefl _), off_top (S := S) (v := v) (by omega)] at hoff1
      have hst2 := st_top (x := (M + 1 + 1) / 2) (y := (M + 1) / 2) hST (show v + 1 = S 2 by omega) (by rw [hw0, Nat.add_zero] at hMp; omega) (by omega) (by omega)
      rw [← hw0] at hst2
      have hpg2 : ∀ u, u < S 2 → spl S v (wp v) ((M + 1 + 1) / 2) ((M + 1) / 2) (3 + u) ≤ 47 := by
        intro u hu
        rw [spl_pg (by omega) u (by omega)]
        by_cases z : u = v
        · rw [if_pos z]; omega
        · rw [if_neg z]; exact st_pgle hST hu
      obtain ⟨n1, n2⟩ := flat_new (S1 := spl S v (wp v) ((M + 1 + 1) / 2) ((M + 1) / 2)) (E1 := un (shr (un E (off S v + wp v) ((M + 1 + 1) / 2)) (off S v + wp v + 1) (tot S)) (off S v + wp v + 1) ((M + 1) / 2)) (L := S 2) e12 (by omega) l5 (by rw [show S 2 - 1 = v by omega]; exact hoff1) hpg2 hfl
      rw [htsp] at n1 n2
      have t47' := (st_few hst2).1
      rw [n1] at t47'
      refine ⟨un (un (un (spl S v (wp v) ((M + 1 + 1) / 2) ((M + 1) / 2)) (3 + S 2) 1) (12 + 48 * S 2) 2) 2 (S 2 + 1), un (shr (un (shr (un E (off S v + wp v) ((M + 1 + 1) / 2)) (off S v + wp v + 1) (tot S)) (off S v + wp v + 1) ((M + 1) / 2)) 0 (tot S + 1)) 0 2, va_up cpg (a 14) (nI (tot S + 1 + 1)), va_up clv (a 14) (nI (S 2 + 1)), va_up ce (a 14) (nf (un (shr (un (shr (un E (off S v + wp v) ((M + 1 + 1) / 2)) (off S v + wp v + 1) (tot S)) (off S v + wp v + 1) ((M + 1) / 2)) 0 (tot S + 1)) 0 2)), ?_, ?_, hst2, fun u q hu hq => ?_, fun j hj => ?_, by rw [vu_s, n1], by rw [vu_s, un_s], vu_s, n2, by rw [un_s]; omega, fun z hz => ⟨?_, vu_n hz, ?_⟩⟩
      · have q1 : un (un (un (spl S v (wp v) ((M + 1 + 1) / 2) ((M + 1) / 2)) (3 + S 2) 1) (12 + 48 * S 2) 2) 2 (S 2 + 1) 1 = M := by
          rw [un_n (by omega), un_n (by omega), un_n (by omega), e11, hS1]
        have q2 : un (un (un (spl S v (wp v) ((M + 1 + 1) / 2) ((M + 1) / 2)) (3 + S 2) 1) (12 + 48 * S 2) 2) 2 (S 2 + 1) (12 + 48 * S 2 + 0) = 2 := by
          rw [un_n (by omega)]
          exact un_s
        rw [if_neg hc, topLevel_n (by omega), bd1_in, ie (by omega) (by omega), if_pos (by omega), M_adds_J97, sizeOf_n (by omega), bd1_in, hMp]
        show bd1 (M_opensPage (nf S) (nI v) (nI (wp v) + nI 1)) (fun m_s_111 => bd1 (M_setSize m_s_111 (nI v) (nI (wp v)) ((nI (M + 1) + nI 1) / nI 2)) fun m_s_123 => bd1 (M_setSize m_s_123 (nI v) (nI (wp v) + nI 1) (nI (M + 1) / nI 2)) fun m_s_135 => _) = _
        rw [nI_add, nI_add, pk_div (by omega) (by decide) (by decide), pk_div (by omega) (by decide) (by decide), opensPage_n (by omega) (by omega) (by omega), bd1_in, setSize_n (by omega), bd1_in, setSize_n (by omega), bd1_in, spl_n (by omega) hp, topLevel_n (by rw [e12]; omega), bd1_in, e12, ie (by omega) (by omega), if_pos (by omega)]
        show bd1 (M_opensLevel _ (nI 2)) (fun m_s_148 => M_adds_L64 ma mal k (n + 1) m_s_148 _ _ _ _ _ _ _ _ _ _ _ _ _ _ _ _ (nI 0) (nI v + nI 1)) = _
        rw [opensLevel_n (by rw [e12]; omega), bd1_in, e12, nI_add, show v + 1 = S 2 by omega, M_adds_L64, sizeOf_n (by omega), bd1_in, nf_a, q1, q2]
        rw [il (by decide) (by omega), if_pos (by omega)]
      · rw [if_pos (by omega), setEntries_n (E := E) hcp (by omega) (by omega) hce, bd1_in, hMp]
        rw [nI_p1, Nat.add_sub_cancel, nI_p1, pk_sub (by omega), insertPage_n (E := un E (off S v + wp v) ((M + 2) / 2)) hcp (by omega) (by omega) vu_s, bd2_in, nI_p1, C0_growUpwards_L22, il (by omega) (by omega), if_pos (by omega), nI_z0, nI_l2, bx_uu, insertPage_n (P := tot S + 1) vu_s (Nat.zero_le _) (by omega) vu_s, bd2_in, hcl, bx_uu, bx_uu, nI_p1, show (M + 1) - (M + 2) / 2 = (M + 1) / 2 by omega]
      · rw [un_s] at hu
        have hpgu : (un (un (un (spl S v (wp v) ((M + 1 + 1) / 2) ((M + 1) / 2)) (3 + S 2) 1) (12 + 48 * S 2) 2) 2 (S 2 + 1)) (3 + u) = if u = S 2 then 1 else spl S v (wp v) ((M + 1 + 1) / 2) ((M + 1) / 2) (3 + u) := by
          rw [un_n (by omega), un_n (by omega)]
          by_cases c : u = S 2
          · rw [if_pos c, c, un_s]
          · rw [if_neg c, un_n (by omega)]
        rw [hpgu] at hq
        by_cases c : u = S 2
        · rw [if_pos c] at hq
          rw [c, show q = 0 by omega, un_n (by omega)]
          show un _ (12 + 48 * S 2) 2 (12 + 48 * S 2) ≤ M
          rw [un_s]
          omega
        · rw [if_neg c] at hq
          have := hpg2 u (by omega)
          rw [un_n (by omega), un_n (by omega), un_n (by omega)]
          exact spl_le hub (by omega) (by omega) hp hpv (by omega) (by omega) u q (by omega) (by omega) hq (st_pgle hST (by omega))
      · rw [un_n (by omega), un_n (by omega), un_n (by omega)]
        exact spl_low j (by omega) (by omega) hp hpv
      · exact vu_n hz
      · exact vu_n hz
  | succ d ih =>
    intro v n m S E cpg clv ce hv hL hST hS1 hp hub hsz hpar hF hcp hcl hce hpa hn hm
    obtain ⟨n, rfl⟩ : ∃ t, n = t + 1 := ⟨n - 1, by omega⟩
    obtain ⟨m, rfl⟩ : ∃ t, m = t + 1 := ⟨m - 1, by omega⟩
    obtain ⟨t47, l5, pg47⟩ := st_few hST
    have hpv := st_pgle hST (u := v) (by omega)
    have hot := pg47 v (by omega)
    have htt := off_tot (S := S) (v := v) (by omega)
    have hsz1 := hST.2.1 v (by omega) _ hp
    have hEp := hF v (by omega) _ hp
    rw [if_pos ⟨rfl, rfl⟩] at hEp
    rw [M_adds_L64, sizeOf_n (by omega), bd1_in, nf_a, hS1, il (by omega) (by omega), C0_growUpwards_L22, il (by omega) (by omega), if_neg (show ¬ L0 ≤ v by omega), lookOf_n hk (by omega), bd1_in, gm_in (hk.1 v (by omega)), hpa v (Nat.le_refl _) (by omega), entriesOf_n (x := S (12 + 48 * v + wp v) - 1) hcp (by omega) (by omega) (by rw [hce, nf_a, hEp]), bd1_in, hcm]
    show ∃ (S' E' : Nat → Nat) (cpg' clv' : Nat → Int32) (ce' : Nat → Nat → Int32), _ ∧ (if nI M < nI (S (12 + 48 * v + wp v) - 1) + nI 1 then _ else bd1 (C3_setEntries cpg ce (a 14) (nI (off S v + wp v)) (nI (S (12 + 48 * v + wp v) - 1) + nI 1)) _) = _ ∧ _
    rw [nI_add, show S (12 + 48 * v + wp v) - 1 + 1 = S (12 + 48 * v + wp v) by omega, ilt (by omega) (by omega)]
    by_cases hc : S (12 + 48 * v + wp v) ≤ M
    · refine ⟨S, un E (off S v + wp v) (S (12 + 48 * v + wp v)), cpg, clv, va_up ce (a 14) (nf (un E (off S v + wp v) (S (12 + 48 * v + wp v)))), ?_, ?_, hST, fun u q hu hq => ?_, fun _ _ => rfl, hcp, hcl, vu_s, fun u hu q hq => ?_, by omega, fun z hz => ⟨rfl, rfl, vu_n hz⟩⟩
      · rw [if_pos hc]
      · rw [if_neg (by omega), setEntries_n (E := E) hcp (by omega) (by omega) hce, bd1_in]
      · by_cases z : u = v ∧ q = wp v
        · rw [z.1, z.2]; exact hc
        · exact hub u q hu hq z
      · by_cases z : u = v ∧ q = wp v
        · rw [z.1, z.2, un_s]
        · have hne : off S u + q ≠ off S v + wp v := by
            rcases Nat.lt_trichotomy u v with y | y | y
            · have := off_lt (S := S) y (by omega); omega
            · subst y; omega
            · have := off_lt (S := S) y (by omega); omega
          rw [un_n hne, hF u hu q hq, if_neg z, Nat.sub_zero]
    · have hMp : S (12 + 48 * v + wp v) = M + 1 := by omega
      obtain ⟨hup, ho1, ho2⟩ := hpar v (Nat.le_refl _) (by omega)
      have hpu := st_pgle hST (u := v + 1) (by omega)
      have hfl := flat_spl (x := (M + 1 + 1) / 2) (y := (M + 1) / 2) (show v < S 2 by omega) (by omega) hp (fun u hu => st_pgle hST hu) hF
      have e12 : spl S v (wp v) ((M + 1 + 1) / 2) ((M + 1) / 2) 2 = S 2 := spl_low 2 (Or.inl (by decide)) (by omega) hp hpv
      have e11 : spl S v (wp v) ((M + 1 + 1) / 2) ((M + 1) / 2) 1 = S 1 := spl_low 1 (Or.inl (by decide)) (by omega) hp hpv
      have esz : spl S v (wp v) ((M + 1 + 1) / 2) ((M + 1) / 2) (12 + 48 * (v + 1) + wp (v + 1)) = S (12 + 48 * (v + 1) + wp (v + 1)) := by
        rw [spl_sz (by omega) hp hpv (v + 1) _ (by omega) (by omega), if_neg (by omega)]
      have htsp := tot_spl (x := (M + 1 + 1) / 2) (y := (M + 1) / 2) (show v < S 2 by omega) (by omega) hp hpv
      have hst2 := st_up (x := (M + 1 + 1) / 2) (y := (M + 1) / 2) hST (show v + 1 < S 2 by omega) hp hup (by omega) (by omega) (by omega)
      have hentb := ent_le hST.1 (v := v + 1) (p := wp (v + 1) + 1) (by omega) (by omega)
      have hbelb := bel_le hST.1 (v := v + 1) (by omega)
      obtain ⟨z1, z2, z3⟩ := un_pg (S := spl S v (wp v) ((M + 1 + 1) / 2) ((M + 1) / 2)) (v := v + 1) (p := wp (v + 1)) (z := S (12 + 48 * (v + 1) + wp (v + 1)) + 1) (by omega)
      have zoff := off_un (S := spl S v (wp v) ((M + 1 + 1) / 2) ((M + 1) / 2)) (v := v + 1) (p := wp (v + 1)) (z := S (12 + 48 * (v + 1) + wp (v + 1)) + 1) (by omega) (by omega)
      have ztot := tot_un (S := spl S v (wp v) ((M + 1 + 1) / 2) ((M + 1) / 2)) (v := v + 1) (p := wp (v + 1)) (z := S (12 + 48 * (v + 1) + wp (v + 1)) + 1) (by omega) (by omega)
      have zent : ∀ u q, v + 1 < u → u ≤ 6 → q ≤ 48 → ent (un (spl S v (wp v) ((M + 1 + 1) / 2) ((M + 1) / 2)) (12 + 48 * (v + 1) + wp (v + 1)) (S (12 + 48 * (v + 1) + wp (v + 1)) + 1)) u q = ent S u q := fun u q hu h6 hq => ent_oth (fun r hr => by
        rw [z3 u r hr, if_neg (by omega), spl_sz (by omega) hp hpv u r (by omega) hr, if_neg (by omega)]) hq
      have hrun : M_adds_L64 ma mal k (n + 1) (nf S) h1 f1 f2 f3 w1 w2 w3 w4 w5 w6 e1 e2 e3 e4 e5 e6 (nI (wp v)) (nI v) = M_adds_L64 ma mal k n (nf (un (spl S v (wp v) ((M + 1 + 1) / 2) ((M + 1) / 2)) (12 + 48 * (v + 1) + wp (v + 1)) (S (12 + 48 * (v + 1) + wp (v + 1)) + 1))) h1 f1 f2 f3 w1 w2 w3 w4 w5 w6 e1 e2 e3 e4 e5 e6 (nI (wp (v + 1))) (nI (v + 1)) := by
        rw [M_adds_L64, sizeOf_n (by omega), bd1_in, nf_a, hS1, il (by omega) (by omega), if_neg hc, topLevel_n (by omega), bd1_in, ie (by omega) (by omega), if_neg (by omega), over_n (by omega) (by omega) ho1 ho2 (by omega), bd1_in, M_adds_J97, sizeOf_n (by omega), bd1_in, hMp]
        show bd1 (M_opensPage (nf S) (nI v) (nI (wp v) + nI 1)) (fun m_s_111 => bd1 (M_setSize m_s_111 (nI v) (nI (wp v)) ((nI (M + 1) + nI 1) / nI 2)) fun m_s_123 => bd1 (M_setSize m_s_123 (nI v) (nI (wp v) + nI 1) (nI (M + 1) / nI 2)) fun m_s_135 => _) = _
        rw [nI_add, nI_add, pk_div (by omega) (by decide) (by decide), pk_div (by omega) (by decide) (by decide), opensPage_n (by omega) (by omega) (by omega), bd1_in, setSize_n (by omega), bd1_in, setSize_n (by omega), bd1_in, spl_n (by omega) hp, topLevel_n (by rw [e12]; omega), bd1_in, e12, ie (by omega) (by omega), if_neg (by omega)]
        show bd1 (M_sizeOf _ (nI v + nI 1) (nI (wp (v + 1)))) (fun r164 => bd1 (M_setSize _ (nI v + nI 1) (nI (wp (v + 1))) (r164 + nI 1)) fun m_s_169 => M_adds_L64 ma mal k n m_s_169 _ _ _ _ _ _ _ _ _ _ _ _ _ _ _ _ (nI (wp (v + 1))) (nI v + nI 1)) = _
        rw [nI_add, sizeOf_n (by omega), bd1_in, esz, nI_add, setSize_n (by omega), bd1_in]
      rw [M_adds_L64, sizeOf_n (by omega), bd1_in, nf_a, hS1, il (by omega) (by omega)] at hrun
      rw [hrun]
      obtain ⟨S', E', cpg', clv', ce', r1, r2, r3, r4, r5, r6, r7, r8, r9, r10, r11⟩ := ih (v + 1) n m _ (un (shr (un E (off S v + wp v) ((M + 1 + 1) / 2)) (off S v + wp v + 1) (tot S)) (off S v + wp v + 1) ((M + 1) / 2)) (va_up cpg (a 14) (nI (tot S + 1))) clv (va_up ce (a 14) (nf (un (shr (un E (off S v + wp v) ((M + 1 + 1) / 2)) (off S v + wp v + 1) (tot S)) (off S v + wp v + 1) ((M + 1) / 2))))
        (show v + 1 + d + 1 = un _ _ _ 2 by rw [z1 2 (by decide), e12]; omega) (by rw [z1 2 (by decide), e12]; exact hL) hst2 (by rw [z1 1 (by decide), e11]; exact hS1)
        (by rw [z1 _ (by omega), spl_pg (by omega) _ (by omega), if_neg (by omega)]; exact hup)
        (fun u q hu hq hne => by
          rw [z1 2 (by decide), e12] at hu
          rw [z1 _ (by omega)] at hq
          have hq48 : q < 48 := by
            rw [spl_pg (by omega) u (by omega)] at hq
            have := st_pgle hST hu
            by_cases z : u = v
            · rw [if_pos z] at hq; omega
            · rw [if_neg z] at hq; omega
          rw [z3 u q hq48, if_neg hne]
          exact spl_le hub (by omega) (by omega) hp hpv (by omega) (by omega) u q hu hq48 hq (st_pgle hST hu))
        (by rw [un_s]; have := hub (v + 1) (wp (v + 1)) (by omega) hup (by omega); omega)
        (fun u hu hu2 => by
          rw [z1 2 (by decide), e12] at hu2
          obtain ⟨q1, q2, q3⟩ := hpar u (by omega) hu2
          have := st_pgle hST (u := u + 1) hu2
          rw [z1 _ (by omega), spl_pg (by omega) _ (by omega), if_neg (by omega), zent (u + 1) _ (by omega) (by omega) (by omega), zent (u + 1) _ (by omega) (by omega) (by omega)]
          exact ⟨q1, q2, q3⟩)
        (fun u hu q hq => by
          rw [z1 2 (by decide), e12] at hu
          rw [z1 _ (by omega)] at hq
          have hq48 : q < 48 := by
            rw [spl_pg (by omega) u (by omega)] at hq
            have := st_pgle hST hu
            by_cases z : u = v
            · rw [if_pos z] at hq; omega
            · rw [if_neg z] at hq; omega
          rw [zoff, hfl u hu q hq, z3 u q hq48]
          by_cases z : u = v + 1 ∧ q = wp (v + 1)
          · rw [if_pos z, if_pos z, z.1, z.2, esz]; rfl
          · rw [if_neg z, if_neg z, Nat.sub_zero])
        (by rw [ztot, htsp, vu_s]) (by rw [z1 2 (by decide), e12]; exact hcl) vu_s
        (fun u hu hu2 => by
          rw [z1 2 (by decide), e12] at hu2
          rw [zoff, off_spl (by omega) (by omega) u hu2 hp hpv, if_neg (by omega), Nat.add_zero]
          exact hpa u (by omega) hu2) (by omega) (by omega)
      refine ⟨S', E', cpg', clv', ce', r1, ?_, r3, r4, fun j hj => ?_, r6, r7, r8, r9, r10, fun z hz => ?_⟩
      · rw [if_pos (by omega), setEntries_n (E := E) hcp (by omega) (by omega) hce, bd1_in, hMp]
        rw [nI_p1, Nat.add_sub_cancel, nI_p1, pk_sub (by omega), insertPage_n (E := un E (off S v + wp v) ((M + 2) / 2)) hcp (by omega) (by omega) vu_s, bd2_in, nI_p1, bx_uu, show (M + 1) - (M + 2) / 2 = (M + 1) / 2 by omega]
        exact r2
      · rw [r5 j hj]
        rcases hj with q | q
        · rw [z1 j (by omega)]; exact spl_low j (Or.inl (by omega)) (by omega) hp hpv
        · rw [z2 j q (by omega)]; exact spl_low j (Or.inr q) (by omega) hp hpv
      · obtain ⟨q1, q2, q3⟩ := r11 z hz
        exact ⟨q1.trans (vu_n hz), q2, q3.trans (vu_n hz)⟩
