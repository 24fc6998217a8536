/-! tops that have one entry go -/
theorem shd_pos {S : Nat → Nat} (h : SHD S) (h1 : 1 < S 2) : ∀ d v, v + d + 1 = S 2 → 1 ≤ S (3 + v)
  | 0, v, hv => by
    have := h.2.2.1
    rw [show S 2 - 1 = v by omega] at this
    omega
  | d + 1, v, hv => by
    have i1 := shd_pos h h1 d (v + 1) (by omega)
    have e := (h.1.2.2 (v + 1) (by omega)).2
    have g := h.2.1 h1 (v + 1) (by omega) 0 (by omega)
    have m : ent S (v + 1) 1 ≤ ent S (v + 1) (S (3 + (v + 1))) := sumN_mono (by omega)
    have e1 : ent S (v + 1) 1 = 0 + S (12 + 48 * (v + 1) + 0) := rfl
    unfold bel at e
    rw [if_neg (by omega)] at e
    have e3 : S (3 + (v + 1 - 1)) = S (3 + v) := rfl
    omega
theorem shd_words {S : Nat → Nat} (h : SHD S) (h1 : 1 < S 2) : 1 ≤ S 0 := by
  have i1 := shd_pos h h1 (S 2 - 1) 0 (by omega)
  have e := (h.1.2.2 0 (by omega)).2
  have g := h.2.1 h1 0 (by omega) 0 (by omega)
  have m : ent S 0 1 ≤ ent S 0 (S (3 + 0)) := sumN_mono (by omega)
  have e1 : ent S 0 1 = 0 + S (12 + 48 * 0 + 0) := rfl
  have e2 : bel S 0 = S 0 := if_pos rfl
  omega
/-- one level fewer: the numbers of pages -/
theorem off_drop {S : Nat → Nat} (h1 : 1 < S 2) (h3 : S (3 + (S 2 - 1)) = 1) (h6 : S 2 ≤ 6) : (∀ u, u + 1 < S 2 → off (un S 2 (S 2 - 1)) u + 1 = off S u) ∧ tot (un S 2 (S 2 - 1)) + 1 = tot S := by
  have e2 : un S 2 (S 2 - 1) 2 = S 2 - 1 := un_s
  have en : ∀ j, j ≠ 2 → un S 2 (S 2 - 1) j = S j := fun j hj => un_n hj
  generalize un S 2 (S 2 - 1) = S2 at *
  have key : ∀ d u, u + d + 2 = S 2 → off S2 u + 1 = off S u := by
    intro d
    induction d with
    | zero =>
      intro u hu
      rw [off_top (S := S2) (by omega), off_step (S := S) (by omega), off_top (S := S) (v := u + 1) (by omega), show 4 + u = 3 + (S 2 - 1) by omega, h3]
    | succ d ih =>
      intro u hu
      have := ih (u + 1) (by omega)
      rw [off_step (S := S2) (v := u) (by omega), off_step (S := S) (v := u) (by omega), en (4 + u) (by omega)]
      omega
  refine ⟨fun u hu => key (S 2 - 2 - u) u (by omega), ?_⟩
  have := key (S 2 - 2) 0 (by omega)
  rw [tot_off (by omega), tot_off (by omega), en 3 (by decide)]
  omega
section
variable {a : Nat → Nat} {S E : Nat → Nat} {M : Nat} {cc cpg clv : Nat → Int32} {ce : Nat → Nat → Int32}
theorem drop_n (hS : SHD S) (h2 : 1 ≤ S 2) (hcc : cc (a 14) = nI (S 0)) (hcp : cpg (a 14) = nI (tot S)) (ht : tot S ≤ 48) (hcl : clv (a 14) = nI (S 2)) (hce : ce (a 14) = nf E) (hE : Flat S E) (hsz : ∀ u q, u < S 2 → q < S (3 + u) → S (12 + 48 * u + q) ≤ 8) (ma : Nat → Int32) (mal : Int32) (h1 f1 f2 f3 w1 w2 w3 w4 w5 w6 : Nat → Int32) (e1 e2 e3 e4 e5 e6 : Int32) :
    ∃ (S' : Nat → Nat) (cpg' clv' : Nat → Int32) (ce' : Nat → Nat → Int32), M_takes_L339 ma mal (fun m_s m_heads m_forkBit m_forkFrom m_forkTo m_wayPage m_wayKnown m_wayGuess m_wayDiff m_wayRead m_wayPlace m_entries m_forks m_guess m_diff m_read m_placeOf => M_takes_J375 ma mal m_s m_heads m_forkBit m_forkFrom m_forkTo m_wayPage m_wayKnown m_wayGuess m_wayDiff m_wayRead m_wayPlace m_entries m_forks m_guess m_diff m_read m_placeOf) FU (nf S) h1 f1 f2 f3 w1 w2 w3 w4 w5 w6 e1 e2 e3 e4 e5 e6 = some (nf S', h1, f1, f2, f3, w1, w2, w3, w4, w5, w6, e1, e2, e3, e4, e5, e6) ∧ C0_dropTops a cc cpg clv ce = some (cpg', clv', ce') ∧ ST S' ∧ (∀ j, j ≠ 2 → S' j = S j) ∧ S' 2 ≤ S 2 ∧ (S' 2 = 0 ↔ S' 0 = 0) ∧ (∀ v, v < S' 2 → 1 ≤ S' (3 + v)) ∧ cpg' (a 14) = nI (tot S') ∧ clv' (a 14) = nI (S' 2) ∧ (∀ v, v < S' 2 → ∀ p, p < S' (3 + v) → ce' (a 14) (off S' v + p) = nI (S' (12 + 48 * v + p))) ∧ ∀ z, z ≠ a 14 → cpg' z = cpg z ∧ clv' z = clv z ∧ ce' z = ce z := by
  have h6 := hS.1.1
  have h48 := hS.1.2.1
  have fu : FU = 19998 + 2 := rfl
  have l1 : (1 : Int32) = nI 1 := rfl
  by_cases c1 : S 2 = 1
  · have h3 : S (3 + 0) = 1 := by
      have := hS.2.2.1
      rw [c1] at this
      exact this
    have hb : S (12 + 48 * 0 + 0) = S 0 := by
      have := (hS.1.2.2 0 (by omega)).2
      rw [h3] at this
      have e0 : ent S 0 1 = 0 + S (12 + 48 * 0 + 0) := rfl
      have e9 : bel S 0 = S 0 := if_pos rfl
      omega
    by_cases c0 : S 0 = 0
    · have s2 : un S 2 0 2 = 0 := un_s
      refine ⟨un S 2 0, va_up cpg (a 14) 0, va_up clv (a 14) 0, ce, ?_, ?_, ⟨⟨by omega, by rw [un_n (by decide)]; exact h48, fun v hv => absurd hv (by omega)⟩, fun v hv => absurd hv (by omega), fun q => absurd q (by omega), fun v hv => absurd hv (by omega), fun q => absurd q (by omega)⟩, fun j hj => un_n hj, by omega, ?_, fun v hv => absurd hv (by omega), ?_, by rw [vu_s, s2]; rfl, fun v hv => absurd hv (by omega), fun z hz => ⟨vu_n hz, vu_n hz, rfl⟩⟩
      · rw [fu, M_takes_L339, nf_a, l1, il (by omega) (by decide), if_pos (by omega), M_takes_J375, nf_a, c0, if_pos (show nI 0 = 0 from rfl), nI_z0, nf_upd]
      · unfold C0_dropTops
        rw [fu, C0_dropTops_L2, if_neg (by decide), hcl, l1, il (by omega) (by decide), if_pos (by omega), C0_dropTops_J58, hcc, c0, if_pos (show nI 0 = 0 from rfl)]
      · rw [s2, un_n (by decide)]
        omega
      · rw [vu_s]
        unfold tot
        rw [s2]
        rfl
    · have hne : ¬ nI (S 0) = 0 := fun q => c0 ((nI_eq (a := S 0) (b := 0) (by omega) (by decide)).mp q)
      have hv0 : ∀ v, v < S 2 → v = 0 := fun v hv => by omega
      refine ⟨S, cpg, clv, ce, ?_, ?_, ⟨hS.1, fun v hv p hp => ?_, fun _ => hS.2.2.1, fun v hv => absurd hv (by omega), fun q => absurd q (by omega)⟩, fun _ _ => rfl, Nat.le_refl _, by omega, fun v hv => by rw [hv0 v hv, h3]; exact Nat.le_refl _, hcp, hcl, fun v hv p hp => by rw [hce, nf_a, hE v hv p hp], fun z hz => ⟨rfl, rfl, rfl⟩⟩
      · rw [fu, M_takes_L339, nf_a, l1, il (by omega) (by decide), if_pos (by omega), M_takes_J375, nf_a, if_neg hne]
      · unfold C0_dropTops
        rw [fu, C0_dropTops_L2, if_neg (by decide), hcl, l1, il (by omega) (by decide), if_pos (by omega), C0_dropTops_J58, hcc, if_neg hne]
      · rw [hv0 v hv] at hp ⊢
        rw [h3] at hp
        rw [show p = 0 by omega, hb]
        omega
  · have hp := shd_pos hS (by omega)
    have hw := shd_words hS (by omega)
    have hne : ¬ nI (S 0) = 0 := fun q => absurd ((nI_eq (a := S 0) (b := 0) (by omega) (by decide)).mp q) (by omega)
    have h3 := hS.2.2.1
    have ho := off_top (S := S) (v := S 2 - 1) (by omega)
    have hot := off_tot (S := S) (v := S 2 - 1) (by omega)
    have hg := hS.2.1 (by omega) (S 2 - 1) (by omega) 0 (by omega)
    have hs8 := hsz (S 2 - 1) 0 (by omega) (by omega)
    have hE0 : ce (a 14) 0 = nI (S (12 + 48 * (S 2 - 1) + 0)) := by
      have := hE (S 2 - 1) (by omega) 0 (by omega)
      rw [ho] at this
      rw [hce, nf_a]
      exact congrArg nI this
    have hpos : ∀ v, v < S 2 → 1 ≤ S (3 + v) := fun v hv => hp (S 2 - 1 - v) v (by omega)
    have hM1 : ∀ N, M_takes_L339 ma mal (fun m_s m_heads m_forkBit m_forkFrom m_forkTo m_wayPage m_wayKnown m_wayGuess m_wayDiff m_wayRead m_wayPlace m_entries m_forks m_guess m_diff m_read m_placeOf => M_takes_J375 ma mal m_s m_heads m_forkBit m_forkFrom m_forkTo m_wayPage m_wayKnown m_wayGuess m_wayDiff m_wayRead m_wayPlace m_entries m_forks m_guess m_diff m_read m_placeOf) (N + 1) (nf S) h1 f1 f2 f3 w1 w2 w3 w4 w5 w6 e1 e2 e3 e4 e5 e6 = if S (12 + 48 * (S 2 - 1) + 0) = 1 then M_takes_L339 ma mal (fun m_s m_heads m_forkBit m_forkFrom m_forkTo m_wayPage m_wayKnown m_wayGuess m_wayDiff m_wayRead m_wayPlace m_entries m_forks m_guess m_diff m_read m_placeOf => M_takes_J375 ma mal m_s m_heads m_forkBit m_forkFrom m_forkTo m_wayPage m_wayKnown m_wayGuess m_wayDiff m_wayRead m_wayPlace m_entries m_forks m_guess m_diff m_read m_placeOf) N (nf (un S 2 (S 2 - 1))) h1 f1 f2 f3 w1 w2 w3 w4 w5 w6 e1 e2 e3 e4 e5 e6 else M_takes_J375 ma mal (nf S) h1 f1 f2 f3 w1 w2 w3 w4 w5 w6 e1 e2 e3 e4 e5 e6 := fun N => by
      rw [M_takes_L339, nf_a, nI_z0, l1, il (by omega) (by decide), if_neg (by omega), topLevel_n h2, bd1_in, sizeOf_n (by omega), bd1_in, ie (by omega) (by decide), pk_sub (by omega), nf_upd]
    have hC1 : ∀ N v1, v1 < 6 → C0_dropTops_L2 a cc (fun c_pages c_levels c_entries => C0_dropTops_J58 a cc c_pages c_levels c_entries) (N + 1) cpg clv ce (nI v1) = if S (12 + 48 * (S 2 - 1) + 0) = 1 then C0_dropTops_L2 a cc (fun c_pages c_levels c_entries => C0_dropTops_J58 a cc c_pages c_levels c_entries) N (va_up cpg (a 14) (nI (tot S - 1))) (va_up clv (a 14) (nI (S 2 - 1))) (va_up ce (a 14) (nf (shl E 0 (tot S - 1)))) (nI (v1 + 1)) else C0_dropTops_J58 a cc cpg clv ce := fun N v1 hv1 => by
      rw [C0_dropTops_L2, show (6 : Int32) = nI 6 from rfl, il (by decide) (by omega), if_neg (by omega), hcl, nI_z0, l1, il (by omega) (by decide), if_neg (by omega), entriesOf_n hcp (by omega) ht hE0, bd1_in, ie (by omega) (by decide), removePage_n (E := E) hcp (by omega) ht hce, bd2_in, pk_sub (by omega), nI_add]
    by_cases ct : S (12 + 48 * (S 2 - 1) + 0) = 1
    · obtain ⟨o1, o2⟩ := off_drop (S := S) (by omega) h3 h6
      have hJ : M_takes_L339 ma mal (fun m_s m_heads m_forkBit m_forkFrom m_forkTo m_wayPage m_wayKnown m_wayGuess m_wayDiff m_wayRead m_wayPlace m_entries m_forks m_guess m_diff m_read m_placeOf => M_takes_J375 ma mal m_s m_heads m_forkBit m_forkFrom m_forkTo m_wayPage m_wayKnown m_wayGuess m_wayDiff m_wayRead m_wayPlace m_entries m_forks m_guess m_diff m_read m_placeOf) FU (nf S) h1 f1 f2 f3 w1 w2 w3 w4 w5 w6 e1 e2 e3 e4 e5 e6 = M_takes_L339 ma mal (fun m_s m_heads m_forkBit m_forkFrom m_forkTo m_wayPage m_wayKnown m_wayGuess m_wayDiff m_wayRead m_wayPlace m_entries m_forks m_guess m_diff m_read m_placeOf => M_takes_J375 ma mal m_s m_heads m_forkBit m_forkFrom m_forkTo m_wayPage m_wayKnown m_wayGuess m_wayDiff m_wayRead m_wayPlace m_entries m_forks m_guess m_diff m_read m_placeOf) (19998 + 1) (nf (un S 2 (S 2 - 1))) h1 f1 f2 f3 w1 w2 w3 w4 w5 w6 e1 e2 e3 e4 e5 e6 := by
        rw [fu, hM1, if_pos ct]
      have hK : C0_dropTops a cc cpg clv ce = C0_dropTops_L2 a cc (fun c_pages c_levels c_entries => C0_dropTops_J58 a cc c_pages c_levels c_entries) (19998 + 1) (va_up cpg (a 14) (nI (tot S - 1))) (va_up clv (a 14) (nI (S 2 - 1))) (va_up ce (a 14) (nf (shl E 0 (tot S - 1)))) (nI 1) := by
        unfold C0_dropTops
        rw [fu, nI_z0, hC1 _ 0 (by decide), if_pos ct]
      have s2 : un S 2 (S 2 - 1) 2 = S 2 - 1 := un_s
      have sn : ∀ j, j ≠ 2 → un S 2 (S 2 - 1) j = S j := fun j hj => un_n hj
      have hfl : ∀ u, u + 1 < S 2 → ∀ q, q < S (3 + u) → shl E 0 (tot S - 1) (off (un S 2 (S 2 - 1)) u + q) = S (12 + 48 * u + q) := fun u hu q hq => by
        have q1 := o1 u hu
        have q2 := off_tot (S := S) (v := u) (by omega)
        unfold shl
        rw [if_pos (by omega), show off (un S 2 (S 2 - 1)) u + q + 1 = off S u + q by omega, hE u (by omega) q hq]
      generalize un S 2 (S 2 - 1) = S2 at *
      -- the new top has one page, with two entries at least
      have hnt : S (3 + (S 2 - 2)) = 1 := by
        have e := (hS.1.2.2 (S 2 - 1) (by omega)).2
        rw [h3] at e
        have e0 : ent S (S 2 - 1) 1 = 0 + S (12 + 48 * (S 2 - 1) + 0) := rfl
        unfold bel at e
        rw [if_neg (by omega)] at e
        rw [show S 2 - 2 = S 2 - 1 - 1 by omega]
        omega
      have hnz := hS.2.2.2 (S 2 - 2) (by omega) 0 (by omega)
      have hnz8 := hsz (S 2 - 2) 0 (by omega) (by omega)
      have hst : ST S2 := by
        refine ⟨⟨by omega, by rw [sn 0 (by decide)]; exact h48, fun v hv => ?_⟩, fun v hv p hp => ?_, fun _ => ?_, fun v hv p hp => ?_, fun q => ?_⟩
        · rw [sn (3 + v) (by omega)]
          have := hS.1.2.2 v (by omega)
          refine ⟨this.1, ?_⟩
          have eb : bel S2 v = bel S v := by
            unfold bel
            rw [sn 0 (by decide), sn (3 + (v - 1)) (by omega)]
          rw [eb, ← this.2]
          exact sumN_congr (fun k _ => sn _ (by omega))
        · rw [sn (3 + v) (by omega)] at hp
          rw [sn _ (by omega)]
          exact hS.2.1 (by omega) v (by omega) p hp
        · rw [s2, sn _ (by omega), show S 2 - 1 - 1 = S 2 - 2 by omega]
          exact hnt
        · rw [sn (3 + v) (by omega)] at hp
          rw [sn _ (by omega)]
          exact hS.2.2.2 v (by omega) p hp
        · rw [s2, sn _ (by omega), show S 2 - 1 - 1 = S 2 - 2 by omega]
          exact hnz
      refine ⟨S2, va_up cpg (a 14) (nI (tot S - 1)), va_up clv (a 14) (nI (S 2 - 1)), va_up ce (a 14) (nf (shl E 0 (tot S - 1))), ?_, ?_, hst, sn, by omega, ?_, fun v hv => by rw [sn _ (by omega)]; exact hpos v (by omega), by rw [vu_s, ← o2]; rfl, by rw [vu_s, s2], fun v hv p hp => ?_, fun z hz => ⟨vu_n hz, vu_n hz, vu_n hz⟩⟩
      · rw [hJ, M_takes_L339, nf_a, s2, nI_z0, l1, il (by omega) (by decide)]
        by_cases c2 : S 2 - 1 ≤ 1
        · rw [if_pos c2, M_takes_J375, nf_a, sn 0 (by decide), if_neg hne]
        · rw [if_neg c2, topLevel_n (by omega), bd1_in, sizeOf_n (by omega), bd1_in, s2, sn _ (by omega), show S 2 - 1 - 1 = S 2 - 2 by omega, ie (by omega) (by decide), if_neg (by omega), M_takes_J375, nf_a, sn 0 (by decide), if_neg hne]
      · rw [hK, C0_dropTops_L2, show (6 : Int32) = nI 6 from rfl, il (by decide) (by decide), if_neg (by decide), vu_s, nI_z0, l1, il (by omega) (by decide)]
        by_cases c2 : S 2 - 1 ≤ 1
        · rw [if_pos c2, C0_dropTops_J58, hcc, if_neg hne]
        · have hx : va_up ce (a 14) (nf (shl E 0 (tot S - 1))) (a 14) 0 = nI (S (12 + 48 * (S 2 - 2) + 0)) := by
            have := hfl (S 2 - 2) (by omega) 0 (by omega)
            rw [off_top (S := S2) (by omega)] at this
            rw [vu_s, nf_a]
            exact congrArg nI this
          have htl := off_tot (S := S) (v := S 2 - 2) (by omega)
          have := o1 (S 2 - 2) (by omega)
          rw [if_neg c2, entriesOf_n (P := tot S - 1) vu_s (by omega) (by omega) hx, bd1_in, ie (by omega) (by decide), if_neg (by omega), C0_dropTops_J58, hcc, if_neg hne]
      · rw [s2, sn 0 (by decide)]
        omega
      · rw [sn (3 + v) (by omega)] at hp
        rw [vu_s, nf_a, hfl v (by omega) p hp, sn _ (by omega)]
    · refine ⟨S, cpg, clv, ce, ?_, ?_, ⟨hS.1, hS.2.1 (by omega), fun _ => h3, hS.2.2.2, fun _ => ?_⟩, fun _ _ => rfl, Nat.le_refl _, by omega, hpos, hcp, hcl, fun v hv p hp => by rw [hce, nf_a, hE v hv p hp], fun z hz => ⟨rfl, rfl, rfl⟩⟩
      · rw [fu, hM1, if_neg ct, M_takes_J375, nf_a, if_neg hne]
      · unfold C0_dropTops
        rw [fu, nI_z0, hC1 _ 0 (by decide), if_neg ct, C0_dropTops_J58, hcc, if_neg hne]
      · rw [Nat.add_zero] at ct hg
        omega
end
