theorem deal_L {a : Nat → Nat} {cc : Nat → Int32} {S0 : Nat → Nat} {m : Nat} (hm : 4 ≤ m) (hm8 : m ≤ 8) (hN : S0 0 ≤ 48) (mp mk mr : Nat → Int32) (mn v1 : Int32) (k : (Nat → Int32) → (Nat → Int32) → (Nat → Int32) → (Nat → Int32) → Int32 → Option (Int32 × (Nat → Int32) × (Nat → Int32) × (Nat → Int32) × (Nat → Int32) × Int32)) :
    ∀ (t n1 n2 : Nat) (S E : Nat → Nat) (cpg clv cm : Nat → Int32) (ce : Nat → Nat → Int32), S 2 + t = 6 → t + 1 < n1 → t + 1 < n2 → S 1 = m → (∀ j, j = 0 ∨ 348 ≤ j → S j = S0 j) → TW S → (∀ v, v < S 2 → 1 ≤ S (3 + v) ∧ ∀ p, p < S (3 + v) → 1 ≤ S (12 + 48 * v + p) ∧ S (12 + 48 * v + p) ≤ m) → (∀ v, v < S 2 → 1 < S (3 + v) → ∀ p, p < S (3 + v) → 2 ≤ S (12 + 48 * v + p)) → (∀ v, v + 1 < S 2 → 1 < S (3 + v)) → bel S (S 2) ≤ 2 ^ t → tot S + bel S (S 2) ≤ 49 → cpg (a 14) = nI (tot S) → clv (a 14) = nI (S 2) → ce (a 14) = nf E → Flat S E →
    ∃ (S' E' : Nat → Nat) (cpg' clv' : Nat → Int32) (ce' : Nat → Nat → Int32), M_deals_L52 v1 k n1 (nf S) mp mk mr mn (nI (bel S (S 2))) (nI (if (S 2 = 0 ∧ 0 < bel S (S 2)) ∨ 1 < bel S (S 2) then 1 else 0)) = k (nf S') mp mk mr mn ∧ C3_deal_L28 cc (a 14) (nI m) (fun c_pages c_levels c_most c_entries => some (c_pages, c_levels, c_most, c_entries)) n2 cpg clv cm ce (nI (bel S (S 2))) (nI (S 2)) = some (cpg', clv', cm, ce') ∧ S' 1 = m ∧ (∀ j, j = 0 ∨ 348 ≤ j → S' j = S0 j) ∧ TW S' ∧ (∀ v, v < S' 2 → 1 ≤ S' (3 + v) ∧ ∀ p, p < S' (3 + v) → 1 ≤ S' (12 + 48 * v + p) ∧ S' (12 + 48 * v + p) ≤ m) ∧ (∀ v, v < S' 2 → 1 < S' (3 + v) → ∀ p, p < S' (3 + v) → 2 ≤ S' (12 + 48 * v + p)) ∧ (∀ v, v + 1 < S' 2 → 1 < S' (3 + v)) ∧ ((S' 2 = 0 ∧ S' 0 = 0) ∨ (0 < S' 2 ∧ S' (3 + (S' 2 - 1)) = 1)) ∧ cpg' (a 14) = nI (tot S') ∧ clv' (a 14) = nI (S' 2) ∧ ce' (a 14) = nf E' ∧ Flat S' E' ∧ ∀ z, z ≠ a 14 → cpg' z = cpg z ∧ clv' z = clv z ∧ ce' z = ce z := by
  intro t
  have hb0 : ∀ S : Nat → Nat, S 2 = 0 → bel S (S 2) = S 0 := fun S h => by rw [h]; exact if_pos rfl
  have hbs : ∀ S : Nat → Nat, 0 < S 2 → bel S (S 2) = S (3 + (S 2 - 1)) := fun S h => by unfold bel; rw [if_neg (by omega)]
  -- the loops' end
  have fin : ∀ (n1 n2 : Nat) (S E : Nat → Nat) (cpg clv cm : Nat → Int32) (ce : Nat → Nat → Int32), S 2 ≤ 6 → S 1 = m → (∀ j, j = 0 ∨ 348 ≤ j → S j = S0 j) → TW S → (∀ v, v < S 2 → 1 ≤ S (3 + v) ∧ ∀ p, p < S (3 + v) → 1 ≤ S (12 + 48 * v + p) ∧ S (12 + 48 * v + p) ≤ m) → (∀ v, v < S 2 → 1 < S (3 + v) → ∀ p, p < S (3 + v) → 2 ≤ S (12 + 48 * v + p)) → (∀ v, v + 1 < S 2 → 1 < S (3 + v)) → cpg (a 14) = nI (tot S) → clv (a 14) = nI (S 2) → ce (a 14) = nf E → Flat S E → ¬ ((S 2 = 0 ∧ 0 < bel S (S 2)) ∨ 1 < bel S (S 2)) →
      ∃ (S' E' : Nat → Nat) (cpg' clv' : Nat → Int32) (ce' : Nat → Nat → Int32), M_deals_L52 v1 k (n1 + 1) (nf S) mp mk mr mn (nI (bel S (S 2))) (nI (if (S 2 = 0 ∧ 0 < bel S (S 2)) ∨ 1 < bel S (S 2) then 1 else 0)) = k (nf S') mp mk mr mn ∧ C3_deal_L28 cc (a 14) (nI m) (fun c_pages c_levels c_most c_entries => some (c_pages, c_levels, c_most, c_entries)) (n2 + 1) cpg clv cm ce (nI (bel S (S 2))) (nI (S 2)) = some (cpg', clv', cm, ce') ∧ S' 1 = m ∧ (∀ j, j = 0 ∨ 348 ≤ j → S' j = S0 j) ∧ TW S' ∧ (∀ v, v < S' 2 → 1 ≤ S' (3 + v) ∧ ∀ p, p < S' (3 + v) → 1 ≤ S' (12 + 48 * v + p) ∧ S' (12 + 48 * v + p) ≤ m) ∧ (∀ v, v < S' 2 → 1 < S' (3 + v) → ∀ p, p < S' (3 + v) → 2 ≤ S' (12 + 48 * v + p)) ∧ (∀ v, v + 1 < S' 2 → 1 < S' (3 + v)) ∧ ((S' 2 = 0 ∧ S' 0 = 0) ∨ (0 < S' 2 ∧ S' (3 + (S' 2 - 1)) = 1)) ∧ cpg' (a 14) = nI (tot S') ∧ clv' (a 14) = nI (S' 2) ∧ ce' (a 14) = nf E' ∧ Flat S' E' ∧ ∀ z, z ≠ a 14 → cpg' z = cpg z ∧ clv' z = clv z ∧ ce' z = ce z := by
    intro n1 n2 S E cpg clv cm ce h6 h1 hS hT hp1 hp2 hp3 hcp hcl hce hE hc
    refine ⟨S, E, cpg, clv, ce, ?_, ?_, h1, hS, hT, hp1, hp2, hp3, ?_, hcp, hcl, hce, hE, fun z hz => ⟨rfl, rfl, rfl⟩⟩
    · rw [if_neg hc, M_deals_L52, if_pos (show nI 0 = 0 from rfl)]
    · rw [C3_deal_L28, show (6 : Int32) = nI 6 from rfl, nI_z0, show (1 : Int32) = nI 1 from rfl, il (by decide) (by omega), il (by omega) (by decide), ie (by omega) (by decide), il (by omega) (by decide)]
      by_cases c1 : 6 ≤ S 2
      · rw [if_pos c1]
      · rw [if_neg c1]
        by_cases c2 : bel S (S 2) ≤ 0
        · rw [if_pos c2]
        · rw [if_neg c2, if_neg (by omega), if_pos (by omega)]
    · by_cases c : S 2 = 0
      · left
        have := hb0 S c
        exact ⟨c, by omega⟩
      · right
        have := hbs S (by omega)
        have := (hp1 (S 2 - 1) (by omega)).1
        exact ⟨by omega, by omega⟩
  induction t with
  | zero =>
    intro n1 n2 S E cpg clv cm ce ht hn1 hn2 h1 hS hT hp1 hp2 hp3 hbb htb hcp hcl hce hE
    obtain ⟨n1, rfl⟩ : ∃ x, n1 = x + 1 := ⟨n1 - 1, by omega⟩
    obtain ⟨n2, rfl⟩ : ∃ x, n2 = x + 1 := ⟨n2 - 1, by omega⟩
    have hbb : bel S (S 2) ≤ 1 := hbb
    exact fin n1 n2 S E cpg clv cm ce (by omega) h1 hS hT hp1 hp2 hp3 hcp hcl hce hE (by omega)
  | succ t ih =>
    intro n1 n2 S E cpg clv cm ce ht hn1 hn2 h1 hS hT hp1 hp2 hp3 hbb htb hcp hcl hce hE
    obtain ⟨n1, rfl⟩ : ∃ x, n1 = x + 1 := ⟨n1 - 1, by omega⟩
    obtain ⟨n2, rfl⟩ : ∃ x, n2 = x + 1 := ⟨n2 - 1, by omega⟩
    by_cases hc : (S 2 = 0 ∧ 0 < bel S (S 2)) ∨ 1 < bel S (S 2)
    · rw [Nat.pow_succ] at hbb
      have h2t := Nat.one_le_two_pow (n := t)
      generalize hb : bel S (S 2) = b at *
      have hb48 : b ≤ 48 := by
        by_cases c : S 2 = 0
        · have := hb0 S c
          have := hT.2.1
          omega
        · have := hbs S (by omega)
          have := (hT.2.2 (S 2 - 1) (by omega)).1
          omega
      obtain ⟨n1s, n2s, n3s, n4s, n5s⟩ := npg_s hm (show 1 ≤ b by omega)
      have hdn := dealt_n (S := S) (L := S 2) (b := b) h1 hm hm8 (by omega) (by omega) hb48
      obtain ⟨z1, z2, z3, z4⟩ := dsz_s n1s (show 1 ≤ m by omega) n3s
      have zsum := dsz_sum (b := b) (g := npg b m) n1s
      generalize hg : npg b m = g at *
      have hgb : g ≤ b := by
        by_cases c : 2 ≤ b
        · have := n2s c; omega
        · have := n4s (by omega); omega
      have hg2 : g ≤ 2 ^ t := by
        by_cases c : 2 ≤ b
        · have := n2s c; omega
        · have := n4s (by omega); omega
      have ht0 : S 2 = 0 → tot S = 0 := fun q => by unfold tot; rw [q]; rfl
      have htg : tot S + g + g ≤ 49 := by
        by_cases c : 2 ≤ b
        · have := n2s c; omega
        · have := n4s (by omega)
          have := ht0 (by omega)
          omega
      obtain ⟨cpg1, ce1, E1, q1, q2, q3, q4, q5, q6⟩ := dealLevel_n (P := tot S) (b := b) (g := g) (by omega) hb48 (by omega) hcp hce
      -- the row after a level
      have s2 : un (dl S (S 2) b g) 2 (S 2 + 1) 2 = S 2 + 1 := un_s
      have sg : un (dl S (S 2) b g) 2 (S 2 + 1) (3 + S 2) = g := by rw [un_n (by omega)]; exact un_s
      have sn : ∀ j, j ≠ 2 → j ≠ 3 + S 2 → ¬ (12 + 48 * S 2 ≤ j ∧ j < 12 + 48 * S 2 + g) → un (dl S (S 2) b g) 2 (S 2 + 1) j = S j := fun j x1 x2 x3 => by
        rw [un_n x1]
        unfold dl
        rw [un_n x2, if_neg x3]
      have sz : ∀ q, q < g → un (dl S (S 2) b g) 2 (S 2 + 1) (12 + 48 * S 2 + q) = dsz b g q := fun q hq => by
        rw [un_n (by omega)]
        unfold dl
        rw [un_n (by omega), if_pos (by omega), show 12 + 48 * S 2 + q - (12 + 48 * S 2) = q by omega]
      have hd2 : dl S (S 2) b g 2 = S 2 := by
        unfold dl
        rw [un_n (by omega), if_neg (by omega)]
      have hMr : M_deals_L52 v1 k (n1 + 1) (nf S) mp mk mr mn (nI b) (nI (if (S 2 = 0 ∧ 0 < b) ∨ 1 < b then 1 else 0)) = M_deals_L52 v1 k n1 (nf (un (dl S (S 2) b g) 2 (S 2 + 1))) mp mk mr mn (nI g) (nI (if 1 < g then 1 else 0)) := by
        rw [if_pos hc, M_deals_L52, if_neg (by decide), nf_a, hdn, bd2_in, show (1 : Int32) = nI 1 from rfl, il (by omega) (by decide), nf_a, hd2, nI_add, nf_upd]
        by_cases c : g ≤ 1
        · rw [if_pos c, if_neg (by omega)]; rfl
        · rw [if_neg c, if_pos (by omega)]
      have hCr : C3_deal_L28 cc (a 14) (nI m) (fun c_pages c_levels c_most c_entries => some (c_pages, c_levels, c_most, c_entries)) (n2 + 1) cpg clv cm ce (nI b) (nI (S 2)) = C3_deal_L28 cc (a 14) (nI m) (fun c_pages c_levels c_most c_entries => some (c_pages, c_levels, c_most, c_entries)) n2 cpg1 (va_up clv (a 14) (nI (S 2 + 1))) cm ce1 (nI g) (nI (S 2 + 1)) := by
        have e1 : (nI b + nI m - 1) / nI m = nI g := by
          have e0 : nI (b + m) - 1 = nI (b + m - 1) := pk_sub (b := 1) (by omega)
          rw [nI_add, e0, pk_div (by omega) (by omega) (by omega), ← hg]
          rfl
        have hJ : C3_deal_J47 cc (a 14) (nI m) (C3_deal_L28 cc (a 14) (nI m) (fun c_pages c_levels c_most c_entries => some (c_pages, c_levels, c_most, c_entries)) n2) (fun c_pages c_levels c_most c_entries => some (c_pages, c_levels, c_most, c_entries)) cpg clv cm ce (nI b) (nI (S 2)) = C3_deal_L28 cc (a 14) (nI m) (fun c_pages c_levels c_most c_entries => some (c_pages, c_levels, c_most, c_entries)) n2 cpg1 (va_up clv (a 14) (nI (S 2 + 1))) cm ce1 (nI g) (nI (S 2 + 1)) := by
          unfold C3_deal_J47
          rw [gz_n (by omega) (by omega), e1, q1, bd2_in, hcl, nI_p1]
        rw [C3_deal_L28, show (6 : Int32) = nI 6 from rfl, il (by decide) (by omega), if_neg (by omega), nI_z0, il (by omega) (by decide), if_neg (by omega), ie (by omega) (by decide)]
        by_cases c : S 2 = 0
        · rw [if_pos c]; exact hJ
        · rw [if_neg c, show (1 : Int32) = nI 1 from rfl, il (by omega) (by decide), if_neg (by omega)]; exact hJ
      have hE2 : ∀ j, j < tot S → E1 (g + j) = E j := q5
      generalize hSe : un (dl S (S 2) b g) 2 (S 2 + 1) = S2 at *
      have offs : ∀ d u, u + d + 1 = S 2 → off S2 u = off S u + g := by
        intro d
        induction d with
        | zero =>
          intro u hu
          rw [off_step (S := S2) (by omega), off_top (S := S2) (v := u + 1) (by omega), off_top (S := S) (v := u) hu, show 4 + u = 3 + S 2 by omega, sg]
          omega
        | succ d ih2 =>
          intro u hu
          rw [off_step (S := S2) (v := u) (by omega), off_step (S := S) (v := u) (by omega), ih2 (u + 1) (by omega), sn (4 + u) (by omega) (by omega) (by omega)]
          omega
      have htot : tot S2 = tot S + g := by
        by_cases c : S 2 = 0
        · have := ht0 c
          rw [tot_off (by omega), off_top (S := S2) (by omega), this]
          have e3 : S2 (3 + 0) = S2 3 := rfl
          rw [c] at sg
          omega
        · have := offs (S 2 - 1) 0 (by omega)
          rw [tot_off (by omega), tot_off (by omega), this, sn 3 (by decide) (by omega) (by omega)]
          omega
      have hbel2 : bel S2 (S2 2) = g := by
        unfold bel
        rw [s2, if_neg (by omega), show S 2 + 1 - 1 = S 2 by omega, sg]
      have hbelv : ∀ v, v ≤ S 2 → bel S2 v = bel S v := fun v hv => by
        unfold bel
        by_cases c : v = 0
        · rw [if_pos c, if_pos c, sn 0 (by decide) (by omega) (by omega)]
        · rw [if_neg c, if_neg c, sn _ (by omega) (by omega) (by omega)]
      have hsz48 : ∀ v, v < S 2 → ∀ p, p < S (3 + v) → S2 (12 + 48 * v + p) = S (12 + 48 * v + p) := fun v hv p hp => by
        have := (hT.2.2 v hv).1
        exact sn _ (by omega) (by omega) (by omega)
      have hpg2 : ∀ v, v < S 2 → S2 (3 + v) = S (3 + v) := fun v hv => sn _ (by omega) (by omega) (by omega)
      have hvL : ∀ v, v < S2 2 → v < S 2 ∨ v = S 2 := fun v hv => by omega
      have hT2 : TW S2 := by
        refine ⟨by omega, by rw [sn 0 (by decide) (by omega) (by omega)]; exact hT.2.1, fun v hv => ?_⟩
        rcases hvL v hv with q | q
        · have := hT.2.2 v q
          rw [hpg2 v q, hbelv v (by omega), ← this.2]
          exact ⟨this.1, sumN_congr (fun kk hk => hsz48 v q kk hk)⟩
        · rw [q, sg, hbelv _ (Nat.le_refl _), hb]
          refine ⟨by omega, ?_⟩
          refine Eq.trans ?_ zsum
          exact sumN_congr (fun kk hk => sz kk hk)
      obtain ⟨S', E', cpg', clv', ce', r1, r2, r3, r4, r5, r6, r7, r8, r9, r10, r11, r12, r13, r14⟩ := ih n1 n2 S2 E1 cpg1 (va_up clv (a 14) (nI (S 2 + 1))) cm ce1 (by omega) (by omega) (by omega) (by rw [sn 1 (by decide) (by omega) (by omega)]; exact h1) (fun j hj => by rw [sn j (by omega) (by omega) (by omega)]; exact hS j hj) hT2
        (fun v hv => by
          rcases hvL v hv with q | q
          · rw [hpg2 v q]
            exact ⟨(hp1 v q).1, fun p hp => by rw [hsz48 v q p hp]; exact (hp1 v q).2 p hp⟩
          · rw [q, sg]
            exact ⟨n1s, fun p hp => by rw [sz p hp]; exact ⟨z2 hgb p, z1 p⟩⟩)
        (fun v hv h1v p hp => by
          rcases hvL v hv with q | q
          · rw [hpg2 v q] at h1v hp
            rw [hsz48 v q p hp]
            exact hp2 v q h1v p hp
          · rw [q, sg] at h1v hp
            rw [q, sz p hp]
            refine z3 ?_ p
            by_cases c : 2 ≤ b
            · exact n2s c
            · have := n4s (by omega); omega)
        (fun v hv => by
          rw [s2] at hv
          rw [hpg2 v (by omega)]
          by_cases c : v + 1 < S 2
          · exact hp3 v c
          · have e := hbs S (by omega)
            rw [hb, show S 2 - 1 = v by omega] at e
            omega)
        (by rw [hbel2]; exact hg2) (by rw [hbel2, htot]; exact htg) (by rw [htot]; exact q2) (by rw [vu_s, s2]) q3
        (fun v hv p hp => by
          rcases hvL v hv with q | q
          · rw [hpg2 v q] at hp
            have e := offs (S 2 - 1 - v) v (by omega)
            have ot := off_tot (S := S) q
            rw [e, show off S v + g + p = g + (off S v + p) by omega, hE2 _ (by omega), hE v q p hp, hsz48 v q p hp]
          · rw [q, sg] at hp
            rw [q, off_top (by omega), Nat.zero_add, q4 p hp, sz p hp])
      rw [hbel2] at r1 r2
      refine ⟨S', E', cpg', clv', ce', ?_, ?_, r3, r4, r5, r6, r7, r8, r9, r10, r11, r12, r13, fun z hz => ?_⟩
      · rw [hMr, ← r1]
        congr 2
        by_cases c : 1 < g
        · rw [if_pos c, if_pos (Or.inr c)]
        · rw [if_neg c, if_neg (by omega)]
      · rw [hCr, ← r2, s2]
      · obtain ⟨x1, x2, x3⟩ := r14 z hz
        obtain ⟨y1, y2⟩ := q6 z hz
        exact ⟨x1.trans y1, x2.trans (vu_n hz), x3.trans y2⟩
    · exact fin n1 n2 S E cpg clv cm ce (by omega) h1 hS hT hp1 hp2 hp3 hcp hcl hce hE hc
