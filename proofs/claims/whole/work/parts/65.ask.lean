/-! steps with the word that is asked for -/
theorem in_tot (v l m : Int32) : M_in v l m = some 0 ∨ M_in v l m = some 1 := by
  unfold M_in
  split
  · exact Or.inl rfl
  · split
    · exact Or.inl rfl
    · exact Or.inr rfl
theorem in_no {v : Int32} {N : Nat} (hN : N ≤ 1000) (h : v < 0 ∨ nI N ≤ v) : M_in v 0 (nI N - 1) = some 0 := by
  rcases h with h | h
  · exact in_lo h (by decide)
  · refine in_hi ?_
    have e1 : (nI N - nI 1).toInt = ((N : Nat) : Int) - (1 : Nat) := pk_sub_toInt (by omega) (by decide)
    have e2 := nI_toInt (n := N) (by omega)
    rw [Int32.le_iff_toInt_le] at h
    rw [Int32.lt_iff_toInt_lt]
    show (nI N - nI 1).toInt < _
    omega
theorem in_yes {k N : Nat} (hN : N ≤ 1000) (h : k < N) : M_in (nI k) 0 (nI N - 1) = some 1 := by
  refine in_ok (nI_pos (by omega)) ?_
  rw [show nI N - 1 = nI (N - 1) from pk_sub (b := 1) (by omega)]
  exact nI_nlt (by omega) (by omega)
theorem in_c {c m : Nat} (hm : m < 2 ^ 31) (h : c ≤ m) : M_in (nI c) 0 (nI m) = some 1 := in_ok (nI_pos (by omega)) (nI_nlt (by omega) (by omega))
theorem page_no {S : Nat → Nat} {v : Int32} (hx : WX S) (h : v < 0 ∨ nI (tot S) ≤ v) : M_isPage (nf S) v = some 0 := by
  have := (tot_le hx).1
  unfold M_isPage
  rw [manyPages_n hx.1.1.1, bd1_in, in_no (by omega) h, bd1_in, gb_in (Or.inl rfl)]
theorem page_yes {S : Nat → Nat} {k : Nat} (hx : WX S) (h : k < tot S) : M_isPage (nf S) (nI k) = some 1 := by
  have := (tot_le hx).1
  unfold M_isPage
  rw [manyPages_n hx.1.1.1, bd1_in, in_yes (by omega) h, bd1_in, gb_in (Or.inr rfl)]
theorem has_no {a : Nat → Nat} {cpg : Nat → Int32} {P : Nat} {v : Int32} (hP : cpg (a 14) = nI P) (h : v < 0 ∨ nI P ≤ v) : C0_hasPage a cpg v = some 0 := by
  unfold C0_hasPage
  by_cases c : v < 0
  · rw [if_pos c]
  · rw [if_neg c, hP, if_pos (h.resolve_left c)]
theorem has_yes {a : Nat → Nat} {cpg : Nat → Int32} {P k : Nat} (hP : cpg (a 14) = nI P) (h4 : P ≤ 48) (h : k < P) : C0_hasPage a cpg (nI k) = some 1 := by
  unfold C0_hasPage
  rw [ineg (by omega), hP, il (by omega) (by omega), if_neg (by omega)]
theorem stp_add {a : Nat → Nat} {LW LS LK : List Nat} (hA : Ax a LS LK) : Stp_add a LW LS LK (II a LW) := by
  intro c_bytes c_heads c_firsts c_levelOf c_aboveOf c_partings c_signs c_count c_pages c_levels c_most c_page c_known c_guess c_diff c_pieces c_place c_bits c_words c_entries c_bads c_noes c_fulls c_length c_next c_kept c_base c_from c_to c_above c_bit c_lastLeft m_s m_past m_kept m_refused m_text m_asked m_heads m_forkBit m_forkFrom m_forkTo m_wayPage m_wayKnown m_wayGuess m_wayDiff m_wayRead m_wayPlace m_treeBit m_treeLeft m_treeRight m_treeAbove m_pileFrom m_pileTo m_pileAbove m_known m_typed m_askedLength m_entries m_forks m_guess m_diff m_read m_placeOf m_treeForks m_treeDeep hI
  obtain ⟨S, T, ak, tl, al, kn, nx, ⟨rfl, hg, hc, hs⟩, ⟨rfl, rfl, rfl, rfl, ht, hT⟩, ⟨rfl, rfl, hal, hak⟩, hR, ⟨rfl, rfl, rfl, hW, hr⟩⟩ := hI
  rcases word_n (al := al) ht hT hak c_signs c_bits (a 13) with ⟨ak', B, m1, c1, hak', h1, h24, hB⟩ | ⟨ak', B, m, m1, c1, hak'⟩
  · skip
    obtain ⟨hc1, hr1⟩ := up13 hW hg hc hr (nI tl) B
    have ha : aok ak' tl := ⟨h24, fun i _ => hak' i⟩
    have hw13 : va_up c_signs (a 13) (nI tl) (a 13) = nI tl := vu_s
    have hb13 : ∀ b, b < 192 → cb (va_up c_bits (a 13) B (a 13)) b = ab ak' tl b := fun b hb => by rw [vu_s]; exact hB b hb
    obtain ⟨d1, d2, d3, d4, d5, d6, y1, y2, y3, y4, y5, y6, eW, hl⟩ := walkw_n hg hc1 hs hA.2.2.2 h24 hw13 hb13 c_page c_known c_guess c_diff c_pieces c_place c_base c_from c_to c_above c_bit c_lastLeft
    have eT := thc hg hc1 hA.2.2.2 hl
    have eM := there_n hg.1.1 ha
    have eA := ahead_r hg.1.1 ha
    have eR := rank_c hg.1 hc1 hs hA.2.2.2 (ab_bits ak' tl) hl
    have hle := thv_le S ak' tl
    obtain ⟨k1, k2, -, -, -⟩ := rkk_s (ak := ak') (al := tl) hg.1.1
    have h48 := gs48 hg
    have hcc := hc.1
    by_cases ct : thv S ak' tl = 1
    · refine ⟨-3, c_heads, c_firsts, c_levelOf, c_aboveOf, c_partings, va_up c_signs (a 13) (nI tl), c_count, c_pages, c_levels, c_most, d1, d2, d3, d4, d5, d6, va_up c_bits (a 13) B, c_words, c_entries, c_bads, c_noes + 1, c_fulls, nI nx, nI kn, y1, y2, y3, y4, y5, y6, nf S, m_past, m_kept, upd m_refused 1 (m_refused 1 + 1), nf ak', m_heads, m_forkBit, m_forkFrom, m_forkTo, m_wayPage, m_wayKnown, m_wayGuess, m_wayDiff, m_wayRead, m_wayPlace, nI kn, nI tl, m_entries, m_forks, m_guess, m_diff, m_read, m_placeOf, ?_, ?_, ?_⟩
      · unfold C7_add
        rw [c1, bd3_in, if_neg (by decide), eW, bd12_in, eT, bd1_in, ct, if_neg (by decide), rf_no, bd4_in]
      · unfold M_add M_add_J14
        rw [m1, bd3_in, if_neg (by decide), eM, bd1_in, ct, if_neg (by decide), mr_no, bd2_in]
      · exact ⟨S, T, ak', tl, tl, kn, nx, ⟨rfl, hg, hc1, hs⟩, ⟨rfl, rfl, rfl, rfl, ht, hT⟩, ⟨rfl, rfl, h24, hak'⟩, rx_no hR, ⟨rfl, rfl, rfl, hW, hr1⟩⟩
    · have c0 : thv S ak' tl = 0 := by omega
      by_cases cn : S 0 = 48
      · refine ⟨-4, c_heads, c_firsts, c_levelOf, c_aboveOf, c_partings, va_up c_signs (a 13) (nI tl), c_count, c_pages, c_levels, c_most, d1, d2, d3, d4, d5, d6, va_up c_bits (a 13) B, c_words, c_entries, c_bads, c_noes, c_fulls + 1, nI nx, nI kn, y1, y2, y3, y4, y5, y6, nf S, m_past, m_kept, upd m_refused 2 (m_refused 2 + 1), nf ak', m_heads, m_forkBit, m_forkFrom, m_forkTo, m_wayPage, m_wayKnown, m_wayGuess, m_wayDiff, m_wayRead, m_wayPlace, nI kn, nI tl, m_entries, m_forks, m_guess, m_diff, m_read, m_placeOf, ?_, ?_, ?_⟩
        · unfold C7_add
          rw [c1, bd3_in, if_neg (by decide), eW, bd12_in, eT, bd1_in, c0, if_pos (by decide), hcc, cn, if_neg (by decide), rf_full, bd4_in]
        · unfold M_add
          rw [m1, bd3_in, if_neg (by decide), eM, bd1_in, c0, if_pos (by decide), nf_a, cn, if_pos (by decide), mr_full, bd2_in]
        · exact ⟨S, T, ak', tl, tl, kn, nx, ⟨rfl, hg, hc1, hs⟩, ⟨rfl, rfl, rfl, rfl, ht, hT⟩, ⟨rfl, rfl, h24, hak'⟩, rx_full hR, ⟨rfl, rfl, rfl, hW, hr1⟩⟩
      · skip
        obtain ⟨mk, ek, hmk⟩ := aside_n (S := S) m_kept
        obtain ⟨kn', nx', mp', cs', cc', cpg', clv', cm', cbits', ce', e1, e2, g2, g3, g4, g5⟩ := keep_n hA hW hg hc1 hr1 hmk
        obtain ⟨S', q1, q2, ⟨hs1, fb1, ff1, ft1, wp1, wk1, wg1, wd1, wr1, wl1, me1, mf1, mg1, md1, mr1, mp1, q3⟩, ch', cf', cl', ca', cp', cs2, cc2, cpg2, clv2, cbits2, cw2, ce2, q4, q5, q6, q7⟩ := add_n hg g2 hs hA.2.2.2 ha h1 (by omega) (g4.trans hw13) (fun b hb => by rw [g5]; exact hb13 b hb) hl (thv_0 c0) m_heads m_forkBit m_forkFrom m_forkTo m_wayPage m_wayKnown m_wayGuess m_wayDiff m_wayRead m_wayPlace m_entries m_forks m_guess m_diff m_read m_placeOf
        obtain ⟨f1, f2, -⟩ := frm_n hA hW q7 q5 g3
        refine ⟨nI (rkk S (ab ak' tl) tl), ch', cf', cl', ca', cp', cs2, cc2, cpg2, clv2, cm', d1, d2, d3, d4, d5, d6, cbits2, cw2, ce2, c_bads, c_noes, c_fulls, nI nx', nI kn', y1, y2, y3, y4, y5, y6, nf S', mp', mk, m_refused, nf ak', hs1, fb1, ff1, ft1, wp1, wk1, wg1, wd1, wr1, wl1, nI kn', nI tl, me1, mf1, mg1, md1, mr1, mp1, ?_, ?_, ?_⟩
        · unfold C7_add
          rw [c1, bd3_in, if_neg (by decide), eW, bd12_in, eT, bd1_in, c0, if_pos (by decide), hcc, show (48 : Int32) = nI 48 from rfl, ilt (by omega) (by decide), if_pos (by omega), eR, bd1_in, e2, bd9_in, q4, bd12_in]
        · unfold M_add
          rw [m1, bd3_in, if_neg (by decide), eM, bd1_in, c0, if_pos (by decide), nf_a, show (48 : Int32) = nI 48 from rfl, ie (by omega) (by decide), if_neg cn, eA, bd1_in, ek, bd1_in, q3, bd17_in, e1, bd2_in, c0, Nat.sub_zero]
        · exact ⟨S', T, ak', tl, tl, kn', nx', ⟨rfl, q1, q5, q6⟩, ⟨rfl, rfl, rfl, rfl, ht, hT⟩, ⟨rfl, rfl, h24, hak'⟩, hR, ⟨rfl, rfl, rfl, f1, f2⟩⟩
  · refine ⟨-3, c_heads, c_firsts, c_levelOf, c_aboveOf, c_partings, va_up c_signs (a 13) m, c_count, c_pages, c_levels, c_most, c_page, c_known, c_guess, c_diff, c_pieces, c_place, va_up c_bits (a 13) B, c_words, c_entries, c_bads, c_noes + 1, c_fulls, nI nx, nI kn, c_base, c_from, c_to, c_above, c_bit, c_lastLeft, nf S, m_past, m_kept, upd m_refused 1 (m_refused 1 + 1), nf ak', m_heads, m_forkBit, m_forkFrom, m_forkTo, m_wayPage, m_wayKnown, m_wayGuess, m_wayDiff, m_wayRead, m_wayPlace, nI kn, nI al, m_entries, m_forks, m_guess, m_diff, m_read, m_placeOf, ?_, ?_, ?_⟩
    · unfold C7_add
      rw [c1, bd3_in, if_pos rfl, rf_no, bd4_in]
    · unfold M_add M_add_J14
      rw [m1, bd3_in, if_pos rfl, mr_no, bd2_in]
    · exact ⟨S, T, ak', tl, al, kn, nx, ⟨rfl, hg, (up13 hW hg hc hr m B).1, hs⟩, ⟨rfl, rfl, rfl, rfl, ht, hT⟩, ⟨rfl, rfl, hal, hak'⟩, rx_no hR, ⟨rfl, rfl, rfl, hW, (up13 hW hg hc hr m B).2⟩⟩
theorem stp_takeOut {a : Nat → Nat} {LW LS LK : List Nat} (hA : Ax a LS LK) : Stp_takeOut a LW LS LK (II a LW) := by
  intro c_bytes c_heads c_firsts c_levelOf c_aboveOf c_partings c_signs c_count c_pages c_levels c_most c_page c_known c_guess c_diff c_pieces c_place c_bits c_words c_entries c_bads c_noes c_fulls c_length c_next c_kept c_base c_from c_to c_above c_bit c_lastLeft m_s m_past m_kept m_refused m_text m_asked m_heads m_forkBit m_forkFrom m_forkTo m_wayPage m_wayKnown m_wayGuess m_wayDiff m_wayRead m_wayPlace m_treeBit m_treeLeft m_treeRight m_treeAbove m_pileFrom m_pileTo m_pileAbove m_known m_typed m_askedLength m_entries m_forks m_guess m_diff m_read m_placeOf m_treeForks m_treeDeep hI
  obtain ⟨S, T, ak, tl, al, kn, nx, ⟨rfl, hg, hc, hs⟩, ⟨rfl, rfl, rfl, rfl, ht, hT⟩, ⟨rfl, rfl, hal, hak⟩, hR, ⟨rfl, rfl, rfl, hW, hr⟩⟩ := hI
  rcases word_n (al := al) ht hT hak c_signs c_bits (a 13) with ⟨ak', B, m1, c1, hak', h1, h24, hB⟩ | ⟨ak', B, m, m1, c1, hak'⟩
  · skip
    obtain ⟨hc1, hr1⟩ := up13 hW hg hc hr (nI tl) B
    have ha : aok ak' tl := ⟨h24, fun i _ => hak' i⟩
    have hw13 : va_up c_signs (a 13) (nI tl) (a 13) = nI tl := vu_s
    have hb13 : ∀ b, b < 192 → cb (va_up c_bits (a 13) B (a 13)) b = ab ak' tl b := fun b hb => by rw [vu_s]; exact hB b hb
    obtain ⟨d1, d2, d3, d4, d5, d6, y1, y2, y3, y4, y5, y6, eW, hl⟩ := walkw_n hg hc1 hs hA.2.2.2 h24 hw13 hb13 c_page c_known c_guess c_diff c_pieces c_place c_base c_from c_to c_above c_bit c_lastLeft
    have eT := thc hg hc1 hA.2.2.2 hl
    have eM := there_n hg.1.1 ha
    have eA := ahead_r hg.1.1 ha
    have eR := rank_c hg.1 hc1 hs hA.2.2.2 (ab_bits ak' tl) hl
    have hle := thv_le S ak' tl
    obtain ⟨k1, k2, -, -, -⟩ := rkk_s (ak := ak') (al := tl) hg.1.1
    have h48 := gs48 hg
    have hcc := hc.1
    by_cases ct : thv S ak' tl = 1
    · obtain ⟨t0, t1⟩ := thv_1 ct
      obtain ⟨mk, ek, hmk⟩ := aside_n (S := S) m_kept
      obtain ⟨kn', nx', mp', cs', cc', cpg', clv', cm', cbits', ce', e1, e2, g2, g3, g4, g5⟩ := keep_n hA hW hg hc1 hr1 hmk
      obtain ⟨S', q1, q2, ⟨hs1, fb1, ff1, ft1, wp1, wk1, wg1, wd1, wr1, wl1, me1, mf1, mg1, md1, mr1, mp1, q3⟩, ch', cf', cl', ca', cp', cc2, cpg2, clv2, cw2, ce2, q4, q5, q6, q7⟩ := take_n hg g2 hs hA.2.2.2 ha hl t0 t1 m_heads m_forkBit m_forkFrom m_forkTo m_wayPage m_wayKnown m_wayGuess m_wayDiff m_wayRead m_wayPlace m_entries m_forks m_guess m_diff m_read m_placeOf
      obtain ⟨f1, f2, -⟩ := frm_n hA hW q7 q5 g3
      refine ⟨nI (S' 0), ch', cf', cl', ca', cp', cs', cc2, cpg2, clv2, cm', d1, d2, d3, d4, d5, d6, cbits', cw2, ce2, c_bads, c_noes, c_fulls, nI nx', nI kn', y1, y2, y3, y4, y5, y6, nf S', mp', mk, m_refused, nf ak', hs1, fb1, ff1, ft1, wp1, wk1, wg1, wd1, wr1, wl1, nI kn', nI tl, me1, mf1, mg1, md1, mr1, mp1, ?_, ?_, ?_⟩
      · unfold C7_takeOut
        rw [c1, bd3_in, if_neg (by decide), eW, bd12_in, eT, bd1_in, ct, if_neg (by decide), e2, bd9_in, q4, bd10_in, q5.1]
      · unfold M_takeOut
        rw [m1, bd3_in, if_neg (by decide), eM, bd1_in, ct, if_neg (by decide), ek, bd1_in, q3, bd17_in, e1, bd2_in, nf_a]
      · exact ⟨S', T, ak', tl, tl, kn', nx', ⟨rfl, q1, q5, q6⟩, ⟨rfl, rfl, rfl, rfl, ht, hT⟩, ⟨rfl, rfl, h24, hak'⟩, hR, ⟨rfl, rfl, rfl, f1, f2⟩⟩
    · have c0 : thv S ak' tl = 0 := by omega
      refine ⟨-3, c_heads, c_firsts, c_levelOf, c_aboveOf, c_partings, va_up c_signs (a 13) (nI tl), c_count, c_pages, c_levels, c_most, d1, d2, d3, d4, d5, d6, va_up c_bits (a 13) B, c_words, c_entries, c_bads, c_noes + 1, c_fulls, nI nx, nI kn, y1, y2, y3, y4, y5, y6, nf S, m_past, m_kept, upd m_refused 1 (m_refused 1 + 1), nf ak', m_heads, m_forkBit, m_forkFrom, m_forkTo, m_wayPage, m_wayKnown, m_wayGuess, m_wayDiff, m_wayRead, m_wayPlace, nI kn, nI tl, m_entries, m_forks, m_guess, m_diff, m_read, m_placeOf, ?_, ?_, ?_⟩
      · unfold C7_takeOut
        rw [c1, bd3_in, if_neg (by decide), eW, bd12_in, eT, bd1_in, c0, if_pos (by decide), rf_no, bd4_in]
      · unfold M_takeOut M_takeOut_J14
        rw [m1, bd3_in, if_neg (by decide), eM, bd1_in, c0, if_pos (by decide), mr_no, bd2_in]
      · exact ⟨S, T, ak', tl, tl, kn, nx, ⟨rfl, hg, hc1, hs⟩, ⟨rfl, rfl, rfl, rfl, ht, hT⟩, ⟨rfl, rfl, h24, hak'⟩, rx_no hR, ⟨rfl, rfl, rfl, hW, hr1⟩⟩
  · refine ⟨-3, c_heads, c_firsts, c_levelOf, c_aboveOf, c_partings, va_up c_signs (a 13) m, c_count, c_pages, c_levels, c_most, c_page, c_known, c_guess, c_diff, c_pieces, c_place, va_up c_bits (a 13) B, c_words, c_entries, c_bads, c_noes + 1, c_fulls, nI nx, nI kn, c_base, c_from, c_to, c_above, c_bit, c_lastLeft, nf S, m_past, m_kept, upd m_refused 1 (m_refused 1 + 1), nf ak', m_heads, m_forkBit, m_forkFrom, m_forkTo, m_wayPage, m_wayKnown, m_wayGuess, m_wayDiff, m_wayRead, m_wayPlace, nI kn, nI al, m_entries, m_forks, m_guess, m_diff, m_read, m_placeOf, ?_, ?_, ?_⟩
    · unfold C7_takeOut
      rw [c1, bd3_in, if_pos rfl, rf_no, bd4_in]
    · unfold M_takeOut M_takeOut_J14
      rw [m1, bd3_in, if_pos rfl, mr_no, bd2_in]
    · exact ⟨S, T, ak', tl, al, kn, nx, ⟨rfl, hg, (up13 hW hg hc hr m B).1, hs⟩, ⟨rfl, rfl, rfl, rfl, ht, hT⟩, ⟨rfl, rfl, hal, hak'⟩, rx_no hR, ⟨rfl, rfl, rfl, hW, (up13 hW hg hc hr m B).2⟩⟩
theorem stp_finds {a : Nat → Nat} {LW LS LK : List Nat} (hA : Ax a LS LK) : Stp_finds a LW LS LK (II a LW) := by
  intro c_bytes c_heads c_firsts c_levelOf c_aboveOf c_partings c_signs c_count c_pages c_levels c_most c_page c_known c_guess c_diff c_pieces c_place c_bits c_words c_entries c_bads c_noes c_fulls c_length c_next c_kept c_base c_from c_to c_above c_bit c_lastLeft m_s m_past m_kept m_refused m_text m_asked m_heads m_forkBit m_forkFrom m_forkTo m_wayPage m_wayKnown m_wayGuess m_wayDiff m_wayRead m_wayPlace m_treeBit m_treeLeft m_treeRight m_treeAbove m_pileFrom m_pileTo m_pileAbove m_known m_typed m_askedLength m_entries m_forks m_guess m_diff m_read m_placeOf m_treeForks m_treeDeep v1 hI
  obtain ⟨S, T, ak, tl, al, kn, nx, ⟨rfl, hg, hc, hs⟩, ⟨rfl, rfl, rfl, rfl, ht, hT⟩, ⟨rfl, rfl, hal, hak⟩, hR, ⟨rfl, rfl, rfl, hW, hr⟩⟩ := hI
  rcases pk_ix v1 (n := 3) (by decide) with h | h | ⟨c, hc8, rfl⟩
  · refine ⟨-2, c_signs, c_page, c_known, c_guess, c_diff, c_pieces, c_place, c_bits, c_bads + 1, c_noes, c_fulls, c_base, c_from, c_to, c_above, c_bit, c_lastLeft, upd m_refused 0 (m_refused 0 + 1), nf ak, m_heads, m_forkBit, m_forkFrom, m_forkTo, m_wayPage, m_wayKnown, m_wayGuess, m_wayDiff, m_wayRead, m_wayPlace, nI al, m_entries, m_forks, m_guess, m_diff, m_read, m_placeOf, ?_, ?_, ?_⟩
    · unfold C7_finds C7_finds_J9
      rw [if_pos h, rf_bad, bd4_in]
    · unfold M_finds
      rw [in_lo h (by decide), bd1_in, if_pos rfl, mr_bad, bd2_in]
    · exact ⟨S, T, ak, tl, al, kn, nx, ⟨rfl, hg, hc, hs⟩, ⟨rfl, rfl, rfl, rfl, ht, hT⟩, ⟨rfl, rfl, hal, hak⟩, rx_bad hR, ⟨rfl, rfl, rfl, hW, hr⟩⟩
  · obtain ⟨q1, q2, q3⟩ := hi3 h (by decide)
    refine ⟨-2, c_signs, c_page, c_known, c_guess, c_diff, c_pieces, c_place, c_bits, c_bads + 1, c_noes, c_fulls, c_base, c_from, c_to, c_above, c_bit, c_lastLeft, upd m_refused 0 (m_refused 0 + 1), nf ak, m_heads, m_forkBit, m_forkFrom, m_forkTo, m_wayPage, m_wayKnown, m_wayGuess, m_wayDiff, m_wayRead, m_wayPlace, nI al, m_entries, m_forks, m_guess, m_diff, m_read, m_placeOf, ?_, ?_, ?_⟩
    · unfold C7_finds C7_finds_J9
      rw [if_neg q1, if_neg (show ¬ v1 ≤ 2 from q2), rf_bad, bd4_in]
    · unfold M_finds
      rw [in_hi (show (2 : Int32) < v1 from q3), bd1_in, if_pos rfl, mr_bad, bd2_in]
    · exact ⟨S, T, ak, tl, al, kn, nx, ⟨rfl, hg, hc, hs⟩, ⟨rfl, rfl, rfl, rfl, ht, hT⟩, ⟨rfl, rfl, hal, hak⟩, rx_bad hR, ⟨rfl, rfl, rfl, hW, hr⟩⟩
  · have eI : M_in (nI c) 0 2 = some 1 := in_c (m := 2) (by decide) (by omega)
    rcases word_n (al := al) ht hT hak c_signs c_bits (a 13) with ⟨ak', B, m1, c1, hak', h1, h24, hB⟩ | ⟨ak', B, m, m1, c1, hak'⟩
    · skip
      obtain ⟨hc1, hr1⟩ := up13 hW hg hc hr (nI tl) B
      have ha : aok ak' tl := ⟨h24, fun i _ => hak' i⟩
      have hw13 : va_up c_signs (a 13) (nI tl) (a 13) = nI tl := vu_s
      have hb13 : ∀ b, b < 192 → cb (va_up c_bits (a 13) B (a 13)) b = ab ak' tl b := fun b hb => by rw [vu_s]; exact hB b hb
      obtain ⟨d1, d2, d3, d4, d5, d6, y1, y2, y3, y4, y5, y6, eW, hl⟩ := walkw_n hg hc1 hs hA.2.2.2 h24 hw13 hb13 c_page c_known c_guess c_diff c_pieces c_place c_base c_from c_to c_above c_bit c_lastLeft
      have eT := thc hg hc1 hA.2.2.2 hl
      have eM := there_n hg.1.1 ha
      have eA := ahead_r hg.1.1 ha
      have eR := rank_c hg.1 hc1 hs hA.2.2.2 (ab_bits ak' tl) hl
      have hle := thv_le S ak' tl
      obtain ⟨k1, k2, -, -, -⟩ := rkk_s (ak := ak') (al := tl) hg.1.1
      have h48 := gs48 hg
      have hcc := hc.1
      rcases (show c = 0 ∨ c = 1 ∨ c = 2 by omega) with rfl | rfl | rfl
      · refine ⟨nI (rkk S (ab ak' tl) tl), va_up c_signs (a 13) (nI tl), d1, d2, d3, d4, d5, d6, va_up c_bits (a 13) B, c_bads, c_noes, c_fulls, y1, y2, y3, y4, y5, y6, m_refused, nf ak', m_heads, m_forkBit, m_forkFrom, m_forkTo, m_wayPage, m_wayKnown, m_wayGuess, m_wayDiff, m_wayRead, m_wayPlace, nI tl, m_entries, m_forks, m_guess, m_diff, m_read, m_placeOf, ?_, ?_, ?_⟩
        · unfold C7_finds
          rw [ineg (by omega), show (2 : Int32) = nI 2 from rfl, il (by omega) (by decide), if_pos (by omega), c1, bd3_in, if_neg (by decide), eW, bd12_in, if_pos (by decide), eR, bd1_in]
        · unfold M_finds
          rw [eI, bd1_in, if_neg (by decide), m1, bd3_in, if_neg (by decide), if_pos (by decide), eA, bd1_in, eM, bd1_in]
          by_cases ct : thv S ak' tl = 1
          · rw [ct, if_neg (by decide), nI_p1, Nat.sub_add_cancel (by omega)]
          · rw [show thv S ak' tl = 0 by omega, if_pos (by decide), Nat.sub_zero, show nI (rkk S (ab ak' tl) tl) + 0 = nI (rkk S (ab ak' tl) tl) from nI_add _ 0]
        · exact ⟨S, T, ak', tl, tl, kn, nx, ⟨rfl, hg, hc1, hs⟩, ⟨rfl, rfl, rfl, rfl, ht, hT⟩, ⟨rfl, rfl, h24, hak'⟩, hR, ⟨rfl, rfl, rfl, hW, hr1⟩⟩
      · refine ⟨nI (thv S ak' tl), va_up c_signs (a 13) (nI tl), d1, d2, d3, d4, d5, d6, va_up c_bits (a 13) B, c_bads, c_noes, c_fulls, y1, y2, y3, y4, y5, y6, m_refused, nf ak', m_heads, m_forkBit, m_forkFrom, m_forkTo, m_wayPage, m_wayKnown, m_wayGuess, m_wayDiff, m_wayRead, m_wayPlace, nI tl, m_entries, m_forks, m_guess, m_diff, m_read, m_placeOf, ?_, ?_, ?_⟩
        · unfold C7_finds
          rw [ineg (by omega), show (2 : Int32) = nI 2 from rfl, il (by omega) (by decide), if_pos (by omega), c1, bd3_in, if_neg (by decide), eW, bd12_in, if_neg (by decide), if_pos (by decide), eT, bd1_in]
          by_cases ct : thv S ak' tl = 1
          · rw [ct, if_neg (by decide)]; rfl
          · rw [show thv S ak' tl = 0 by omega, if_pos (by decide)]; rfl
        · unfold M_finds
          rw [eI, bd1_in, if_neg (by decide), m1, bd3_in, if_neg (by decide), if_neg (by decide), if_pos (by decide), eM, bd1_in]
          by_cases ct : thv S ak' tl = 1
          · rw [ct, if_neg (by decide)]; rfl
          · rw [show thv S ak' tl = 0 by omega, if_pos (by decide)]; rfl
        · exact ⟨S, T, ak', tl, tl, kn, nx, ⟨rfl, hg, hc1, hs⟩, ⟨rfl, rfl, rfl, rfl, ht, hT⟩, ⟨rfl, rfl, h24, hak'⟩, hR, ⟨rfl, rfl, rfl, hW, hr1⟩⟩
      · have eC := cost_c hg.1 hc1 hA.2.2.2 hl
        obtain ⟨hs1, fb1, ff1, ft1, wp1, wk1, wg1, wd1, wr1, wl1, me1, mf1, mg1, md1, mr1, mp1, eN⟩ := cost_n hg.1.1 ha m_heads m_forkBit m_forkFrom m_forkTo m_wayPage m_wayKnown m_wayGuess m_wayDiff m_wayRead m_wayPlace m_entries m_forks m_guess m_diff m_read m_placeOf
        refine ⟨nI (cst S (ab ak' tl) tl), va_up c_signs (a 13) (nI tl), d1, d2, d3, d4, d5, d6, va_up c_bits (a 13) B, c_bads, c_noes, c_fulls, y1, y2, y3, y4, y5, y6, m_refused, nf ak', hs1, fb1, ff1, ft1, wp1, wk1, wg1, wd1, wr1, wl1, nI tl, me1, mf1, mg1, md1, mr1, mp1, ?_, ?_, ?_⟩
        · unfold C7_finds
          rw [ineg (by omega), show (2 : Int32) = nI 2 from rfl, il (by omega) (by decide), if_pos (by omega), c1, bd3_in, if_neg (by decide), eW, bd12_in, if_neg (by decide), if_neg (by decide), eC, bd1_in]
        · unfold M_finds
          rw [eI, bd1_in, if_neg (by decide), m1, bd3_in, if_neg (by decide), if_neg (by decide), if_neg (by decide), eN, bd17_in]
        · exact ⟨S, T, ak', tl, tl, kn, nx, ⟨rfl, hg, hc1, hs⟩, ⟨rfl, rfl, rfl, rfl, ht, hT⟩, ⟨rfl, rfl, h24, hak'⟩, hR, ⟨rfl, rfl, rfl, hW, hr1⟩⟩
    · refine ⟨-3, va_up c_signs (a 13) m, c_page, c_known, c_guess, c_diff, c_pieces, c_place, va_up c_bits (a 13) B, c_bads, c_noes + 1, c_fulls, c_base, c_from, c_to, c_above, c_bit, c_lastLeft, upd m_refused 1 (m_refused 1 + 1), nf ak', m_heads, m_forkBit, m_forkFrom, m_forkTo, m_wayPage, m_wayKnown, m_wayGuess, m_wayDiff, m_wayRead, m_wayPlace, nI al, m_entries, m_forks, m_guess, m_diff, m_read, m_placeOf, ?_, ?_, ?_⟩
      · unfold C7_finds
        rw [ineg (by omega), show (2 : Int32) = nI 2 from rfl, il (by omega) (by decide), if_pos (by omega), c1, bd3_in, if_pos rfl, rf_no, bd4_in]
      · unfold M_finds
        rw [eI, bd1_in, if_neg (by decide), m1, bd3_in, if_pos rfl, mr_no, bd2_in]
      · exact ⟨S, T, ak', tl, al, kn, nx, ⟨rfl, hg, (up13 hW hg hc hr m B).1, hs⟩, ⟨rfl, rfl, rfl, rfl, ht, hT⟩, ⟨rfl, rfl, hal, hak'⟩, rx_no hR, ⟨rfl, rfl, rfl, hW, (up13 hW hg hc hr m B).2⟩⟩
theorem stp_way {a : Nat → Nat} {LW LS LK : List Nat} (hA : Ax a LS LK) : Stp_way a LW LS LK (II a LW) := by
  intro c_bytes c_heads c_firsts c_levelOf c_aboveOf c_partings c_signs c_count c_pages c_levels c_most c_page c_known c_guess c_diff c_pieces c_place c_bits c_words c_entries c_bads c_noes c_fulls c_length c_next c_kept c_base c_from c_to c_above c_bit c_lastLeft m_s m_past m_kept m_refused m_text m_asked m_heads m_forkBit m_forkFrom m_forkTo m_wayPage m_wayKnown m_wayGuess m_wayDiff m_wayRead m_wayPlace m_treeBit m_treeLeft m_treeRight m_treeAbove m_pileFrom m_pileTo m_pileAbove m_known m_typed m_askedLength m_entries m_forks m_guess m_diff m_read m_placeOf m_treeForks m_treeDeep v1 v2 hI
  obtain ⟨S, T, ak, tl, al, kn, nx, ⟨rfl, hg, hc, hs⟩, ⟨rfl, rfl, rfl, rfl, ht, hT⟩, ⟨rfl, rfl, hal, hak⟩, hR, ⟨rfl, rfl, rfl, hW, hr⟩⟩ := hI
  have h6 := hg.1.1.1.1
  have hlv := hc.2.2.1
  have eTL : M_topLevel (nf S) = some (nI (S 2) - 1) := rfl
  rcases pk_ix v2 (n := 6) (by decide) with h | h | ⟨c, hc8, rfl⟩
  · refine ⟨-2, c_signs, c_page, c_known, c_guess, c_diff, c_pieces, c_place, c_bits, c_bads + 1, c_noes, c_fulls, c_base, c_from, c_to, c_above, c_bit, c_lastLeft, upd m_refused 0 (m_refused 0 + 1), nf ak, m_heads, m_forkBit, m_forkFrom, m_forkTo, m_wayPage, m_wayKnown, m_wayGuess, m_wayDiff, m_wayRead, m_wayPlace, nI al, m_entries, m_forks, m_guess, m_diff, m_read, m_placeOf, ?_, ?_, ?_⟩
    · unfold C7_way C7_way_J27
      rw [if_pos h, rf_bad, bd4_in]
    · unfold M_way M_way_J21
      rcases in_tot v1 0 (nI (S 2) - 1) with q | q <;> rw [eTL, bd1_in, q, bd1_in] <;> first | rw [if_pos rfl, mr_bad, bd2_in] | rw [if_neg (by decide), in_lo h (by decide), bd1_in, if_pos rfl, mr_bad, bd2_in]
    · exact ⟨S, T, ak, tl, al, kn, nx, ⟨rfl, hg, hc, hs⟩, ⟨rfl, rfl, rfl, rfl, ht, hT⟩, ⟨rfl, rfl, hal, hak⟩, rx_bad hR, ⟨rfl, rfl, rfl, hW, hr⟩⟩
  · obtain ⟨q1, q2, q3⟩ := hi3 h (by decide)
    refine ⟨-2, c_signs, c_page, c_known, c_guess, c_diff, c_pieces, c_place, c_bits, c_bads + 1, c_noes, c_fulls, c_base, c_from, c_to, c_above, c_bit, c_lastLeft, upd m_refused 0 (m_refused 0 + 1), nf ak, m_heads, m_forkBit, m_forkFrom, m_forkTo, m_wayPage, m_wayKnown, m_wayGuess, m_wayDiff, m_wayRead, m_wayPlace, nI al, m_entries, m_forks, m_guess, m_diff, m_read, m_placeOf, ?_, ?_, ?_⟩
    · unfold C7_way C7_way_J27
      rw [if_neg q1, if_pos (show (5 : Int32) < v2 from q3), rf_bad, bd4_in]
    · unfold M_way M_way_J21
      rcases in_tot v1 0 (nI (S 2) - 1) with q | q <;> rw [eTL, bd1_in, q, bd1_in] <;> first | rw [if_pos rfl, mr_bad, bd2_in] | rw [if_neg (by decide), in_hi (show (5 : Int32) < v2 from q3), bd1_in, if_pos rfl, mr_bad, bd2_in]
    · exact ⟨S, T, ak, tl, al, kn, nx, ⟨rfl, hg, hc, hs⟩, ⟨rfl, rfl, rfl, rfl, ht, hT⟩, ⟨rfl, rfl, hal, hak⟩, rx_bad hR, ⟨rfl, rfl, rfl, hW, hr⟩⟩
  · have eI : M_in (nI c) 0 5 = some 1 := in_c (m := 5) (by decide) (by omega)
    rcases pk_ix v1 (n := S 2) (by omega) with h | h | ⟨k, hk, rfl⟩
    · refine ⟨-2, c_signs, c_page, c_known, c_guess, c_diff, c_pieces, c_place, c_bits, c_bads + 1, c_noes, c_fulls, c_base, c_from, c_to, c_above, c_bit, c_lastLeft, upd m_refused 0 (m_refused 0 + 1), nf ak, m_heads, m_forkBit, m_forkFrom, m_forkTo, m_wayPage, m_wayKnown, m_wayGuess, m_wayDiff, m_wayRead, m_wayPlace, nI al, m_entries, m_forks, m_guess, m_diff, m_read, m_placeOf, ?_, ?_, ?_⟩
      · unfold C7_way C7_way_J27
        rw [ineg (by omega), if_neg (show ¬ 5 < nI c from (show ¬ nI 5 < nI c from nI_nlt (by omega) (by omega))), if_pos h, rf_bad, bd4_in]
      · unfold M_way M_way_J21
        rw [eTL, bd1_in, in_no (by omega) (Or.inl h), bd1_in, if_pos rfl, mr_bad, bd2_in]
      · exact ⟨S, T, ak, tl, al, kn, nx, ⟨rfl, hg, hc, hs⟩, ⟨rfl, rfl, rfl, rfl, ht, hT⟩, ⟨rfl, rfl, hal, hak⟩, rx_bad hR, ⟨rfl, rfl, rfl, hW, hr⟩⟩
    · have q1 : ¬ v1 < 0 := fun q => absurd h (lo3 (n := S 2) q (by omega)).2.1
      have q2 : ¬ v1 < nI (S 2) := fun q => by rw [Int32.lt_iff_toInt_lt] at q; rw [Int32.le_iff_toInt_le] at h; omega
      refine ⟨-2, c_signs, c_page, c_known, c_guess, c_diff, c_pieces, c_place, c_bits, c_bads + 1, c_noes, c_fulls, c_base, c_from, c_to, c_above, c_bit, c_lastLeft, upd m_refused 0 (m_refused 0 + 1), nf ak, m_heads, m_forkBit, m_forkFrom, m_forkTo, m_wayPage, m_wayKnown, m_wayGuess, m_wayDiff, m_wayRead, m_wayPlace, nI al, m_entries, m_forks, m_guess, m_diff, m_read, m_placeOf, ?_, ?_, ?_⟩
      · unfold C7_way C7_way_J27
        rw [ineg (by omega), if_neg (show ¬ 5 < nI c from (show ¬ nI 5 < nI c from nI_nlt (by omega) (by omega))), if_neg q1, hlv, if_neg q2, rf_bad, bd4_in]
      · unfold M_way M_way_J21
        rw [eTL, bd1_in, in_no (by omega) (Or.inr h), bd1_in, if_pos rfl, mr_bad, bd2_in]
      · exact ⟨S, T, ak, tl, al, kn, nx, ⟨rfl, hg, hc, hs⟩, ⟨rfl, rfl, rfl, rfl, ht, hT⟩, ⟨rfl, rfl, hal, hak⟩, rx_bad hR, ⟨rfl, rfl, rfl, hW, hr⟩⟩
    · have eK := in_yes (k := k) (N := S 2) (by omega) hk
      rcases word_n (al := al) ht hT hak c_signs c_bits (a 13) with ⟨ak', B, m1, c1, hak', h1, h24, hB⟩ | ⟨ak', B, m, m1, c1, hak'⟩
      · skip
        obtain ⟨hc1, hr1⟩ := up13 hW hg hc hr (nI tl) B
        have ha : aok ak' tl := ⟨h24, fun i _ => hak' i⟩
        have hw13 : va_up c_signs (a 13) (nI tl) (a 13) = nI tl := vu_s
        have hb13 : ∀ b, b < 192 → cb (va_up c_bits (a 13) B (a 13)) b = ab ak' tl b := fun b hb => by rw [vu_s]; exact hB b hb
        obtain ⟨d1, d2, d3, d4, d5, d6, y1, y2, y3, y4, y5, y6, eW, hl⟩ := walkw_n hg hc1 hs hA.2.2.2 h24 hw13 hb13 c_page c_known c_guess c_diff c_pieces c_place c_base c_from c_to c_above c_bit c_lastLeft
        have eT := thc hg hc1 hA.2.2.2 hl
        have eM := there_n hg.1.1 ha
        have eA := ahead_r hg.1.1 ha
        have eR := rank_c hg.1 hc1 hs hA.2.2.2 (ab_bits ak' tl) hl
        have hle := thv_le S ak' tl
        obtain ⟨k1, k2, -, -, -⟩ := rkk_s (ak := ak') (al := tl) hg.1.1
        have h48 := gs48 hg
        have hcc := hc.1
        obtain ⟨hs1, fb1, ff1, ft1, wp1, wk1, wg1, wd1, wr1, wl1, me1, mf1, mg1, md1, mr1, mp1, eN, hwy⟩ := goes_n hg.1.1 ha m_heads m_forkBit m_forkFrom m_forkTo m_wayPage m_wayKnown m_wayGuess m_wayDiff m_wayRead m_wayPlace m_entries m_forks m_guess m_diff m_read m_placeOf
        obtain ⟨a1, a2, a3, a4, a5, a6⟩ := hl k hk
        obtain ⟨b1, b2, b3, b4, b5, b6⟩ := hwy k hk
        have eL := lookOf_n hA.2.2.2 (l := k) (by omega)
        have hmk := hA.2.2.2.1 k (by omega)
        rcases (show c = 0 ∨ c = 1 ∨ c = 2 ∨ c = 3 ∨ c = 4 ∨ c = 5 by omega) with rfl | rfl | rfl | rfl | rfl | rfl
        · refine ⟨nI (off S k + WP S (ab ak' tl) tl k), va_up c_signs (a 13) (nI tl), d1, d2, d3, d4, d5, d6, va_up c_bits (a 13) B, c_bads, c_noes, c_fulls, y1, y2, y3, y4, y5, y6, m_refused, nf ak', hs1, fb1, ff1, ft1, wp1, wk1, wg1, wd1, wr1, wl1, nI tl, me1, mf1, mg1, md1, mr1, mp1, ?_, ?_, ?_⟩
          · unfold C7_way
            rw [ineg (by decide), if_neg (by decide), ineg (by omega), hlv, ilt (by omega) (by omega), if_pos hk, c1, bd3_in, if_neg (by decide), eW, bd12_in, eL, bd1_in, gm_in hmk, if_pos (by decide), a1]
          · unfold M_way
            rw [eTL, bd1_in, eK, bd1_in, if_neg (by decide), eI, bd1_in, if_neg (by decide), m1, bd3_in, if_neg (by decide), eN, bd16_in, if_pos (by decide), ga_j (by omega) (by decide), nI_clamp (by omega), b1, numberOf_n h6 hk, bd1_in, Nat.add_comm]
          · exact ⟨S, T, ak', tl, tl, kn, nx, ⟨rfl, hg, hc1, hs⟩, ⟨rfl, rfl, rfl, rfl, ht, hT⟩, ⟨rfl, rfl, h24, hak'⟩, hR, ⟨rfl, rfl, rfl, hW, hr1⟩⟩
        · refine ⟨nI (WK S (ab ak' tl) tl k), va_up c_signs (a 13) (nI tl), d1, d2, d3, d4, d5, d6, va_up c_bits (a 13) B, c_bads, c_noes, c_fulls, y1, y2, y3, y4, y5, y6, m_refused, nf ak', hs1, fb1, ff1, ft1, wp1, wk1, wg1, wd1, wr1, wl1, nI tl, me1, mf1, mg1, md1, mr1, mp1, ?_, ?_, ?_⟩
          · unfold C7_way
            rw [ineg (by decide), if_neg (by decide), ineg (by omega), hlv, ilt (by omega) (by omega), if_pos hk, c1, bd3_in, if_neg (by decide), eW, bd12_in, eL, bd1_in, gm_in hmk, if_neg (by decide), if_pos (by decide), a2]
          · unfold M_way
            rw [eTL, bd1_in, eK, bd1_in, if_neg (by decide), eI, bd1_in, if_neg (by decide), m1, bd3_in, if_neg (by decide), eN, bd16_in, if_neg (by decide), if_pos (by decide), ga_j (by omega) (by decide), nI_clamp (by omega), b2]
          · exact ⟨S, T, ak', tl, tl, kn, nx, ⟨rfl, hg, hc1, hs⟩, ⟨rfl, rfl, rfl, rfl, ht, hT⟩, ⟨rfl, rfl, h24, hak'⟩, hR, ⟨rfl, rfl, rfl, hW, hr1⟩⟩
        · refine ⟨nI (wG S (ab ak' tl) k (WP S (ab ak' tl) tl k)), va_up c_signs (a 13) (nI tl), d1, d2, d3, d4, d5, d6, va_up c_bits (a 13) B, c_bads, c_noes, c_fulls, y1, y2, y3, y4, y5, y6, m_refused, nf ak', hs1, fb1, ff1, ft1, wp1, wk1, wg1, wd1, wr1, wl1, nI tl, me1, mf1, mg1, md1, mr1, mp1, ?_, ?_, ?_⟩
          · unfold C7_way
            rw [ineg (by decide), if_neg (by decide), ineg (by omega), hlv, ilt (by omega) (by omega), if_pos hk, c1, bd3_in, if_neg (by decide), eW, bd12_in, eL, bd1_in, gm_in hmk, if_neg (by decide), if_neg (by decide), if_pos (by decide), a3]
          · unfold M_way
            rw [eTL, bd1_in, eK, bd1_in, if_neg (by decide), eI, bd1_in, if_neg (by decide), m1, bd3_in, if_neg (by decide), eN, bd16_in, if_neg (by decide), if_neg (by decide), if_pos (by decide), ga_j (by omega) (by decide), nI_clamp (by omega), b3]
          · exact ⟨S, T, ak', tl, tl, kn, nx, ⟨rfl, hg, hc1, hs⟩, ⟨rfl, rfl, rfl, rfl, ht, hT⟩, ⟨rfl, rfl, h24, hak'⟩, hR, ⟨rfl, rfl, rfl, hW, hr1⟩⟩
        · refine ⟨enc (wD S (ab ak' tl) k (WP S (ab ak' tl) tl k)), va_up c_signs (a 13) (nI tl), d1, d2, d3, d4, d5, d6, va_up c_bits (a 13) B, c_bads, c_noes, c_fulls, y1, y2, y3, y4, y5, y6, m_refused, nf ak', hs1, fb1, ff1, ft1, wp1, wk1, wg1, wd1, wr1, wl1, nI tl, me1, mf1, mg1, md1, mr1, mp1, ?_, ?_, ?_⟩
          · unfold C7_way
            rw [ineg (by decide), if_neg (by decide), ineg (by omega), hlv, ilt (by omega) (by omega), if_pos hk, c1, bd3_in, if_neg (by decide), eW, bd12_in, eL, bd1_in, gm_in hmk, if_neg (by decide), if_neg (by decide), if_neg (by decide), if_pos (by decide), a4]
          · unfold M_way
            rw [eTL, bd1_in, eK, bd1_in, if_neg (by decide), eI, bd1_in, if_neg (by decide), m1, bd3_in, if_neg (by decide), eN, bd16_in, if_neg (by decide), if_neg (by decide), if_neg (by decide), if_pos (by decide), ga_j (by omega) (by decide), nI_clamp (by omega), b4]
          · exact ⟨S, T, ak', tl, tl, kn, nx, ⟨rfl, hg, hc1, hs⟩, ⟨rfl, rfl, rfl, rfl, ht, hT⟩, ⟨rfl, rfl, h24, hak'⟩, hR, ⟨rfl, rfl, rfl, hW, hr1⟩⟩
        · refine ⟨nI (wR S (ab ak' tl) k (WP S (ab ak' tl) tl k) (WK S (ab ak' tl) tl k)), va_up c_signs (a 13) (nI tl), d1, d2, d3, d4, d5, d6, va_up c_bits (a 13) B, c_bads, c_noes, c_fulls, y1, y2, y3, y4, y5, y6, m_refused, nf ak', hs1, fb1, ff1, ft1, wp1, wk1, wg1, wd1, wr1, wl1, nI tl, me1, mf1, mg1, md1, mr1, mp1, ?_, ?_, ?_⟩
          · unfold C7_way
            rw [ineg (by decide), if_neg (by decide), ineg (by omega), hlv, ilt (by omega) (by omega), if_pos hk, c1, bd3_in, if_neg (by decide), eW, bd12_in, eL, bd1_in, gm_in hmk, if_neg (by decide), if_neg (by decide), if_neg (by decide), if_neg (by decide), if_pos (by decide), a5]
          · unfold M_way
            rw [eTL, bd1_in, eK, bd1_in, if_neg (by decide), eI, bd1_in, if_neg (by decide), m1, bd3_in, if_neg (by decide), eN, bd16_in, if_neg (by decide), if_neg (by decide), if_neg (by decide), if_neg (by decide), if_pos (by decide), ga_j (by omega) (by decide), nI_clamp (by omega), b5]
          · exact ⟨S, T, ak', tl, tl, kn, nx, ⟨rfl, hg, hc1, hs⟩, ⟨rfl, rfl, rfl, rfl, ht, hT⟩, ⟨rfl, rfl, h24, hak'⟩, hR, ⟨rfl, rfl, rfl, hW, hr1⟩⟩
        · refine ⟨nI (wL S (ab ak' tl) k (WP S (ab ak' tl) tl k)), va_up c_signs (a 13) (nI tl), d1, d2, d3, d4, d5, d6, va_up c_bits (a 13) B, c_bads, c_noes, c_fulls, y1, y2, y3, y4, y5, y6, m_refused, nf ak', hs1, fb1, ff1, ft1, wp1, wk1, wg1, wd1, wr1, wl1, nI tl, me1, mf1, mg1, md1, mr1, mp1, ?_, ?_, ?_⟩
          · unfold C7_way
            rw [ineg (by decide), if_neg (by decide), ineg (by omega), hlv, ilt (by omega) (by omega), if_pos hk, c1, bd3_in, if_neg (by decide), eW, bd12_in, eL, bd1_in, gm_in hmk, if_neg (by decide), if_neg (by decide), if_neg (by decide), if_neg (by decide), if_neg (by decide), a6]
          · unfold M_way
            rw [eTL, bd1_in, eK, bd1_in, if_neg (by decide), eI, bd1_in, if_neg (by decide), m1, bd3_in, if_neg (by decide), eN, bd16_in, if_neg (by decide), if_neg (by decide), if_neg (by decide), if_neg (by decide), if_neg (by decide), ga_j (by omega) (by decide), nI_clamp (by omega), b6]
          · exact ⟨S, T, ak', tl, tl, kn, nx, ⟨rfl, hg, hc1, hs⟩, ⟨rfl, rfl, rfl, rfl, ht, hT⟩, ⟨rfl, rfl, h24, hak'⟩, hR, ⟨rfl, rfl, rfl, hW, hr1⟩⟩
      · refine ⟨-3, va_up c_signs (a 13) m, c_page, c_known, c_guess, c_diff, c_pieces, c_place, va_up c_bits (a 13) B, c_bads, c_noes + 1, c_fulls, c_base, c_from, c_to, c_above, c_bit, c_lastLeft, upd m_refused 1 (m_refused 1 + 1), nf ak', m_heads, m_forkBit, m_forkFrom, m_forkTo, m_wayPage, m_wayKnown, m_wayGuess, m_wayDiff, m_wayRead, m_wayPlace, nI al, m_entries, m_forks, m_guess, m_diff, m_read, m_placeOf, ?_, ?_, ?_⟩
        · unfold C7_way
          rw [ineg (by omega), if_neg (show ¬ 5 < nI c from (show ¬ nI 5 < nI c from nI_nlt (by omega) (by omega))), ineg (by omega), hlv, ilt (by omega) (by omega), if_pos hk, c1, bd3_in, if_pos rfl, rf_no, bd4_in]
        · unfold M_way
          rw [eTL, bd1_in, eK, bd1_in, if_neg (by decide), eI, bd1_in, if_neg (by decide), m1, bd3_in, if_pos rfl, mr_no, bd2_in]
        · exact ⟨S, T, ak', tl, al, kn, nx, ⟨rfl, hg, (up13 hW hg hc hr m B).1, hs⟩, ⟨rfl, rfl, rfl, rfl, ht, hT⟩, ⟨rfl, rfl, hal, hak'⟩, rx_no hR, ⟨rfl, rfl, rfl, hW, (up13 hW hg hc hr m B).2⟩⟩
theorem stp_looks {a : Nat → Nat} {LW LS LK : List Nat} (hA : Ax a LS LK) : Stp_looks a LW LS LK (II a LW) := by
  intro c_bytes c_heads c_firsts c_levelOf c_aboveOf c_partings c_signs c_count c_pages c_levels c_most c_page c_known c_guess c_diff c_pieces c_place c_bits c_words c_entries c_bads c_noes c_fulls c_length c_next c_kept c_base c_from c_to c_above c_bit c_lastLeft m_s m_past m_kept m_refused m_text m_asked m_heads m_forkBit m_forkFrom m_forkTo m_wayPage m_wayKnown m_wayGuess m_wayDiff m_wayRead m_wayPlace m_treeBit m_treeLeft m_treeRight m_treeAbove m_pileFrom m_pileTo m_pileAbove m_known m_typed m_askedLength m_entries m_forks m_guess m_diff m_read m_placeOf m_treeForks m_treeDeep v1 v2 hI
  obtain ⟨S, T, ak, tl, al, kn, nx, ⟨rfl, hg, hc, hs⟩, ⟨rfl, rfl, rfl, rfl, ht, hT⟩, ⟨rfl, rfl, hal, hak⟩, hR, ⟨rfl, rfl, rfl, hW, hr⟩⟩ := hI
  have hx := hg.1
  have hpg := hc.2.1
  have ht48 := (tot_le hx).1
  have hpt : M_isPage (nf S) v1 = some 0 ∨ M_isPage (nf S) v1 = some 1 := by
    rcases pk_ix v1 (n := tot S) (by omega) with h | h | ⟨k, hk, rfl⟩
    · exact Or.inl (page_no hx (Or.inl h))
    · exact Or.inl (page_no hx (Or.inr h))
    · exact Or.inr (page_yes hx hk)
  rcases pk_ix v2 (n := 4) (by decide) with h | h | ⟨c, hc8, rfl⟩
  · refine ⟨-2, c_signs, c_page, c_known, c_guess, c_diff, c_pieces, c_place, c_bits, c_bads + 1, c_noes, c_fulls, c_base, c_from, c_to, c_above, c_bit, c_lastLeft, upd m_refused 0 (m_refused 0 + 1), nf ak, m_heads, m_forkBit, m_forkFrom, m_forkTo, nI al, m_entries, m_forks, m_guess, m_diff, m_read, m_placeOf, ?_, ?_, ?_⟩
    · unfold C7_looks C7_looks_J20
      rw [if_pos h, rf_bad, bd4_in]
    · unfold M_looks M_looks_J17
      rcases hpt with q | q <;> rw [q, bd1_in] <;> first | rw [if_pos rfl, mr_bad, bd2_in] | rw [if_neg (by decide), in_lo h (by decide), bd1_in, if_pos rfl, mr_bad, bd2_in]
    · exact ⟨S, T, ak, tl, al, kn, nx, ⟨rfl, hg, hc, hs⟩, ⟨rfl, rfl, rfl, rfl, ht, hT⟩, ⟨rfl, rfl, hal, hak⟩, rx_bad hR, ⟨rfl, rfl, rfl, hW, hr⟩⟩
  · obtain ⟨q1, q2, q3⟩ := hi3 h (by decide)
    refine ⟨-2, c_signs, c_page, c_known, c_guess, c_diff, c_pieces, c_place, c_bits, c_bads + 1, c_noes, c_fulls, c_base, c_from, c_to, c_above, c_bit, c_lastLeft, upd m_refused 0 (m_refused 0 + 1), nf ak, m_heads, m_forkBit, m_forkFrom, m_forkTo, nI al, m_entries, m_forks, m_guess, m_diff, m_read, m_placeOf, ?_, ?_, ?_⟩
    · unfold C7_looks C7_looks_J20
      rw [if_neg q1, if_pos (show (3 : Int32) < v2 from q3), rf_bad, bd4_in]
    · unfold M_looks M_looks_J17
      rcases hpt with q | q <;> rw [q, bd1_in] <;> first | rw [if_pos rfl, mr_bad, bd2_in] | rw [if_neg (by decide), in_hi (show (3 : Int32) < v2 from q3), bd1_in, if_pos rfl, mr_bad, bd2_in]
    · exact ⟨S, T, ak, tl, al, kn, nx, ⟨rfl, hg, hc, hs⟩, ⟨rfl, rfl, rfl, rfl, ht, hT⟩, ⟨rfl, rfl, hal, hak⟩, rx_bad hR, ⟨rfl, rfl, rfl, hW, hr⟩⟩
  · have eI : M_in (nI c) 0 3 = some 1 := in_c (m := 3) (by decide) (by omega)
    rcases pk_ix v1 (n := tot S) (by omega) with h | h | ⟨k, hk, rfl⟩
    · refine ⟨-2, c_signs, c_page, c_known, c_guess, c_diff, c_pieces, c_place, c_bits, c_bads + 1, c_noes, c_fulls, c_base, c_from, c_to, c_above, c_bit, c_lastLeft, upd m_refused 0 (m_refused 0 + 1), nf ak, m_heads, m_forkBit, m_forkFrom, m_forkTo, nI al, m_entries, m_forks, m_guess, m_diff, m_read, m_placeOf, ?_, ?_, ?_⟩
      · unfold C7_looks C7_looks_J20
        rw [ineg (by omega), if_neg (show ¬ 3 < nI c from (show ¬ nI 3 < nI c from nI_nlt (by omega) (by omega))), has_no hpg (Or.inl h), bd1_in, if_pos rfl, rf_bad, bd4_in]
      · unfold M_looks M_looks_J17
        rw [page_no hx (Or.inl h), bd1_in, if_pos rfl, mr_bad, bd2_in]
      · exact ⟨S, T, ak, tl, al, kn, nx, ⟨rfl, hg, hc, hs⟩, ⟨rfl, rfl, rfl, rfl, ht, hT⟩, ⟨rfl, rfl, hal, hak⟩, rx_bad hR, ⟨rfl, rfl, rfl, hW, hr⟩⟩
    · refine ⟨-2, c_signs, c_page, c_known, c_guess, c_diff, c_pieces, c_place, c_bits, c_bads + 1, c_noes, c_fulls, c_base, c_from, c_to, c_above, c_bit, c_lastLeft, upd m_refused 0 (m_refused 0 + 1), nf ak, m_heads, m_forkBit, m_forkFrom, m_forkTo, nI al, m_entries, m_forks, m_guess, m_diff, m_read, m_placeOf, ?_, ?_, ?_⟩
      · unfold C7_looks C7_looks_J20
        rw [ineg (by omega), if_neg (show ¬ 3 < nI c from (show ¬ nI 3 < nI c from nI_nlt (by omega) (by omega))), has_no hpg (Or.inr h), bd1_in, if_pos rfl, rf_bad, bd4_in]
      · unfold M_looks M_looks_J17
        rw [page_no hx (Or.inr h), bd1_in, if_pos rfl, mr_bad, bd2_in]
      · exact ⟨S, T, ak, tl, al, kn, nx, ⟨rfl, hg, hc, hs⟩, ⟨rfl, rfl, rfl, rfl, ht, hT⟩, ⟨rfl, rfl, hal, hak⟩, rx_bad hR, ⟨rfl, rfl, rfl, hW, hr⟩⟩
    · have eK := page_yes hx hk
      have eH := has_yes (a := a) hpg ht48 hk
      rcases word_n (al := al) ht hT hak c_signs c_bits (a 13) with ⟨ak', B, m1, c1, hak', h1, h24, hB⟩ | ⟨ak', B, m, m1, c1, hak'⟩
      · skip
        obtain ⟨hc1, hr1⟩ := up13 hW hg hc hr (nI tl) B
        have ha : aok ak' tl := ⟨h24, fun i _ => hak' i⟩
        have hw13 : va_up c_signs (a 13) (nI tl) (a 13) = nI tl := vu_s
        have hb13 : ∀ b, b < 192 → cb (va_up c_bits (a 13) B (a 13)) b = ab ak' tl b := fun b hb => by rw [vu_s]; exact hB b hb
        obtain ⟨v, p, hv, hp, rfl⟩ := page_of hx.1 hk
        obtain ⟨y1, y2, y3, y4, y5, y6, eW⟩ := look_c hx hc1 hs (kn := 0) (w := a 13) hv hp (by omega) c_page c_known c_guess c_diff c_pieces c_place c_base c_from c_to c_above c_bit c_lastLeft (a 15)
        obtain ⟨z1, z2, z3⟩ := look_W hx.1 hb13 hv hp
        have z4 : wR S (cb (va_up c_bits (a 13) B (a 13))) v p 0 = wR S (ab ak' tl) v p 0 := by unfold wR; rw [z2, z1]
        rw [z1, z2, z3, z4] at eW
        have eW : _ = _ := eW
        obtain ⟨hs1, fb1, ff1, ft1, me1, mf1, eN, -⟩ := looks_n hx.1 ha (kn := 0) hv hp (by omega) m_heads m_forkBit m_forkFrom m_forkTo m_entries m_forks m_guess m_diff m_read m_placeOf
        rcases (show c = 0 ∨ c = 1 ∨ c = 2 ∨ c = 3 by omega) with rfl | rfl | rfl | rfl
        · refine ⟨nI (wG S (ab ak' tl) v p), va_up c_signs (a 13) (nI tl), va_up c_page (a 15) (nI (off S v + p)), va_up c_known (a 15) (nI 0), va_up c_guess (a 15) (nI (wG S (ab ak' tl) v p)), va_up c_diff (a 15) (enc (wD S (ab ak' tl) v p)), va_up c_pieces (a 15) (nI (wR S (ab ak' tl) v p 0)), va_up c_place (a 15) (nI (wL S (ab ak' tl) v p)), va_up c_bits (a 13) B, c_bads, c_noes, c_fulls, y1, y2, y3, y4, y5, y6, m_refused, nf ak', hs1, fb1, ff1, ft1, nI tl, me1, mf1, nI (wG S (ab ak' tl) v p), enc (wD S (ab ak' tl) v p), nI (wR S (ab ak' tl) v p 0), nI (wL S (ab ak' tl) v p), ?_, ?_, ?_⟩
          · unfold C7_looks
            rw [ineg (by decide), if_neg (by decide), eH, bd1_in, if_neg (by decide), c1, bd3_in, if_neg (by decide), show (0 : Int32) = nI 0 from rfl, eW, bd12_in, if_pos (by decide), vu_s]
          · unfold M_looks
            rw [eK, bd1_in, if_neg (by decide), eI, bd1_in, if_neg (by decide), m1, bd3_in, if_neg (by decide), levelOf_n hx.1.1 hv hp, bd1_in, pageOf_n hx.1.1 hv hp, bd1_in, show (0 : Int32) = nI 0 from rfl, eN, bd10_in, if_pos (by decide)]
          · exact ⟨S, T, ak', tl, tl, kn, nx, ⟨rfl, hg, hc1, hs⟩, ⟨rfl, rfl, rfl, rfl, ht, hT⟩, ⟨rfl, rfl, h24, hak'⟩, hR, ⟨rfl, rfl, rfl, hW, hr1⟩⟩
        · refine ⟨enc (wD S (ab ak' tl) v p), va_up c_signs (a 13) (nI tl), va_up c_page (a 15) (nI (off S v + p)), va_up c_known (a 15) (nI 0), va_up c_guess (a 15) (nI (wG S (ab ak' tl) v p)), va_up c_diff (a 15) (enc (wD S (ab ak' tl) v p)), va_up c_pieces (a 15) (nI (wR S (ab ak' tl) v p 0)), va_up c_place (a 15) (nI (wL S (ab ak' tl) v p)), va_up c_bits (a 13) B, c_bads, c_noes, c_fulls, y1, y2, y3, y4, y5, y6, m_refused, nf ak', hs1, fb1, ff1, ft1, nI tl, me1, mf1, nI (wG S (ab ak' tl) v p), enc (wD S (ab ak' tl) v p), nI (wR S (ab ak' tl) v p 0), nI (wL S (ab ak' tl) v p), ?_, ?_, ?_⟩
          · unfold C7_looks
            rw [ineg (by decide), if_neg (by decide), eH, bd1_in, if_neg (by decide), c1, bd3_in, if_neg (by decide), show (0 : Int32) = nI 0 from rfl, eW, bd12_in, if_neg (by decide), if_pos (by decide), vu_s]
          · unfold M_looks
            rw [eK, bd1_in, if_neg (by decide), eI, bd1_in, if_neg (by decide), m1, bd3_in, if_neg (by decide), levelOf_n hx.1.1 hv hp, bd1_in, pageOf_n hx.1.1 hv hp, bd1_in, show (0 : Int32) = nI 0 from rfl, eN, bd10_in, if_neg (by decide), if_pos (by decide)]
          · exact ⟨S, T, ak', tl, tl, kn, nx, ⟨rfl, hg, hc1, hs⟩, ⟨rfl, rfl, rfl, rfl, ht, hT⟩, ⟨rfl, rfl, h24, hak'⟩, hR, ⟨rfl, rfl, rfl, hW, hr1⟩⟩
        · refine ⟨nI (wR S (ab ak' tl) v p 0), va_up c_signs (a 13) (nI tl), va_up c_page (a 15) (nI (off S v + p)), va_up c_known (a 15) (nI 0), va_up c_guess (a 15) (nI (wG S (ab ak' tl) v p)), va_up c_diff (a 15) (enc (wD S (ab ak' tl) v p)), va_up c_pieces (a 15) (nI (wR S (ab ak' tl) v p 0)), va_up c_place (a 15) (nI (wL S (ab ak' tl) v p)), va_up c_bits (a 13) B, c_bads, c_noes, c_fulls, y1, y2, y3, y4, y5, y6, m_refused, nf ak', hs1, fb1, ff1, ft1, nI tl, me1, mf1, nI (wG S (ab ak' tl) v p), enc (wD S (ab ak' tl) v p), nI (wR S (ab ak' tl) v p 0), nI (wL S (ab ak' tl) v p), ?_, ?_, ?_⟩
          · unfold C7_looks
            rw [ineg (by decide), if_neg (by decide), eH, bd1_in, if_neg (by decide), c1, bd3_in, if_neg (by decide), show (0 : Int32) = nI 0 from rfl, eW, bd12_in, if_neg (by decide), if_neg (by decide), if_pos (by decide), vu_s]
          · unfold M_looks
            rw [eK, bd1_in, if_neg (by decide), eI, bd1_in, if_neg (by decide), m1, bd3_in, if_neg (by decide), levelOf_n hx.1.1 hv hp, bd1_in, pageOf_n hx.1.1 hv hp, bd1_in, show (0 : Int32) = nI 0 from rfl, eN, bd10_in, if_neg (by decide), if_neg (by decide), if_pos (by decide)]
          · exact ⟨S, T, ak', tl, tl, kn, nx, ⟨rfl, hg, hc1, hs⟩, ⟨rfl, rfl, rfl, rfl, ht, hT⟩, ⟨rfl, rfl, h24, hak'⟩, hR, ⟨rfl, rfl, rfl, hW, hr1⟩⟩
        · refine ⟨nI (wL S (ab ak' tl) v p), va_up c_signs (a 13) (nI tl), va_up c_page (a 15) (nI (off S v + p)), va_up c_known (a 15) (nI 0), va_up c_guess (a 15) (nI (wG S (ab ak' tl) v p)), va_up c_diff (a 15) (enc (wD S (ab ak' tl) v p)), va_up c_pieces (a 15) (nI (wR S (ab ak' tl) v p 0)), va_up c_place (a 15) (nI (wL S (ab ak' tl) v p)), va_up c_bits (a 13) B, c_bads, c_noes, c_fulls, y1, y2, y3, y4, y5, y6, m_refused, nf ak', hs1, fb1, ff1, ft1, nI tl, me1, mf1, nI (wG S (ab ak' tl) v p), enc (wD S (ab ak' tl) v p), nI (wR S (ab ak' tl) v p 0), nI (wL S (ab ak' tl) v p), ?_, ?_, ?_⟩
          · unfold C7_looks
            rw [ineg (by decide), if_neg (by decide), eH, bd1_in, if_neg (by decide), c1, bd3_in, if_neg (by decide), show (0 : Int32) = nI 0 from rfl, eW, bd12_in, if_neg (by decide), if_neg (by decide), if_neg (by decide), vu_s]
          · unfold M_looks
            rw [eK, bd1_in, if_neg (by decide), eI, bd1_in, if_neg (by decide), m1, bd3_in, if_neg (by decide), levelOf_n hx.1.1 hv hp, bd1_in, pageOf_n hx.1.1 hv hp, bd1_in, show (0 : Int32) = nI 0 from rfl, eN, bd10_in, if_neg (by decide), if_neg (by decide), if_neg (by decide)]
          · exact ⟨S, T, ak', tl, tl, kn, nx, ⟨rfl, hg, hc1, hs⟩, ⟨rfl, rfl, rfl, rfl, ht, hT⟩, ⟨rfl, rfl, h24, hak'⟩, hR, ⟨rfl, rfl, rfl, hW, hr1⟩⟩
      · refine ⟨-3, va_up c_signs (a 13) m, c_page, c_known, c_guess, c_diff, c_pieces, c_place, va_up c_bits (a 13) B, c_bads, c_noes + 1, c_fulls, c_base, c_from, c_to, c_above, c_bit, c_lastLeft, upd m_refused 1 (m_refused 1 + 1), nf ak', m_heads, m_forkBit, m_forkFrom, m_forkTo, nI al, m_entries, m_forks, m_guess, m_diff, m_read, m_placeOf, ?_, ?_, ?_⟩
        · unfold C7_looks
          rw [ineg (by omega), if_neg (show ¬ 3 < nI c from (show ¬ nI 3 < nI c from nI_nlt (by omega) (by omega))), eH, bd1_in, if_neg (by decide), c1, bd3_in, if_pos rfl, rf_no, bd4_in]
        · unfold M_looks
          rw [eK, bd1_in, if_neg (by decide), eI, bd1_in, if_neg (by decide), m1, bd3_in, if_pos rfl, mr_no, bd2_in]
        · exact ⟨S, T, ak', tl, al, kn, nx, ⟨rfl, hg, (up13 hW hg hc hr m B).1, hs⟩, ⟨rfl, rfl, rfl, rfl, ht, hT⟩, ⟨rfl, rfl, hal, hak'⟩, rx_no hR, ⟨rfl, rfl, rfl, hW, (up13 hW hg hc hr m B).2⟩⟩
