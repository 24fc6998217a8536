section
variable {S ak : Nat → Nat} {al : Nat} {LW LK : List Nat} {a : Nat → Nat} {cc cpg clv cm cs ch cf cl ca cp : Nat → Int32} {cbits : Nat → Nat → Int64} {cw : Nat → Nat → Nat} {ce : Nat → Nat → Int32}
theorem take_n (hg : GS S) (hc : Cpl LW S (a 14) cc cpg clv cm cs cbits cw ce) (hs : Stl S ch cf cl ca cp) (hk : LKok a LK) (ha : aok ak al) {d1 d2 d3 d4 d5 d6 : Nat → Int32} (hl : ∀ u, u < S 2 → lookok S (ab ak al) al a d1 d2 d3 d4 d5 d6 u) (h0 : 0 < S 2) (hth : wD S (ab ak al) 0 (WP S (ab ak al) al 0) = 192) (hs0 fb0 ff0 ft0 wp wk wg wd wr wl : Nat → Int32) (me mf mg md mr mp : Int32) :
    ∃ S', GS S' ∧ S' 0 = S 0 - 1 ∧ (∃ (hs1 fb1 ff1 ft1 wp1 wk1 wg1 wd1 wr1 wl1 : Nat → Int32) (me1 mf1 mg1 md1 mr1 mp1 : Int32), M_takes (nf ak) (nI al) (nf S) hs0 fb0 ff0 ft0 wp wk wg wd wr wl me mf mg md mr mp = some (nf S', hs1, fb1, ff1, ft1, wp1, wk1, wg1, wd1, wr1, wl1, me1, mf1, mg1, md1, mr1, mp1)) ∧ ∃ (ch' cf' cl' ca' cp' cc' cpg' clv' : Nat → Int32) (cw' : Nat → Nat → Nat) (ce' : Nat → Nat → Int32), C0_remove a LW LK cm d1 d6 cbits ch cf cl ca cp cc cpg clv cw ce = some (ch', cf', cl', ca', cp', cc', cpg', clv', cw', ce') ∧ Cpl LW S' (a 14) cc' cpg' clv' cm cs cbits cw' ce' ∧ Stl S' ch' cf' cl' ca' cp' ∧ Frm (a 14) cs cc cpg clv cbits cw ce cs cc' cpg' clv' cbits cw' ce' := by
  obtain ⟨h, hB⟩ := hg
  have hrank := rank_c h hc hs hk (ab_bits ak al) hl
  obtain ⟨k1, k2, k3, k4, k5, k6, k7, k8⟩ := id hc
  have hal := ha.1
  have h4 := h.2.2.2.1
  have h8 := h.2.2.2.2.1
  have h48 := h.1.1.2.1
  obtain ⟨r1, r2, r3, r4, r5⟩ := rk_s h.1 (ab_bits ak al) al h0
  obtain ⟨r5, r6⟩ := r5 hth
  have hrk : rkk S (ab ak al) al = rk S (ab ak al) al := if_neg (by omega)
  rw [hrk] at hrank
  obtain ⟨at0, hat⟩ : ∃ x, rk S (ab ak al) al = x + 1 := ⟨ent S 0 (WP S (ab ak al) al 0) + wG S (ab ak al) 0 (WP S (ab ak al) al 0), r5⟩
  rw [hat] at hrank r1 r3
  obtain ⟨hs1, fb1, ff1, ft1, wp1, wk1, wg1, wd1, wr1, wl1, me1, mf1, mg1, md1, mr1, mp1, eG, hway⟩ := goes_n h.1 ha hs0 fb0 ff0 ft0 wp wk wg wd wr wl me mf mg md mr mp
  obtain ⟨w1, w2, w3, w4, w5, w6⟩ := hway 0 h0
  have hWP : ∀ u, u < S 2 → WP S (ab ak al) al u < S (3 + u) := fun u hu => WP_ok h.1 (ab_bits ak al) al hu
  have hp0 := hWP 0 h0
  have h6 := h.1.1.1
  obtain ⟨t1, t2⟩ := tot_le h
  have ht20 := t2 0 h0
  have i12 : ∀ u q, u ≤ 6 → q < 48 → del S at0 (12 + 48 * u + q) = S (12 + 48 * u + q) := fun u q hu hq => del_lo (by omega) (by omega)
  have hz0 := (h.1.2.1 0 h0).2 _ hp0
  obtain ⟨z1, z2, z3⟩ := un_pg (S := del S at0) (v := 0) (p := WP S (ab ak al) al 0) (z := S (12 + 48 * 0 + WP S (ab ak al) al 0) - 1) (by omega)
  have hent := ent_un (S := del S at0) (v := 0) (p := WP S (ab ak al) al 0) (z := S (12 + 48 * 0 + WP S (ab ak al) al 0) - 1) (by omega)
  have hMrun : M_takes (nf ak) (nI al) (nf S) hs0 fb0 ff0 ft0 wp wk wg wd wr wl me mf mg md mr mp = M_takes_L147 (nf ak) (nI al) (fun m_s m_heads m_forkBit m_forkFrom m_forkTo m_wayPage m_wayKnown m_wayGuess m_wayDiff m_wayRead m_wayPlace m_entries m_forks m_guess m_diff m_read m_placeOf => M_takes_L339 (nf ak) (nI al) (fun m_s m_heads m_forkBit m_forkFrom m_forkTo m_wayPage m_wayKnown m_wayGuess m_wayDiff m_wayRead m_wayPlace m_entries m_forks m_guess m_diff m_read m_placeOf => M_takes_J375 (nf ak) (nI al) m_s m_heads m_forkBit m_forkFrom m_forkTo m_wayPage m_wayKnown m_wayGuess m_wayDiff m_wayRead m_wayPlace m_entries m_forks m_guess m_diff m_read m_placeOf) FU m_s m_heads m_forkBit m_forkFrom m_forkTo m_wayPage m_wayKnown m_wayGuess m_wayDiff m_wayRead m_wayPlace m_entries m_forks m_guess m_diff m_read m_placeOf) FU (nf (un (del S at0) (12 + 48 * 0 + WP S (ab ak al) al 0) (S (12 + 48 * 0 + WP S (ab ak al) al 0) - 1))) hs1 fb1 ff1 ft1 wp1 wk1 wg1 wd1 wr1 wl1 me1 mf1 mg1 md1 mr1 mp1 (nI (WP S (ab ak al) al 0)) (nI 0) 1 := by
    have hat' : ent S 0 (WP S (ab ak al) al 0) + wL S (ab ak al) 0 (WP S (ab ak al) al 0) = at0 + 1 := hat
    have e1 : nI (at0 + 1) - 1 = nI at0 := pk_sub (b := 1) (by omega)
    have e2 : nI (S 0) - 1 = nI (S 0 - 1) := pk_sub (b := 1) (by omega)
    have e3 : nI (S (12 + 48 * 0 + WP S (ab ak al) al 0)) - 1 = nI (S (12 + 48 * 0 + WP S (ab ak al) al 0) - 1) := pk_sub (b := 1) (by omega)
    have e4 : nf (un S 0 (S 0 - 1)) = nf (wdl S at0 at0) := by rw [del_start]
    unfold M_takes
    rw [eG, bd16_in, w1, w6, nI_z0, entriesAhead_n (by decide) (by omega), bd1_in, nI_add, hat', e1, nf_a, e2, nf_upd, e4]
    refine (takes_L39 (nf ak) (nI al) hs1 fb1 ff1 ft1 wp1 wk1 wg1 wd1 wr1 wl1 me1 mf1 mg1 md1 mr1 mp1 h48 (by omega) _ _ (S 0 - 1 - at0) at0 FU (by omega) (Nat.le_refl _) (Nat.lt_of_le_of_lt (show S 0 - 1 - at0 ≤ 48 by omega) (by decide))).trans ?_
    show bd1 (M_sizeOf (nf (del S at0)) (nI 0) (nI (WP S (ab ak al) al 0))) _ = _
    rw [sizeOf_n (by omega), bd1_in, i12 0 _ (by decide) (by omega), e3]
    show bd1 (M_setSize (nf (del S at0)) (nI 0) (nI (WP S (ab ak al) al 0)) _) _ = _
    rw [setSize_n (by omega), bd1_in]
  generalize hS2 : un (del S at0) (12 + 48 * 0 + WP S (ab ak al) al 0) (S (12 + 48 * 0 + WP S (ab ak al) al 0) - 1) = S2 at *
  have s0 : S2 0 = S 0 - 1 := by rw [z1 0 (by decide), del_0]
  have slo : ∀ j, 1 ≤ j → j < 12 → S2 j = S j := fun j h1 h2 => by rw [z1 j h2, del_lo (by omega) (by omega)]
  have ssz : ∀ u q, u ≤ 6 → q < 48 → S2 (12 + 48 * u + q) = if u = 0 ∧ q = WP S (ab ak al) al 0 then S (12 + 48 * 0 + WP S (ab ak al) al 0) - 1 else S (12 + 48 * u + q) := fun u q hu hq => by
    rw [z3 u q hq, i12 u q hu hq]
  have hoff := off_eq (S := S) (S1 := S2) (fun j h1 h2 => slo j (by omega) (by omega)) h.1.1.1
  have htot := tot_eq (S := S) (S1 := S2) (fun j h1 h2 => slo j (by omega) (by omega)) h.1.1.1
  have e2 : S2 2 = S 2 := slo 2 (by decide) (by decide)
  have epg : ∀ u, u ≤ 6 → S2 (3 + u) = S (3 + u) := fun u hu => slo (3 + u) (by omega) (by omega)
  have h47 : ∀ u, u < S 2 → S (3 + u) ≤ 48 := fun u hu => by have := t2 u hu; omega
  have hwx2 : ∀ u, u < S 2 → ∀ q, q < S (3 + u) → S (12 + 48 * u + q) ≤ S 1 := h.2.2.2.2.2
  have hst : SHR S2 0 (WP S (ab ak al) al 0) := by
    refine ⟨⟨by omega, by omega, fun v hv => ?_⟩, fun h1 v hv p hp => ?_, ?_, fun v hv p hp hne => ?_, fun q hq => ?_⟩
    · rw [e2] at hv
      rw [epg v (by omega)]
      refine ⟨h47 v hv, ?_⟩
      have hv48 := h47 v hv
      have := hent v (S (3 + v)) (by omega)
      rw [ent_oth (S := S) (S1 := del S at0) (fun q hq => i12 v q (by omega) hq) (by omega), (h.1.1.2.2 v hv).2] at this
      unfold bel at this ⊢
      by_cases c : v = 0
      · subst c
        have hh : 0 = 0 ∧ WP S (ab ak al) al 0 < S (3 + 0) := ⟨rfl, hp0⟩
        rw [if_pos hh, if_pos hh, i12 0 _ (by decide) (by omega), if_pos rfl] at this
        rw [if_pos rfl, s0]
        omega
      · rw [if_neg (by omega), if_neg (by omega), if_neg (by omega)] at this
        rw [if_neg c, epg (v - 1) (by omega)]
        exact this
    · rw [e2] at hv h1
      rw [epg v (by omega)] at hp
      have := h47 v hv
      rw [ssz v p (by omega) (by omega)]
      by_cases c : v = 0 ∧ p = WP S (ab ak al) al 0
      · rw [if_pos c]
        have := h.2.1 0 (by omega) _ hp0
        omega
      · rw [if_neg c]
        exact ((h.1.2.1 v hv).2 p hp).1
    · rw [e2, epg (S 2 - 1) (by omega)]
      exact h.1.2.2.2.1 h0
    · rw [e2] at hv
      rw [epg v (by omega)] at hp
      have := h47 v (by omega)
      rw [ssz v p (by omega) (by omega), if_neg hne]
      exact h.2.1 v hv p hp
    · rw [e2] at q hq ⊢
      have := ssz (S 2 - 1) 0 (by omega) (by decide)
      rw [if_neg (by omega), Nat.add_zero] at this
      rw [this]
      exact h.2.2.1 q
  obtain ⟨S3, E3, cpg3, ce3, g1, g2, g3, g4, g5, g6, g7, g8, g9, g10, g11⟩ := shrink_n (cf := cf) (clv := clv) (cpage := d1) hk h4 h8 (fun u => WP S (ab ak al) al u) k4 (nf ak) (nI al) hs1 fb1 ff1 ft1 wp1 wk1 wg1 wd1 wr1 wl1 me1 mf1 mg1 md1 mr1 mp1 (fun m_s m_heads m_forkBit m_forkFrom m_forkTo m_wayPage m_wayKnown m_wayGuess m_wayDiff m_wayRead m_wayPlace m_entries m_forks m_guess m_diff m_read m_placeOf => M_takes_L339 (nf ak) (nI al) (fun m_s m_heads m_forkBit m_forkFrom m_forkTo m_wayPage m_wayKnown m_wayGuess m_wayDiff m_wayRead m_wayPlace m_entries m_forks m_guess m_diff m_read m_placeOf => M_takes_J375 (nf ak) (nI al) m_s m_heads m_forkBit m_forkFrom m_forkTo m_wayPage m_wayKnown m_wayGuess m_wayDiff m_wayRead m_wayPlace m_entries m_forks m_guess m_diff m_read m_placeOf) FU m_s m_heads m_forkBit m_forkFrom m_forkTo m_wayPage m_wayKnown m_wayGuess m_wayDiff m_wayRead m_wayPlace m_entries m_forks m_guess m_diff m_read m_placeOf) (S 2 - 1) 0 FU FU S2 (unf (ce (a 14))) cpg ce (by omega) hst (slo 1 (by decide) (by decide)) (by rw [epg 0 (by decide)]; exact hp0)
    (fun u q hu hq => by
      rw [e2] at hu
      rw [epg u (by omega)] at hq
      have := h47 u hu
      have := hwx2 u hu q hq
      rw [ssz u q (by omega) (by omega)]
      by_cases c : u = 0 ∧ q = WP S (ab ak al) al 0
      · rw [if_pos c]
        have := hwx2 0 h0 _ hp0
        omega
      · rw [if_neg c]; exact this)
    (fun u _ hu => by
      rw [e2] at hu
      have hq := hWP (u + 1) hu
      have hq8 := h47 (u + 1) hu
      have ee : ∀ q, q ≤ 48 → ent S2 (u + 1) q = ent S (u + 1) q := fun q hq => ent_oth (fun r hr => by rw [ssz (u + 1) r (by omega) hr, if_neg (by omega)]) hq
      have hwx := (WP_s S (ab ak al) al (v := u) hu).1
      obtain ⟨_, b2, b3⟩ := pgv h.1 hu hq
      have hwl := wL_le h.1 (ab_bits ak al) hu hq
      rw [epg (u + 1) (by omega), ee _ (by omega), ee _ (by omega), ent_s]
      refine ⟨hq, ?_, ?_⟩
      · show _ ≤ WP S (ab ak al) al u
        rw [hwx]
        unfold wx
        omega
      · show WP S (ab ak al) al u < _
        rw [hwx]
        unfold wx
        omega)
    (fun u hu q hq => by
      rw [e2] at hu
      rw [epg u (by omega)] at hq
      have := h47 u hu
      have h8u := hwx2 u hu q hq
      rw [hoff u, unf_n (k5 u hu q hq) (by omega), ssz u q (by omega) (by omega)]
      by_cases c : u = 0 ∧ q = WP S (ab ak al) al 0
      · rw [if_pos c, if_pos c, c.1, c.2]; omega
      · rw [if_neg c, if_neg c]; rfl)
    (by rw [htot]; exact k2) (by rw [htot]; exact t1) (by rw [e2]; exact k3) (nf_unf _).symm
    (fun u _ hu => by
      rw [e2] at hu
      rw [hoff u]
      exact (hl u hu).1)
    (fun u _ hu => by
      rw [e2] at hu
      have hq := hWP (u + 1) hu
      have hq8 := h47 (u + 1) hu
      have ee : ent S2 (u + 1) (WP S (ab ak al) al (u + 1)) = ent S (u + 1) (WP S (ab ak al) al (u + 1)) := ent_oth (fun r hr => by rw [ssz (u + 1) r (by omega) hr, if_neg (by omega)]) (by omega)
      rw [hoff u, hoff (u + 1), ee]
      have := (hs.1 (u + 1) hu _ hq).1
      unfold nd at this
      rw [if_neg (by omega)] at this
      exact this)
    (Nat.lt_of_le_of_lt (show S 2 - 1 + 2 ≤ 8 by omega) (by decide)) (Nat.lt_of_le_of_lt (show S 2 - 1 + 2 ≤ 8 by omega) (by decide))
  have e32 : S3 2 = S 2 := by rw [g4, e2]
  have s30 : S3 0 = S 0 - 1 := by rw [g6 0 (Or.inl (by decide)), s0]
  obtain ⟨S', cpg', clv', ce', q1, q2, q3, q4, q5, q6, q7, q8, q9, q10, q11⟩ := drop_n (a := a) (cc := va_up cc (a 14) (nI (S 0 - 1))) (cpg := cpg3) (clv := clv) (ce := ce3) g3 (by omega) (by rw [vu_s, s30]) g7 g8 (by rw [e32]; exact k3) g9 g10 (fun u q hu hq => Nat.le_trans (g5 u q hu hq) h8) (nf ak) (nI al) hs1 fb1 ff1 ft1 wp1 wk1 wg1 wd1 wr1 wl1 me1 mf1 mg1 md1 mr1 mp1
  have s0' : S' 0 = S 0 - 1 := by rw [q4 0 (by decide), s30]
  have s1' : S' 1 = S 1 := by rw [q4 1 (by decide), g6 1 (Or.inl (by decide)), slo 1 (by decide) (by decide)]
  have eS : ∀ j, 348 ≤ j → S' j = del S at0 j := fun j hj => by rw [q4 j (by omega), g6 j (Or.inr hj), z2 j hj (by decide)]
  have hwx : WX S' := wx_of q3 h4 h8 s1' (fun u q hu hq => by
    rw [q4 (3 + u) (by omega)] at hq
    rw [q4 _ (by omega)]
    exact g5 u q (by omega) hq) q6 q7 (words_del s0' eS h48 hB h.1.2.2.2.2.1) (by
    rw [s0']
    exact srt_del eS h48 h.1.2.2.2.2.2)
  have eW := removeWord_n (LW := LW) (cc := cc) (cw := cw) (st := a 14) (n := S 0) (k := at0) k1 h48 (by omega) k6
  obtain ⟨hcp, hfr⟩ := del_cpl (S' := S') (at0 := at0) (cpg' := cpg') (clv' := clv') (ce' := ce') hc s0' s1' eS h48 (by omega) q8 q9 q10
  obtain ⟨ch', cf', cl', ca', cp', eset, hst'⟩ := settle_n hwx hcp ch cf cl ca cp
  refine ⟨S', ⟨hwx, fun j hj => by rw [eS j hj]; exact del_sm hB hj⟩, s0', ⟨hs1, fb1, ff1, ft1, wp1, wk1, wg1, wd1, wr1, wl1, me1, mf1, mg1, md1, mr1, mp1, hMrun.trans (g1.trans q1)⟩, ch', cf', cl', ca', cp', _, _, _, _, _, ?_, hcp, hst', ⟨fun z hz => ?_, fun x hx => ⟨rfl, rfl⟩, hfr⟩⟩
  · have e1 : nI (at0 + 1) - 1 = nI at0 := pk_sub (b := 1) (by omega)
    unfold C0_remove
    rw [hrank, bd1_in, e1, eW, bd2_in]
    unfold C0_shrinkUpwards
    refine (congrArg (fun z => bd2 z _) g2).trans ?_
    rw [bd2_in, q2, bd3_in]
    exact (congrArg (fun z => bd5 z _) eset).trans rfl
  · obtain ⟨y1, y2⟩ := g11 z hz
    obtain ⟨x1, x2, x3⟩ := q11 z hz
    exact ⟨vu_n hz, x1.trans y1, x2, vu_n hz, x3.trans y2⟩
end
