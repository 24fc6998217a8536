section
variable {S ak : Nat → Nat} {al : Nat} {LW LK : List Nat} {a : Nat → Nat} {cc cpg clv cm cs ch cf cl ca cp : Nat → Int32} {cbits : Nat → Nat → Int64} {cw : Nat → Nat → Nat} {ce : Nat → Nat → Int32}
theorem wx_of {S : Nat → Nat} {M : Nat} (hst : ST S) (hM4 : 4 ≤ M) (hM8 : M ≤ 8) (h1 : S 1 = M) (hsz : ∀ u q, u < S 2 → q < S (3 + u) → S (12 + 48 * u + q) ≤ M) (h2 : S 2 = 0 ↔ S 0 = 0) (hpg : ∀ v, v < S 2 → 1 ≤ S (3 + v)) (hw : ∀ w, w < S 0 → 1 ≤ S (350 + w) ∧ S (350 + w) ≤ 24 ∧ ∀ i, i < 24 → S (400 + 24 * w + i) < 128) (hso : ∀ i j, i < j → j < S 0 → lt (wb S i) (wb S j)) : WX S := by
  obtain ⟨s1, s2, s3, s4, s5⟩ := hst
  exact ⟨⟨s1, fun v hv => ⟨hpg v hv, fun p hp => ⟨s2 v hv p hp, by have := hsz v p hv hp; omega⟩⟩, h2, s3, hw, hso⟩, s4, s5, by omega, by omega, fun v hv p hp => by rw [h1]; exact hsz v p hv hp⟩
/-- a level has pages if the one above it has entries -/
theorem st_pos {S : Nat → Nat} (h : ST S) (h0 : 1 ≤ S 2) : ∀ v, v < S 2 → 1 ≤ S (3 + v) := by
  intro v hv
  have := (st_pg h (S 2 - 1 - v) v (by omega)).2
  have := Nat.one_le_two_pow (n := S 2 - 1 - v)
  omega
theorem off_eq {S S1 : Nat → Nat} (h : ∀ j, 2 ≤ j → j < 10 → S1 j = S j) (h6 : S 2 ≤ 6) (u : Nat) : off S1 u = off S u := by
  unfold off
  rw [h 2 (by decide) (by decide)]
  exact sumN_congr (fun k hk => h _ (by omega) (by omega))
theorem tot_eq {S S1 : Nat → Nat} (h : ∀ j, 2 ≤ j → j < 10 → S1 j = S j) (h6 : S 2 ≤ 6) : tot S1 = tot S := by
  unfold tot
  rw [h 2 (by decide) (by decide)]
  exact sumN_congr (fun k hk => h _ (by omega) (by omega))
theorem add_n (hg : GS S) (hc : Cpl LW S (a 14) cc cpg clv cm cs cbits cw ce) (hs : Stl S ch cf cl ca cp) (hk : LKok a LK) (ha : aok ak al) (hal1 : 1 ≤ al) (hn : S 0 ≤ 47) {w : Nat} (hw : cs w = nI al) (hwb : ∀ b, b < 192 → cb (cbits w) b = ab ak al b) {d1 d2 d3 d4 d5 d6 : Nat → Int32} (hl : ∀ u, u < S 2 → lookok S (ab ak al) al a d1 d2 d3 d4 d5 d6 u) (hnt : 0 < S 2 → wD S (ab ak al) 0 (WP S (ab ak al) al 0) ≠ 192) (hs0 fb0 ff0 ft0 wp wk wg wd wr wl : Nat → Int32) (me mf mg md mr mp : Int32) :
    ∃ S', GS S' ∧ S' 0 = S 0 + 1 ∧ (∃ (hs1 fb1 ff1 ft1 wp1 wk1 wg1 wd1 wr1 wl1 : Nat → Int32) (me1 mf1 mg1 md1 mr1 mp1 : Int32), M_adds (nf ak) (nI al) (nf S) hs0 fb0 ff0 ft0 wp wk wg wd wr wl me mf mg md mr mp = some (nf S', hs1, fb1, ff1, ft1, wp1, wk1, wg1, wd1, wr1, wl1, me1, mf1, mg1, md1, mr1, mp1)) ∧ ∃ (ch' cf' cl' ca' cp' cs' cc' cpg' clv' : Nat → Int32) (cbits' : Nat → Nat → Int64) (cw' : Nat → Nat → Nat) (ce' : Nat → Nat → Int32), C0_insert a LW LK cm d1 d6 ch cf cl ca cp cs cc cpg clv cbits cw ce w = some (ch', cf', cl', ca', cp', cs', cc', cpg', clv', cbits', cw', ce') ∧ Cpl LW S' (a 14) cc' cpg' clv' cm cs' cbits' cw' ce' ∧ Stl S' ch' cf' cl' ca' cp' ∧ Frm (a 14) cs cc cpg clv cbits cw ce cs' cc' cpg' clv' cbits' cw' ce' := by
  obtain ⟨h, hB⟩ := hg
  have hrank := rank_c h hc hs hk (ab_bits ak al) hl
  obtain ⟨k1, k2, k3, k4, k5, k6, k7, k8⟩ := id hc
  have hal := ha.1
  have h4 := h.2.2.2.1
  have h8 := h.2.2.2.2.1
  by_cases h0 : S 2 = 0
  · have hn0 := h.1.2.2.1.mp h0
    have ht0 : tot S = 0 := by unfold tot; rw [h0]; rfl
    have e2 : ins S ak al 0 2 = 0 := by rw [ins_lo (by decide) (by decide), h0]
    have eS : ∀ j, 348 ≤ j → un (un (un (ins S ak al 0) 3 1) 12 1) 2 1 j = ins S ak al 0 j := fun j hj => by
      rw [un_n (by omega), un_n (by omega), un_n (by omega)]
    have z0 : un (un (un (ins S ak al 0) 3 1) 12 1) 2 1 0 = 1 := by
      rw [un_n (by decide), un_n (by decide), un_n (by decide), ins_0, hn0]
    have z1 : un (un (un (ins S ak al 0) 3 1) 12 1) 2 1 1 = S 1 := by
      rw [un_n (by decide), un_n (by decide), un_n (by decide), ins_lo (by decide) (by decide)]
    have z2 : un (un (un (ins S ak al 0) 3 1) 12 1) 2 1 2 = 1 := un_s
    have z3 : un (un (un (ins S ak al 0) 3 1) 12 1) 2 1 3 = 1 := by
      rw [un_n (by decide), un_n (by decide), un_s]
    have z12 : un (un (un (ins S ak al 0) 3 1) 12 1) 2 1 12 = 1 := by
      rw [un_n (by decide), un_s]
    have hM : M_adds (nf ak) (nI al) (nf S) hs0 fb0 ff0 ft0 wp wk wg wd wr wl me mf mg md mr mp = some (nf (un (un (un (ins S ak al 0) 3 1) 12 1) 2 1), hs0, fb0, ff0, ft0, wp, wk, wg, wd, wr, wl, me, mf, mg, md, mr, mp) := by
      unfold M_adds
      rw [nf_a, h0, if_pos (show nI 0 = 0 from rfl), nI_z0, puts_n hn (Nat.zero_le _) hal, bd1_in, show (1 : Int32) = nI 1 from rfl, opensLevel_n (by omega), bd1_in, e2]
    generalize hSe : un (un (un (ins S ak al 0) 3 1) 12 1) 2 1 = S' at *
    have hv0 : ∀ v, v < S' 2 → v = 0 := fun v hv => by omega
    have h3 : S' (3 + 0) = 1 := z3
    have h12 : S' (12 + 48 * 0 + 0) = 1 := z12
    have hst : ST S' := by
      refine ⟨⟨by omega, by omega, fun v hv => ?_⟩, fun v hv p hp => ?_, fun _ => ?_, fun v hv => absurd hv (by omega), fun q => absurd q (by omega)⟩
      · rw [hv0 v hv, h3]
        refine ⟨by decide, ?_⟩
        show 0 + S' (12 + 48 * 0 + 0) = bel S' 0
        rw [h12]
        show _ = S' 0
        rw [z0]
      · rw [hv0 v hv] at hp ⊢
        rw [show p = 0 by omega, h12]
        exact Nat.le_refl _
      · rw [z2]; exact z3
    have hwx : WX S' := wx_of hst h4 h8 z1 (fun u q hu hq => by
      rw [hv0 u hu] at hq ⊢
      rw [show q = 0 by omega, h12]; omega) (by omega) (fun v hv => by rw [hv0 v hv]; omega) (words_ins (by omega) eS hn (Nat.zero_le _) ha hal1 hB h.1.2.2.2.2.1) (fun i j hij hj => absurd hj (by omega))
    have ht1 : tot S' = 1 := by
      unfold tot
      rw [z2]
      show 0 + S' (3 + 0) = 1
      rw [h3]
    obtain ⟨B, eW, hBB⟩ := insertWord_n (w := w) (k := 0) k1 (by omega) (Nat.zero_le _) k6
    have ho0 : off S' 0 = 0 := off_top (by omega)
    obtain ⟨hcp, hfr⟩ := ins_cpl (S' := S') (at0 := 0) (cpg' := va_up cpg (a 14) (nI (0 + 1))) (clv' := va_up clv (a 14) 1) (ce' := va_up ce (a 14) (nf (un (shr (unf (ce (a 14))) 0 0) 0 1))) hc (by omega) z1 eS hn (Nat.zero_le _) hal hw hwb hBB (by rw [vu_s, ht1]) (by rw [vu_s, z2]; rfl) (fun v hv p hp => by
      rw [hv0 v hv] at hp ⊢
      rw [show p = 0 by omega, vu_s, ho0, nf_a, un_s, h12])
    obtain ⟨ch', cf', cl', ca', cp', eset, hst'⟩ := settle_n hwx hcp ch cf cl ca cp
    refine ⟨S', ⟨hwx, fun j hj => by rw [eS j hj]; exact ins_sm hB ha hj⟩, by omega, ⟨hs0, fb0, ff0, ft0, wp, wk, wg, wd, wr, wl, me, mf, mg, md, mr, mp, hM⟩, ch', cf', cl', ca', cp', _, _, _, _, _, _, _, ?_, hcp, hst', ⟨fun z hz => ⟨vu_n hz, vu_n hz, vu_n hz, vu_n hz, vu_n hz⟩, fun x hx => ⟨vu_n (hx _ (by omega)), vu_n (hx _ (by omega))⟩, hfr⟩⟩
    unfold C0_insert
    rw [hrank, bd1_in]
    unfold rkk
    rw [if_pos h0, eW, bd4_in, k2, ht0, if_pos (show nI 0 = 0 from rfl), nI_z0, show (1 : Int32) = nI 1 from rfl, insertPage_n (E := unf (ce (a 14))) (by rw [k2, ht0]) (Nat.le_refl _) (by decide) (nf_unf _).symm, bd2_in]
    unfold C0_insert_J46
    exact (congrArg (fun z => bd5 z _) eset).trans rfl
  · obtain ⟨r1, r2, r3, r4, r5⟩ := rk_s h.1 (ab_bits ak al) al (by omega)
    have r4 := r4 (hnt (by omega))
    have hrk : rkk S (ab ak al) al = rk S (ab ak al) al := if_neg h0
    rw [hrk] at hrank
    generalize hat : rk S (ab ak al) al = at0 at *
    obtain ⟨hs1, fb1, ff1, ft1, wp1, wk1, wg1, wd1, wr1, wl1, me1, mf1, mg1, md1, mr1, mp1, eG, hway⟩ := goes_n h.1 ha hs0 fb0 ff0 ft0 wp wk wg wd wr wl me mf mg md mr mp
    obtain ⟨w1, w2, w3, w4, w5, w6⟩ := hway 0 (by omega)
    have hWP : ∀ u, u < S 2 → WP S (ab ak al) al u < S (3 + u) := fun u hu => WP_ok h.1 (ab_bits ak al) al hu
    have hp0 := hWP 0 (by omega)
    have h6 := h.1.1.1
    obtain ⟨t1, t2⟩ := tot_le h
    have ht20 := t2 0 (by omega)
    have i2 : ins S ak al at0 2 = S 2 := ins_lo (by decide) (by decide)
    have i12 : ∀ u q, u ≤ 6 → q < 48 → ins S ak al at0 (12 + 48 * u + q) = S (12 + 48 * u + q) := fun u q hu hq => ins_lo (by omega) (by omega)
    obtain ⟨z1, z2, z3⟩ := un_pg (S := ins S ak al at0) (v := 0) (p := WP S (ab ak al) al 0) (z := S (12 + 48 * 0 + WP S (ab ak al) al 0) + 1) (by omega)
    have hent := ent_un (S := ins S ak al at0) (v := 0) (p := WP S (ab ak al) al 0) (z := S (12 + 48 * 0 + WP S (ab ak al) al 0) + 1) (by omega)
    have hMrun : M_adds (nf ak) (nI al) (nf S) hs0 fb0 ff0 ft0 wp wk wg wd wr wl me mf mg md mr mp = M_adds_L64 (nf ak) (nI al) (fun m_s m_heads m_forkBit m_forkFrom m_forkTo m_wayPage m_wayKnown m_wayGuess m_wayDiff m_wayRead m_wayPlace m_entries m_forks m_guess m_diff m_read m_placeOf => some (m_s, m_heads, m_forkBit, m_forkFrom, m_forkTo, m_wayPage, m_wayKnown, m_wayGuess, m_wayDiff, m_wayRead, m_wayPlace, m_entries, m_forks, m_guess, m_diff, m_read, m_placeOf)) FU (nf (un (ins S ak al at0) (12 + 48 * 0 + WP S (ab ak al) al 0) (S (12 + 48 * 0 + WP S (ab ak al) al 0) + 1))) hs1 fb1 ff1 ft1 wp1 wk1 wg1 wd1 wr1 wl1 me1 mf1 mg1 md1 mr1 mp1 (nI (WP S (ab ak al) al 0)) (nI 0) := by
      have hne : ¬ nI (S 2) = 0 := fun q => h0 ((nI_eq (by omega) (by decide)).mp q)
      have hat' : ent S 0 (WP S (ab ak al) al 0) + wL S (ab ak al) 0 (WP S (ab ak al) al 0) = at0 := hat
      unfold M_adds
      rw [nf_a, if_neg hne, eG, bd16_in, w1, w6, nI_z0, entriesAhead_n (by decide) (by omega), bd1_in, nI_add, hat', puts_n hn r1 hal, bd1_in, sizeOf_n (by omega), bd1_in, i12 0 _ (by decide) (by omega), nI_p1, setSize_n (by omega), bd1_in]
    generalize hS2 : un (ins S ak al at0) (12 + 48 * 0 + WP S (ab ak al) al 0) (S (12 + 48 * 0 + WP S (ab ak al) al 0) + 1) = S2 at *
    have s0 : S2 0 = S 0 + 1 := by rw [z1 0 (by decide), ins_0]
    have slo : ∀ j, 1 ≤ j → j < 12 → S2 j = S j := fun j h1 h2 => by rw [z1 j h2, ins_lo (by omega) (by omega)]
    have ssz : ∀ u q, u ≤ 6 → q < 48 → S2 (12 + 48 * u + q) = if u = 0 ∧ q = WP S (ab ak al) al 0 then S (12 + 48 * 0 + WP S (ab ak al) al 0) + 1 else S (12 + 48 * u + q) := fun u q hu hq => by
      rw [z3 u q hq, i12 u q hu hq]
    have sge : ∀ u q, u ≤ 6 → q < 48 → S (12 + 48 * u + q) ≤ S2 (12 + 48 * u + q) := fun u q hu hq => by
      rw [ssz u q hu hq]
      by_cases c : u = 0 ∧ q = WP S (ab ak al) al 0
      · rw [if_pos c, c.1, c.2]; omega
      · rw [if_neg c]; exact Nat.le_refl _
    have hoff := off_eq (S := S) (S1 := S2) (fun j h1 h2 => slo j (by omega) (by omega)) h.1.1.1
    have htot := tot_eq (S := S) (S1 := S2) (fun j h1 h2 => slo j (by omega) (by omega)) h.1.1.1
    have e2 : S2 2 = S 2 := slo 2 (by decide) (by decide)
    have epg : ∀ u, u ≤ 6 → S2 (3 + u) = S (3 + u) := fun u hu => slo (3 + u) (by omega) (by omega)
    have h47 : ∀ u, u < S 2 → S (3 + u) ≤ 48 := fun u hu => by have := t2 u hu; omega
    have hst : ST S2 := by
      refine ⟨⟨by omega, by omega, fun v hv => ?_⟩, fun v hv p hp => ?_, fun _ => ?_, fun v hv p hp => ?_, fun q => ?_⟩
      · rw [e2] at hv
        rw [epg v (by omega)]
        refine ⟨h47 v hv, ?_⟩
        have hv48 := h47 v hv
        have := hent v (S (3 + v)) (by omega)
        rw [ent_oth (S := S) (S1 := ins S ak al at0) (fun q hq => i12 v q (by omega) hq) (by omega), (h.1.1.2.2 v hv).2] at this
        unfold bel at this ⊢
        by_cases c : v = 0
        · subst c
          have hh : 0 = 0 ∧ WP S (ab ak al) al 0 < S (3 + 0) := ⟨rfl, hp0⟩
          rw [if_pos hh, if_pos hh, i12 0 _ (by decide) (by omega), if_pos rfl] at this
          rw [if_pos rfl, s0]
          omega
        · rw [if_neg (by omega), if_neg (by omega), if_neg (by omega)] at this
          rw [if_neg c, epg (v - 1) (by omega)]
          exact this
      · rw [e2] at hv
        rw [epg v (by omega)] at hp
        have := h47 v hv
        exact Nat.le_trans ((h.1.2.1 v hv).2 p hp).1 (sge v p (by omega) (by omega))
      · rw [e2, epg (S 2 - 1) (by omega)]
        exact h.1.2.2.2.1 (by omega)
      · rw [e2] at hv
        rw [epg v (by omega)] at hp
        have := h47 v (by omega)
        exact Nat.le_trans (h.2.1 v hv p hp) (sge v p (by omega) (by omega))
      · rw [e2] at q ⊢
        exact Nat.le_trans (h.2.2.1 q) (sge (S 2 - 1) 0 (by omega) (by decide))
    have hwx2 : ∀ u, u < S 2 → ∀ q, q < S (3 + u) → S (12 + 48 * u + q) ≤ S 1 := h.2.2.2.2.2
    obtain ⟨S', E', cpg', clv', ce', g1, g2, g3, g4, g5, g6, g7, g8, g9, g10, g11⟩ := grow_n hk h4 h8 (fun u => WP S (ab ak al) al u) k4 (L0 := S 2) (nf ak) (nI al) hs1 fb1 ff1 ft1 wp1 wk1 wg1 wd1 wr1 wl1 me1 mf1 mg1 md1 mr1 mp1 (fun m_s m_heads m_forkBit m_forkFrom m_forkTo m_wayPage m_wayKnown m_wayGuess m_wayDiff m_wayRead m_wayPlace m_entries m_forks m_guess m_diff m_read m_placeOf => some (m_s, m_heads, m_forkBit, m_forkFrom, m_forkTo, m_wayPage, m_wayKnown, m_wayGuess, m_wayDiff, m_wayRead, m_wayPlace, m_entries, m_forks, m_guess, m_diff, m_read, m_placeOf)) (S 2 - 1) 0 FU FU S2 (unf (ce (a 14))) cpg clv ce (by omega) e2 hst (slo 1 (by decide) (by decide)) (by rw [epg 0 (by decide)]; exact hp0)
      (fun u q hu hq hne => by
        rw [e2] at hu
        rw [epg u (by omega)] at hq
        have := h47 u hu
        rw [ssz u q (by omega) (by omega), if_neg hne]
        exact hwx2 u hu q hq)
      (by rw [ssz 0 _ (by decide) (by omega), if_pos ⟨rfl, rfl⟩]; have := hwx2 0 (by omega) _ hp0; omega)
      (fun u _ hu => by
        rw [e2] at hu
        have hq := hWP (u + 1) hu
        have hq8 := h47 (u + 1) hu
        have ee : ∀ q, q ≤ 48 → ent S2 (u + 1) q = ent S (u + 1) q := fun q hq => ent_oth (fun r hr => by rw [ssz (u + 1) r (by omega) hr, if_neg (by omega)]) hq
        have hwx := (WP_s S (ab ak al) al (v := u) hu).1
        obtain ⟨_, b2, b3⟩ := pgv h.1 hu hq
        have hwl := wL_le h.1 (ab_bits ak al) hu hq
        rw [epg (u + 1) (by omega), ee _ (by omega), ee _ (by omega), ent_s]
        refine ⟨hq, ?_, ?_⟩
        · show _ ≤ WP S (ab ak al) al u
          rw [hwx]
          unfold wx
          omega
        · show WP S (ab ak al) al u < _
          rw [hwx]
          unfold wx
          omega)
      (fun u hu q hq => by
        rw [e2] at hu
        rw [epg u (by omega)] at hq
        have := h47 u hu
        have h8u := hwx2 u hu q hq
        rw [hoff u, unf_n (k5 u hu q hq) (by omega), ssz u q (by omega) (by omega)]
        by_cases c : u = 0 ∧ q = WP S (ab ak al) al 0
        · rw [if_pos c, if_pos c, c.1, c.2]; rfl
        · rw [if_neg c, if_neg c]; rfl)
      (by rw [htot]; exact k2) (by rw [e2]; exact k3) (nf_unf _).symm
      (fun u _ hu => by
        rw [e2] at hu
        rw [hoff u]
        exact (hl u hu).1)
      (Nat.lt_of_le_of_lt (show S 2 - 1 + 2 ≤ 8 by omega) (by decide)) (Nat.lt_of_le_of_lt (show S 2 - 1 + 2 ≤ 8 by omega) (by decide))
    have s0' : S' 0 = S 0 + 1 := by rw [g5 0 (Or.inl (by decide)), s0]
    have s1' : S' 1 = S 1 := by rw [g5 1 (Or.inl (by decide)), slo 1 (by decide) (by decide)]
    have eS : ∀ j, 348 ≤ j → S' j = ins S ak al at0 j := fun j hj => by rw [g5 j (Or.inr hj), z2 j hj (by decide)]
    have hwx : WX S' := wx_of g3 h4 h8 s1' g4 (by omega) (st_pos g3 g10) (words_ins s0' eS hn r1 ha hal1 hB h.1.2.2.2.2.1) (by
      rw [s0']
      exact srt_ins eS hn r1 hal h.1.2.2.2.2.2 r4 r3)
    obtain ⟨B, eW, hBB⟩ := insertWord_n (w := w) (k := at0) k1 (by omega) r1 k6
    obtain ⟨hcp, hfr⟩ := ins_cpl (S' := S') (at0 := at0) (cpg' := cpg') (clv' := clv') (ce' := ce') hc s0' s1' eS hn r1 hal hw hwb hBB g6 g7 (fun v hv p hp => by
      rw [g8, nf_a, g9 v hv p hp])
    obtain ⟨ch', cf', cl', ca', cp', eset, hst'⟩ := settle_n hwx hcp ch cf cl ca cp
    refine ⟨S', ⟨hwx, fun j hj => by rw [eS j hj]; exact ins_sm hB ha hj⟩, s0', ⟨hs1, fb1, ff1, ft1, wp1, wk1, wg1, wd1, wr1, wl1, me1, mf1, mg1, md1, mr1, mp1, hMrun.trans g1⟩, ch', cf', cl', ca', cp', _, _, _, _, _, _, _, ?_, hcp, hst', ⟨fun z hz => ?_, fun x hx => ⟨vu_n (hx _ (by omega)), vu_n (hx _ (by omega))⟩, hfr⟩⟩
    · have hne : ¬ nI (tot S) = 0 := fun q => by
        have := (nI_eq (a := tot S) (b := 0) (by omega) (by decide)).mp q
        rw [tot_off (by omega)] at this
        have h3 : S (3 + 0) = S 3 := rfl
        omega
      unfold C0_insert
      rw [hrank, bd1_in, eW, bd4_in, k2, if_neg hne]
      unfold C0_growUpwards
      have e5 : (nI (S 1) + 2) / 2 = nI ((S 1 + 2) / 2) := by
        show (nI (S 1) + nI 2) / nI 2 = _
        rw [nI_add, pk_div (by omega) (by decide) (by decide)]
      rw [k3, k4, e5]
      refine (congrArg (fun z => bd3 z _) g2).trans ?_
      rw [bd3_in]
      unfold C0_insert_J46
      exact (congrArg (fun z => bd5 z _) eset).trans rfl
    · obtain ⟨q1, q2, q3⟩ := g11 z hz
      exact ⟨vu_n hz, q1, q2, vu_n hz, q3⟩
end
