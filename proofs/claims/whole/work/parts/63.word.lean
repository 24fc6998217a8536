/-! the word that is asked for: by both alike -/
def thv (S ak : Nat → Nat) (al : Nat) : Nat := if 0 < S 2 ∧ wD S (ab ak al) 0 (WP S (ab ak al) al 0) = 192 then 1 else 0
theorem thv_le (S ak : Nat → Nat) (al : Nat) : thv S ak al ≤ 1 := by
  unfold thv
  split <;> omega
theorem thv_1 {S ak : Nat → Nat} {al : Nat} (h : thv S ak al = 1) : 0 < S 2 ∧ wD S (ab ak al) 0 (WP S (ab ak al) al 0) = 192 := by
  unfold thv at h
  by_cases c : 0 < S 2 ∧ wD S (ab ak al) 0 (WP S (ab ak al) al 0) = 192
  · exact c
  · rw [if_neg c] at h
    cases h
theorem thv_0 {S ak : Nat → Nat} {al : Nat} (h : thv S ak al = 0) : 0 < S 2 → wD S (ab ak al) 0 (WP S (ab ak al) al 0) ≠ 192 := by
  intro h1 h2
  unfold thv at h
  rw [if_pos ⟨h1, h2⟩] at h
  cases h
theorem there_n {S ak : Nat → Nat} {al : Nat} (h : WF S) (ha : aok ak al) : M_isThere (nf S) (nf ak) (nI al) = some (nI (thv S ak al)) := by
  rw [isThere_n h.1.2.1 (fun w hw => (wok_w h hw).1) (wok_a ha)]
  have h1 := thr_le (fun w => fd (mbit S ak al w) (mbit S ak al 48)) (S 0)
  have h2 := thv_le S ak al
  have key : thr (fun w => fd (mbit S ak al w) (mbit S ak al 48)) (S 0) = 1 ↔ thv S ak al = 1 := by
    rw [thr_s]
    constructor
    · rintro ⟨w, hw, e⟩
      have h0 : 0 < S 2 := by
        rcases Nat.eq_zero_or_pos (S 2) with q | q
        · have := h.2.2.1.mp q
          omega
        · exact q
      have hw48 : w < 48 := Nat.lt_of_lt_of_le hw h.1.2.1
      unfold thv
      rw [if_pos ⟨h0, (there_s h (ab_bits ak al) al h0).mpr ⟨w, hw, by rw [← mbit_wb hw48, ← mbit_ab]; exact e⟩⟩]
    · intro q
      obtain ⟨h0, e⟩ := thv_1 q
      obtain ⟨w, hw, e2⟩ := (there_s h (ab_bits ak al) al h0).mp e
      have hw48 : w < 48 := Nat.lt_of_lt_of_le hw h.1.2.1
      exact ⟨w, hw, by rw [mbit_wb hw48, mbit_ab]; exact e2⟩
  have e : thr (fun w => fd (mbit S ak al w) (mbit S ak al 48)) (S 0) = thv S ak al := by omega
  rw [e]
theorem sumN_ind {f : Nat → Nat} {m : Nat} (h1 : ∀ k, k < m → f k = 1) : ∀ {n : Nat}, m ≤ n → (∀ k, m ≤ k → k < n → f k = 0) → sumN f n = m
  | 0, h, _ => by
    rw [Nat.le_zero.mp h]
    rfl
  | n + 1, h, h2 => by
    rw [sumN]
    rcases Nat.lt_or_eq_of_le h with q | q
    · rw [sumN_ind h1 (by omega) (fun k a1 a2 => h2 k a1 (by omega)), h2 n (by omega) (by omega), Nat.add_zero]
    · have e : ∀ j, j ≤ n → sumN f j = j := by
        intro j
        induction j with
        | zero => intro _; rfl
        | succ j ih =>
          intro hj
          rw [sumN, ih (by omega), h1 j (by omega)]
      rw [e n (Nat.le_refl _), h1 n (by omega)]
      omega
theorem ltb_1 {f g : Nat → Nat} (h : lt f g) : ltb f g = 1 := by
  unfold ltb
  exact if_pos ⟨h.1, h.2.1⟩
theorem ltb_0 {f g : Nat → Nat} (hf : bits f) (hg : bits g) (h : ¬ lt f g) : ltb f g = 0 := by
  have h1 := ltb_le f g
  have h2 := mt (ltb_lt hf hg).mp h
  omega
theorem rkk_s {S ak : Nat → Nat} {al : Nat} (h : WF S) : rkk S (ab ak al) al ≤ S 0 ∧ thv S ak al ≤ rkk S (ab ak al) al ∧ (∀ w, w < rkk S (ab ak al) al - thv S ak al → lt (wb S w) (ab ak al)) ∧ (∀ w, rkk S (ab ak al) al ≤ w → w < S 0 → lt (ab ak al) (wb S w)) ∧ (thv S ak al = 1 → ∀ b, b < 192 → ab ak al b = wb S (rkk S (ab ak al) al - 1) b) := by
  unfold rkk
  by_cases c : S 2 = 0
  · have e0 := h.2.2.1.mp c
    have ht : thv S ak al = 0 := by
      unfold thv
      rw [if_neg (by omega)]
    rw [if_pos c, ht]
    exact ⟨by omega, by omega, fun w hw => absurd hw (by omega), fun w _ hw => absurd hw (by omega), fun q => absurd q (by decide)⟩
  · rw [if_neg c]
    obtain ⟨r1, r2, r3, r4, r5⟩ := rk_s h (ab_bits ak al) al (by omega)
    by_cases ct : wD S (ab ak al) 0 (WP S (ab ak al) al 0) = 192
    · have ht : thv S ak al = 1 := by
        unfold thv
        rw [if_pos ⟨by omega, ct⟩]
      obtain ⟨q1, q2⟩ := r5 ct
      rw [ht]
      refine ⟨r1, by omega, fun w hw => ?_, r3, fun _ => q2⟩
      exact lt_congr (fun _ _ => rfl) (fun b hb => (q2 b hb).symm) (h.2.2.2.2.2 w (rk S (ab ak al) al - 1) (by omega) (by omega))
    · have ht : thv S ak al = 0 := by
        unfold thv
        rw [if_neg (fun q => ct q.2)]
      rw [ht]
      exact ⟨r1, by omega, fun w hw => r4 ct w (by omega), r3, fun q => absurd q (by decide)⟩
theorem ahead_r {S ak : Nat → Nat} {al : Nat} (h : WF S) (ha : aok ak al) : M_ahead (nf S) (nf ak) (nI al) = some (nI (rkk S (ab ak al) al - thv S ak al)) := by
  rw [ahead_n h.1.2.1 (fun w hw => (wok_w h hw).1) (wok_a ha)]
  obtain ⟨r1, r2, r3, r4, r5⟩ := rkk_s (ak := ak) (al := al) h
  have h48 := h.1.2.1
  have ht := thv_le S ak al
  rw [sumN_ind (m := rkk S (ab ak al) al - thv S ak al) (fun k hk => ?_) (by omega) (fun k hk1 hk2 => ?_)]
  · rw [mbit_wb (by omega), mbit_ab]
    exact ltb_1 (r3 k hk)
  · rw [mbit_wb (by omega), mbit_ab]
    refine ltb_0 (wb_bits S k) (ab_bits ak al) (fun q => ?_)
    by_cases c : rkk S (ab ak al) al ≤ k
    · exact lt_irr q (r4 k c hk2)
    · have e : k = rkk S (ab ak al) al - 1 := by omega
      have h192 : fd (wb S k) (ab ak al) = 192 := fd_all (fun b hb => by rw [e]; exact (r5 (by omega) b hb).symm)
      have := q.1
      omega
section
variable {a : Nat → Nat} {LW LS LK : List Nat} {S ak T : Nat → Nat} {tl al kn nx : Nat} {mp : Nat → Int32} {ch cf cl ca cp cc cpg clv cm cs : Nat → Int32} {cbits : Nat → Nat → Int64} {cw : Nat → Nat → Nat} {ce : Nat → Nat → Int32}
/-- the text is read as a word by both -/
theorem word_n (ht : tl ≤ 120) (hT : ∀ i, T i < 128) (hak : ∀ i, ak i < 128) (cs : Nat → Int32) (cbits : Nat → Nat → Int64) (w : Nat) : (∃ (ak' : Nat → Nat) (B : Nat → Int64), M_isWord (nf T) (nI tl) (nf ak) (nI al) = some (1, nf ak', nI tl) ∧ C4_readWord (nf T) (nI tl) cs cbits w = some (1, va_up cs w (nI tl), va_up cbits w B) ∧ (∀ i, ak' i < 128) ∧ 1 ≤ tl ∧ tl ≤ 24 ∧ ∀ b, b < 192 → cb B b = ab ak' tl b) ∨ ∃ (ak' : Nat → Nat) (B : Nat → Int64) (m : Int32), M_isWord (nf T) (nI tl) (nf ak) (nI al) = some (0, nf ak', nI al) ∧ C4_readWord (nf T) (nI tl) cs cbits w = some (0, va_up cs w m, va_up cbits w B) ∧ ∀ i, ak' i < 128 := by
  obtain ⟨m1, m2⟩ := isWord_n (ak := ak) (al := al) ht hT
  obtain ⟨c1, c2⟩ := readWord_n (w := w) ht hT cs cbits
  by_cases c : isw T tl
  · obtain ⟨ak', e1, e2, e3⟩ := m1 c
    obtain ⟨B, e4, e5⟩ := c1 c
    have hs := isw_s.mp c
    refine Or.inl ⟨ak', B, e1, e4, fun i => ?_, hs.1.1, hs.1.2, fun b hb => ?_⟩
    · rcases e3 i with q | q
      · rw [q]; exact hT i
      · rw [q]; exact hak i
    · exact wbits_congr e5 (fun i hi => (e2 i hi).symm) b hb
  · obtain ⟨ak', e1, e3⟩ := m2 c
    obtain ⟨B, m, e4⟩ := c2 c
    refine Or.inr ⟨ak', B, m, e1, e4, fun i => ?_⟩
    rcases e3 i with q | q
    · rw [q]; exact hT i
    · rw [q]; exact hak i
theorem walkw_n (hg : GS S) (hc : Cpl LW S (a 14) cc cpg clv cm cs cbits cw ce) (hs : Stl S ch cf cl ca cp) (hk : LKok a LK) {w : Nat} (hal : al ≤ 24) (hsg : cs w = nI al) (hwb : ∀ b, b < 192 → cb (cbits w) b = ab ak al b) (c1 c2 c3 c4 c5 c6 : Nat → Int32) (x1 x2 x3 x4 x5 x6 : Int32) : ∃ (d1 d2 d3 d4 d5 d6 : Nat → Int32) (y1 y2 y3 y4 y5 y6 : Int32), C0_walk a LW LK ch cf cp cs cpg clv cbits cw ce c1 c2 c3 c4 c5 c6 x1 x2 x3 x4 x5 x6 w = some (d1, d2, d3, d4, d5, d6, y1, y2, y3, y4, y5, y6) ∧ ∀ u, u < S 2 → lookok S (ab ak al) al a d1 d2 d3 d4 d5 d6 u := by
  obtain ⟨d1, d2, d3, d4, d5, d6, y1, y2, y3, y4, y5, y6, e, h⟩ := walk_n hg.1 hc hs hk hal hsg c1 c2 c3 c4 c5 c6 x1 x2 x3 x4 x5 x6
  exact ⟨d1, d2, d3, d4, d5, d6, y1, y2, y3, y4, y5, y6, e, fun u hu => lookok_W hg.1.1 (cb_bits _) hwb hu (h u hu)⟩
theorem thc (hg : GS S) (hc : Cpl LW S (a 14) cc cpg clv cm cs cbits cw ce) (hk : LKok a LK) {d1 d2 d3 d4 d5 d6 : Nat → Int32} (hl : ∀ u, u < S 2 → lookok S (ab ak al) al a d1 d2 d3 d4 d5 d6 u) : C0_isThere a LK cpg d4 = some (nI (thv S ak al)) := isThere_c hg.1 hc hk hl
/-- a word is added if it is new, by both -/
theorem insNew_n (hA : Ax a LS LK) (hg : GS S) (hc : Cpl LW S (a 14) cc cpg clv cm cs cbits cw ce) (hs : Stl S ch cf cl ca cp) (hW : Wds a LW cw) (hr : Rng a LW kn nx mp cc cpg clv cm cs cbits cw ce) (ha : aok ak al) (hal1 : 1 ≤ al) (hw : cs (a 13) = nI al) (hwb : ∀ b, b < 192 → cb (cbits (a 13)) b = ab ak al b) (c1 c2 c3 c4 c5 c6 : Nat → Int32) (x1 x2 x3 x4 x5 x6 : Int32) (hs0 fb0 ff0 ft0 wp wk wg wd wr wl : Nat → Int32) (me mf mg md mr mq : Int32) :
    ∃ (S' : Nat → Nat) (ch' cf' cl' ca' cp' cs' cc' cpg' clv' : Nat → Int32) (d1 d2 d3 d4 d5 d6 : Nat → Int32) (cbits' : Nat → Nat → Int64) (cw' : Nat → Nat → Nat) (ce' : Nat → Nat → Int32) (y1 y2 y3 y4 y5 y6 : Int32) (r : Nat), C0_insertIfNew a LW LK cm ch cf cl ca cp cs cc cpg clv c1 c2 c3 c4 c5 c6 cbits cw ce x1 x2 x3 x4 x5 x6 (a 13) = some (nI r, ch', cf', cl', ca', cp', cs', cc', cpg', clv', d1, d2, d3, d4, d5, d6, cbits', cw', ce', y1, y2, y3, y4, y5, y6) ∧ GS S' ∧ Cpl LW S' (a 14) cc' cpg' clv' cm cs' cbits' cw' ce' ∧ Stl S' ch' cf' cl' ca' cp' ∧ Wds a LW cw' ∧ Rng a LW kn nx mp cc' cpg' clv' cm cs' cbits' cw' ce' ∧ ((r = 0 ∧ S' = S ∧ (thv S ak al = 1 ∨ (thv S ak al = 0 ∧ S 0 = 48))) ∨ (r = 1 ∧ thv S ak al = 0 ∧ S 0 ≤ 47 ∧ ∃ (hs1 fb1 ff1 ft1 wp1 wk1 wg1 wd1 wr1 wl1 : Nat → Int32) (me1 mf1 mg1 md1 mr1 mp1 : Int32), M_adds (nf ak) (nI al) (nf S) hs0 fb0 ff0 ft0 wp wk wg wd wr wl me mf mg md mr mq = some (nf S', hs1, fb1, ff1, ft1, wp1, wk1, wg1, wd1, wr1, wl1, me1, mf1, mg1, md1, mr1, mp1))) := by
  obtain ⟨d1, d2, d3, d4, d5, d6, y1, y2, y3, y4, y5, y6, e, hl⟩ := walkw_n hg hc hs hA.2.2.2 ha.1 hw hwb c1 c2 c3 c4 c5 c6 x1 x2 x3 x4 x5 x6
  have eT := thc hg hc hA.2.2.2 hl
  have hle := thv_le S ak al
  have h48 := gs48 hg
  have hcc := hc.1
  by_cases c : thv S ak al = 1
  · refine ⟨S, ch, cf, cl, ca, cp, cs, cc, cpg, clv, d1, d2, d3, d4, d5, d6, cbits, cw, ce, y1, y2, y3, y4, y5, y6, 0, ?_, hg, hc, hs, hW, hr, Or.inl ⟨rfl, rfl, Or.inl c⟩⟩
    unfold C0_insertIfNew
    rw [e, bd12_in, eT, bd1_in, c, if_neg (by decide)]
    rfl
  · have c0 : thv S ak al = 0 := by omega
    by_cases cn : S 0 = 48
    · refine ⟨S, ch, cf, cl, ca, cp, cs, cc, cpg, clv, d1, d2, d3, d4, d5, d6, cbits, cw, ce, y1, y2, y3, y4, y5, y6, 0, ?_, hg, hc, hs, hW, hr, Or.inl ⟨rfl, rfl, Or.inr ⟨c0, cn⟩⟩⟩
      unfold C0_insertIfNew
      rw [e, bd12_in, eT, bd1_in, c0, if_pos (by decide), hcc, cn, if_neg (by decide)]
      rfl
    · obtain ⟨S', g1, g2, ⟨hs1, fb1, ff1, ft1, wp1, wk1, wg1, wd1, wr1, wl1, me1, mf1, mg1, md1, mr1, mp1, g3⟩, ch', cf', cl', ca', cp', cs', cc', cpg', clv', cbits', cw', ce', g4, g5, g6, g7⟩ := add_n hg hc hs hA.2.2.2 ha hal1 (by omega) hw hwb hl (thv_0 c0) hs0 fb0 ff0 ft0 wp wk wg wd wr wl me mf mg md mr mq
      obtain ⟨f1, f2, _⟩ := frm_n hA hW g7 g5 hr
      refine ⟨S', ch', cf', cl', ca', cp', cs', cc', cpg', clv', d1, d2, d3, d4, d5, d6, cbits', cw', ce', y1, y2, y3, y4, y5, y6, 1, ?_, g1, g5, g6, f1, f2, Or.inr ⟨rfl, c0, by omega, hs1, fb1, ff1, ft1, wp1, wk1, wg1, wd1, wr1, wl1, me1, mf1, mg1, md1, mr1, mp1, g3⟩⟩
      unfold C0_insertIfNew
      rw [e, bd12_in, eT, bd1_in, c0, if_pos (by decide), hcc, show (48 : Int32) = nI 48 from rfl, ilt (by omega) (by decide), if_pos (by omega), g4, bd12_in]
      rfl
/-- a word is taken out if it is there, by both -/
theorem remThere_n (hA : Ax a LS LK) (hg : GS S) (hc : Cpl LW S (a 14) cc cpg clv cm cs cbits cw ce) (hs : Stl S ch cf cl ca cp) (hW : Wds a LW cw) (hr : Rng a LW kn nx mp cc cpg clv cm cs cbits cw ce) (ha : aok ak al) (hw : cs (a 13) = nI al) (hwb : ∀ b, b < 192 → cb (cbits (a 13)) b = ab ak al b) (c1 c2 c3 c4 c5 c6 : Nat → Int32) (x1 x2 x3 x4 x5 x6 : Int32) (hs0 fb0 ff0 ft0 wp wk wg wd wr wl : Nat → Int32) (me mf mg md mr mq : Int32) :
    ∃ (S' : Nat → Nat) (ch' cf' cl' ca' cp' cc' cpg' clv' : Nat → Int32) (d1 d2 d3 d4 d5 d6 : Nat → Int32) (cw' : Nat → Nat → Nat) (ce' : Nat → Nat → Int32) (y1 y2 y3 y4 y5 y6 : Int32) (r : Nat), C0_removeIfThere a LW LK cs cm cbits ch cf cl ca cp cc cpg clv c1 c2 c3 c4 c5 c6 cw ce x1 x2 x3 x4 x5 x6 (a 13) = some (nI r, ch', cf', cl', ca', cp', cc', cpg', clv', d1, d2, d3, d4, d5, d6, cw', ce', y1, y2, y3, y4, y5, y6) ∧ GS S' ∧ Cpl LW S' (a 14) cc' cpg' clv' cm cs cbits cw' ce' ∧ Stl S' ch' cf' cl' ca' cp' ∧ Wds a LW cw' ∧ Rng a LW kn nx mp cc' cpg' clv' cm cs cbits cw' ce' ∧ ((r = 0 ∧ S' = S ∧ thv S ak al = 0) ∨ (r = 1 ∧ thv S ak al = 1 ∧ ∃ (hs1 fb1 ff1 ft1 wp1 wk1 wg1 wd1 wr1 wl1 : Nat → Int32) (me1 mf1 mg1 md1 mr1 mp1 : Int32), M_takes (nf ak) (nI al) (nf S) hs0 fb0 ff0 ft0 wp wk wg wd wr wl me mf mg md mr mq = some (nf S', hs1, fb1, ff1, ft1, wp1, wk1, wg1, wd1, wr1, wl1, me1, mf1, mg1, md1, mr1, mp1))) := by
  obtain ⟨d1, d2, d3, d4, d5, d6, y1, y2, y3, y4, y5, y6, e, hl⟩ := walkw_n hg hc hs hA.2.2.2 ha.1 hw hwb c1 c2 c3 c4 c5 c6 x1 x2 x3 x4 x5 x6
  have eT := thc hg hc hA.2.2.2 hl
  have hle := thv_le S ak al
  by_cases c : thv S ak al = 1
  · obtain ⟨c0, c1'⟩ := thv_1 c
    obtain ⟨S', g1, g2, ⟨hs1, fb1, ff1, ft1, wp1, wk1, wg1, wd1, wr1, wl1, me1, mf1, mg1, md1, mr1, mp1, g3⟩, ch', cf', cl', ca', cp', cc', cpg', clv', cw', ce', g4, g5, g6, g7⟩ := take_n hg hc hs hA.2.2.2 ha hl c0 c1' hs0 fb0 ff0 ft0 wp wk wg wd wr wl me mf mg md mr mq
    obtain ⟨f1, f2, _⟩ := frm_n hA hW g7 g5 hr
    refine ⟨S', ch', cf', cl', ca', cp', cc', cpg', clv', d1, d2, d3, d4, d5, d6, cw', ce', y1, y2, y3, y4, y5, y6, 1, ?_, g1, g5, g6, f1, f2, Or.inr ⟨rfl, c, hs1, fb1, ff1, ft1, wp1, wk1, wg1, wd1, wr1, wl1, me1, mf1, mg1, md1, mr1, mp1, g3⟩⟩
    unfold C0_removeIfThere
    rw [e, bd12_in, eT, bd1_in, c, if_neg (by decide), g4, bd10_in]
    rfl
  · have c0 : thv S ak al = 0 := by omega
    refine ⟨S, ch, cf, cl, ca, cp, cc, cpg, clv, d1, d2, d3, d4, d5, d6, cw, ce, y1, y2, y3, y4, y5, y6, 0, ?_, hg, hc, hs, hW, hr, Or.inl ⟨rfl, rfl, c0⟩⟩
    unfold C0_removeIfThere
    rw [e, bd12_in, eT, bd1_in, c0, if_pos (by decide)]
    rfl
end
