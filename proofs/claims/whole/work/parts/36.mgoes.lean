/-! the reference goes the way -/
theorem wok_w {S ak : Nat → Nat} {al w : Nat} (h : WF S) (hw : w < S 0) : wok S ak al w ∧ 1 ≤ mlen S al w ∧ mlen S al w = S (350 + w) := by
  have h48 := h.1.2.1
  obtain ⟨h1, h2, h3⟩ := h.2.2.2.2.1 w hw
  have e : mlen S al w = S (350 + w) := if_neg (by omega)
  refine ⟨⟨by omega, by omega, fun i hi => ?_⟩, by omega, e⟩
  unfold msg
  rw [if_neg (by omega)]
  exact Nat.lt_trans (h3 i hi) (by decide)
/-- the word that is asked for: short, small signs -/
def aok (ak : Nat → Nat) (al : Nat) : Prop := al ≤ 24 ∧ ∀ i, i < 24 → ak i < 128
theorem wok_a {S ak : Nat → Nat} {al : Nat} (h : aok ak al) : wok S ak al 48 := ⟨Nat.le_refl _, by unfold mlen; rw [if_pos rfl]; exact h.1, fun i hi => by unfold msg; rw [if_pos rfl]; exact Nat.lt_trans (h.2 i hi) (by decide)⟩
def ab (ak : Nat → Nat) (al : Nat) : Nat → Nat := bt8 al ak
theorem mbit_ab {S ak : Nat → Nat} {al : Nat} : mbit S ak al 48 = ab ak al := by
  unfold mbit ab mlen msg
  simp only [if_pos]
theorem ab_bits (ak : Nat → Nat) (al : Nat) : bits (ab ak al) := bt8_bits _ _
/-- looking at a page, in the words of the way -/
theorem looks_n {S ak : Nat → Nat} {al : Nat} (h : WF S) (ha : aok ak al) {v p kn : Nat} (hv : v < S 2) (hp : p < S (3 + v)) (hkn : kn ≤ 192) (hs fb0 ff0 ft0 : Nat → Int32) (me mf mg md mr mp : Int32) : ∃ (hs1 fb1 ff1 ft1 : Nat → Int32) (me1 mf1 : Int32), M_looksAt (nf S) (nf ak) (nI al) hs fb0 ff0 ft0 me mf mg md mr mp (nI v) (nI p) (nI kn) = some (hs1, fb1, ff1, ft1, me1, mf1, nI (wG S (ab ak al) v p), enc (wD S (ab ak al) v p), nI (wR S (ab ak al) v p kn), nI (wL S (ab ak al) v p)) ∧ ∀ e, e < S (12 + 48 * v + p) → hs1 e = nI (eh S v (ent S v p + e)) := by
  obtain ⟨g1, g2, g3⟩ := pgv h hv hp
  have h48 := h.1.2.1
  have hlt : ∀ e, e < S (12 + 48 * v + p) → eh S v (ent S v p + e) < S 0 := fun e he => eh_lt0 h hv (by omega)
  have hsr := hbs_srt h hv hp
  have hcg : ∀ e, e < S (12 + 48 * v + p) → ∀ b, b < 192 → hbs S v p e b = mbit S ak al (eh S v (ent S v p + e)) b := fun e he b _ => by
    rw [mbit_wb (by have := hlt e he; omega)]
    rfl
  have hsr2 := srt_congr hsr hcg
  obtain ⟨fb1, ff1, ft1, mf1, hL⟩ := looksAt_n (S := S) (ak := ak) (al := al) (h := fun e => eh S v (ent S v p + e)) (N := S (12 + 48 * v + p)) h.1 hv hp rfl g3 (by omega) rfl (fun e he => ⟨(wok_w h (hlt e he)).1, (wok_w (ak := ak) h (hlt e he)).2.1⟩) (wok_a ha) hsr2 hkn hs fb0 ff0 ft0 me mf mg md mr mp
  obtain ⟨c1, c2, c3, _⟩ := look_congr (W := ab ak al) (W' := mbit S ak al 48) hsr (by omega) g3 hcg (fun b _ => by rw [mbit_ab])
  have hgn := (gs_tip (W := ab ak al) hsr (by omega) g3).2
  refine ⟨ov hs (S (12 + 48 * v + p)) (fun e => eh S v (ent S v p + e)), fb1, ff1, ft1, nI (S (12 + 48 * v + p)), mf1, ?_, fun e he => ov_in he⟩
  rw [hL]
  have e2 : fd (ab ak al) (hbs S v p (gs (hbs S v p) (ab ak al) (S (12 + 48 * v + p)))) = fd (mbit S ak al 48) (mbit S ak al (eh S v (ent S v p + gs (fun e => mbit S ak al (eh S v (ent S v p + e))) (mbit S ak al 48) (S (12 + 48 * v + p))))) := c2
  have e3 := (wok_w (ak := ak) (al := al) h (hlt _ hgn)).2.2
  unfold wR wD wL wG
  rw [← c3, e2, ← e3, c1]
/-- the rows of the way from a level down -/
def wayok (S W : Nat → Nat) (al : Nat) (wp wk wg wd wr wl : Nat → Int32) (u : Nat) : Prop := wp u = nI (WP S W al u) ∧ wk u = nI (WK S W al u) ∧ wg u = nI (wG S W u (WP S W al u)) ∧ wd u = enc (wD S W u (WP S W al u)) ∧ wr u = nI (wR S W u (WP S W al u) (WK S W al u)) ∧ wl u = nI (wL S W u (WP S W al u))
theorem upd_s {f : Nat → Int32} {k : Nat} {x : Int32} : upd f k x k = x := if_pos rfl
theorem upd_n {f : Nat → Int32} {k j : Nat} {x : Int32} (h : j ≠ k) : upd f k x j = f j := if_neg h
theorem goes_L {S ak : Nat → Nat} {al : Nat} (h : WF S) (ha : aok ak al) (k : (Nat → Int32) → (Nat → Int32) → (Nat → Int32) → (Nat → Int32) → (Nat → Int32) → (Nat → Int32) → (Nat → Int32) → (Nat → Int32) → (Nat → Int32) → (Nat → Int32) → Int32 → Int32 → Int32 → Int32 → Int32 → Int32 → Option ((Nat → Int32) × (Nat → Int32) × (Nat → Int32) × (Nat → Int32) × (Nat → Int32) × (Nat → Int32) × (Nat → Int32) × (Nat → Int32) × (Nat → Int32) × (Nat → Int32) × Int32 × Int32 × Int32 × Int32 × Int32 × Int32)) :
    ∀ (v n : Nat) (hs fb0 ff0 ft0 wp wk wg wd wr wl : Nat → Int32) (me mf mg md mr mp : Int32), v < S 2 → v + 1 < n → ∃ (hs1 fb1 ff1 ft1 wp1 wk1 wg1 wd1 wr1 wl1 : Nat → Int32) (me1 mf1 mg1 md1 mr1 mp1 : Int32), M_goes_L9 (nf S) (nf ak) (nI al) k n hs fb0 ff0 ft0 wp wk wg wd wr wl me mf mg md mr mp (nI (WP S (ab ak al) al v)) (nI (WK S (ab ak al) al v)) (nI v) = k hs1 fb1 ff1 ft1 wp1 wk1 wg1 wd1 wr1 wl1 me1 mf1 mg1 md1 mr1 mp1 ∧ (∀ u, u ≤ v → wayok S (ab ak al) al wp1 wk1 wg1 wd1 wr1 wl1 u) ∧ ∀ u, v < u → wp1 u = wp u ∧ wk1 u = wk u ∧ wg1 u = wg u ∧ wd1 u = wd u ∧ wr1 u = wr u ∧ wl1 u = wl u := by
  have hW := ab_bits ak al
  have h48 := h.1.2.1
  intro v
  induction v with
  | zero =>
    intro n hs fb0 ff0 ft0 wp wk wg wd wr wl me mf mg md mr mp hv hn
    obtain ⟨n, rfl⟩ : ∃ m, n = m + 2 := ⟨n - 2, by omega⟩
    have hp := WP_ok h hW al hv
    have hpg := (h.1.2.2 0 hv).1
    obtain ⟨g1, g2, g3⟩ := pgv h hv hp
    have hwl := wL_le h hW hv hp
    obtain ⟨hs1, fb1, ff1, ft1, me1, mf1, hL, hh⟩ := looks_n h ha hv hp (WK_le S (ab ak al) ha.1 0) hs fb0 ff0 ft0 me mf mg md mr mp
    have hwx : eh S 0 (wx S (ab ak al) 0 (WP S (ab ak al) al 0)) < S 0 := eh_lt0 h hv (wx_lt h hW hv hp)
    have hent : ent S 0 (WP S (ab ak al) al 0) ≤ 48 := Nat.le_trans (ent_le h.1 hv (Nat.le_of_lt hp)) (bel_le h.1 hv)
    have j91 : ∀ a1 a2 a3 a4 a5 a6 : Nat → Int32, ∃ (z : Int32) (z2 : Int32), M_goes_J91 (nf S) (nf ak) (nI al) (M_goes_L9 (nf S) (nf ak) (nI al) k (n + 1)) k hs1 fb1 ff1 ft1 a1 a2 a3 a4 a5 a6 me1 mf1 (nI (wG S (ab ak al) 0 (WP S (ab ak al) al 0))) (enc (wD S (ab ak al) 0 (WP S (ab ak al) al 0))) (nI (wR S (ab ak al) 0 (WP S (ab ak al) al 0) (WK S (ab ak al) al 0))) (nI (wL S (ab ak al) 0 (WP S (ab ak al) al 0))) (nI (WP S (ab ak al) al 0)) (nI 0) (nI (wL S (ab ak al) 0 (WP S (ab ak al) al 0) - 1)) = k hs1 fb1 ff1 ft1 a1 a2 a3 a4 a5 a6 me1 mf1 (nI (wG S (ab ak al) 0 (WP S (ab ak al) al 0))) (enc (wD S (ab ak al) 0 (WP S (ab ak al) al 0))) (nI (wR S (ab ak al) 0 (WP S (ab ak al) al 0) (WK S (ab ak al) al 0))) (nI (wL S (ab ak al) 0 (WP S (ab ak al) al 0))) := by
      intro a1 a2 a3 a4 a5 a6
      refine ⟨0, 0, ?_⟩
      have hj : ∀ t0 : Int32, M_goes_J126 (nf S) (nf ak) (nI al) (M_goes_L9 (nf S) (nf ak) (nI al) k (n + 1)) k hs1 fb1 ff1 ft1 a1 a2 a3 a4 a5 a6 me1 mf1 (nI (wG S (ab ak al) 0 (WP S (ab ak al) al 0))) (enc (wD S (ab ak al) 0 (WP S (ab ak al) al 0))) (nI (wR S (ab ak al) 0 (WP S (ab ak al) al 0) (WK S (ab ak al) al 0))) (nI (wL S (ab ak al) 0 (WP S (ab ak al) al 0))) (nI (WP S (ab ak al) al 0)) (nI 0) (nI (wL S (ab ak al) 0 (WP S (ab ak al) al 0) - 1)) t0 = k hs1 fb1 ff1 ft1 a1 a2 a3 a4 a5 a6 me1 mf1 (nI (wG S (ab ak al) 0 (WP S (ab ak al) al 0))) (enc (wD S (ab ak al) 0 (WP S (ab ak al) al 0))) (nI (wR S (ab ak al) 0 (WP S (ab ak al) al 0) (WK S (ab ak al) al 0))) (nI (wL S (ab ak al) 0 (WP S (ab ak al) al 0))) := by
        intro t0
        rw [M_goes_J126, entriesAhead_n (by omega) (by omega), bd1_in, M_goes_L9, if_pos (by decide)]
      rw [M_goes_J91, ga_n (by omega) (by decide), nI_clamp (by omega), hh _ (by omega)]
      show bd1 (M_differ (nf S) (nf ak) (nI al) (nI 48) (nI (eh S 0 (wx S (ab ak al) 0 (WP S (ab ak al) al 0))))) _ = _
      rw [differ_n (wok_a ha) (wok_w h hwx).1, bd1_in]
      split
      · exact hj _
      · exact hj _
    rw [M_goes_L9, ineg (by decide), hL, bd10_in, ga_n (by decide) (by decide), ga_n (by decide) (by decide), ga_n (by decide) (by decide), ga_n (by decide) (by decide), ga_n (by decide) (by decide), ga_n (by decide) (by decide)]
    obtain ⟨_, _, hJ⟩ := j91 (upd wp 0 (nI (WP S (ab ak al) al 0))) (upd wk 0 (nI (WK S (ab ak al) al 0))) (upd wg 0 (nI (wG S (ab ak al) 0 (WP S (ab ak al) al 0)))) (upd wd 0 (enc (wD S (ab ak al) 0 (WP S (ab ak al) al 0)))) (upd wr 0 (nI (wR S (ab ak al) 0 (WP S (ab ak al) al 0) (WK S (ab ak al) al 0)))) (upd wl 0 (nI (wL S (ab ak al) 0 (WP S (ab ak al) al 0))))
    refine ⟨hs1, fb1, ff1, ft1, upd wp 0 (nI (WP S (ab ak al) al 0)), upd wk 0 (nI (WK S (ab ak al) al 0)), upd wg 0 (nI (wG S (ab ak al) 0 (WP S (ab ak al) al 0))), upd wd 0 (enc (wD S (ab ak al) 0 (WP S (ab ak al) al 0))), upd wr 0 (nI (wR S (ab ak al) 0 (WP S (ab ak al) al 0) (WK S (ab ak al) al 0))), upd wl 0 (nI (wL S (ab ak al) 0 (WP S (ab ak al) al 0))), me1, mf1, nI (wG S (ab ak al) 0 (WP S (ab ak al) al 0)), enc (wD S (ab ak al) 0 (WP S (ab ak al) al 0)), nI (wR S (ab ak al) 0 (WP S (ab ak al) al 0) (WK S (ab ak al) al 0)), nI (wL S (ab ak al) 0 (WP S (ab ak al) al 0)), ?_, fun u hu => ?_, fun u hu => ?_⟩
    · show (if nI (wL S (ab ak al) 0 (WP S (ab ak al) al 0)) = nI 0 then _ else _) = _
      rw [ie (by omega) (by decide)]
      by_cases hz : wL S (ab ak al) 0 (WP S (ab ak al) al 0) = 0
      · rw [if_pos hz]
        rw [show wL S (ab ak al) 0 (WP S (ab ak al) al 0) - 1 = 0 by omega] at hJ
        exact hJ
      · rw [if_neg hz]
        show M_goes_J91 _ _ _ _ _ _ _ _ _ _ _ _ _ _ _ _ _ _ _ _ _ _ _ (nI (wL S (ab ak al) 0 (WP S (ab ak al) al 0)) - nI 1) = _
        rw [pk_sub (by omega)]
        exact hJ
    · rw [show u = 0 by omega]
      exact ⟨upd_s, upd_s, upd_s, upd_s, upd_s, upd_s⟩
    · exact ⟨upd_n (by omega), upd_n (by omega), upd_n (by omega), upd_n (by omega), upd_n (by omega), upd_n (by omega)⟩
  | succ v ih =>
    intro n hs fb0 ff0 ft0 wp wk wg wd wr wl me mf mg md mr mp hv hn
    obtain ⟨n, rfl⟩ : ∃ m, n = m + 1 := ⟨n - 1, by omega⟩
    have h6 := h.1.1
    have hp := WP_ok h hW al hv
    have hpg := (h.1.2.2 (v + 1) hv).1
    obtain ⟨g1, g2, g3⟩ := pgv h hv hp
    have hwl := wL_le h hW hv hp
    obtain ⟨hs1, fb1, ff1, ft1, me1, mf1, hL, hh⟩ := looks_n h ha hv hp (WK_le S (ab ak al) ha.1 (v + 1)) hs fb0 ff0 ft0 me mf mg md mr mp
    have hwx : eh S (v + 1) (wx S (ab ak al) (v + 1) (WP S (ab ak al) al (v + 1))) < S 0 := eh_lt0 h hv (wx_lt h hW hv hp)
    obtain ⟨eP, eK⟩ := WP_s S (ab ak al) al (v := v) hv
    have ih := ih n hs1 fb1 ff1 ft1 (upd wp (v + 1) (nI (WP S (ab ak al) al (v + 1)))) (upd wk (v + 1) (nI (WK S (ab ak al) al (v + 1)))) (upd wg (v + 1) (nI (wG S (ab ak al) (v + 1) (WP S (ab ak al) al (v + 1))))) (upd wd (v + 1) (enc (wD S (ab ak al) (v + 1) (WP S (ab ak al) al (v + 1))))) (upd wr (v + 1) (nI (wR S (ab ak al) (v + 1) (WP S (ab ak al) al (v + 1)) (WK S (ab ak al) al (v + 1))))) (upd wl (v + 1) (nI (wL S (ab ak al) (v + 1) (WP S (ab ak al) al (v + 1))))) me1 mf1 (nI (wG S (ab ak al) (v + 1) (WP S (ab ak al) al (v + 1)))) (enc (wD S (ab ak al) (v + 1) (WP S (ab ak al) al (v + 1)))) (nI (wR S (ab ak al) (v + 1) (WP S (ab ak al) al (v + 1)) (WK S (ab ak al) al (v + 1)))) (nI (wL S (ab ak al) (v + 1) (WP S (ab ak al) al (v + 1)))) (by omega) (by omega)
    obtain ⟨hs2, fb2, ff2, ft2, wp2, wk2, wg2, wd2, wr2, wl2, me2, mf2, mg2, md2, mr2, mp2, e2, ok2, un2⟩ := ih
    refine ⟨hs2, fb2, ff2, ft2, wp2, wk2, wg2, wd2, wr2, wl2, me2, mf2, mg2, md2, mr2, mp2, ?_, fun u hu => ?_, fun u hu => ?_⟩
    · rw [← e2, M_goes_L9, ineg (by omega), hL, bd10_in, ga_n (by omega) (by decide), ga_n (by omega) (by decide), ga_n (by omega) (by decide), ga_n (by omega) (by decide), ga_n (by omega) (by decide), ga_n (by omega) (by decide), nI_clamp (by omega)]
      have hJ : M_goes_J91 (nf S) (nf ak) (nI al) (M_goes_L9 (nf S) (nf ak) (nI al) k n) k hs1 fb1 ff1 ft1 (upd wp (v + 1) (nI (WP S (ab ak al) al (v + 1)))) (upd wk (v + 1) (nI (WK S (ab ak al) al (v + 1)))) (upd wg (v + 1) (nI (wG S (ab ak al) (v + 1) (WP S (ab ak al) al (v + 1))))) (upd wd (v + 1) (enc (wD S (ab ak al) (v + 1) (WP S (ab ak al) al (v + 1))))) (upd wr (v + 1) (nI (wR S (ab ak al) (v + 1) (WP S (ab ak al) al (v + 1)) (WK S (ab ak al) al (v + 1))))) (upd wl (v + 1) (nI (wL S (ab ak al) (v + 1) (WP S (ab ak al) al (v + 1))))) me1 mf1 (nI (wG S (ab ak al) (v + 1) (WP S (ab ak al) al (v + 1)))) (enc (wD S (ab ak al) (v + 1) (WP S (ab ak al) al (v + 1)))) (nI (wR S (ab ak al) (v + 1) (WP S (ab ak al) al (v + 1)) (WK S (ab ak al) al (v + 1)))) (nI (wL S (ab ak al) (v + 1) (WP S (ab ak al) al (v + 1)))) (nI (WP S (ab ak al) al (v + 1))) (nI (v + 1)) (nI (wL S (ab ak al) (v + 1) (WP S (ab ak al) al (v + 1)) - 1)) = M_goes_L9 (nf S) (nf ak) (nI al) k n hs1 fb1 ff1 ft1 (upd wp (v + 1) (nI (WP S (ab ak al) al (v + 1)))) (upd wk (v + 1) (nI (WK S (ab ak al) al (v + 1)))) (upd wg (v + 1) (nI (wG S (ab ak al) (v + 1) (WP S (ab ak al) al (v + 1))))) (upd wd (v + 1) (enc (wD S (ab ak al) (v + 1) (WP S (ab ak al) al (v + 1))))) (upd wr (v + 1) (nI (wR S (ab ak al) (v + 1) (WP S (ab ak al) al (v + 1)) (WK S (ab ak al) al (v + 1))))) (upd wl (v + 1) (nI (wL S (ab ak al) (v + 1) (WP S (ab ak al) al (v + 1))))) me1 mf1 (nI (wG S (ab ak al) (v + 1) (WP S (ab ak al) al (v + 1)))) (enc (wD S (ab ak al) (v + 1) (WP S (ab ak al) al (v + 1)))) (nI (wR S (ab ak al) (v + 1) (WP S (ab ak al) al (v + 1)) (WK S (ab ak al) al (v + 1)))) (nI (wL S (ab ak al) (v + 1) (WP S (ab ak al) al (v + 1)))) (nI (WP S (ab ak al) al v)) (nI (WK S (ab ak al) al v)) (nI v) := by
        rw [M_goes_J91, ga_n (by omega) (by decide), nI_clamp (by omega), hh _ (by omega)]
        show bd1 (M_differ (nf S) (nf ak) (nI al) (nI 48) (nI (eh S (v + 1) (wx S (ab ak al) (v + 1) (WP S (ab ak al) al (v + 1)))))) _ = _
        rw [differ_n (wok_a ha) (wok_w h hwx).1, bd1_in, enc_m1 (fd_le _ _), mbit_ab, mbit_wb (by omega), eP, eK]
        unfold wkn
        by_cases hz : fd (ab ak al) (wb S (eh S (v + 1) (wx S (ab ak al) (v + 1) (WP S (ab ak al) al (v + 1))))) = 192
        · rw [if_pos hz, if_pos hz, M_goes_J126, entriesAhead_n (by omega) (by omega), bd1_in, pk_m1, nI_add]
          show M_goes_L9 _ _ _ _ _ _ _ _ _ _ _ _ _ _ _ _ _ _ _ _ _ _ (nI 8 * nI al) _ = _
          rw [pk_mul]
          rfl
        · rw [if_neg hz, if_neg hz, enc_some hz, M_goes_J126, entriesAhead_n (by omega) (by omega), bd1_in, pk_m1, nI_add]
          rfl
      show (if nI (wL S (ab ak al) (v + 1) (WP S (ab ak al) al (v + 1))) = nI 0 then _ else _) = _
      rw [ie (by omega) (by decide)]
      by_cases hz : wL S (ab ak al) (v + 1) (WP S (ab ak al) al (v + 1)) = 0
      · rw [if_pos hz]
        rw [show wL S (ab ak al) (v + 1) (WP S (ab ak al) al (v + 1)) - 1 = 0 by omega] at hJ
        exact hJ
      · rw [if_neg hz]
        show M_goes_J91 _ _ _ _ _ _ _ _ _ _ _ _ _ _ _ _ _ _ _ _ _ _ _ (nI (wL S (ab ak al) (v + 1) (WP S (ab ak al) al (v + 1))) - nI 1) = _
        rw [pk_sub (by omega)]
        exact hJ
    · rcases Nat.lt_or_ge v u with z | z
      · have hu2 : u = v + 1 := by omega
        obtain ⟨q1, q2, q3, q4, q5, q6⟩ := un2 u z
        rw [hu2] at q1 q2 q3 q4 q5 q6 ⊢
        exact ⟨q1.trans upd_s, q2.trans upd_s, q3.trans upd_s, q4.trans upd_s, q5.trans upd_s, q6.trans upd_s⟩
      · exact ok2 u z
    · obtain ⟨q1, q2, q3, q4, q5, q6⟩ := un2 u (by omega)
      exact ⟨q1.trans (upd_n (by omega)), q2.trans (upd_n (by omega)), q3.trans (upd_n (by omega)), q4.trans (upd_n (by omega)), q5.trans (upd_n (by omega)), q6.trans (upd_n (by omega))⟩
theorem goes_n {S ak : Nat → Nat} {al : Nat} (h : WF S) (ha : aok ak al) (hs fb0 ff0 ft0 wp wk wg wd wr wl : Nat → Int32) (me mf mg md mr mp : Int32) : ∃ (hs1 fb1 ff1 ft1 wp1 wk1 wg1 wd1 wr1 wl1 : Nat → Int32) (me1 mf1 mg1 md1 mr1 mp1 : Int32), M_goes (nf S) (nf ak) (nI al) hs fb0 ff0 ft0 wp wk wg wd wr wl me mf mg md mr mp = some (hs1, fb1, ff1, ft1, wp1, wk1, wg1, wd1, wr1, wl1, me1, mf1, mg1, md1, mr1, mp1) ∧ ∀ u, u < S 2 → wayok S (ab ak al) al wp1 wk1 wg1 wd1 wr1 wl1 u := by
  have h6 := h.1.1
  unfold M_goes
  by_cases h0 : S 2 = 0
  · unfold M_topLevel
    rw [bd1_in, nf_a, h0]
    refine ⟨hs, fb0, ff0, ft0, wp, wk, wg, wd, wr, wl, me, mf, mg, md, mr, mp, ?_, fun u hu => absurd hu (by omega)⟩
    rw [show FU = 19999 + 1 from rfl, M_goes_L9, if_pos (by decide)]
  · rw [topLevel_n (by omega), bd1_in]
    obtain ⟨eP, eK⟩ := WP_top S (ab ak al) al (v := S 2 - 1) (by omega)
    obtain ⟨hs1, fb1, ff1, ft1, wp1, wk1, wg1, wd1, wr1, wl1, me1, mf1, mg1, md1, mr1, mp1, e1, ok1, _⟩ := goes_L h ha (fun m_heads m_forkBit m_forkFrom m_forkTo m_wayPage m_wayKnown m_wayGuess m_wayDiff m_wayRead m_wayPlace m_entries m_forks m_guess m_diff m_read m_placeOf => some (m_heads, m_forkBit, m_forkFrom, m_forkTo, m_wayPage, m_wayKnown, m_wayGuess, m_wayDiff, m_wayRead, m_wayPlace, m_entries, m_forks, m_guess, m_diff, m_read, m_placeOf)) (S 2 - 1) FU hs fb0 ff0 ft0 wp wk wg wd wr wl me mf mg md mr mp (by omega) (Nat.lt_of_le_of_lt (show S 2 - 1 + 1 ≤ 6 by omega) (by decide))
    rw [eP, eK] at e1
    exact ⟨hs1, fb1, ff1, ft1, wp1, wk1, wg1, wd1, wr1, wl1, me1, mf1, mg1, md1, mr1, mp1, e1, fun u hu => ok1 u (by omega)⟩
/-- COST -/
def cst (S W : Nat → Nat) (al : Nat) : Nat := sumN (fun u => wR S W u (WP S W al u) (WK S W al u)) (S 2)
theorem cost_L {S : Nat → Nat} {W : Nat → Nat} {al : Nat} (h6 : S 2 ≤ 6) (ma : Nat → Int32) (mal : Int32) (hs fb0 ff0 ft0 wp wk wg wd wr wl : Nat → Int32) (me mf mg md mr mp : Int32) (hok : ∀ u, u < S 2 → wayok S W al wp wk wg wd wr wl u) (k : (Nat → Int32) → (Nat → Int32) → (Nat → Int32) → (Nat → Int32) → (Nat → Int32) → (Nat → Int32) → (Nat → Int32) → (Nat → Int32) → (Nat → Int32) → (Nat → Int32) → Int32 → Int32 → Int32 → Int32 → Int32 → Int32 → Int32 → Option (Int32 × (Nat → Int32) × (Nat → Int32) × (Nat → Int32) × (Nat → Int32) × (Nat → Int32) × (Nat → Int32) × (Nat → Int32) × (Nat → Int32) × (Nat → Int32) × (Nat → Int32) × Int32 × Int32 × Int32 × Int32 × Int32 × Int32)) :
    ∀ (d u n : Nat), u + d = S 2 → d < n → M_cost_L8 (nf S) ma mal k n hs fb0 ff0 ft0 wp wk wg wd wr wl me mf mg md mr mp (nI (sumN (fun u => wR S W u (WP S W al u) (WK S W al u)) u)) (nI u) = k hs fb0 ff0 ft0 wp wk wg wd wr wl me mf mg md mr mp (nI (cst S W al)) := by
  intro d
  induction d with
  | zero =>
    intro u n hu hn
    obtain ⟨n, rfl⟩ : ∃ m, n = m + 1 := ⟨n - 1, by omega⟩
    rw [M_cost_L8, nf_a, il (by omega) (by omega), if_pos (by omega), show u = S 2 by omega]
    rfl
  | succ d ih =>
    intro u n hu hn
    obtain ⟨n, rfl⟩ : ∃ m, n = m + 1 := ⟨n - 1, by omega⟩
    rw [M_cost_L8, nf_a, il (by omega) (by omega), if_neg (by omega), ga_n (by omega) (by decide), nI_clamp (by omega), (hok u (by omega)).2.2.2.2.1]
    show M_cost_L8 _ _ _ k n _ _ _ _ _ _ _ _ _ _ _ _ _ _ _ _ (nI _ + nI _) (nI u + nI 1) = _
    rw [nI_add, nI_add]
    exact ih (u + 1) n (by omega) (by omega)
theorem cost_n {S ak : Nat → Nat} {al : Nat} (h : WF S) (ha : aok ak al) (hs fb0 ff0 ft0 wp wk wg wd wr wl : Nat → Int32) (me mf mg md mr mp : Int32) : ∃ (hs1 fb1 ff1 ft1 wp1 wk1 wg1 wd1 wr1 wl1 : Nat → Int32) (me1 mf1 mg1 md1 mr1 mp1 : Int32), M_cost (nf S) (nf ak) (nI al) hs fb0 ff0 ft0 wp wk wg wd wr wl me mf mg md mr mp = some (nI (cst S (ab ak al) al), hs1, fb1, ff1, ft1, wp1, wk1, wg1, wd1, wr1, wl1, me1, mf1, mg1, md1, mr1, mp1) := by
  have h6 := h.1.1
  obtain ⟨hs1, fb1, ff1, ft1, wp1, wk1, wg1, wd1, wr1, wl1, me1, mf1, mg1, md1, mr1, mp1, e1, ok1⟩ := goes_n h ha hs fb0 ff0 ft0 wp wk wg wd wr wl me mf mg md mr mp
  refine ⟨hs1, fb1, ff1, ft1, wp1, wk1, wg1, wd1, wr1, wl1, me1, mf1, mg1, md1, mr1, mp1, ?_⟩
  unfold M_cost
  rw [e1, bd16_in]
  exact cost_L h6 (nf ak) (nI al) hs1 fb1 ff1 ft1 wp1 wk1 wg1 wd1 wr1 wl1 me1 mf1 mg1 md1 mr1 mp1 ok1 _ (S 2) 0 FU (by omega) (Nat.lt_of_le_of_lt h6 (by decide))
