/-! the class goes the way -/
/-- the looks lie apart -/
def LKok (a : Nat → Nat) (LK : List Nat) : Prop := (∀ l, l < 6 → a (30 + l) ∈ LK) ∧ ∀ i j, i < 6 → j < 6 → a (30 + i) = a (30 + j) → i = j
theorem lookOf_n {a : Nat → Nat} {LK : List Nat} (h : LKok a LK) {l : Nat} (hl : l < 6) : C0_lookOf a LK (nI l) = some (a (30 + l)) := by
  unfold C0_lookOf
  rw [ineg (by omega)]
  show (if nI 6 ≤ nI l then _ else _) = _
  rw [il (by decide) (by omega), if_neg (by omega), ga_n hl (by decide), nI_clamp (by omega), gm_in (h.1 l hl)]
def lookok (S W : Nat → Nat) (al : Nat) (a : Nat → Nat) (c1 c2 c3 c4 c5 c6 : Nat → Int32) (u : Nat) : Prop := c1 (a (30 + u)) = nI (off S u + WP S W al u) ∧ c2 (a (30 + u)) = nI (WK S W al u) ∧ c3 (a (30 + u)) = nI (wG S W u (WP S W al u)) ∧ c4 (a (30 + u)) = enc (wD S W u (WP S W al u)) ∧ c5 (a (30 + u)) = nI (wR S W u (WP S W al u) (WK S W al u)) ∧ c6 (a (30 + u)) = nI (wL S W u (WP S W al u))
section
variable {S : Nat → Nat} {LW LK : List Nat} {a : Nat → Nat} {cc cpg clv cm cs ch cf cl ca cp : Nat → Int32} {cbits : Nat → Nat → Int64} {cw : Nat → Nat → Nat} {ce : Nat → Nat → Int32}
theorem pageno {S : Nat → Nat} (h : WX S) {v p : Nat} (hv : v < S 2) (hp : p < S (3 + v)) : off S v + p < 48 := by
  have := (tot_le h).2 v hv
  omega
theorem mx1 (x : Nat) (hx : x < 2 ^ 31) : (if (nI x - 1) < 0 then (0 : Int32) else nI x - 1) = nI (x - 1) := by
  by_cases h : x = 0
  · rw [h]; decide
  · have e : nI x - 1 = nI (x - 1) := pk_sub (b := 1) (by omega)
    rw [e, if_neg (nI_pos (by omega))]
theorem alike_n {w x al : Nat} (hs : cs w = nI al) : C6_alike cs cbits w x = some (nI (if fd (cb (cbits w)) (cb (cbits x)) = 192 then 8 * al else fd (cb (cbits w)) (cb (cbits x)))) := by
  unfold C6_alike
  have hd := fd_le (cb (cbits w)) (cb (cbits x))
  rw [parting_c, bd1_in, enc_m1 hd]
  by_cases h : fd (cb (cbits w)) (cb (cbits x)) = 192
  · rw [if_pos h, if_pos h, hs]
    show some (nI 8 * nI al) = _
    rw [pk_mul]
  · rw [if_neg h, if_neg h, enc_some h]
theorem walk_L (h : WX S) (hc : Cpl LW S (a 14) cc cpg clv cm cs cbits cw ce) (hs : Stl S ch cf cl ca cp) (hk : LKok a LK) {w al : Nat} (hal : al ≤ 24) (hsg : cs w = nI al) (k : (Nat → Int32) → (Nat → Int32) → (Nat → Int32) → (Nat → Int32) → (Nat → Int32) → (Nat → Int32) → Int32 → Int32 → Int32 → Int32 → Int32 → Int32 → Option ((Nat → Int32) × (Nat → Int32) × (Nat → Int32) × (Nat → Int32) × (Nat → Int32) × (Nat → Int32) × Int32 × Int32 × Int32 × Int32 × Int32 × Int32)) :
    ∀ (v n : Nat) (c1 c2 c3 c4 c5 c6 : Nat → Int32) (x1 x2 x3 x4 x5 x6 : Int32), v < S 2 → v + 1 < n → ∃ (d1 d2 d3 d4 d5 d6 : Nat → Int32) (y1 y2 y3 y4 y5 y6 : Int32), C0_walk_L20 a LW LK ch cf cp cs cpg clv cbits cw ce w k n c1 c2 c3 c4 c5 c6 x1 x2 x3 x4 x5 x6 (nI (off S v + WP S (cb (cbits w)) al v)) (nI (WK S (cb (cbits w)) al v)) (nI v) = k d1 d2 d3 d4 d5 d6 y1 y2 y3 y4 y5 y6 ∧ (∀ u, u ≤ v → lookok S (cb (cbits w)) al a d1 d2 d3 d4 d5 d6 u) ∧ ∀ u, v < u → u < 6 → d1 (a (30 + u)) = c1 (a (30 + u)) ∧ d2 (a (30 + u)) = c2 (a (30 + u)) ∧ d3 (a (30 + u)) = c3 (a (30 + u)) ∧ d4 (a (30 + u)) = c4 (a (30 + u)) ∧ d5 (a (30 + u)) = c5 (a (30 + u)) ∧ d6 (a (30 + u)) = c6 (a (30 + u)) := by
  have hW := cb_bits (cbits w)
  have h48 := h.1.1.2.1
  have h6 := h.1.1.1
  have hadd : ∀ v e f, nd S v e + f = nd S v (e + f) := fun v e f => by
    unfold nd
    split <;> omega
  -- one turn
  have turn : ∀ (v n : Nat) (c1 c2 c3 c4 c5 c6 : Nat → Int32) (x1 x2 x3 x4 x5 x6 : Int32), v < S 2 → ∃ (y1 y2 y3 y4 y5 y6 : Int32), C0_walk_L20 a LW LK ch cf cp cs cpg clv cbits cw ce w k (n + 1) c1 c2 c3 c4 c5 c6 x1 x2 x3 x4 x5 x6 (nI (off S v + WP S (cb (cbits w)) al v)) (nI (WK S (cb (cbits w)) al v)) (nI v) = C0_walk_L20 a LW LK ch cf cp cs cpg clv cbits cw ce w k n (va_up c1 (a (30 + v)) (nI (off S v + WP S (cb (cbits w)) al v))) (va_up c2 (a (30 + v)) (nI (WK S (cb (cbits w)) al v))) (va_up c3 (a (30 + v)) (nI (wG S (cb (cbits w)) v (WP S (cb (cbits w)) al v)))) (va_up c4 (a (30 + v)) (enc (wD S (cb (cbits w)) v (WP S (cb (cbits w)) al v)))) (va_up c5 (a (30 + v)) (nI (wR S (cb (cbits w)) v (WP S (cb (cbits w)) al v) (WK S (cb (cbits w)) al v)))) (va_up c6 (a (30 + v)) (nI (wL S (cb (cbits w)) v (WP S (cb (cbits w)) al v)))) y1 y2 y3 y4 y5 y6 (nI (nd S v (wx S (cb (cbits w)) v (WP S (cb (cbits w)) al v)))) (nI (wkn S (cb (cbits w)) al v (WP S (cb (cbits w)) al v))) (nI v + (-1)) := by
    intro v n c1 c2 c3 c4 c5 c6 x1 x2 x3 x4 x5 x6 hv
    have hp := WP_ok h.1 hW al hv
    have hpn := pageno h hv hp
    obtain ⟨g1, g2, g3⟩ := pgv h.1 hv hp
    have hwl := wL_le h.1 hW hv hp
    have hwx := wx_lt h.1 hW hv hp
    have hnd := nd_le h hv (Nat.le_of_lt hwx)
    have hnd2 := nd_le h hv (e := ent S v (WP S (cb (cbits w)) al v)) (by omega)
    have hlt := eh_lt0 h.1 hv hwx
    obtain ⟨y1, y2, y3, y4, y5, y6, hL⟩ := look_c (a := a) (LW := LW) (w := w) h hc hs hv hp (WK_le S (cb (cbits w)) hal v) c1 c2 c3 c4 c5 c6 x1 x2 x3 x4 x5 x6 (a (30 + v))
    obtain ⟨k1, k2, k3, k4, k5, k6, k7, k8⟩ := hc
    refine ⟨y1, y2, y3, y4, y5, y6, ?_⟩
    have hwm := k6 (eh S v (wx S (cb (cbits w)) v (WP S (cb (cbits w)) al v))) (by omega)
    have hnlt : nd S v (wx S (cb (cbits w)) v (WP S (cb (cbits w)) al v)) < 96 := by
      have := nd_le h hv (e := wx S (cb (cbits w)) v (WP S (cb (cbits w)) al v) + 1) (by omega)
      rw [← hadd] at this
      omega
    rw [C0_walk_L20, ineg (by omega), lookOf_n hk (by omega), bd1_in, gm_in (hk.1 v (by omega)), hL, bd12_in, firstOf_n hpn (hs.1 v hv _ hp).1, bd1_in, vu_s, mx1 _ (by omega), nI_add, hadd]
    show bd1 (C0_headWord a LW ch cw (nI (nd S v (wx S (cb (cbits w)) v (WP S (cb (cbits w)) al v))))) _ = _
    rw [headWord_n hnlt (head_nd h hs hv hwx) (by omega) hwm, bd1_in, gm_in hwm, alike_n hsg, bd1_in]
    have e : fd (cb (cbits w)) (cb (cbits (cw (a 14) (eh S v (wx S (cb (cbits w)) v (WP S (cb (cbits w)) al v)))))) = fd (cb (cbits w)) (wb S (eh S v (wx S (cb (cbits w)) v (WP S (cb (cbits w)) al v)))) := fd_congr (fun _ _ => rfl) (k8 _ hlt).2
    rw [e]
    rfl
  intro v
  induction v with
  | zero =>
    intro n c1 c2 c3 c4 c5 c6 x1 x2 x3 x4 x5 x6 hv hn
    obtain ⟨n, rfl⟩ : ∃ m, n = m + 2 := ⟨n - 2, by omega⟩
    obtain ⟨y1, y2, y3, y4, y5, y6, e1⟩ := turn 0 (n + 1) c1 c2 c3 c4 c5 c6 x1 x2 x3 x4 x5 x6 hv
    refine ⟨va_up c1 (a (30 + 0)) (nI (off S 0 + WP S (cb (cbits w)) al 0)), va_up c2 (a (30 + 0)) (nI (WK S (cb (cbits w)) al 0)), va_up c3 (a (30 + 0)) (nI (wG S (cb (cbits w)) 0 (WP S (cb (cbits w)) al 0))), va_up c4 (a (30 + 0)) (enc (wD S (cb (cbits w)) 0 (WP S (cb (cbits w)) al 0))), va_up c5 (a (30 + 0)) (nI (wR S (cb (cbits w)) 0 (WP S (cb (cbits w)) al 0) (WK S (cb (cbits w)) al 0))), va_up c6 (a (30 + 0)) (nI (wL S (cb (cbits w)) 0 (WP S (cb (cbits w)) al 0))), y1, y2, y3, y4, y5, y6, ?_, fun u hu => ?_, fun u hu hu6 => ?_⟩
    · rw [e1, C0_walk_L20, if_pos (by decide)]
    · rw [show u = 0 by omega]
      exact ⟨vu_s, vu_s, vu_s, vu_s, vu_s, vu_s⟩
    · have hne : a (30 + u) ≠ a (30 + 0) := fun q => absurd (hk.2 u 0 hu6 (by decide) q) (by omega)
      exact ⟨vu_n hne, vu_n hne, vu_n hne, vu_n hne, vu_n hne, vu_n hne⟩
  | succ v ih =>
    intro n c1 c2 c3 c4 c5 c6 x1 x2 x3 x4 x5 x6 hv hn
    obtain ⟨n, rfl⟩ : ∃ m, n = m + 1 := ⟨n - 1, by omega⟩
    obtain ⟨y1, y2, y3, y4, y5, y6, e1⟩ := turn (v + 1) n c1 c2 c3 c4 c5 c6 x1 x2 x3 x4 x5 x6 hv
    obtain ⟨eP, eK⟩ := WP_s S (cb (cbits w)) al (v := v) hv
    have hnd : nd S (v + 1) (wx S (cb (cbits w)) (v + 1) (WP S (cb (cbits w)) al (v + 1))) = off S v + WP S (cb (cbits w)) al v := by
      rw [eP]
      unfold nd
      rw [if_neg (by omega)]
      rfl
    rw [pk_m1, hnd, ← eK] at e1
    obtain ⟨d1, d2, d3, d4, d5, d6, z1, z2, z3, z4, z5, z6, e2, ok2, un2⟩ := ih n _ _ _ _ _ _ y1 y2 y3 y4 y5 y6 (by omega) (by omega)
    refine ⟨d1, d2, d3, d4, d5, d6, z1, z2, z3, z4, z5, z6, e1.trans e2, fun u hu => ?_, fun u hu hu6 => ?_⟩
    · rcases Nat.lt_or_ge v u with q | q
      · have hu2 : u = v + 1 := by omega
        obtain ⟨q1, q2, q3, q4, q5, q6⟩ := un2 u q (by omega)
        rw [hu2] at q1 q2 q3 q4 q5 q6 ⊢
        exact ⟨q1.trans vu_s, q2.trans vu_s, q3.trans vu_s, q4.trans vu_s, q5.trans vu_s, q6.trans vu_s⟩
      · exact ok2 u q
    · have hne : a (30 + u) ≠ a (30 + (v + 1)) := fun q => absurd (hk.2 u (v + 1) hu6 (by omega) q) (by omega)
      obtain ⟨q1, q2, q3, q4, q5, q6⟩ := un2 u (by omega) hu6
      exact ⟨q1.trans (vu_n hne), q2.trans (vu_n hne), q3.trans (vu_n hne), q4.trans (vu_n hne), q5.trans (vu_n hne), q6.trans (vu_n hne)⟩
theorem walk_n (h : WX S) (hc : Cpl LW S (a 14) cc cpg clv cm cs cbits cw ce) (hs : Stl S ch cf cl ca cp) (hk : LKok a LK) {w al : Nat} (hal : al ≤ 24) (hsg : cs w = nI al) (c1 c2 c3 c4 c5 c6 : Nat → Int32) (x1 x2 x3 x4 x5 x6 : Int32) : ∃ (d1 d2 d3 d4 d5 d6 : Nat → Int32) (y1 y2 y3 y4 y5 y6 : Int32), C0_walk a LW LK ch cf cp cs cpg clv cbits cw ce c1 c2 c3 c4 c5 c6 x1 x2 x3 x4 x5 x6 w = some (d1, d2, d3, d4, d5, d6, y1, y2, y3, y4, y5, y6) ∧ ∀ u, u < S 2 → lookok S (cb (cbits w)) al a d1 d2 d3 d4 d5 d6 u := by
  have h6 := h.1.1.1
  have k3 := hc.2.2.1
  unfold C0_walk
  rw [k3]
  show ∃ (d1 d2 d3 d4 d5 d6 : Nat → Int32) (y1 y2 y3 y4 y5 y6 : Int32), C0_walk_L20 _ _ _ _ _ _ _ _ _ _ _ _ _ _ FU _ _ _ _ _ _ _ _ _ _ _ _ 0 0 ((if nI 6 < nI (S 2) then 6 else nI (S 2)) - 1) = _ ∧ _
  rw [ilt (by decide) (by omega), if_neg (by omega)]
  by_cases h0 : S 2 = 0
  · refine ⟨c1, c2, c3, c4, c5, c6, x1, x2, x3, x4, x5, x6, ?_, fun u hu => absurd hu (by omega)⟩
    rw [h0, show FU = 19999 + 1 from rfl, C0_walk_L20, if_pos (by decide)]
  · obtain ⟨eP, eK⟩ := WP_top S (cb (cbits w)) al (v := S 2 - 1) (by omega)
    obtain ⟨d1, d2, d3, d4, d5, d6, y1, y2, y3, y4, y5, y6, e1, ok1, _⟩ := walk_L h hc hs hk hal hsg (fun c_page c_known c_guess c_diff c_pieces c_place c_base c_from c_to c_above c_bit c_lastLeft => some (c_page, c_known, c_guess, c_diff, c_pieces, c_place, c_base, c_from, c_to, c_above, c_bit, c_lastLeft)) (S 2 - 1) FU c1 c2 c3 c4 c5 c6 x1 x2 x3 x4 x5 x6 (by omega) (Nat.lt_of_le_of_lt (show S 2 - 1 + 1 ≤ 6 by omega) (by decide))
    rw [eP, eK, off_top (by omega)] at e1
    have e3 : nI (S 2) - 1 = nI (S 2 - 1) := pk_sub (b := 1) (by omega)
    rw [e3]
    exact ⟨d1, d2, d3, d4, d5, d6, y1, y2, y3, y4, y5, y6, e1, fun u hu => ok1 u (by omega)⟩
theorem isThere_c (h : WX S) (hc : Cpl LW S (a 14) cc cpg clv cm cs cbits cw ce) (hk : LKok a LK) {W : Nat → Nat} {al : Nat} {d1 d2 d3 d4 d5 d6 : Nat → Int32} (hl : ∀ u, u < S 2 → lookok S W al a d1 d2 d3 d4 d5 d6 u) : C0_isThere a LK cpg d4 = some (nI (if 0 < S 2 ∧ wD S W 0 (WP S W al 0) = 192 then 1 else 0)) := by
  unfold C0_isThere
  have htot := (tot_le h).1
  rw [hc.2.1]
  show (if nI (tot S) ≤ nI 0 then _ else _) = _
  rw [il (by omega) (by decide)]
  by_cases h0 : S 2 = 0
  · rw [if_pos (by unfold tot; rw [h0]; exact Nat.le_refl _), if_neg (by omega)]
    rfl
  · have h1 := (h.1.2.1 0 (by omega)).1
    have h3 : S (3 + 0) = S 3 := rfl
    rw [if_neg (by rw [tot_off (by omega)]; omega)]
    show bd1 (C0_lookOf a LK (nI 0)) _ = _
    rw [lookOf_n hk (by decide), bd1_in, gm_in (hk.1 0 (by decide)), (hl 0 (by omega)).2.2.2.1, enc_m1 (show wD S W 0 (WP S W al 0) ≤ 192 from fd_le _ _)]
    by_cases hd : wD S W 0 (WP S W al 0) = 192
    · rw [if_pos hd, if_pos ⟨by omega, hd⟩]
      rfl
    · rw [if_neg hd, if_neg (fun q => hd q.2)]
      rfl
/-- how many words are not behind a word, also without pages -/
def rkk (S W : Nat → Nat) (al : Nat) : Nat := if S 2 = 0 then 0 else rk S W al
theorem rank_c (h : WX S) (hc : Cpl LW S (a 14) cc cpg clv cm cs cbits cw ce) (hs : Stl S ch cf cl ca cp) (hk : LKok a LK) {W : Nat → Nat} (hW : bits W) {al : Nat} {d1 d2 d3 d4 d5 d6 : Nat → Int32} (hl : ∀ u, u < S 2 → lookok S W al a d1 d2 d3 d4 d5 d6 u) : C0_rank a LK ch cpg d1 d6 = some (nI (rkk S W al)) := by
  unfold C0_rank rkk
  have htot := (tot_le h).1
  rw [hc.2.1]
  show (if nI (tot S) ≤ nI 0 then _ else _) = _
  rw [il (by omega) (by decide)]
  by_cases h0 : S 2 = 0
  · rw [if_pos (by unfold tot; rw [h0]; exact Nat.le_refl _), if_pos h0]
    rfl
  · have h1 := (h.1.2.1 0 (by omega)).1
    have h3 : S (3 + 0) = S 3 := rfl
    have hp := WP_ok h.1 hW al (v := 0) (by omega)
    have hpn := pageno h (v := 0) (by omega) hp
    rw [if_neg (by rw [tot_off (by omega)]; omega), if_neg h0]
    show bd1 (C0_lookOf a LK (nI 0)) (fun r13 => gm LK r13 (bd1 (C0_headOf ch (d1 r13)) fun r19 => bd1 (C0_lookOf a LK (nI 0)) fun r24 => gm LK r24 (some (r19 + (d6 r24))))) = _
    rw [lookOf_n hk (by decide), bd1_in, gm_in (hk.1 0 (by decide)), (hl 0 (by omega)).1, headOf_c (by omega) (hs.1 0 (by omega) _ hp).2.1, bd1_in, bd1_in, gm_in (hk.1 0 (by decide)), (hl 0 (by omega)).2.2.2.2.2, nI_add]
    rfl
theorem cost_c (h : WX S) (hc : Cpl LW S (a 14) cc cpg clv cm cs cbits cw ce) (hk : LKok a LK) {W : Nat → Nat} {al : Nat} {d1 d2 d3 d4 d5 d6 : Nat → Int32} (hl : ∀ u, u < S 2 → lookok S W al a d1 d2 d3 d4 d5 d6 u) : C0_cost a LK clv d5 = some (nI (cst S W al)) := by
  unfold C0_cost
  have h6 := h.1.1.1
  have key : ∀ (d u n : Nat), u + d = S 2 → d < n → C0_cost_L4 a LK clv d5 (fun v1 => some v1) n (nI (sumN (fun u => wR S W u (WP S W al u) (WK S W al u)) u)) (nI u) = some (nI (cst S W al)) := by
    intro d
    induction d with
    | zero =>
      intro u n hu hn
      obtain ⟨n, rfl⟩ : ∃ m, n = m + 1 := ⟨n - 1, by omega⟩
      rw [C0_cost_L4, hc.2.2.1, il (by omega) (by omega), if_pos (by omega), show u = S 2 by omega]
      rfl
    | succ d ih =>
      intro u n hu hn
      obtain ⟨n, rfl⟩ : ∃ m, n = m + 1 := ⟨n - 1, by omega⟩
      rw [C0_cost_L4, hc.2.2.1, il (by omega) (by omega), if_neg (by omega), lookOf_n hk (by omega), bd1_in, gm_in (hk.1 u (by omega)), (hl u (by omega)).2.2.2.2.1]
      show C0_cost_L4 _ _ _ _ _ n (nI _ + nI _) (nI u + nI 1) = _
      rw [nI_add, nI_add]
      exact ih (u + 1) n (by omega) (by omega)
  exact key (S 2) 0 FU (by omega) (Nat.lt_of_le_of_lt h6 (by decide))
end
/-! the way depends on the first 192 places of the word alone -/
theorem look_W {S W W' : Nat → Nat} (h : WF S) (hW : ∀ b, b < 192 → W b = W' b) {v p : Nat} (hv : v < S 2) (hp : p < S (3 + v)) : wG S W v p = wG S W' v p ∧ wD S W v p = wD S W' v p ∧ wL S W v p = wL S W' v p := by
  obtain ⟨g1, g2, g3⟩ := pgv h hv hp
  obtain ⟨c1, c2, c3, _⟩ := look_congr (W := W) (W' := W') (hbs_srt h hv hp) (by omega) g3 (fun _ _ _ _ => rfl) hW
  exact ⟨c1, c2, c3⟩
theorem way_W {S W W' : Nat → Nat} (h : WF S) (hb : bits W) (hW : ∀ b, b < 192 → W b = W' b) (al : Nat) : ∀ (d v : Nat), v + d + 1 = S 2 → WP S W al v = WP S W' al v ∧ WK S W al v = WK S W' al v
  | 0, v, hv => by
    obtain ⟨a1, a2⟩ := WP_top S W al (v := v) (by omega)
    obtain ⟨b1, b2⟩ := WP_top S W' al (v := v) (by omega)
    rw [a1, a2, b1, b2]
    exact ⟨rfl, rfl⟩
  | d + 1, v, hv => by
    obtain ⟨i1, i2⟩ := way_W h hb hW al d (v + 1) (by omega)
    obtain ⟨a1, a2⟩ := WP_s S W al (v := v) (by omega)
    obtain ⟨b1, b2⟩ := WP_s S W' al (v := v) (by omega)
    have hp := WP_ok h hb al (v := v + 1) (by omega)
    obtain ⟨_, _, c3⟩ := look_W h hW (v := v + 1) (by omega) hp
    have hx : wx S W (v + 1) (WP S W al (v + 1)) = wx S W' (v + 1) (WP S W' al (v + 1)) := by
      unfold wx
      rw [← i1, c3]
    refine ⟨by rw [a1, b1, hx], ?_⟩
    rw [a2, b2]
    unfold wkn
    rw [hx, fd_congr (g' := wb S (eh S (v + 1) (wx S W' (v + 1) (WP S W' al (v + 1))))) hW (fun _ _ => rfl)]
theorem way_all {S W W' : Nat → Nat} (h : WF S) (hb : bits W) (hW : ∀ b, b < 192 → W b = W' b) (al : Nat) {v : Nat} (hv : v < S 2) : WP S W al v = WP S W' al v ∧ WK S W al v = WK S W' al v ∧ wG S W v (WP S W al v) = wG S W' v (WP S W' al v) ∧ wD S W v (WP S W al v) = wD S W' v (WP S W' al v) ∧ wL S W v (WP S W al v) = wL S W' v (WP S W' al v) ∧ wR S W v (WP S W al v) (WK S W al v) = wR S W' v (WP S W' al v) (WK S W' al v) := by
  obtain ⟨i1, i2⟩ := way_W h hb hW al (S 2 - 1 - v) v (by omega)
  have hp := WP_ok h hb al hv
  obtain ⟨c1, c2, c3⟩ := look_W h hW hv hp
  refine ⟨i1, i2, by rw [c1, i1], by rw [c2, i1], by rw [c3, i1], ?_⟩
  unfold wR
  rw [c1, c2, i1, i2]
theorem cst_W {S W W' : Nat → Nat} (h : WF S) (hb : bits W) (hW : ∀ b, b < 192 → W b = W' b) (al : Nat) : cst S W al = cst S W' al := sumN_congr (fun _ hu => (way_all h hb hW al hu).2.2.2.2.2)
theorem rkk_W {S W W' : Nat → Nat} (h : WF S) (hb : bits W) (hW : ∀ b, b < 192 → W b = W' b) (al : Nat) : rkk S W al = rkk S W' al := by
  unfold rkk
  by_cases h0 : S 2 = 0
  · rw [if_pos h0, if_pos h0]
  · obtain ⟨i1, _, _, _, i5, _⟩ := way_all h hb hW al (v := 0) (by omega)
    rw [if_neg h0, if_neg h0]
    unfold rk
    rw [i5, i1]
