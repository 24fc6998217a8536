/-! the class's blind tree, and how it looks at a page -/
theorem findFork_n {cp : Nat → Int32} {base i j : Nat} {D : Nat → Nat} (hp : ∀ k, i ≤ k → k < j → cp (base + k) = nI (D k) ∧ D k < 2 ^ 31) (hb : base + j ≤ 96) (hij : i ≤ j) (b0 l0 : Int32) : C5_findFork cp (nI base) (nI i) (nI j) b0 l0 = some (nI (am D i (j - i)).1, nI (am D i (j - i)).2) := by
  unfold C5_findFork
  have hbd : ∀ d, i + d ≤ j → (am D i d).1 < 2 ^ 31 := by
    intro d
    induction d with
    | zero => intro _; show 192 < 2 ^ 31; decide
    | succ d ih =>
      intro hd
      rw [am]
      split
      · exact (hp (i + d) (by omega) (by omega)).2
      · exact ih (by omega)
  have key : ∀ (c d n : Nat), i + d + c = j → c < n → C5_findFork_L20 cp (nI base) (nI i) (nI j) (fun c_bit c_lastLeft => some (c_bit, c_lastLeft)) n (nI (am D i d).1) (nI (am D i d).2) (nI (i + d)) = some (nI (am D i (j - i)).1, nI (am D i (j - i)).2) := by
    intro c
    induction c with
    | zero =>
      intro d n hd hn
      obtain ⟨n, rfl⟩ : ∃ m, n = m + 1 := ⟨n - 1, by omega⟩
      rw [C5_findFork_L20, il (by omega) (by omega), if_pos (by omega), show j - i = d by omega]
    | succ c ih =>
      intro d n hd hn
      obtain ⟨n, rfl⟩ : ∃ m, n = m + 1 := ⟨n - 1, by omega⟩
      obtain ⟨h1, h2⟩ := hp (i + d) (by omega) (by omega)
      have h3 := hbd d (by omega)
      have ih := ih (d + 1) n (by omega) (by omega)
      rw [am] at ih
      rw [C5_findFork_L20, il (by omega) (by omega), if_neg (by omega), nI_add, ineg (by omega)]
      show (if nI 96 ≤ nI (base + (i + d)) then _ else ga _ 96 (if nI (am D i d).1 ≤ cp (nI (base + (i + d))).toNatClampNeg then C5_findFork_L20 _ _ _ _ _ n _ _ (nI (i + d) + nI 1) else ga _ 96 (C5_findFork_L20 _ _ _ _ _ n (cp (nI (base + (i + d))).toNatClampNeg) (nI (i + d)) (nI (i + d) + nI 1)))) = _
      rw [il (by decide) (by omega), if_neg (by omega), ga_n (by omega) (by decide), nI_clamp (by omega), h1, il h3 h2, ga_n (by omega) (by decide), nI_add]
      by_cases hc : D (i + d) < (am D i d).1
      · rw [if_neg (by omega)]
        rw [if_pos hc] at ih
        exact ih
      · rw [if_pos (by omega)]
        rw [if_neg hc] at ih
        exact ih
  have := key (j - i) 0 FU (by omega) (Nat.lt_of_le_of_lt (show j - i ≤ 96 by omega) (by decide))
  exact this
section
variable {cp : Nat → Int32} {cbits : Nat → Nat → Int64} {base n w : Nat} {hb : Nat → Nat → Nat}
theorem fork_at (h : Srt hb n) (hn : 0 < n) (h8 : n ≤ 8) (hp : ∀ k, k + 1 < n → cp (base + k) = nI (nb hb k)) (hbs : base + n ≤ 96) {s : Nat × Nat} (h1 : s.1 ≤ s.2) (h2 : s.2 < n) (b0 l0 : Int32) : C5_findFork cp (nI base) (nI s.1) (nI s.2) b0 l0 = some (nI (fb (nb hb) s), nI (fl (nb hb) s)) :=
  findFork_n (D := nb hb) (fun k q1 q2 => ⟨hp k (by omega), Nat.lt_of_le_of_lt (fd_le _ _) (by decide)⟩) (by omega) h1 b0 l0
theorem open_n (h : Srt hb n) (hn : 0 < n) (h8 : n ≤ 8) (hp : ∀ k, k + 1 < n → cp (base + k) = nI (nb hb k)) (hbs : base + n ≤ 96) (x1 x2 x3 x4 x5 x6 : Int32) : C5_open cp x1 x2 x3 x4 x5 x6 (nI base) (nI n) = some (nI base, nI 0, nI (n - 1), nI 0, nI (fb (nb hb) (0, n - 1)), nI (fl (nb hb) (0, n - 1))) := by
  unfold C5_open
  show bd2 (C5_findFork cp (nI base) (nI 0) (nI n - nI 1) x5 x6) (fun c_bit_23 c_lastLeft_23 => some (nI base, nI 0, nI n - nI 1, nI 0, c_bit_23, c_lastLeft_23)) = _
  rw [pk_sub (by omega), fork_at h hn h8 hp hbs (s := (0, n - 1)) (Nat.zero_le _) (by show n - 1 < n; omega), bd2_in]
theorem descend_n (h : Srt hb n) (hn : 0 < n) (h8 : n ≤ 8) (hp : ∀ k, k + 1 < n → cp (base + k) = nI (nb hb k)) (hbs : base + n ≤ 96) {lim : Nat} (hl : lim ≤ 192) : C5_descend cp cbits (nI base) (nI 0) (nI (n - 1)) (nI 0) (nI (fb (nb hb) (0, n - 1))) (nI (fl (nb hb) (0, n - 1))) w (nI lim) = some (nI (ps (nb hb) (cb (cbits w)) n (dn (nb hb) (cb (cbits w)) n lim 8 0)).1, nI (ps (nb hb) (cb (cbits w)) n (dn (nb hb) (cb (cbits w)) n lim 8 0)).2, nI (dn (nb hb) (cb (cbits w)) n lim 8 0), nI (fb (nb hb) (ps (nb hb) (cb (cbits w)) n (dn (nb hb) (cb (cbits w)) n lim 8 0))), nI (fl (nb hb) (ps (nb hb) (cb (cbits w)) n (dn (nb hb) (cb (cbits w)) n lim 8 0)))) := by
  unfold C5_descend
  have hfb : ∀ s : Nat × Nat, s.1 ≤ s.2 → s.2 < n → fb (nb hb) s ≤ 192 := fun s q1 q2 => by
    rcases Nat.lt_or_eq_of_le q1 with z | z
    · exact Nat.le_of_lt (fb_frk h z q2).1
    · rw [fb_tip (by omega)]
      exact Nat.le_refl _
  have key : ∀ (c f m : Nat), f + c = 8 → c < m → C5_descend_L2 cp cbits (nI base) w (nI lim) (fun c_from c_to c_above c_bit c_lastLeft => some (c_from, c_to, c_above, c_bit, c_lastLeft)) m (nI (ps (nb hb) (cb (cbits w)) n f).1) (nI (ps (nb hb) (cb (cbits w)) n f).2) (nI f) (nI (fb (nb hb) (ps (nb hb) (cb (cbits w)) n f))) (nI (fl (nb hb) (ps (nb hb) (cb (cbits w)) n f))) (nI f) = some (nI (ps (nb hb) (cb (cbits w)) n (dn (nb hb) (cb (cbits w)) n lim c f)).1, nI (ps (nb hb) (cb (cbits w)) n (dn (nb hb) (cb (cbits w)) n lim c f)).2, nI (dn (nb hb) (cb (cbits w)) n lim c f), nI (fb (nb hb) (ps (nb hb) (cb (cbits w)) n (dn (nb hb) (cb (cbits w)) n lim c f))), nI (fl (nb hb) (ps (nb hb) (cb (cbits w)) n (dn (nb hb) (cb (cbits w)) n lim c f)))) := by
    intro c
    induction c with
    | zero =>
      intro f m hf hm
      obtain ⟨m, rfl⟩ : ∃ t, m = t + 1 := ⟨m - 1, by omega⟩
      rw [C5_descend_L2]
      show (if nI 8 ≤ nI f then _ else _) = _
      rw [il (by decide) (by omega), if_pos (by omega)]
      rfl
    | succ c ih =>
      intro f m hf hm
      obtain ⟨m, rfl⟩ : ∃ t, m = t + 1 := ⟨m - 1, by omega⟩
      obtain ⟨p1, p2, _, _⟩ := ps_in (W := cb (cbits w)) h hn f
      have hfle := hfb _ p1 p2
      have ih := ih (f + 1) m (by omega) (by omega)
      rw [C5_descend_L2]
      show (if nI 8 ≤ nI f then _ else _) = _
      rw [il (by decide) (by omega), if_neg (by omega), il (by omega) (by omega), il (by omega) (by omega), dn]
      by_cases hc : fb (nb hb) (ps (nb hb) (cb (cbits w)) n f) < lim
      · have hfk : (ps (nb hb) (cb (cbits w)) n f).1 < (ps (nb hb) (cb (cbits w)) n f).2 := by
          rcases Nat.lt_or_eq_of_le p1 with z | z
          · exact z
          · rw [fb_tip (by omega)] at hc
            omega
        obtain ⟨b1, f2, f3, _⟩ := fb_frk h hfk p2
        have e0 : ps (nb hb) (cb (cbits w)) n (f + 1) = nx (nb hb) (cb (cbits w)) (ps (nb hb) (cb (cbits w)) n f) := if_pos hfk
        obtain ⟨n1, n2, _, _⟩ := ps_in (W := cb (cbits w)) h hn (f + 1)
        have hff := fork_at h hn h8 hp hbs n1 n2 (nI (fb (nb hb) (ps (nb hb) (cb (cbits w)) n f))) (nI (fl (nb hb) (ps (nb hb) (cb (cbits w)) n f)))
        have hWb := cb_bits (cbits w) (fb (nb hb) (ps (nb hb) (cb (cbits w)) n f))
        rw [if_pos hc, if_neg (by omega), if_neg (by omega), bitAt_n b1, bd1_in]
        show (if nI (cb (cbits w) (fb (nb hb) (ps (nb hb) (cb (cbits w)) n f))) = nI 0 then _ else _) = _
        rw [ie (by omega) (by decide)]
        by_cases hw : cb (cbits w) (fb (nb hb) (ps (nb hb) (cb (cbits w)) n f)) = 0
        · rw [if_pos hw, C5_descend_J44, C5_step, if_neg (by decide), bd3_in]
          rw [e0] at hff ih
          unfold nx at hff ih
          rw [if_pos hw] at hff ih
          show bd2 (C5_findFork cp (nI base) _ _ _ _) (fun c_bit_48 c_lastLeft_48 => C5_descend_L2 _ _ _ _ _ _ m _ _ (nI f + nI 1) c_bit_48 c_lastLeft_48 (nI f + nI 1)) = _
          rw [hff, bd2_in, nI_add]
          exact ih
        · rw [if_neg hw, C5_descend_J44, C5_step, if_pos rfl, bd3_in]
          rw [e0] at hff ih
          unfold nx at hff ih
          rw [if_neg hw] at hff ih
          show bd2 (C5_findFork cp (nI base) (nI (fl (nb hb) (ps (nb hb) (cb (cbits w)) n f)) + nI 1) _ _ _) (fun c_bit_48 c_lastLeft_48 => C5_descend_L2 _ _ _ _ _ _ m (nI (fl (nb hb) (ps (nb hb) (cb (cbits w)) n f)) + nI 1) _ (nI f + nI 1) c_bit_48 c_lastLeft_48 (nI f + nI 1)) = _
          rw [nI_add, nI_add, hff, bd2_in]
          exact ih
      · rw [if_neg hc]
        by_cases hq : (ps (nb hb) (cb (cbits w)) n f).2 ≤ (ps (nb hb) (cb (cbits w)) n f).1
        · rw [if_pos hq]
        · rw [if_neg hq, if_pos (by omega)]
  exact key 8 0 FU (by omega) (by decide)
end
theorem vu_s {α : Type} {f : Nat → α} {k : Nat} {v : α} : va_up f k v k = v := if_pos rfl
theorem vu_n {α : Type} {f : Nat → α} {k j : Nat} {v : α} (h : j ≠ k) : va_up f k v j = f j := if_neg h
theorem entriesOf_n {cpg : Nat → Int32} {ce : Nat → Nat → Int32} {st P p x : Nat} (h1 : cpg st = nI P) (hp : p < P) (hP : P ≤ 48) (hx : ce st p = nI x) : C3_entriesOf cpg ce st (nI p) = some (nI x) := by
  unfold C3_entriesOf
  rw [ineg (by omega), h1, il (by omega) (by omega), if_neg (by omega)]
  show (if nI 48 ≤ nI p then _ else _) = _
  rw [il (by decide) (by omega), if_neg (by omega), ga_n (by omega) (by decide), nI_clamp (by omega), hx]
theorem firstOf_n {cf : Nat → Int32} {p x : Nat} (hp : p < 48) (hx : cf p = nI x) : C0_firstOf cf (nI p) = some (nI x) := by
  unfold C0_firstOf
  rw [ineg (by omega)]
  show (if nI 48 ≤ nI p then _ else _) = _
  rw [il (by decide) (by omega), if_neg (by omega), ga_n (by omega) (by decide), nI_clamp (by omega), hx]
theorem headOf_c {ch : Nat → Int32} {p x : Nat} (hp : p < 96) (hx : ch p = nI x) : C0_headOf ch (nI p) = some (nI x) := by
  unfold C0_headOf
  rw [ineg (by omega)]
  show (if nI 96 ≤ nI p then _ else _) = _
  rw [il (by decide) (by omega), if_neg (by omega), ga_n (by omega) (by decide), nI_clamp (by omega), hx]
theorem wordAt_n {LW : List Nat} {cw : Nat → Nat → Nat} {st k : Nat} (hk : k < 48) (hm : cw st k ∈ LW) : C3_wordAt LW cw st (nI k) = some (cw st k) := by
  unfold C3_wordAt
  rw [ineg (by omega)]
  show (if nI 48 ≤ nI k then _ else _) = _
  rw [il (by decide) (by omega), if_neg (by omega), ga_n (by omega) (by decide), nI_clamp (by omega), gm_in hm]
theorem headWord_n {a : Nat → Nat} {LW : List Nat} {ch : Nat → Int32} {cw : Nat → Nat → Nat} {p k : Nat} (hp : p < 96) (hx : ch p = nI k) (hk : k < 48) (hm : cw (a 14) k ∈ LW) : C0_headWord a LW ch cw (nI p) = some (cw (a 14) k) := by
  unfold C0_headWord
  rw [headOf_c hp hx, bd1_in, wordAt_n hk hm, bd1_in, gm_in hm]
theorem mx0 {a q : Nat} (ha : a < 2 ^ 20) (hq : q < 2 ^ 20) : (if (0 : Int32) < (nI a - nI q) + 1 then (nI a - nI q) + 1 else 0) = nI (a + 1 - q) := by
  obtain ⟨r1, r2⟩ := rd_n ha hq
  by_cases h : (0 : Int32) < nI a - nI q + 1
  · rw [if_pos h]
    exact r1 (by have := Int32.lt_iff_toInt_lt.mp h; exact Int32.le_iff_toInt_le.mpr (by omega))
  · rw [if_neg h]
    by_cases h2 : (0 : Int32) ≤ nI a - nI q + 1
    · have e := r1 h2
      rw [← e]
      have h3 := Int32.le_iff_toInt_le.mp h2
      have h4 : ¬ (0 : Int32).toInt < (nI a - nI q + 1).toInt := fun z => h (Int32.lt_iff_toInt_lt.mpr z)
      exact Int32.toInt_inj.mp (by omega)
    · exact r2 h2
theorem lookAt_n {a : Nat → Nat} {LW : List Nat} {ch cf cp cs cpg : Nat → Int32} {cbits : Nat → Nat → Int64} {cw : Nat → Nat → Nat} {ce : Nat → Nat → Int32} {P p base n kn w : Nat} {hw len : Nat → Nat} (hpg : cpg (a 14) = nI P) (hpP : p < P) (hP : P ≤ 48) (hn : 0 < n) (h8 : n ≤ 8) (hen : ce (a 14) p = nI n) (hfi : cf p = nI base) (hbs : base + n ≤ 96) (hh : ∀ e, e < n → ch (base + e) = nI (hw e) ∧ hw e < 48 ∧ cw (a 14) (hw e) ∈ LW ∧ cs (cw (a 14) (hw e)) = nI (len e) ∧ 1 ≤ len e ∧ len e ≤ 24) (hsr : Srt (fun e => cb (cbits (cw (a 14) (hw e)))) n) (hp : ∀ k, k + 1 < n → cp (base + k) = nI (nb (fun e => cb (cbits (cw (a 14) (hw e)))) k)) (hkn : kn ≤ 192) (c1 c2 c3 c4 c5 c6 : Nat → Int32) (x1 x2 x3 x4 x5 x6 : Int32) (lk : Nat) :
    ∃ y1 y2 y3 y4 y5 y6 : Int32, C0_lookAt a LW ch cf cp cs cpg cbits cw ce c1 c2 c3 c4 c5 c6 x1 x2 x3 x4 x5 x6 w (nI p) (nI kn) lk = some (va_up c1 lk (nI p), va_up c2 lk (nI kn), va_up c3 lk (nI (gs (fun e => cb (cbits (cw (a 14) (hw e)))) (cb (cbits w)) n)), va_up c4 lk (enc (fd (cb (cbits w)) (cb (cbits (cw (a 14) (hw (gs (fun e => cb (cbits (cw (a 14) (hw e)))) (cb (cbits w)) n))))))), va_up c5 lk (nI (rdp kn (fd (cb (cbits w)) (cb (cbits (cw (a 14) (hw (gs (fun e => cb (cbits (cw (a 14) (hw e)))) (cb (cbits w)) n)))))) (len (gs (fun e => cb (cbits (cw (a 14) (hw e)))) (cb (cbits w)) n)))), va_up c6 lk (nI (plc (fun e => cb (cbits (cw (a 14) (hw e)))) (cb (cbits w)) n)), y1, y2, y3, y4, y5, y6) := by
  generalize hHB : (fun e => cb (cbits (cw (a 14) (hw e)))) = hb at *
  have hhb : ∀ e, hb e = cb (cbits (cw (a 14) (hw e))) := fun e => by rw [← hHB]
  obtain ⟨g1, g2⟩ := gs_tip (W := cb (cbits w)) hsr hn h8
  obtain ⟨w1, w2, w3, w4, w5, w6⟩ := hh _ g2
  have hd := fd_le (cb (cbits w)) (cb (cbits (cw (a 14) (hw (gs hb (cb (cbits w)) n)))))
  have hpl : plc hb (cb (cbits w)) n = if fd (cb (cbits w)) (cb (cbits (cw (a 14) (hw (gs hb (cb (cbits w)) n))))) = 192 then gs hb (cb (cbits w)) n + 1 else if cb (cbits w) (fd (cb (cbits w)) (cb (cbits (cw (a 14) (hw (gs hb (cb (cbits w)) n)))))) = 0 then (ps (nb hb) (cb (cbits w)) n (dn (nb hb) (cb (cbits w)) n (fd (cb (cbits w)) (cb (cbits (cw (a 14) (hw (gs hb (cb (cbits w)) n)))))) 8 0)).1 else (ps (nb hb) (cb (cbits w)) n (dn (nb hb) (cb (cbits w)) n (fd (cb (cbits w)) (cb (cbits (cw (a 14) (hw (gs hb (cb (cbits w)) n)))))) 8 0)).2 + 1 := by
    unfold plc
    rw [hhb]
  have hop := fun y1 y2 y3 y4 y5 y6 => open_n hsr hn h8 hp hbs y1 y2 y3 y4 y5 y6
  have hde := fun lim (hl : lim ≤ 192) => descend_n (cbits := cbits) (w := w) hsr hn h8 hp hbs hl
  have hg0 : (ps (nb hb) (cb (cbits w)) n (dn (nb hb) (cb (cbits w)) n 192 8 0)).1 = gs hb (cb (cbits w)) n := rfl
  have heo := entriesOf_n hpg hpP hP hen
  have hde192 : C5_descend cp cbits (nI base) (nI 0) (nI (n - 1)) (nI 0) (nI (fb (nb hb) (0, n - 1))) (nI (fl (nb hb) (0, n - 1))) w 192 = _ := hde 192 (Nat.le_refl _)
  unfold C0_lookAt
  rw [firstOf_n (by omega) hfi, bd1_in, heo, bd1_in, hop, bd6_in, hde192, bd5_in, hg0, nI_add, headWord_n (by omega) w1 w2 w3, bd1_in, gm_in w3, parting_c, bd1_in, vu_s, enc_m1 hd]
  rw [hpl]
  generalize hD : fd (cb (cbits w)) (cb (cbits (cw (a 14) (hw (gs hb (cb (cbits w)) n))))) = d at *
  generalize hGe : gs hb (cb (cbits w)) n = g at *
  have j113 : ∀ t0 : Nat, t0 < 2 ^ 20 → t0 / 32 + 1 - kn / 32 = rdp kn d (len g) → ∀ z1 z2 z3 z4 z5 : Int32, ∃ y1 y2 y3 y4 y5 y6 : Int32, C0_lookAt_J113 a LW ch cf cp cs cpg cbits cw ce w (nI p) (nI kn) lk (va_up c1 lk (nI p)) (va_up c2 lk (nI kn)) (va_up c3 lk (nI g)) (va_up c4 lk (enc d)) c5 c6 (nI base) z1 z2 z3 z4 z5 (nI base) (nI t0) = some (va_up c1 lk (nI p), va_up c2 lk (nI kn), va_up c3 lk (nI g), va_up c4 lk (enc d), va_up c5 lk (nI (rdp kn d (len g))), va_up c6 lk (nI (if d = 192 then g + 1 else if cb (cbits w) d = 0 then (ps (nb hb) (cb (cbits w)) n (dn (nb hb) (cb (cbits w)) n d 8 0)).1 else (ps (nb hb) (cb (cbits w)) n (dn (nb hb) (cb (cbits w)) n d 8 0)).2 + 1)), y1, y2, y3, y4, y5, y6) := by
    intro t0 ht0 hrd z1 z2 z3 z4 z5
    unfold C0_lookAt_J113
    have e1 : nI t0 / 32 = nI (t0 / 32) := pk_div (by omega) (by decide) (by decide)
    have e2 : nI kn / 32 = nI (kn / 32) := pk_div (by omega) (by decide) (by decide)
    rw [e1, e2, mx0 (by omega) (by omega), hrd, vu_s, vu_s, enc_m1 hd]
    by_cases hdd : d = 192
    · rw [if_pos hdd, if_pos hdd]
      refine ⟨nI base, z1, z2, z3, z4, z5, ?_⟩
      show some (_, _, _, _, _, va_up c6 lk (nI g + nI 1), _) = _
      rw [nI_add]
    · rw [if_neg hdd, if_neg hdd, heo, bd1_in, hop, bd6_in, enc_some hdd, hde d (by omega), bd5_in, bitAt_n (by omega), bd1_in]
      have hWd := cb_bits (cbits w) d
      show ∃ y1 y2 y3 y4 y5 y6 : Int32, (if nI (cb (cbits w) d) = nI 0 then _ else _) = _
      rw [ie (by omega) (by decide)]
      by_cases hz : cb (cbits w) d = 0
      · rw [if_pos hz, if_pos hz]
        exact ⟨_, _, _, _, _, _, rfl⟩
      · rw [if_neg hz, if_neg hz]
        rw [nI_succ]
        exact ⟨_, _, _, _, _, _, rfl⟩
  by_cases hdd : d = 192
  · rw [if_pos hdd, w4]
    have e1 : (8 : Int32) * nI (len g) - 1 = nI (8 * len g - 1) := by
      show nI 8 * nI (len g) - nI 1 = _
      rw [pk_mul, pk_sub (by omega)]
    rw [e1]
    exact j113 _ (by omega) (by unfold rdp; rw [if_pos hdd]; omega) _ _ _ _ _
  · rw [if_neg hdd]
    have := j113 d (by omega) (by unfold rdp; rw [if_neg hdd]) (nI g) (nI (ps (nb hb) (cb (cbits w)) n (dn (nb hb) (cb (cbits w)) n 192 8 0)).2) (nI (dn (nb hb) (cb (cbits w)) n 192 8 0)) (nI (fb (nb hb) (ps (nb hb) (cb (cbits w)) n (dn (nb hb) (cb (cbits w)) n 192 8 0)))) (nI (fl (nb hb) (ps (nb hb) (cb (cbits w)) n (dn (nb hb) (cb (cbits w)) n 192 8 0))))
    rw [← enc_some hdd] at this
    exact this
