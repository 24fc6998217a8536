/-! the law, from its entry -/
abbrev S00 : Nat → Nat := un (fun _ => 0) 1 4
theorem GS0 : GS S00 := by
  refine ⟨⟨⟨⟨by decide, by decide, fun v hv => absurd hv (Nat.not_lt_zero v)⟩, fun v hv => absurd hv (Nat.not_lt_zero v), by decide, fun h => absurd h (by decide), fun w hw => absurd hw (Nat.not_lt_zero w), fun i j _ hj => absurd hj (Nat.not_lt_zero j)⟩, fun v hv => absurd hv (Nat.not_lt_zero _), fun h => absurd h (by decide), by decide, by decide, fun v hv => absurd hv (Nat.not_lt_zero v)⟩, fun j hj => ?_⟩
  show un (fun _ => 0) 1 4 j < 128
  rw [un_n (show j ≠ 1 by omega)]
  exact (show 0 < 128 by decide)
theorem II0 {a : Nat → Nat} {LW : List Nat} {cw : Nat → Nat → Nat} (hW : Wds a LW cw) : II a LW (fun _ => 0) (fun _ => 0) (fun _ => 0) (fun _ => 0) (fun _ => 0) (fun _ => 0) (fun _ => 0) (fun _ => 0) (fun _ => 0) (fun _ => 0) (fun _ => 4) (fun _ => 0) (fun _ => 0) (fun _ => 0) (fun _ => 0) (fun _ => 0) (fun _ => 0) (fun _ _ => 0) cw (fun _ _ => 0) 0 0 0 0 0 0 0 0 0 0 0 0 (upd (fun _ => 0) 1 4) (fun _ => 0) (fun _ => 0) (fun _ => 0) (fun _ => 0) (fun _ => 0) (fun _ => 0) (fun _ => 0) (fun _ => 0) (fun _ => 0) (fun _ => 0) (fun _ => 0) (fun _ => 0) (fun _ => 0) (fun _ => 0) (fun _ => 0) (fun _ => 0) (fun _ => 0) (fun _ => 0) (fun _ => 0) (fun _ => 0) (fun _ => 0) (fun _ => 0) 0 0 0 0 0 0 0 0 0 0 0 := by
  refine ⟨S00, fun _ => 0, fun _ => 0, 0, 0, 0, 0, ⟨nf_upd (fun _ => 0) 1 4, GS0, ⟨rfl, rfl, rfl, rfl, fun v hv => absurd hv (Nat.not_lt_zero v), fun k hk => (wds_n hW hk).1, fun j k hj hk e => wds_nn hW hj hk e, fun k hk => absurd hk (Nat.not_lt_zero k)⟩, ⟨fun v hv => absurd hv (Nat.not_lt_zero v), fun h => absurd h (by decide), fun h => absurd h (by decide), fun v hv => absurd hv (Nat.not_lt_zero v)⟩⟩, ⟨rfl, rfl, rfl, rfl, by decide, fun _ => (show 0 < 128 by decide)⟩, ⟨rfl, rfl, by decide, fun _ => (show 0 < 128 by decide)⟩, ⟨rfl, rfl, rfl⟩, rfl, rfl, rfl, hW, by decide, by decide, fun i hi => absurd hi (Nat.not_lt_zero i)⟩
theorem st_K {s : State} {av : Array Value} (hts0 : ∀ w ∈ lw_tbl, w.before av s = true) : ∃ (D : va_G) (cI cJ cB cL cS cW : ClassId), va_K D vwCl (kT cI cJ cB cL cS cW) s := by
  obtain ⟨c0, iS0, hKn0⟩ := u_known (C := RX0) (T := TX0) (N := 7) (n := 7) hts0 (by decide +kernel) (hts0 (.instantiable RX0 7) (by decide +kernel))
  obtain ⟨c1, iS1, hKn1⟩ := u_known (C := RX1) (T := TX1) (N := 6) (n := 6) hts0 (by decide +kernel) (hts0 (.instantiable RX1 6) (by decide +kernel))
  obtain ⟨c2, iS2, hKn2⟩ := u_known (C := RX2) (T := TX2) (N := 3) (n := 3) hts0 (by decide +kernel) (hts0 (.instantiable RX2 3) (by decide +kernel))
  obtain ⟨c3, iS3, hKn3⟩ := u_known (C := RX3) (T := TX3) (N := 6) (n := 6) hts0 (by decide +kernel) (hts0 (.instantiable RX3 6) (by decide +kernel))
  obtain ⟨c4, iS4, hKn4⟩ := u_known (C := RX4) (T := TX4) (N := 2) (n := 2) hts0 (by decide +kernel) (hts0 (.instantiable RX4 2) (by decide +kernel))
  obtain ⟨c5, iS5, hKn5⟩ := u_known (C := RX5) (T := TX5) (N := 7) (n := 7) hts0 (by decide +kernel) (hts0 (.instantiable RX5 7) (by decide +kernel))
  obtain ⟨c6, iS6, hKn6⟩ := u_known (C := RX6) (T := TX6) (N := 2) (n := 2) hts0 (by decide +kernel) (hts0 (.instantiable RX6 2) (by decide +kernel))
  obtain ⟨c7, iS7, hKn7⟩ := u_known (C := RX7) (T := TX7) (N := 8) (n := 8) hts0 (by decide +kernel) (hts0 (.instantiable RX7 8) (by decide +kernel))
  obtain ⟨c8, iS8, hKn8⟩ := u_known (C := RX8) (T := TX8) (N := 34) (n := 34) hts0 (by decide +kernel) (hts0 (.instantiable RX8 34) (by decide +kernel))
  have hcl : ∃ (dC : Nat → ClassId) (dI : Nat → Nat → Nat), ∀ (k : Nat) (q : vw_C), vwCl[k]? = some q → u_Kn s q.1 q.2.1 q.2.2 (dC k) (dI k) := by
    refine ⟨fun k => [c0, c1, c2, c3, c4, c5, c6, c7, c8].getD k c0, fun k => [iS0, iS1, iS2, iS3, iS4, iS5, iS6, iS7, iS8].getD k iS0, ?_⟩
    intro k q hq
    match k, hq with
    | 0, hq => cases hq; exact hKn0
    | 1, hq => cases hq; exact hKn1
    | 2, hq => cases hq; exact hKn2
    | 3, hq => cases hq; exact hKn3
    | 4, hq => cases hq; exact hKn4
    | 5, hq => cases hq; exact hKn5
    | 6, hq => cases hq; exact hKn6
    | 7, hq => cases hq; exact hKn7
    | 8, hq => cases hq; exact hKn8
    | k + 9, hq => exact absurd hq (by intro h; cases h)
  obtain ⟨dC, dI, hKc⟩ := hcl
  obtain ⟨cI, kI, mI, fI, gI, hI⟩ := Cond.arrayClass_spec (hts0 (.arrayClass .int) (by decide +kernel))
  obtain ⟨cJ, kJ, mJ, fJ, gJ, hJ⟩ := Cond.arrayClass_spec (hts0 (.arrayClass .long) (by decide +kernel))
  obtain ⟨cB, kB, mB, fB, gB, hB⟩ := Cond.arrayClass_spec (hts0 (.arrayClass .byte) (by decide +kernel))
  obtain ⟨mL, cL, kL, fL, -, gL, hL, jL⟩ := Cond.arrayOver_spec (hts0 (.arrayOver (.object RX1)) (by decide +kernel))
  obtain ⟨mS, cS, kS, fS, -, gS, hS, jS⟩ := Cond.arrayOver_spec (hts0 (.arrayOver (.object RX3)) (by decide +kernel))
  obtain ⟨mW, cW, kW, fW, -, gW, hW, jW⟩ := Cond.arrayOver_spec (hts0 (.arrayOver (.object RX6)) (by decide +kernel))
  refine ⟨(dC, dI), cI, cJ, cB, cL, cS, cW, hKc, ?_⟩
  intro k q hq
  match k, hq with
  | 0, hq => cases hq; exact ⟨fun n z => ⟨fun k h => (by cases h), kI, gI, mI, hI⟩, fI⟩
  | 1, hq => cases hq; exact ⟨fun n z => ⟨fun k h => (by cases h), kJ, gJ, mJ, hJ⟩, fJ⟩
  | 2, hq => cases hq; exact ⟨fun n z => ⟨fun k h => (by cases h), kB, gB, mB, hB⟩, fB⟩
  | 3, hq => cases hq; exact ⟨fun n z => ⟨fun k h => (by cases h), kL, gL, mL, hL⟩, kL, mL, gL, hL, fL, jL⟩
  | 4, hq => cases hq; exact ⟨fun n z => ⟨fun k h => (by cases h), kS, gS, mS, hS⟩, kS, mS, gS, hS, fS, jS⟩
  | 5, hq => cases hq; exact ⟨fun n z => ⟨fun k h => (by cases h), kW, gW, mW, hW⟩, kW, mW, gW, hW, fW, jW⟩
  | k + 6, hq => exact absurd hq (by intro h; cases h)
theorem st_W {s : State} {av : Array Value} (hts0 : ∀ w ∈ lw_tbl, w.before av s = true) : kW s := by
  refine ⟨va_Nw.of rfl (hts0 (.methodLinkNest RX4 28 yX7_isSign RX7) (by decide +kernel)), va_Nw.of rfl (hts0 (.methodLinkNest RX7 9 yX4_init RX7) (by decide +kernel)), va_Nw.of rfl (hts0 (.methodLinkNest RX7 18 yX6_init RX7) (by decide +kernel)), va_Nw.of rfl (hts0 (.methodLinkNest RX7 39 yX1_init RX7) (by decide +kernel)), va_Nw.of rfl (hts0 (.methodLinkNest RX3 25 yX6_init RX7) (by decide +kernel)), va_Nw.of rfl (hts0 (.methodLinkNest RX0 33 yX5_init RX7) (by decide +kernel)), va_Nw.of rfl (hts0 (.methodLinkNest RX0 44 yX1_init RX7) (by decide +kernel)), va_AO.of (hts0 (.arrayOver (.object RX3)) (by decide +kernel)), va_AO.of (hts0 (.arrayOver (.object RX6)) (by decide +kernel)), va_AO.of (hts0 (.arrayOver (.object RX1)) (by decide +kernel))⟩
set_option maxHeartbeats 4000000 in
set_option maxRecDepth 100000 in
/-- THE LAW, from its entry -/
theorem whole_start {p : Program} {e : Env} {s : State} {m : MethodId} {below : List Frame} {meth : Method} {c : Code} (l : Launch) (hflags : l.flags = flags0) {b L : Nat} {xs : Nat → Int32} (hL : L ≤ 2560) (C0 : lw_At p s m meth c b L xs) : W p l e room_1 s m #[Value.ref b] below meth c s.heap [] 0 0 (lw_Z below #[Value.ref b] s) (entryFrame m ([Value.ref b] : List Value).toArray 4) := by
  obtain ⟨hx, hb, hr, hml, hown, hts0, hX, hbl, hlocks, hgv⟩ := id C0
  have hts : ∀ w ∈ wsL_law, w.before #[Value.ref b] s = true := fun w h => hts0 w (wsL_law_in w h)
  have hA : ∀ q : Nat, s.heap.size ≤ q → (fun q : Nat => s.heap.size ≤ q) q := fun _ h => h
  obtain ⟨D, cI, cJ, cB, cL, cS, cW, hK⟩ := st_K hts0
  have hN : kW s := st_W hts0
  have hS : va_S (fun q : Nat => s.heap.size ≤ q) s.heap s.heap [] := va_S.rf
  have hP : va_P D vwCl [] s.heap := fun k q h => by simp at h
  have hD : va_D (fun q : Nat => s.heap.size ≤ q) [] := ⟨fun i j p q h => by simp at h, fun k q h => by simp at h⟩
  have hl := lv_entry ([.ref b]) (n := 4) (Nat.le_of_ble_eq_true rfl)
  rw [lg_entry_eq]
  generalize (lg_sl ([.ref b]) ++ List.replicate (4 - (lg_sl ([.ref b])).length) Slot.unset).toArray = ls at hl ⊢
  have hl : lv_has ls 4 [(0, .ref b)] := hl
  refine va_new (ci := 7) (fs := [.null, .null, .null, .null, .null, .int 0, .int 0, .int 0]) (C := RX7) (T := TX7) (N := 8) hx hb hts0 (by decide +kernel) tyX7 tyX7_ok hown (hts0 (.classLink RL 7 RX7) (by decide +kernel)) (hts0 (.instantiable RX7 8) (by decide +kernel)) (hts0 (.initialized RX7) (by decide +kernel)) hK hP hD hS hA rfl (fun j hj => by rcases (show j = 0 ∨ j = 1 ∨ j = 2 ∨ j = 3 ∨ j = 4 ∨ j = 5 ∨ j = 6 ∨ j = 7 by omega) with rfl | rfl | rfl | rfl | rfl | rfl | rfl | rfl <;> rfl) (Nat.le_of_ble_eq_true rfl) (Nat.le_of_ble_eq_true rfl) dL_law_0 (fun q0 H hP hD hS => ?_)
  refine lv_dup hx hb dL_law_3 rfl ?_
  refine k_callI ⟨hx, hb, hml, hown, hts⟩ hK hA hN (n_X7 q0) (cwI 0 hts gL_law_X7_init rfl rfl rfl (hts0 (.initialized RX7) (by decide +kernel)) (hts0 (.methodLink RL 9 yX7_init) (by decide +kernel)) (hts0 (.instanceMethod yX7_init) (by decide +kernel)) rfl (by decide +kernel) ⟨Nat.le_of_ble_eq_true rfl, Nat.le_of_ble_eq_true rfl⟩) hP hD hS hl.1 (Nat.le_of_ble_eq_true rfl) ⟨Nat.le_of_ble_eq_true rfl, Nat.le_of_ble_eq_true rfl⟩ dL_law_4 (fun H locs w1 hw1 hP hD hS => ?_)
  obtain ⟨tx, tb, wd, wbq, ix, pa, lo, n0, a1, a2, a3, a4, tr, tp, ar, sw, se, w, bq, lk, pr, st, sws, ses, ws, bqs, hw1⟩ := hw1
  have hP : va_P D vwCl w1 H := hP
  have hD : va_D (fun q : Nat => s.heap.size ≤ q) w1 := hD
  refine lv_astore_n (lv' := [(1, .ref q0), (0, .ref b)]) hx hb dL_law_7 rfl hl (by decide) rfl (fun ls hl => ?_)
  refine va_new (ci := 8) (fs := [.null, .null, .null, .int 0, .null, .null, .int 0, .null, .int 0, .null, .int 0, .null, .null, .null, .int 0, .int 0, .int 0, .int 0, .int 0, .null, .null, .null, .null, .null, .null, .null, .null, .null, .null, .int 0, .int 0, .null, .null, .null]) (C := RX8) (T := TX8) (N := 34) hx hb hts0 (by decide +kernel) tyX8 tyX8_ok hown (hts0 (.classLink RL 10 RX8) (by decide +kernel)) (hts0 (.instantiable RX8 34) (by decide +kernel)) (hts0 (.initialized RX8) (by decide +kernel)) hK hP hD hS hA rfl (fun j hj => by rcases (show j = 0 ∨ j = 1 ∨ j = 2 ∨ j = 3 ∨ j = 4 ∨ j = 5 ∨ j = 6 ∨ j = 7 ∨ j = 8 ∨ j = 9 ∨ j = 10 ∨ j = 11 ∨ j = 12 ∨ j = 13 ∨ j = 14 ∨ j = 15 ∨ j = 16 ∨ j = 17 ∨ j = 18 ∨ j = 19 ∨ j = 20 ∨ j = 21 ∨ j = 22 ∨ j = 23 ∨ j = 24 ∨ j = 25 ∨ j = 26 ∨ j = 27 ∨ j = 28 ∨ j = 29 ∨ j = 30 ∨ j = 31 ∨ j = 32 ∨ j = 33 by omega) with rfl | rfl | rfl | rfl | rfl | rfl | rfl | rfl | rfl | rfl | rfl | rfl | rfl | rfl | rfl | rfl | rfl | rfl | rfl | rfl | rfl | rfl | rfl | rfl | rfl | rfl | rfl | rfl | rfl | rfl | rfl | rfl | rfl | rfl <;> rfl) (Nat.le_of_ble_eq_true rfl) (Nat.le_of_ble_eq_true rfl) dL_law_8 (fun qm H hP hD hS => ?_)
  refine lv_dup hx hb dL_law_11 rfl ?_
  refine k_callI ⟨hx, hb, hml, hown, hts⟩ hK hA hN (n_X8 qm) (cwI 0 hts gL_law_X8_init rfl rfl rfl (hts0 (.initialized RX8) (by decide +kernel)) (hts0 (.methodLink RL 12 yX8_init) (by decide +kernel)) (hts0 (.instanceMethod yX8_init) (by decide +kernel)) rfl (by decide +kernel) ⟨Nat.le_of_ble_eq_true rfl, Nat.le_of_ble_eq_true rfl⟩) hP hD hS hl.1 (Nat.le_of_ble_eq_true rfl) ⟨Nat.le_of_ble_eq_true rfl, Nat.le_of_ble_eq_true rfl⟩ dL_law_12 (fun H locs w2 hw2 hP hD hS => ?_)
  obtain ⟨q1, q2, q3, q4, q5, q6, q7, q8, q9, q10, q11, q12, q13, q14, q15, q16, q17, q18, q19, q20, q21, q22, q23, hw2⟩ := hw2
  rw [hw1] at hP hD
  refine lv_astore_n (lv' := [(2, .ref qm), (1, .ref q0), (0, .ref b)]) hx hb dL_law_15 rfl hl (by decide) rfl (fun ls hl => ?_)
  refine lv_iconst (v := 0) hx hb dL_law_16 (by decide) ?_
  refine lv_istore_n (lv' := [(3, .int 0), (2, .ref qm), (1, .ref q0), (0, .ref b)]) hx hb dL_law_17 rfl hl (by decide) rfl (fun ls hl => ?_)
  obtain ⟨a, wb, sw1, se1, LW, LS, LK, cw, ha0, hG, hAx, hWds, hPc, hPm, hDD⟩ := w_C (sw := sw) (se := se) (w := w) (lk := lk) (st := st) (ws := ws) hP hD
  rw [← ha0] at hl
  rw [hw2] at hPm hDD
  have hPm : va_P D vwCl (WM (fun k => [qm, q1, q2, q3, q4, q5, q6, q7, q8, q9, q10, q11, q12, q13, q14, q15, q16, q17, q18, q19, q20, q21, q22, q23].getD k 0) cI (upd (fun _ => 0) 1 4) (fun _ => 0) (fun _ => 0) (fun _ => 0) (fun _ => 0) (fun _ => 0) (fun _ => 0) (fun _ => 0) (fun _ => 0) (fun _ => 0) (fun _ => 0) (fun _ => 0) (fun _ => 0) (fun _ => 0) (fun _ => 0) (fun _ => 0) (fun _ => 0) (fun _ => 0) (fun _ => 0) (fun _ => 0) (fun _ => 0) (fun _ => 0) (fun _ => 0) 0 0 0 0 0 0 0 0 0 0 0) H := hPm
  have hDD : va_D (fun q : Nat => s.heap.size ≤ q) (WC0 a wb sw1 se1 LW LS LK cI cJ cB cL cS cW ++ WM0 (fun k => [qm, q1, q2, q3, q4, q5, q6, q7, q8, q9, q10, q11, q12, q13, q14, q15, q16, q17, q18, q19, q20, q21, q22, q23].getD k 0) cI) := va_D_re hDD (by rw [List.map_append, List.map_append]; rfl)
  exact law_loop hL C0 hK hG hN.1 hDD ⟨Nat.le_of_ble_eq_true rfl, Nat.le_of_ble_eq_true rfl⟩ (stp_type hAx) (stp_clear hAx) (stp_add hAx) (stp_takeOut hAx) (stp_does hAx) (stp_draw hAx) (stp_deals hAx) (stp_anew hAx) (stp_finds hAx) (stp_way hAx) (stp_looks hAx) (stp_begins hAx) (stp_between hAx) (stp_sign hAx) (stp_parts hAx) (stp_page hAx) (stp_fork hAx) (stp_all hAx) (stp_back hAx) (stp_told hAx) (stp_digest hAx) (L + 6) 0 (by omega) (by omega) (fun _ => 0) (fun _ => 0) (fun _ => 0) (fun _ => 0) (fun _ => 0) (fun _ => 0) (fun _ => 0) (fun _ => 0) (fun _ => 0) (fun _ => 0) (fun _ => 4) (fun _ => 0) (fun _ => 0) (fun _ => 0) (fun _ => 0) (fun _ => 0) (fun _ => 0) (fun _ _ => 0) cw (fun _ _ => 0) 0 0 0 0 0 0 0 0 0 0 0 0 (upd (fun _ => 0) 1 4) (fun _ => 0) (fun _ => 0) (fun _ => 0) (fun _ => 0) (fun _ => 0) (fun _ => 0) (fun _ => 0) (fun _ => 0) (fun _ => 0) (fun _ => 0) (fun _ => 0) (fun _ => 0) (fun _ => 0) (fun _ => 0) (fun _ => 0) (fun _ => 0) (fun _ => 0) (fun _ => 0) (fun _ => 0) (fun _ => 0) (fun _ => 0) (fun _ => 0) 0 0 0 0 0 0 0 0 0 0 0 H locs ls (II0 hWds) hPc hPm hS (lv_sub hl [3, 2, 1, 0] rfl)
