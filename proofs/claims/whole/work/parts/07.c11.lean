theorem hdX7_parts : yX7_parts.cls = RX7 ∧ yX7_parts.cls ≠ "java/lang/invoke/MethodHandle" ∧ yX7_parts.cls ≠ "java/lang/invoke/VarHandle" ∧ (parseMethodDescriptor yX7_parts.desc).map (fun d => d.parameters.length) = some 1 := by decide +kernel
theorem hiX7_parts_X7 : ∀ w ∈ u_ws RX7 TX7 8, w ∈ wsX7_parts := by decide +kernel
theorem hiX7_parts_X0 : ∀ w ∈ u_ws RX0 TX0 7, w ∈ wsX7_parts := by decide +kernel
theorem hiX7_parts_X3 : ∀ w ∈ u_ws RX3 TX3 6, w ∈ wsX7_parts := by decide +kernel
theorem flX7_parts_26 : Cond.fieldLink RX7 26 "BlindPages" "index" "LBlindPages$Index;" ∈ wsX7_parts := by decide +kernel
theorem flX7_parts_68 : Cond.fieldLink RX7 68 "BlindPages$Index" "now" "LBlindPages$State;" ∈ wsX7_parts := by decide +kernel
theorem flX7_parts_72 : Cond.fieldLink RX7 72 "BlindPages$State" "count" "I" ∈ wsX7_parts := by decide +kernel
def C7_parts_J20 (a : Nat → Nat) (LW : List Nat) (c_count : Nat → Int32) (c_bits : Nat → Nat → Int64) (c_words : Nat → Nat → Nat) (v1 : Int32) (c_bads : Int32) (c_noes : Int32) (c_fulls : Int32) : Option (Int32 × Int32 × Int32 × Int32) := bd4 (C7_refuse c_bads c_noes c_fulls (-2)) fun r23 c_bads_23 c_noes_23 c_fulls_23 => some (r23, c_bads_23, c_noes_23, c_fulls_23)
def C7_parts (a : Nat → Nat) (LW : List Nat) (c_count : Nat → Int32) (c_bits : Nat → Nat → Int64) (c_words : Nat → Nat → Nat) (c_bads c_noes c_fulls : Int32) (v1 : Int32) : Option (Int32 × Int32 × Int32 × Int32) := if v1 < 0 then (C7_parts_J20 a LW c_count c_bits c_words v1 c_bads c_noes c_fulls) else (if v1 < ((c_count (a 14)) - 1) then (bd1 (C3_wordAt LW c_words (a 14) v1) fun r35 => gm LW r35 (bd1 (C3_wordAt LW c_words (a 14) (v1 + 1)) fun r48 => gm LW r48 (bd1 (C6_partingFrom c_bits r35 r48) fun r51 => some (r51, c_bads, c_noes, c_fulls)))) else (C7_parts_J20 a LW c_count c_bits c_words v1 c_bads c_noes c_fulls))
set_option maxRecDepth 100000 in
set_option maxHeartbeats 4000000 in
theorem t_C7_parts_J20 {p : Program} {l : Launch} {e : Env} {s : State} {m : MethodId} {args : Array Value} {below : List Frame} {meth : Method} {c : Code} {Q : State → Prop} {A : Nat → Prop} {D : va_G} {cI cJ cB cL cS cW : ClassId} {a wb sw se : Nat → Nat} {LW LS LK : List Nat} {c_bytes c_heads c_firsts c_levelOf c_aboveOf c_partings c_signs c_count c_pages c_levels c_most c_page c_known c_guess c_diff c_pieces c_place : Nat → Int32} {c_bits : Nat → Nat → Int64} {c_words : Nat → Nat → Nat} {c_entries : Nat → Nat → Int32} {c_length c_next c_kept c_base c_from c_to c_above c_bit c_lastLeft : Int32} {v1 : Int32} {r : Int32} {o_bads : Int32} {o_noes : Int32} {o_fulls : Int32} (C : k_C p s m args meth c cX7_parts 2 (some .int) RX7 wsX7_parts D (kT cI cJ cB cL cS cW) A) (hD : va_D A (WC0 a wb sw se LW LS LK cI cJ cB cL cS cW)) (hG : kG a LW LS LK) (hret : ∀ (H : Heap) (locs : List Loc) (pc : Nat) (ls : Array Slot), decode cX7_parts pc = .ok (.ireturn, 1) → va_P D vwCl (WC a wb sw se LW LS LK cI cJ cB cL cS cW c_bytes c_heads c_firsts c_levelOf c_aboveOf c_partings c_signs c_count c_pages c_levels c_most c_page c_known c_guess c_diff c_pieces c_place c_bits c_words c_entries o_bads o_noes o_fulls c_length c_next c_kept c_base c_from c_to c_above c_bit c_lastLeft) H → va_S A s.heap H locs → W p l e { frames := 3, cells := 0, slots := 0, locals := 67 } s m args below meth c H locs 0 0 Q (F0 m pc ls [.int r])) : ∀ (c_bads : Int32) (c_noes : Int32) (c_fulls : Int32) (H : Heap) (locs : List Loc) (ls : Array Slot), va_P D vwCl (WC a wb sw se LW LS LK cI cJ cB cL cS cW c_bytes c_heads c_firsts c_levelOf c_aboveOf c_partings c_signs c_count c_pages c_levels c_most c_page c_known c_guess c_diff c_pieces c_place c_bits c_words c_entries c_bads c_noes c_fulls c_length c_next c_kept c_base c_from c_to c_above c_bit c_lastLeft) H → va_S A s.heap H locs → lv_has ls 2 [(0, .ref (a 0))] → C7_parts_J20 a LW c_count c_bits c_words v1 c_bads c_noes c_fulls = some (r, o_bads, o_noes, o_fulls) → W p l e { frames := 3, cells := 0, slots := 0, locals := 67 } s m args below meth c H locs 0 0 Q (F0 m 20 ls []) := by
  obtain ⟨hx, hb, hml, hr, hown, hts, hlocks, hK, hA, hN⟩ := id C
  intro c_bads c_noes c_fulls H locs ls hP hS hl hm
  rw [C7_parts_J20] at hm
  refine lv_aload_n hx hb dX7_parts_20 rfl (lv_at hl 0 rfl) ?_
  refine lv_bipush (v := (-2)) hx hb dX7_parts_21 (by decide) ?_
  obtain ⟨r23, c_bads_23, c_noes_23, c_fulls_23, hq0, hm⟩ := bd4_some hm
  refine k_callVI (As := [.int (-2)]) (rest := []) ⟨hx, hb, hml, hown, hts⟩ hK hA hN (c_X7_refuse hG hq0) (cwV 1 hts gX7_parts_X7_refuse rfl rfl rfl hdX7_refuse ⟨Nat.le_of_ble_eq_true rfl, Nat.le_of_ble_eq_true rfl⟩) hP (WCD hD) hS 0 7 rfl rfl rfl hl.1 rfl rfl (Nat.le_of_ble_eq_true rfl) ⟨Nat.zero_le _, Nat.zero_le _⟩ dX7_parts_23 (fun H locs hP hS => ?_)
  simp only [Option.some.injEq, Prod.mk.injEq] at hm
  obtain ⟨rfl, rfl, rfl, rfl⟩ := hm
  exact hret _ _ _ _ dX7_parts_26 hP hS
set_option maxRecDepth 100000 in
set_option maxHeartbeats 4000000 in
theorem c_X7_parts {l : Launch} {D : va_G} {cI cJ cB cL cS cW : ClassId} {a wb sw se : Nat → Nat} {LW LS LK : List Nat} {c_bytes c_heads c_firsts c_levelOf c_aboveOf c_partings c_signs c_count c_pages c_levels c_most c_page c_known c_guess c_diff c_pieces c_place : Nat → Int32} {c_bits : Nat → Nat → Int64} {c_words : Nat → Nat → Nat} {c_entries : Nat → Nat → Int32} {c_bads c_noes c_fulls c_length c_next c_kept c_base c_from c_to c_above c_bit c_lastLeft : Int32} {v1 : Int32} {r : Int32} {o_bads : Int32} {o_noes : Int32} {o_fulls : Int32} (hG : kG a LW LS LK) (hm : C7_parts a LW c_count c_bits c_words c_bads c_noes c_fulls v1 = some (r, o_bads, o_noes, o_fulls)) : k_MI l yX7_parts wsX7_parts { frames := 3, cells := 0, slots := 0, locals := 67 } D (kT cI cJ cB cL cS cW) [.ref (a 0), .int v1] (WC a wb sw se LW LS LK cI cJ cB cL cS cW c_bytes c_heads c_firsts c_levelOf c_aboveOf c_partings c_signs c_count c_pages c_levels c_most c_page c_known c_guess c_diff c_pieces c_place c_bits c_words c_entries c_bads c_noes c_fulls c_length c_next c_kept c_base c_from c_to c_above c_bit c_lastLeft) r (WC a wb sw se LW LS LK cI cJ cB cL cS cW c_bytes c_heads c_firsts c_levelOf c_aboveOf c_partings c_signs c_count c_pages c_levels c_most c_page c_known c_guess c_diff c_pieces c_place c_bits c_words c_entries o_bads o_noes o_fulls c_length c_next c_kept c_base c_from c_to c_above c_bit c_lastLeft) := by
  refine k_ofI (cc := cX7_parts) (maxL := 2) (own := RX7) (by decide) rfl rfl (Nat.le_of_ble_eq_true rfl) ?_
  intro p e s m args below meth c A Q ls C hP hD hl hret
  have hD : va_D A (WC0 a wb sw se LW LS LK cI cJ cB cL cS cW) := WCD hD
  have hS : va_S A s.heap s.heap [] := va_S.rf
  have hl : lv_has ls 2 [(0, .ref (a 0)), (1, .int v1)] := hl
  obtain ⟨hx, hb, hml, hr, hown, hts, hlocks, hK, hA, hN⟩ := id C
  rw [C7_parts] at hm
  refine lv_iload_n hx hb dX7_parts_0 rfl (lv_at hl 1 rfl) ?_
  refine lv_if_lt (tgt := 20) hx hb dX7_parts_1 (by decide) (fun hc => ?_) (fun hc => ?_)
  · have hm := if_t hc hm
    exact t_C7_parts_J20 C hD hG hret _ _ _ _ _ _ hP hS (lv_sub hl [0] rfl) hm
  · have hm := if_f hc hm
    refine lv_iload_n hx hb dX7_parts_4 rfl (lv_at hl 1 rfl) ?_
    refine lv_aload_n hx hb dX7_parts_5 rfl (lv_at hl 0 rfl) ?_
    refine kg (v := .ref (a 3)) hx hb hts hiX7_parts_X7 hown hK hP 0 rfl rfl 2 (by decide) flX7_parts_26 rfl rfl dX7_parts_6 ?_
    refine kg (v := .ref (a 14)) hx hb hts hiX7_parts_X0 hown hK hP 3 rfl rfl 0 (by decide) flX7_parts_68 rfl rfl dX7_parts_9 ?_
    obtain ⟨q, hq, -⟩ := WC_S hG hG.2.2.2.2.1
    refine kg (v := .int (c_count (a 14))) hx hb hts hiX7_parts_X3 hown hK hP q hq rfl 2 (by decide) flX7_parts_72 rfl rfl dX7_parts_12 ?_
    refine lv_iconst (v := 1) hx hb dX7_parts_15 (by decide) ?_
    refine lv_isub hx hb dX7_parts_16 ?_
    refine lv_icmp_lt (tgt := 27) hx hb dX7_parts_17 (by decide) (fun hc => ?_) (fun hc => ?_)
    · have hm := if_t hc hm
      refine lv_aload_n hx hb dX7_parts_27 rfl (lv_at hl 0 rfl) ?_
      refine kg (v := .ref (a 3)) hx hb hts hiX7_parts_X7 hown hK hP 0 rfl rfl 2 (by decide) flX7_parts_26 rfl rfl dX7_parts_28 ?_
      refine kg (v := .ref (a 14)) hx hb hts hiX7_parts_X0 hown hK hP 3 rfl rfl 0 (by decide) flX7_parts_68 rfl rfl dX7_parts_31 ?_
      refine lv_iload_n hx hb dX7_parts_34 rfl (lv_at hl 1 rfl) ?_
      obtain ⟨r35, hq0, hm⟩ := bd1_some hm
      obtain ⟨hw35, hm⟩ := gm_some hm
      obtain ⟨q, hq, -⟩ := WC_S hG hG.2.2.2.2.1
      refine k_callVA (As := [.int v1]) (rest := []) ⟨hx, hb, hml, hown, hts⟩ hK hA hN (c_X3_wordAt hG hG.2.2.2.2.1 hq0) (cwV 1 hts gX7_parts_X3_wordAt rfl rfl rfl hdX3_wordAt ⟨Nat.le_of_ble_eq_true rfl, Nat.le_of_ble_eq_true rfl⟩) hP (WCD hD) hS q 3 hq rfl rfl hl.1 rfl rfl (Nat.le_of_ble_eq_true rfl) ⟨Nat.zero_le _, Nat.zero_le _⟩ dX7_parts_35 (fun H locs hP hS => ?_)
      refine lv_aload_n hx hb dX7_parts_38 rfl (lv_at hl 0 rfl) ?_
      refine kg (v := .ref (a 3)) hx hb hts hiX7_parts_X7 hown hK hP 0 rfl rfl 2 (by decide) flX7_parts_26 rfl rfl dX7_parts_39 ?_
      refine kg (v := .ref (a 14)) hx hb hts hiX7_parts_X0 hown hK hP 3 rfl rfl 0 (by decide) flX7_parts_68 rfl rfl dX7_parts_42 ?_
      refine lv_iload_n hx hb dX7_parts_45 rfl (lv_at hl 1 rfl) ?_
      refine lv_iconst (v := 1) hx hb dX7_parts_46 (by decide) ?_
      refine lv_iadd hx hb dX7_parts_47 ?_
      obtain ⟨r48, hq0, hm⟩ := bd1_some hm
      obtain ⟨hw48, hm⟩ := gm_some hm
      obtain ⟨q, hq, -⟩ := WC_S hG hG.2.2.2.2.1
      refine k_callVA (As := [.int (v1 + 1)]) (rest := [.ref r35]) ⟨hx, hb, hml, hown, hts⟩ hK hA hN (c_X3_wordAt hG hG.2.2.2.2.1 hq0) (cwV 1 hts gX7_parts_X3_wordAt rfl rfl rfl hdX3_wordAt ⟨Nat.le_of_ble_eq_true rfl, Nat.le_of_ble_eq_true rfl⟩) hP (WCD hD) hS q 3 hq rfl rfl hl.1 rfl rfl (Nat.le_of_ble_eq_true rfl) ⟨Nat.zero_le _, Nat.zero_le _⟩ dX7_parts_48 (fun H locs hP hS => ?_)
      obtain ⟨r51, hq0, hm⟩ := bd1_some hm
      obtain ⟨q, hq, -⟩ := WC_W hG hw35
      refine k_callVI (As := [.ref r48]) (rest := []) ⟨hx, hb, hml, hown, hts⟩ hK hA hN (c_X6_partingFrom hG hw35 hw48 hq0) (cwV 1 hts gX7_parts_X6_partingFrom rfl rfl rfl hdX6_partingFrom ⟨Nat.le_of_ble_eq_true rfl, Nat.le_of_ble_eq_true rfl⟩) hP (WCD hD) hS q 6 hq rfl rfl hl.1 rfl rfl (Nat.le_of_ble_eq_true rfl) ⟨Nat.zero_le _, Nat.zero_le _⟩ dX7_parts_51 (fun H locs hP hS => ?_)
      simp only [Option.some.injEq, Prod.mk.injEq] at hm
      obtain ⟨rfl, rfl, rfl, rfl⟩ := hm
      exact hret _ _ _ _ dX7_parts_54 hP hS
    · have hm := if_f hc hm
      exact t_C7_parts_J20 C hD hG hret _ _ _ _ _ _ hP hS (lv_sub hl [0] rfl) hm
theorem hdX0_endOf : yX0_endOf.cls = RX0 ∧ yX0_endOf.cls ≠ "java/lang/invoke/MethodHandle" ∧ yX0_endOf.cls ≠ "java/lang/invoke/VarHandle" ∧ (parseMethodDescriptor yX0_endOf.desc).map (fun d => d.parameters.length) = some 1 := by decide +kernel
theorem hiX0_endOf_X0 : ∀ w ∈ u_ws RX0 TX0 7, w ∈ wsX0_endOf := by decide +kernel
theorem hiX0_endOf_X3 : ∀ w ∈ u_ws RX3 TX3 6, w ∈ wsX0_endOf := by decide +kernel
theorem flX0_endOf_12 : Cond.fieldLink RX0 12 "BlindPages$Index" "now" "LBlindPages$State;" ∈ wsX0_endOf := by decide +kernel
theorem flX0_endOf_45 : Cond.fieldLink RX0 45 "BlindPages$State" "pages" "I" ∈ wsX0_endOf := by decide +kernel
theorem flX0_endOf_63 : Cond.fieldLink RX0 63 "BlindPages$State" "count" "I" ∈ wsX0_endOf := by decide +kernel
def C0_endOf_J33 (a : Nat → Nat) (c_heads c_levelOf c_count c_pages : Nat → Int32) (v1 : Int32) (t0 : Int32) : Option (Int32) := if t0 = 0 then (some (c_count (a 14))) else (bd1 (C0_headOf c_heads (v1 + 1)) fun r42 => some r42)
def C0_endOf (a : Nat → Nat) (c_heads c_levelOf c_count c_pages : Nat → Int32) (v1 : Int32) : Option (Int32) := if (c_pages (a 14)) ≤ (v1 + 1) then (C0_endOf_J33 a c_heads c_levelOf c_count c_pages v1 0) else (bd1 (C0_levelAt c_levelOf (v1 + 1)) fun r17 => bd1 (C0_levelAt c_levelOf v1) fun r22 => if r17 = r22 then (C0_endOf_J33 a c_heads c_levelOf c_count c_pages v1 1) else (C0_endOf_J33 a c_heads c_levelOf c_count c_pages v1 0))
set_option maxRecDepth 100000 in
set_option maxHeartbeats 4000000 in
theorem t_C0_endOf_J33 {p : Program} {l : Launch} {e : Env} {s : State} {m : MethodId} {args : Array Value} {below : List Frame} {meth : Method} {c : Code} {Q : State → Prop} {A : Nat → Prop} {D : va_G} {cI cJ cB cL cS cW : ClassId} {a wb sw se : Nat → Nat} {LW LS LK : List Nat} {c_bytes c_heads c_firsts c_levelOf c_aboveOf c_partings c_signs c_count c_pages c_levels c_most c_page c_known c_guess c_diff c_pieces c_place : Nat → Int32} {c_bits : Nat → Nat → Int64} {c_words : Nat → Nat → Nat} {c_entries : Nat → Nat → Int32} {c_bads c_noes c_fulls c_length c_next c_kept c_base c_from c_to c_above c_bit c_lastLeft : Int32} {v1 : Int32} {r : Int32} (C : k_C p s m args meth c cX0_endOf 3 (some .int) RX0 wsX0_endOf D (kT cI cJ cB cL cS cW) A) (hD : va_D A (WC0 a wb sw se LW LS LK cI cJ cB cL cS cW)) (hG : kG a LW LS LK) (hret : ∀ (H : Heap) (locs : List Loc) (pc : Nat) (ls : Array Slot), decode cX0_endOf pc = .ok (.ireturn, 1) → va_P D vwCl (WC a wb sw se LW LS LK cI cJ cB cL cS cW c_bytes c_heads c_firsts c_levelOf c_aboveOf c_partings c_signs c_count c_pages c_levels c_most c_page c_known c_guess c_diff c_pieces c_place c_bits c_words c_entries c_bads c_noes c_fulls c_length c_next c_kept c_base c_from c_to c_above c_bit c_lastLeft) H → va_S A s.heap H locs → W p l e { frames := 1, cells := 0, slots := 0, locals := 21 } s m args below meth c H locs 0 0 Q (F0 m pc ls [.int r])) : ∀ (t0 : Int32) (H : Heap) (locs : List Loc) (ls : Array Slot), va_P D vwCl (WC a wb sw se LW LS LK cI cJ cB cL cS cW c_bytes c_heads c_firsts c_levelOf c_aboveOf c_partings c_signs c_count c_pages c_levels c_most c_page c_known c_guess c_diff c_pieces c_place c_bits c_words c_entries c_bads c_noes c_fulls c_length c_next c_kept c_base c_from c_to c_above c_bit c_lastLeft) H → va_S A s.heap H locs → lv_has ls 3 [(0, .ref (a 3)), (1, .int v1)] → C0_endOf_J33 a c_heads c_levelOf c_count c_pages v1 t0 = some r → W p l e { frames := 1, cells := 0, slots := 0, locals := 21 } s m args below meth c H locs 0 0 Q (F0 m 33 ls [.int t0]) := by
  obtain ⟨hx, hb, hml, hr, hown, hts, hlocks, hK, hA, hN⟩ := id C
  intro t0 H locs ls hP hS hl hm
  rw [C0_endOf_J33] at hm
  refine lv_istore_n (lv' := [(2, .int t0), (0, .ref (a 3)), (1, .int v1)]) hx hb dX0_endOf_33 rfl hl (by decide) rfl (fun ls hl => ?_)
  refine lv_iload_n hx hb dX0_endOf_34 rfl (lv_at hl 0 rfl) ?_
  refine lv_if_eq (tgt := 48) hx hb dX0_endOf_35 (by decide) (fun hc => ?_) (fun hc => ?_)
  · have hm := if_t hc hm
    refine lv_aload_n hx hb dX0_endOf_48 rfl (lv_at hl 1 rfl) ?_
    refine kg (v := .ref (a 14)) hx hb hts hiX0_endOf_X0 hown hK hP 3 rfl rfl 0 (by decide) flX0_endOf_12 rfl rfl dX0_endOf_49 ?_
    obtain ⟨q, hq, -⟩ := WC_S hG hG.2.2.2.2.1
    refine kg (v := .int (c_count (a 14))) hx hb hts hiX0_endOf_X3 hown hK hP q hq rfl 2 (by decide) flX0_endOf_63 rfl rfl dX0_endOf_52 ?_
    obtain rfl := Option.some.inj hm
    exact hret _ _ _ _ dX0_endOf_55 hP hS
  · have hm := if_f hc hm
    refine lv_aload_n hx hb dX0_endOf_38 rfl (lv_at hl 1 rfl) ?_
    refine lv_iload_n hx hb dX0_endOf_39 rfl (lv_at hl 2 rfl) ?_
    refine lv_iconst (v := 1) hx hb dX0_endOf_40 (by decide) ?_
    refine lv_iadd hx hb dX0_endOf_41 ?_
    obtain ⟨r42, hq0, hm⟩ := bd1_some hm
    refine k_callVI (As := [.int (v1 + 1)]) (rest := []) ⟨hx, hb, hml, hown, hts⟩ hK hA hN (c_X0_headOf hG hq0) (cwV 1 hts gX0_endOf_X0_headOf rfl rfl rfl hdX0_headOf ⟨Nat.le_of_ble_eq_true rfl, Nat.le_of_ble_eq_true rfl⟩) hP (WCD hD) hS 3 0 rfl rfl rfl hl.1 rfl rfl (Nat.le_of_ble_eq_true rfl) ⟨Nat.zero_le _, Nat.zero_le _⟩ dX0_endOf_42 (fun H locs hP hS => ?_)
    refine lv_goto (tgt := 55) hx hb dX0_endOf_45 (by decide) ?_
    obtain rfl := Option.some.inj hm
    exact hret _ _ _ _ dX0_endOf_55 hP hS
set_option maxRecDepth 100000 in
set_option maxHeartbeats 4000000 in
theorem c_X0_endOf {l : Launch} {D : va_G} {cI cJ cB cL cS cW : ClassId} {a wb sw se : Nat → Nat} {LW LS LK : List Nat} {c_bytes c_heads c_firsts c_levelOf c_aboveOf c_partings c_signs c_count c_pages c_levels c_most c_page c_known c_guess c_diff c_pieces c_place : Nat → Int32} {c_bits : Nat → Nat → Int64} {c_words : Nat → Nat → Nat} {c_entries : Nat → Nat → Int32} {c_bads c_noes c_fulls c_length c_next c_kept c_base c_from c_to c_above c_bit c_lastLeft : Int32} {v1 : Int32} {r : Int32} (hG : kG a LW LS LK) (hm : C0_endOf a c_heads c_levelOf c_count c_pages v1 = some r) : k_MI l yX0_endOf wsX0_endOf { frames := 1, cells := 0, slots := 0, locals := 21 } D (kT cI cJ cB cL cS cW) [.ref (a 3), .int v1] (WC a wb sw se LW LS LK cI cJ cB cL cS cW c_bytes c_heads c_firsts c_levelOf c_aboveOf c_partings c_signs c_count c_pages c_levels c_most c_page c_known c_guess c_diff c_pieces c_place c_bits c_words c_entries c_bads c_noes c_fulls c_length c_next c_kept c_base c_from c_to c_above c_bit c_lastLeft) r (WC a wb sw se LW LS LK cI cJ cB cL cS cW c_bytes c_heads c_firsts c_levelOf c_aboveOf c_partings c_signs c_count c_pages c_levels c_most c_page c_known c_guess c_diff c_pieces c_place c_bits c_words c_entries c_bads c_noes c_fulls c_length c_next c_kept c_base c_from c_to c_above c_bit c_lastLeft) := by
  refine k_ofI (cc := cX0_endOf) (maxL := 3) (own := RX0) (by decide) rfl rfl (Nat.le_of_ble_eq_true rfl) ?_
  intro p e s m args below meth c A Q ls C hP hD hl hret
  have hD : va_D A (WC0 a wb sw se LW LS LK cI cJ cB cL cS cW) := WCD hD
  have hS : va_S A s.heap s.heap [] := va_S.rf
  have hl : lv_has ls 3 [(0, .ref (a 3)), (1, .int v1)] := hl
  obtain ⟨hx, hb, hml, hr, hown, hts, hlocks, hK, hA, hN⟩ := id C
  rw [C0_endOf] at hm
  refine lv_iload_n hx hb dX0_endOf_0 rfl (lv_at hl 1 rfl) ?_
  refine lv_iconst (v := 1) hx hb dX0_endOf_1 (by decide) ?_
  refine lv_iadd hx hb dX0_endOf_2 ?_
  refine lv_aload_n hx hb dX0_endOf_3 rfl (lv_at hl 0 rfl) ?_
  refine kg (v := .ref (a 14)) hx hb hts hiX0_endOf_X0 hown hK hP 3 rfl rfl 0 (by decide) flX0_endOf_12 rfl rfl dX0_endOf_4 ?_
  obtain ⟨q, hq, -⟩ := WC_S hG hG.2.2.2.2.1
  refine kg (v := .int (c_pages (a 14))) hx hb hts hiX0_endOf_X3 hown hK hP q hq rfl 3 (by decide) flX0_endOf_45 rfl rfl dX0_endOf_7 ?_
  refine lv_icmp_ge (tgt := 32) hx hb dX0_endOf_10 (by decide) (fun hc => ?_) (fun hc => ?_)
  · have hm := if_t hc hm
    refine lv_iconst (v := 0) hx hb dX0_endOf_32 (by decide) ?_
    exact t_C0_endOf_J33 C hD hG hret _ _ _ _ hP hS (lv_sub hl [0, 1] rfl) hm
  · have hm := if_f hc hm
    refine lv_aload_n hx hb dX0_endOf_13 rfl (lv_at hl 0 rfl) ?_
    refine lv_iload_n hx hb dX0_endOf_14 rfl (lv_at hl 1 rfl) ?_
    refine lv_iconst (v := 1) hx hb dX0_endOf_15 (by decide) ?_
    refine lv_iadd hx hb dX0_endOf_16 ?_
    obtain ⟨r17, hq0, hm⟩ := bd1_some hm
    refine k_callVI (As := [.int (v1 + 1)]) (rest := []) ⟨hx, hb, hml, hown, hts⟩ hK hA hN (c_X0_levelAt hG hq0) (cwV 1 hts gX0_endOf_X0_levelAt rfl rfl rfl hdX0_levelAt ⟨Nat.le_of_ble_eq_true rfl, Nat.le_of_ble_eq_true rfl⟩) hP (WCD hD) hS 3 0 rfl rfl rfl hl.1 rfl rfl (Nat.le_of_ble_eq_true rfl) ⟨Nat.zero_le _, Nat.zero_le _⟩ dX0_endOf_17 (fun H locs hP hS => ?_)
    refine lv_aload_n hx hb dX0_endOf_20 rfl (lv_at hl 0 rfl) ?_
    refine lv_iload_n hx hb dX0_endOf_21 rfl (lv_at hl 1 rfl) ?_
    obtain ⟨r22, hq0, hm⟩ := bd1_some hm
    refine k_callVI (As := [.int v1]) (rest := [.int r17]) ⟨hx, hb, hml, hown, hts⟩ hK hA hN (c_X0_levelAt hG hq0) (cwV 1 hts gX0_endOf_X0_levelAt rfl rfl rfl hdX0_levelAt ⟨Nat.le_of_ble_eq_true rfl, Nat.le_of_ble_eq_true rfl⟩) hP (WCD hD) hS 3 0 rfl rfl rfl hl.1 rfl rfl (Nat.le_of_ble_eq_true rfl) ⟨Nat.zero_le _, Nat.zero_le _⟩ dX0_endOf_22 (fun H locs hP hS => ?_)
    refine lv_icmp_ne (tgt := 32) hx hb dX0_endOf_25 (by decide) (fun hc => ?_) (fun hc => ?_)
    · have hm := if_f hc hm
      refine lv_iconst (v := 0) hx hb dX0_endOf_32 (by decide) ?_
      exact t_C0_endOf_J33 C hD hG hret _ _ _ _ hP hS (lv_sub hl [0, 1] rfl) hm
    · have hm := if_t hc hm
      refine lv_iconst (v := 1) hx hb dX0_endOf_28 (by decide) ?_
      refine lv_goto (tgt := 33) hx hb dX0_endOf_29 (by decide) ?_
      exact t_C0_endOf_J33 C hD hG hret _ _ _ _ hP hS (lv_sub hl [0, 1] rfl) hm
theorem hdX5_seek : yX5_seek.cls = RX5 ∧ yX5_seek.cls ≠ "java/lang/invoke/MethodHandle" ∧ yX5_seek.cls ≠ "java/lang/invoke/VarHandle" ∧ (parseMethodDescriptor yX5_seek.desc).map (fun d => d.parameters.length) = some 1 := by decide +kernel
theorem hiX5_seek_X5 : ∀ w ∈ u_ws RX5 TX5 7, w ∈ wsX5_seek := by decide +kernel
theorem flX5_seek_19 : Cond.fieldLink RX5 19 "BlindPages$Tree" "from" "I" ∈ wsX5_seek := by decide +kernel
theorem flX5_seek_22 : Cond.fieldLink RX5 22 "BlindPages$Tree" "to" "I" ∈ wsX5_seek := by decide +kernel
theorem flX5_seek_34 : Cond.fieldLink RX5 34 "BlindPages$Tree" "lastLeft" "I" ∈ wsX5_seek := by decide +kernel
def C5_seek_J66 (c_partings : Nat → Int32) (c_base : Int32) (v1 : Int32) (k4 : Int32 → Int32 → Int32 → Int32 → Int32 → Int32 → Int32 → Option (Int32 × Int32 × Int32 × Int32 × Int32)) (k83 : Int32 → Int32 → Int32 → Int32 → Int32 → Option (Int32 × Int32 × Int32 × Int32 × Int32)) (c_from : Int32) (c_to : Int32) (c_above : Int32) (c_bit : Int32) (c_lastLeft : Int32) (v3 : Int32) (v5 : Int32) (t0 : Int32) : Option (Int32 × Int32 × Int32 × Int32 × Int32) := bd3 (C5_step c_lastLeft c_from c_to c_above v5) fun c_from_70 c_to_70 c_above_70 => bd2 (C5_findFork c_partings c_base c_from_70 c_to_70 c_bit c_lastLeft) fun c_bit_74 c_lastLeft_74 => k4 c_from_70 c_to_70 c_above_70 c_bit_74 c_lastLeft_74 t0 (v3 + 1)
def C5_seek_J47 (c_partings : Nat → Int32) (c_base : Int32) (v1 : Int32) (k4 : Int32 → Int32 → Int32 → Int32 → Int32 → Int32 → Int32 → Option (Int32 × Int32 × Int32 × Int32 × Int32)) (k83 : Int32 → Int32 → Int32 → Int32 → Int32 → Option (Int32 × Int32 × Int32 × Int32 × Int32)) (c_from : Int32) (c_to : Int32) (c_above : Int32) (c_bit : Int32) (c_lastLeft : Int32) (v2 : Int32) (v3 : Int32) (v4 : Int32) (t0 : Int32) : Option (Int32 × Int32 × Int32 × Int32 × Int32) := if t0 = 0 then (C5_seek_J66 c_partings c_base v1 k4 k83 c_from c_to c_above c_bit c_lastLeft v3 t0 ((v2 - 1) - v4)) else (C5_seek_J66 c_partings c_base v1 k4 k83 c_from c_to c_above c_bit c_lastLeft v3 t0 (v2 - 1))
def C5_seek_L4 (c_partings : Nat → Int32) (c_base : Int32) (v1 : Int32) (k83 : Int32 → Int32 → Int32 → Int32 → Int32 → Option (Int32 × Int32 × Int32 × Int32 × Int32)) : Nat → Int32 → Int32 → Int32 → Int32 → Int32 → Int32 → Int32 → Option (Int32 × Int32 × Int32 × Int32 × Int32)
  | 0, _, _, _, _, _, _, _ => none
  | n + 1, c_from, c_to, c_above, c_bit, c_lastLeft, v2, v3 => if 8 ≤ v3 then (k83 c_from c_to c_above c_bit c_lastLeft) else (if c_to ≤ c_from then (k83 c_from c_to c_above c_bit c_lastLeft) else (if v2 ≤ 0 then (k83 c_from c_to c_above c_bit c_lastLeft) else (if (c_lastLeft - c_from) < v2 then (C5_seek_J47 c_partings c_base v1 (C5_seek_L4 c_partings c_base v1 k83 n) k83 c_from c_to c_above c_bit c_lastLeft v2 v3 (c_lastLeft - c_from) 0) else (C5_seek_J47 c_partings c_base v1 (C5_seek_L4 c_partings c_base v1 k83 n) k83 c_from c_to c_above c_bit c_lastLeft v2 v3 (c_lastLeft - c_from) 1))))
def C5_seek (c_partings : Nat → Int32) (c_base : Int32) (c_from c_to c_above c_bit c_lastLeft : Int32) (v1 : Int32) : Option (Int32 × Int32 × Int32 × Int32 × Int32) := C5_seek_L4 c_partings c_base v1 (fun c_from c_to c_above c_bit c_lastLeft => some (c_from, c_to, c_above, c_bit, c_lastLeft)) FU c_from c_to c_above c_bit c_lastLeft v1 0
set_option maxRecDepth 100000 in
set_option maxHeartbeats 4000000 in
theorem t_C5_seek_J66 {p : Program} {l : Launch} {e : Env} {s : State} {m : MethodId} {args : Array Value} {below : List Frame} {meth : Method} {c : Code} {Q : State → Prop} {A : Nat → Prop} {D : va_G} {cI cJ cB cL cS cW : ClassId} {a wb sw se : Nat → Nat} {LW LS LK : List Nat} {c_bytes c_heads c_firsts c_levelOf c_aboveOf c_partings c_signs c_count c_pages c_levels c_most c_page c_known c_guess c_diff c_pieces c_place : Nat → Int32} {c_bits : Nat → Nat → Int64} {c_words : Nat → Nat → Nat} {c_entries : Nat → Nat → Int32} {c_bads c_noes c_fulls c_length c_next c_kept c_base : Int32} {v1 : Int32} {o_from : Int32} {o_to : Int32} {o_above : Int32} {o_bit : Int32} {o_lastLeft : Int32} (C : k_C p s m args meth c cX5_seek 6 none RX5 wsX5_seek D (kT cI cJ cB cL cS cW) A) (hD : va_D A (WC0 a wb sw se LW LS LK cI cJ cB cL cS cW)) (hG : kG a LW LS LK) (hret : ∀ (H : Heap) (locs : List Loc) (pc : Nat) (ls : Array Slot), decode cX5_seek pc = .ok (.return_, 1) → va_P D vwCl (WC a wb sw se LW LS LK cI cJ cB cL cS cW c_bytes c_heads c_firsts c_levelOf c_aboveOf c_partings c_signs c_count c_pages c_levels c_most c_page c_known c_guess c_diff c_pieces c_place c_bits c_words c_entries c_bads c_noes c_fulls c_length c_next c_kept c_base o_from o_to o_above o_bit o_lastLeft) H → va_S A s.heap H locs → W p l e { frames := 1, cells := 0, slots := 0, locals := 22 } s m args below meth c H locs 0 0 Q (F0 m pc ls [])) {k4 : Int32 → Int32 → Int32 → Int32 → Int32 → Int32 → Int32 → Option (Int32 × Int32 × Int32 × Int32 × Int32)} (hk4 : ∀ (c_from : Int32) (c_to : Int32) (c_above : Int32) (c_bit : Int32) (c_lastLeft : Int32) (v2 : Int32) (v3 : Int32) (H : Heap) (locs : List Loc) (ls : Array Slot), va_P D vwCl (WC a wb sw se LW LS LK cI cJ cB cL cS cW c_bytes c_heads c_firsts c_levelOf c_aboveOf c_partings c_signs c_count c_pages c_levels c_most c_page c_known c_guess c_diff c_pieces c_place c_bits c_words c_entries c_bads c_noes c_fulls c_length c_next c_kept c_base c_from c_to c_above c_bit c_lastLeft) H → va_S A s.heap H locs → lv_has ls 6 [(0, .ref (a 8)), (2, .int v2), (3, .int v3)] → k4 c_from c_to c_above c_bit c_lastLeft v2 v3 = some (o_from, o_to, o_above, o_bit, o_lastLeft) → W p l e { frames := 1, cells := 0, slots := 0, locals := 22 } s m args below meth c H locs 0 0 Q (F0 m 4 ls [])) {k83 : Int32 → Int32 → Int32 → Int32 → Int32 → Option (Int32 × Int32 × Int32 × Int32 × Int32)} (hk83 : ∀ (c_from : Int32) (c_to : Int32) (c_above : Int32) (c_bit : Int32) (c_lastLeft : Int32) (H : Heap) (locs : List Loc) (ls : Array Slot), va_P D vwCl (WC a wb sw se LW LS LK cI cJ cB cL cS cW c_bytes c_heads c_firsts c_levelOf c_aboveOf c_partings c_signs c_count c_pages c_levels c_most c_page c_known c_guess c_diff c_pieces c_place c_bits c_words c_entries c_bads c_noes c_fulls c_length c_next c_kept c_base c_from c_to c_above c_bit c_lastLeft) H → va_S A s.heap H locs → lv_has ls 6 [] → k83 c_from c_to c_above c_bit c_lastLeft = some (o_from, o_to, o_above, o_bit, o_lastLeft) → W p l e { frames := 1, cells := 0, slots := 0, locals := 22 } s m args below meth c H locs 0 0 Q (F0 m 83 ls [])) : ∀ (c_from : Int32) (c_to : Int32) (c_above : Int32) (c_bit : Int32) (c_lastLeft : Int32) (v3 : Int32) (v5 : Int32) (t0 : Int32) (H : Heap) (locs : List Loc) (ls : Array Slot), va_P D vwCl (WC a wb sw se LW LS LK cI cJ cB cL cS cW c_bytes c_heads c_firsts c_levelOf c_aboveOf c_partings c_signs c_count c_pages c_levels c_most c_page c_known c_guess c_diff c_pieces c_place c_bits c_words c_entries c_bads c_noes c_fulls c_length c_next c_kept c_base c_from c_to c_above c_bit c_lastLeft) H → va_S A s.heap H locs → lv_has ls 6 [(0, .ref (a 8)), (3, .int v3), (5, .int v5)] → C5_seek_J66 c_partings c_base v1 k4 k83 c_from c_to c_above c_bit c_lastLeft v3 v5 t0 = some (o_from, o_to, o_above, o_bit, o_lastLeft) → W p l e { frames := 1, cells := 0, slots := 0, locals := 22 } s m args below meth c H locs 0 0 Q (F0 m 66 ls [.int t0]) := by
  obtain ⟨hx, hb, hml, hr, hown, hts, hlocks, hK, hA, hN⟩ := id C
  intro c_from c_to c_above c_bit c_lastLeft v3 v5 t0 H locs ls hP hS hl hm
  rw [C5_seek_J66] at hm
  refine lv_istore_n (lv' := [(2, .int t0), (0, .ref (a 8)), (3, .int v3), (5, .int v5)]) hx hb dX5_seek_66 rfl hl (by decide) rfl (fun ls hl => ?_)
  refine lv_aload_n hx hb dX5_seek_67 rfl (lv_at hl 1 rfl) ?_
  refine lv_iload hx hb dX5_seek_68 (lv_at hl 3 rfl) ?_
  obtain ⟨c_from_70, c_to_70, c_above_70, hq0, hm⟩ := bd3_some hm
  refine k_callVV (As := [.int v5]) (rest := []) ⟨hx, hb, hml, hown, hts⟩ hK hA hN (c_X5_step hG hq0) (cwV 1 hts gX5_seek_X5_step rfl rfl rfl hdX5_step ⟨Nat.le_of_ble_eq_true rfl, Nat.le_of_ble_eq_true rfl⟩) hP (WCD hD) hS 8 5 rfl rfl rfl hl.1 rfl rfl (Nat.le_of_ble_eq_true rfl) ⟨Nat.zero_le _, Nat.zero_le _⟩ dX5_seek_70 (fun H locs hP hS => ?_)
  refine lv_aload_n hx hb dX5_seek_73 rfl (lv_at hl 1 rfl) ?_
  obtain ⟨c_bit_74, c_lastLeft_74, hq0, hm⟩ := bd2_some hm
  refine k_callVV (As := []) (rest := []) ⟨hx, hb, hml, hown, hts⟩ hK hA hN (c_X5_findFork hG hq0) (cwV 0 hts gX5_seek_X5_findFork rfl rfl rfl hdX5_findFork ⟨Nat.le_of_ble_eq_true rfl, Nat.le_of_ble_eq_true rfl⟩) hP (WCD hD) hS 8 5 rfl rfl rfl hl.1 rfl rfl (Nat.le_of_ble_eq_true rfl) ⟨Nat.zero_le _, Nat.zero_le _⟩ dX5_seek_74 (fun H locs hP hS => ?_)
  refine lv_iinc (v := (v3 + 1)) (lv' := [(3, .int (v3 + 1)), (2, .int t0), (0, .ref (a 8)), (5, .int v5)]) hx hb dX5_seek_77 hl (k := 2) rfl rfl (by decide) rfl (fun ls hl => ?_)
  refine lv_goto (tgt := 4) hx hb dX5_seek_80 (by decide) ?_
  exact hk4 _ _ _ _ _ _ _ _ _ _ hP hS (lv_sub hl [2, 1, 0] rfl) hm
set_option maxRecDepth 100000 in
set_option maxHeartbeats 4000000 in
theorem t_C5_seek_J47 {p : Program} {l : Launch} {e : Env} {s : State} {m : MethodId} {args : Array Value} {below : List Frame} {meth : Method} {c : Code} {Q : State → Prop} {A : Nat → Prop} {D : va_G} {cI cJ cB cL cS cW : ClassId} {a wb sw se : Nat → Nat} {LW LS LK : List Nat} {c_bytes c_heads c_firsts c_levelOf c_aboveOf c_partings c_signs c_count c_pages c_levels c_most c_page c_known c_guess c_diff c_pieces c_place : Nat → Int32} {c_bits : Nat → Nat → Int64} {c_words : Nat → Nat → Nat} {c_entries : Nat → Nat → Int32} {c_bads c_noes c_fulls c_length c_next c_kept c_base : Int32} {v1 : Int32} {o_from : Int32} {o_to : Int32} {o_above : Int32} {o_bit : Int32} {o_lastLeft : Int32} (C : k_C p s m args meth c cX5_seek 6 none RX5 wsX5_seek D (kT cI cJ cB cL cS cW) A) (hD : va_D A (WC0 a wb sw se LW LS LK cI cJ cB cL cS cW)) (hG : kG a LW LS LK) (hret : ∀ (H : Heap) (locs : List Loc) (pc : Nat) (ls : Array Slot), decode cX5_seek pc = .ok (.return_, 1) → va_P D vwCl (WC a wb sw se LW LS LK cI cJ cB cL cS cW c_bytes c_heads c_firsts c_levelOf c_aboveOf c_partings c_signs c_count c_pages c_levels c_most c_page c_known c_guess c_diff c_pieces c_place c_bits c_words c_entries c_bads c_noes c_fulls c_length c_next c_kept c_base o_from o_to o_above o_bit o_lastLeft) H → va_S A s.heap H locs → W p l e { frames := 1, cells := 0, slots := 0, locals := 22 } s m args below meth c H locs 0 0 Q (F0 m pc ls [])) {k4 : Int32 → Int32 → Int32 → Int32 → Int32 → Int32 → Int32 → Option (Int32 × Int32 × Int32 × Int32 × Int32)} (hk4 : ∀ (c_from : Int32) (c_to : Int32) (c_above : Int32) (c_bit : Int32) (c_lastLeft : Int32) (v2 : Int32) (v3 : Int32) (H : Heap) (locs : List Loc) (ls : Array Slot), va_P D vwCl (WC a wb sw se LW LS LK cI cJ cB cL cS cW c_bytes c_heads c_firsts c_levelOf c_aboveOf c_partings c_signs c_count c_pages c_levels c_most c_page c_known c_guess c_diff c_pieces c_place c_bits c_words c_entries c_bads c_noes c_fulls c_length c_next c_kept c_base c_from c_to c_above c_bit c_lastLeft) H → va_S A s.heap H locs → lv_has ls 6 [(0, .ref (a 8)), (2, .int v2), (3, .int v3)] → k4 c_from c_to c_above c_bit c_lastLeft v2 v3 = some (o_from, o_to, o_above, o_bit, o_lastLeft) → W p l e { frames := 1, cells := 0, slots := 0, locals := 22 } s m args below meth c H locs 0 0 Q (F0 m 4 ls [])) {k83 : Int32 → Int32 → Int32 → Int32 → Int32 → Option (Int32 × Int32 × Int32 × Int32 × Int32)} (hk83 : ∀ (c_from : Int32) (c_to : Int32) (c_above : Int32) (c_bit : Int32) (c_lastLeft : Int32) (H : Heap) (locs : List Loc) (ls : Array Slot), va_P D vwCl (WC a wb sw se LW LS LK cI cJ cB cL cS cW c_bytes c_heads c_firsts c_levelOf c_aboveOf c_partings c_signs c_count c_pages c_levels c_most c_page c_known c_guess c_diff c_pieces c_place c_bits c_words c_entries c_bads c_noes c_fulls c_length c_next c_kept c_base c_from c_to c_above c_bit c_lastLeft) H → va_S A s.heap H locs → lv_has ls 6 [] → k83 c_from c_to c_above c_bit c_lastLeft = some (o_from, o_to, o_above, o_bit, o_lastLeft) → W p l e { frames := 1, cells := 0, slots := 0, locals := 22 } s m args below meth c H locs 0 0 Q (F0 m 83 ls [])) : ∀ (c_from : Int32) (c_to : Int32) (c_above : Int32) (c_bit : Int32) (c_lastLeft : Int32) (v2 : Int32) (v3 : Int32) (v4 : Int32) (t0 : Int32) (H : Heap) (locs : List Loc) (ls : Array Slot), va_P D vwCl (WC a wb sw se LW LS LK cI cJ cB cL cS cW c_bytes c_heads c_firsts c_levelOf c_aboveOf c_partings c_signs c_count c_pages c_levels c_most c_page c_known c_guess c_diff c_pieces c_place c_bits c_words c_entries c_bads c_noes c_fulls c_length c_next c_kept c_base c_from c_to c_above c_bit c_lastLeft) H → va_S A s.heap H locs → lv_has ls 6 [(0, .ref (a 8)), (2, .int v2), (3, .int v3), (4, .int v4)] → C5_seek_J47 c_partings c_base v1 k4 k83 c_from c_to c_above c_bit c_lastLeft v2 v3 v4 t0 = some (o_from, o_to, o_above, o_bit, o_lastLeft) → W p l e { frames := 1, cells := 0, slots := 0, locals := 22 } s m args below meth c H locs 0 0 Q (F0 m 47 ls [.int t0]) := by
  obtain ⟨hx, hb, hml, hr, hown, hts, hlocks, hK, hA, hN⟩ := id C
  intro c_from c_to c_above c_bit c_lastLeft v2 v3 v4 t0 H locs ls hP hS hl hm
  rw [C5_seek_J47] at hm
  refine lv_istore (lv' := [(5, .int t0), (0, .ref (a 8)), (2, .int v2), (3, .int v3), (4, .int v4)]) hx hb dX5_seek_47 hl (by decide) rfl (fun ls hl => ?_)
  refine lv_iload hx hb dX5_seek_49 (lv_at hl 0 rfl) ?_
  refine lv_if_eq (tgt := 60) hx hb dX5_seek_51 (by decide) (fun hc => ?_) (fun hc => ?_)
  · have hm := if_t hc hm
    refine lv_iload_n hx hb dX5_seek_60 rfl (lv_at hl 2 rfl) ?_
    refine lv_iconst (v := 1) hx hb dX5_seek_61 (by decide) ?_
    refine lv_isub hx hb dX5_seek_62 ?_
    refine lv_iload hx hb dX5_seek_63 (lv_at hl 4 rfl) ?_
    refine lv_isub hx hb dX5_seek_65 ?_
    exact t_C5_seek_J66 C hD hG hret hk4 hk83 _ _ _ _ _ _ _ _ _ _ _ hP hS (lv_sub hl [1, 3, 0] rfl) hm
  · have hm := if_f hc hm
    refine lv_iload_n hx hb dX5_seek_54 rfl (lv_at hl 2 rfl) ?_
    refine lv_iconst (v := 1) hx hb dX5_seek_55 (by decide) ?_
    refine lv_isub hx hb dX5_seek_56 ?_
    refine lv_goto (tgt := 66) hx hb dX5_seek_57 (by decide) ?_
    exact t_C5_seek_J66 C hD hG hret hk4 hk83 _ _ _ _ _ _ _ _ _ _ _ hP hS (lv_sub hl [1, 3, 0] rfl) hm
set_option maxRecDepth 100000 in
set_option maxHeartbeats 4000000 in
theorem t_C5_seek_L4 {p : Program} {l : Launch} {e : Env} {s : State} {m : MethodId} {args : Array Value} {below : List Frame} {meth : Method} {c : Code} {Q : State → Prop} {A : Nat → Prop} {D : va_G} {cI cJ cB cL cS cW : ClassId} {a wb sw se : Nat → Nat} {LW LS LK : List Nat} {c_bytes c_heads c_firsts c_levelOf c_aboveOf c_partings c_signs c_count c_pages c_levels c_most c_page c_known c_guess c_diff c_pieces c_place : Nat → Int32} {c_bits : Nat → Nat → Int64} {c_words : Nat → Nat → Nat} {c_entries : Nat → Nat → Int32} {c_bads c_noes c_fulls c_length c_next c_kept c_base : Int32} {v1 : Int32} {o_from : Int32} {o_to : Int32} {o_above : Int32} {o_bit : Int32} {o_lastLeft : Int32} (C : k_C p s m args meth c cX5_seek 6 none RX5 wsX5_seek D (kT cI cJ cB cL cS cW) A) (hD : va_D A (WC0 a wb sw se LW LS LK cI cJ cB cL cS cW)) (hG : kG a LW LS LK) (hret : ∀ (H : Heap) (locs : List Loc) (pc : Nat) (ls : Array Slot), decode cX5_seek pc = .ok (.return_, 1) → va_P D vwCl (WC a wb sw se LW LS LK cI cJ cB cL cS cW c_bytes c_heads c_firsts c_levelOf c_aboveOf c_partings c_signs c_count c_pages c_levels c_most c_page c_known c_guess c_diff c_pieces c_place c_bits c_words c_entries c_bads c_noes c_fulls c_length c_next c_kept c_base o_from o_to o_above o_bit o_lastLeft) H → va_S A s.heap H locs → W p l e { frames := 1, cells := 0, slots := 0, locals := 22 } s m args below meth c H locs 0 0 Q (F0 m pc ls [])) {k83 : Int32 → Int32 → Int32 → Int32 → Int32 → Option (Int32 × Int32 × Int32 × Int32 × Int32)} (hk83 : ∀ (c_from : Int32) (c_to : Int32) (c_above : Int32) (c_bit : Int32) (c_lastLeft : Int32) (H : Heap) (locs : List Loc) (ls : Array Slot), va_P D vwCl (WC a wb sw se LW LS LK cI cJ cB cL cS cW c_bytes c_heads c_firsts c_levelOf c_aboveOf c_partings c_signs c_count c_pages c_levels c_most c_page c_known c_guess c_diff c_pieces c_place c_bits c_words c_entries c_bads c_noes c_fulls c_length c_next c_kept c_base c_from c_to c_above c_bit c_lastLeft) H → va_S A s.heap H locs → lv_has ls 6 [] → k83 c_from c_to c_above c_bit c_lastLeft = some (o_from, o_to, o_above, o_bit, o_lastLeft) → W p l e { frames := 1, cells := 0, slots := 0, locals := 22 } s m args below meth c H locs 0 0 Q (F0 m 83 ls [])) : ∀ n : Nat, ∀ (c_from : Int32) (c_to : Int32) (c_above : Int32) (c_bit : Int32) (c_lastLeft : Int32) (v2 : Int32) (v3 : Int32) (H : Heap) (locs : List Loc) (ls : Array Slot), va_P D vwCl (WC a wb sw se LW LS LK cI cJ cB cL cS cW c_bytes c_heads c_firsts c_levelOf c_aboveOf c_partings c_signs c_count c_pages c_levels c_most c_page c_known c_guess c_diff c_pieces c_place c_bits c_words c_entries c_bads c_noes c_fulls c_length c_next c_kept c_base c_from c_to c_above c_bit c_lastLeft) H → va_S A s.heap H locs → lv_has ls 6 [(0, .ref (a 8)), (2, .int v2), (3, .int v3)] → (C5_seek_L4 c_partings c_base v1 k83 n) c_from c_to c_above c_bit c_lastLeft v2 v3 = some (o_from, o_to, o_above, o_bit, o_lastLeft) → W p l e { frames := 1, cells := 0, slots := 0, locals := 22 } s m args below meth c H locs 0 0 Q (F0 m 4 ls []) := by
  obtain ⟨hx, hb, hml, hr, hown, hts, hlocks, hK, hA, hN⟩ := id C
  intro n
  induction n with
  | zero =>
    intro c_from c_to c_above c_bit c_lastLeft v2 v3 H locs ls hP hS hl hm
    cases hm
  | succ n ih =>
    intro c_from c_to c_above c_bit c_lastLeft v2 v3 H locs ls hP hS hl hm
    rw [C5_seek_L4] at hm
    refine lv_iload_n hx hb dX5_seek_4 rfl (lv_at hl 2 rfl) ?_
    refine lv_bipush (v := 8) hx hb dX5_seek_5 (by decide) ?_
    refine lv_icmp_ge (tgt := 83) hx hb dX5_seek_7 (by decide) (fun hc => ?_) (fun hc => ?_)
    · have hm := if_t hc hm
      exact hk83 _ _ _ _ _ _ _ _ hP hS (lv_sub hl [] rfl) hm
    · have hm := if_f hc hm
      refine lv_aload_n hx hb dX5_seek_10 rfl (lv_at hl 0 rfl) ?_
      refine kg (v := .int c_from) hx hb hts hiX5_seek_X5 hown hK hP 8 rfl rfl 2 (by decide) flX5_seek_19 rfl rfl dX5_seek_11 ?_
      refine lv_aload_n hx hb dX5_seek_14 rfl (lv_at hl 0 rfl) ?_
      refine kg (v := .int c_to) hx hb hts hiX5_seek_X5 hown hK hP 8 rfl rfl 3 (by decide) flX5_seek_22 rfl rfl dX5_seek_15 ?_
      refine lv_icmp_ge (tgt := 83) hx hb dX5_seek_18 (by decide) (fun hc => ?_) (fun hc => ?_)
      · have hm := if_t hc hm
        exact hk83 _ _ _ _ _ _ _ _ hP hS (lv_sub hl [] rfl) hm
      · have hm := if_f hc hm
        refine lv_iload_n hx hb dX5_seek_21 rfl (lv_at hl 1 rfl) ?_
        refine lv_if_le (tgt := 83) hx hb dX5_seek_22 (by decide) (fun hc => ?_) (fun hc => ?_)
        · have hm := if_t hc hm
          exact hk83 _ _ _ _ _ _ _ _ hP hS (lv_sub hl [] rfl) hm
        · have hm := if_f hc hm
          refine lv_aload_n hx hb dX5_seek_25 rfl (lv_at hl 0 rfl) ?_
          refine kg (v := .int c_lastLeft) hx hb hts hiX5_seek_X5 hown hK hP 8 rfl rfl 6 (by decide) flX5_seek_34 rfl rfl dX5_seek_26 ?_
          refine lv_aload_n hx hb dX5_seek_29 rfl (lv_at hl 0 rfl) ?_
          refine kg (v := .int c_from) hx hb hts hiX5_seek_X5 hown hK hP 8 rfl rfl 2 (by decide) flX5_seek_19 rfl rfl dX5_seek_30 ?_
          refine lv_isub hx hb dX5_seek_33 ?_
          refine lv_istore (lv' := [(4, .int (c_lastLeft - c_from)), (0, .ref (a 8)), (2, .int v2), (3, .int v3)]) hx hb dX5_seek_34 hl (by decide) rfl (fun ls hl => ?_)
          refine lv_iload_n hx hb dX5_seek_36 rfl (lv_at hl 2 rfl) ?_
          refine lv_iload hx hb dX5_seek_37 (lv_at hl 0 rfl) ?_
          refine lv_icmp_gt (tgt := 46) hx hb dX5_seek_39 (by decide) (fun hc => ?_) (fun hc => ?_)
          · have hm := if_t hc hm
            refine lv_iconst (v := 0) hx hb dX5_seek_46 (by decide) ?_
            exact t_C5_seek_J47 C hD hG hret ih hk83 _ _ _ _ _ _ _ _ _ _ _ _ hP hS (lv_sub hl [1, 2, 3, 0] rfl) hm
          · have hm := if_f hc hm
            refine lv_iconst (v := 1) hx hb dX5_seek_42 (by decide) ?_
            refine lv_goto (tgt := 47) hx hb dX5_seek_43 (by decide) ?_
            exact t_C5_seek_J47 C hD hG hret ih hk83 _ _ _ _ _ _ _ _ _ _ _ _ hP hS (lv_sub hl [1, 2, 3, 0] rfl) hm
set_option maxRecDepth 100000 in
set_option maxHeartbeats 4000000 in
theorem c_X5_seek {l : Launch} {D : va_G} {cI cJ cB cL cS cW : ClassId} {a wb sw se : Nat → Nat} {LW LS LK : List Nat} {c_bytes c_heads c_firsts c_levelOf c_aboveOf c_partings c_signs c_count c_pages c_levels c_most c_page c_known c_guess c_diff c_pieces c_place : Nat → Int32} {c_bits : Nat → Nat → Int64} {c_words : Nat → Nat → Nat} {c_entries : Nat → Nat → Int32} {c_bads c_noes c_fulls c_length c_next c_kept c_base c_from c_to c_above c_bit c_lastLeft : Int32} {v1 : Int32} {o_from : Int32} {o_to : Int32} {o_above : Int32} {o_bit : Int32} {o_lastLeft : Int32} (hG : kG a LW LS LK) (hm : C5_seek c_partings c_base c_from c_to c_above c_bit c_lastLeft v1 = some (o_from, o_to, o_above, o_bit, o_lastLeft)) : k_MV l yX5_seek wsX5_seek { frames := 1, cells := 0, slots := 0, locals := 22 } D (kT cI cJ cB cL cS cW) [.ref (a 8), .int v1] (WC a wb sw se LW LS LK cI cJ cB cL cS cW c_bytes c_heads c_firsts c_levelOf c_aboveOf c_partings c_signs c_count c_pages c_levels c_most c_page c_known c_guess c_diff c_pieces c_place c_bits c_words c_entries c_bads c_noes c_fulls c_length c_next c_kept c_base c_from c_to c_above c_bit c_lastLeft) (WC a wb sw se LW LS LK cI cJ cB cL cS cW c_bytes c_heads c_firsts c_levelOf c_aboveOf c_partings c_signs c_count c_pages c_levels c_most c_page c_known c_guess c_diff c_pieces c_place c_bits c_words c_entries c_bads c_noes c_fulls c_length c_next c_kept c_base o_from o_to o_above o_bit o_lastLeft) := by
  refine k_ofV (cc := cX5_seek) (maxL := 6) (own := RX5) (by decide) rfl rfl (Nat.le_of_ble_eq_true rfl) ?_
  intro p e s m args below meth c A Q ls C hP hD hl hret
  have hD : va_D A (WC0 a wb sw se LW LS LK cI cJ cB cL cS cW) := WCD hD
  have hS : va_S A s.heap s.heap [] := va_S.rf
  have hl : lv_has ls 6 [(0, .ref (a 8)), (1, .int v1)] := hl
  obtain ⟨hx, hb, hml, hr, hown, hts, hlocks, hK, hA, hN⟩ := id C
  rw [C5_seek] at hm
  refine lv_iload_n hx hb dX5_seek_0 rfl (lv_at hl 1 rfl) ?_
  refine lv_istore_n (lv' := [(2, .int v1), (0, .ref (a 8)), (1, .int v1)]) hx hb dX5_seek_1 rfl hl (by decide) rfl (fun ls hl => ?_)
  refine lv_iconst (v := 0) hx hb dX5_seek_2 (by decide) ?_
  refine lv_istore_n (lv' := [(3, .int 0), (2, .int v1), (0, .ref (a 8)), (1, .int v1)]) hx hb dX5_seek_3 rfl hl (by decide) rfl (fun ls hl => ?_)
  refine t_C5_seek_L4 C hD hG hret ?_ FU _ _ _ _ _ _ _ _ _ _ hP hS (lv_sub hl [2, 1, 0] rfl) hm
  · intro c_from c_to c_above c_bit c_lastLeft H locs ls hP hS hl hm
    try dsimp only at hm
    simp only [Option.some.injEq, Prod.mk.injEq] at hm
    obtain ⟨rfl, rfl, rfl, rfl, rfl⟩ := hm
    exact hret _ _ _ _ dX5_seek_83 hP hS
theorem hdX0_heightOf : yX0_heightOf.cls = RX0 ∧ yX0_heightOf.cls ≠ "java/lang/invoke/MethodHandle" ∧ yX0_heightOf.cls ≠ "java/lang/invoke/VarHandle" ∧ (parseMethodDescriptor yX0_heightOf.desc).map (fun d => d.parameters.length) = some 1 := by decide +kernel
theorem hiX0_heightOf_X0 : ∀ w ∈ u_ws RX0 TX0 7, w ∈ wsX0_heightOf := by decide +kernel
theorem hiX0_heightOf_X5 : ∀ w ∈ u_ws RX5 TX5 7, w ∈ wsX0_heightOf := by decide +kernel
theorem flX0_heightOf_12 : Cond.fieldLink RX0 12 "BlindPages$Index" "now" "LBlindPages$State;" ∈ wsX0_heightOf := by decide +kernel
theorem flX0_heightOf_34 : Cond.fieldLink RX0 34 "BlindPages$Index" "tree" "LBlindPages$Tree;" ∈ wsX0_heightOf := by decide +kernel
theorem flX0_heightOf_224 : Cond.fieldLink RX0 224 "BlindPages$Tree" "above" "I" ∈ wsX0_heightOf := by decide +kernel
def C0_heightOf_L4 (a : Nat → Nat) (c_firsts c_partings c_pages : Nat → Int32) (c_entries : Nat → Nat → Int32) (v1 : Int32) (k66 : Int32 → Int32 → Int32 → Int32 → Int32 → Int32 → Int32 → Option (Int32 × Int32 × Int32 × Int32 × Int32 × Int32 × Int32)) : Nat → Int32 → Int32 → Int32 → Int32 → Int32 → Int32 → Int32 → Int32 → Option (Int32 × Int32 × Int32 × Int32 × Int32 × Int32 × Int32)
  | 0, _, _, _, _, _, _, _, _ => none
  | n + 1, c_base, c_from, c_to, c_above, c_bit, c_lastLeft, v2, v3 => bd1 (C3_entriesOf c_pages c_entries (a 14) v1) fun r10 => if (r10 - 1) ≤ v3 then (k66 c_base c_from c_to c_above c_bit c_lastLeft v2) else (bd1 (C0_firstOf c_firsts v1) fun r24 => bd1 (C3_entriesOf c_pages c_entries (a 14) v1) fun r32 => bd6 (C5_open c_partings c_base c_from c_to c_above c_bit c_lastLeft r24 r32) fun c_base_35 c_from_35 c_to_35 c_above_35 c_bit_35 c_lastLeft_35 => bd5 (C5_seek c_partings c_base_35 c_from_35 c_to_35 c_above_35 c_bit_35 c_lastLeft_35 v3) fun c_from_43 c_to_43 c_above_43 c_bit_43 c_lastLeft_43 => C0_heightOf_L4 a c_firsts c_partings c_pages c_entries v1 k66 n c_base_35 c_from_43 c_to_43 c_above_43 c_bit_43 c_lastLeft_43 (if v2 < (c_above_43 + 1) then (c_above_43 + 1) else v2) (v3 + 1))
def C0_heightOf (a : Nat → Nat) (c_firsts c_partings c_pages : Nat → Int32) (c_entries : Nat → Nat → Int32) (c_base c_from c_to c_above c_bit c_lastLeft : Int32) (v1 : Int32) : Option (Int32 × Int32 × Int32 × Int32 × Int32 × Int32 × Int32) := C0_heightOf_L4 a c_firsts c_partings c_pages c_entries v1 (fun c_base c_from c_to c_above c_bit c_lastLeft v2 => some (v2, c_base, c_from, c_to, c_above, c_bit, c_lastLeft)) FU c_base c_from c_to c_above c_bit c_lastLeft 0 0
set_option maxRecDepth 100000 in
set_option maxHeartbeats 4000000 in
theorem t_C0_heightOf_L4 {p : Program} {l : Launch} {e : Env} {s : State} {m : MethodId} {args : Array Value} {below : List Frame} {meth : Method} {c : Code} {Q : State → Prop} {A : Nat → Prop} {D : va_G} {cI cJ cB cL cS cW : ClassId} {a wb sw se : Nat → Nat} {LW LS LK : List Nat} {c_bytes c_heads c_firsts c_levelOf c_aboveOf c_partings c_signs c_count c_pages c_levels c_most c_page c_known c_guess c_diff c_pieces c_place : Nat → Int32} {c_bits : Nat → Nat → Int64} {c_words : Nat → Nat → Nat} {c_entries : Nat → Nat → Int32} {c_bads c_noes c_fulls c_length c_next c_kept : Int32} {v1 : Int32} {r : Int32} {o_base : Int32} {o_from : Int32} {o_to : Int32} {o_above : Int32} {o_bit : Int32} {o_lastLeft : Int32} (C : k_C p s m args meth c cX0_heightOf 4 (some .int) RX0 wsX0_heightOf D (kT cI cJ cB cL cS cW) A) (hD : va_D A (WC0 a wb sw se LW LS LK cI cJ cB cL cS cW)) (hG : kG a LW LS LK) (hret : ∀ (H : Heap) (locs : List Loc) (pc : Nat) (ls : Array Slot), decode cX0_heightOf pc = .ok (.ireturn, 1) → va_P D vwCl (WC a wb sw se LW LS LK cI cJ cB cL cS cW c_bytes c_heads c_firsts c_levelOf c_aboveOf c_partings c_signs c_count c_pages c_levels c_most c_page c_known c_guess c_diff c_pieces c_place c_bits c_words c_entries c_bads c_noes c_fulls c_length c_next c_kept o_base o_from o_to o_above o_bit o_lastLeft) H → va_S A s.heap H locs → W p l e { frames := 2, cells := 0, slots := 0, locals := 47 } s m args below meth c H locs 0 0 Q (F0 m pc ls [.int r])) {k66 : Int32 → Int32 → Int32 → Int32 → Int32 → Int32 → Int32 → Option (Int32 × Int32 × Int32 × Int32 × Int32 × Int32 × Int32)} (hk66 : ∀ (c_base : Int32) (c_from : Int32) (c_to : Int32) (c_above : Int32) (c_bit : Int32) (c_lastLeft : Int32) (v2 : Int32) (H : Heap) (locs : List Loc) (ls : Array Slot), va_P D vwCl (WC a wb sw se LW LS LK cI cJ cB cL cS cW c_bytes c_heads c_firsts c_levelOf c_aboveOf c_partings c_signs c_count c_pages c_levels c_most c_page c_known c_guess c_diff c_pieces c_place c_bits c_words c_entries c_bads c_noes c_fulls c_length c_next c_kept c_base c_from c_to c_above c_bit c_lastLeft) H → va_S A s.heap H locs → lv_has ls 4 [(2, .int v2)] → k66 c_base c_from c_to c_above c_bit c_lastLeft v2 = some (r, o_base, o_from, o_to, o_above, o_bit, o_lastLeft) → W p l e { frames := 2, cells := 0, slots := 0, locals := 47 } s m args below meth c H locs 0 0 Q (F0 m 66 ls [])) : ∀ n : Nat, ∀ (c_base : Int32) (c_from : Int32) (c_to : Int32) (c_above : Int32) (c_bit : Int32) (c_lastLeft : Int32) (v2 : Int32) (v3 : Int32) (H : Heap) (locs : List Loc) (ls : Array Slot), va_P D vwCl (WC a wb sw se LW LS LK cI cJ cB cL cS cW c_bytes c_heads c_firsts c_levelOf c_aboveOf c_partings c_signs c_count c_pages c_levels c_most c_page c_known c_guess c_diff c_pieces c_place c_bits c_words c_entries c_bads c_noes c_fulls c_length c_next c_kept c_base c_from c_to c_above c_bit c_lastLeft) H → va_S A s.heap H locs → lv_has ls 4 [(0, .ref (a 3)), (1, .int v1), (2, .int v2), (3, .int v3)] → (C0_heightOf_L4 a c_firsts c_partings c_pages c_entries v1 k66 n) c_base c_from c_to c_above c_bit c_lastLeft v2 v3 = some (r, o_base, o_from, o_to, o_above, o_bit, o_lastLeft) → W p l e { frames := 2, cells := 0, slots := 0, locals := 47 } s m args below meth c H locs 0 0 Q (F0 m 4 ls []) := by
  obtain ⟨hx, hb, hml, hr, hown, hts, hlocks, hK, hA, hN⟩ := id C
  intro n
  induction n with
  | zero =>
    intro c_base c_from c_to c_above c_bit c_lastLeft v2 v3 H locs ls hP hS hl hm
    cases hm
  | succ n ih =>
    intro c_base c_from c_to c_above c_bit c_lastLeft v2 v3 H locs ls hP hS hl hm
    rw [C0_heightOf_L4] at hm
    refine lv_iload_n hx hb dX0_heightOf_4 rfl (lv_at hl 3 rfl) ?_
    refine lv_aload_n hx hb dX0_heightOf_5 rfl (lv_at hl 0 rfl) ?_
    refine kg (v := .ref (a 14)) hx hb hts hiX0_heightOf_X0 hown hK hP 3 rfl rfl 0 (by decide) flX0_heightOf_12 rfl rfl dX0_heightOf_6 ?_
    refine lv_iload_n hx hb dX0_heightOf_9 rfl (lv_at hl 1 rfl) ?_
    obtain ⟨r10, hq0, hm⟩ := bd1_some hm
    obtain ⟨q, hq, -⟩ := WC_S hG hG.2.2.2.2.1
    refine k_callVI (As := [.int v1]) (rest := [.int v3]) ⟨hx, hb, hml, hown, hts⟩ hK hA hN (c_X3_entriesOf hG hG.2.2.2.2.1 hq0) (cwV 1 hts gX0_heightOf_X3_entriesOf rfl rfl rfl hdX3_entriesOf ⟨Nat.le_of_ble_eq_true rfl, Nat.le_of_ble_eq_true rfl⟩) hP (WCD hD) hS q 3 hq rfl rfl hl.1 rfl rfl (Nat.le_of_ble_eq_true rfl) ⟨Nat.zero_le _, Nat.zero_le _⟩ dX0_heightOf_10 (fun H locs hP hS => ?_)
    refine lv_iconst (v := 1) hx hb dX0_heightOf_13 (by decide) ?_
    refine lv_isub hx hb dX0_heightOf_14 ?_
    refine lv_icmp_ge (tgt := 66) hx hb dX0_heightOf_15 (by decide) (fun hc => ?_) (fun hc => ?_)
    · have hm := if_t hc hm
      exact hk66 _ _ _ _ _ _ _ _ _ _ hP hS (lv_sub hl [2] rfl) hm
    · have hm := if_f hc hm
      refine lv_aload_n hx hb dX0_heightOf_18 rfl (lv_at hl 0 rfl) ?_
      refine kg (v := .ref (a 8)) hx hb hts hiX0_heightOf_X0 hown hK hP 3 rfl rfl 5 (by decide) flX0_heightOf_34 rfl rfl dX0_heightOf_19 ?_
      refine lv_aload_n hx hb dX0_heightOf_22 rfl (lv_at hl 0 rfl) ?_
      refine lv_iload_n hx hb dX0_heightOf_23 rfl (lv_at hl 1 rfl) ?_
      obtain ⟨r24, hq0, hm⟩ := bd1_some hm
      refine k_callVI (As := [.int v1]) (rest := [.ref (a 8)]) ⟨hx, hb, hml, hown, hts⟩ hK hA hN (c_X0_firstOf hG hq0) (cwV 1 hts gX0_heightOf_X0_firstOf rfl rfl rfl hdX0_firstOf ⟨Nat.le_of_ble_eq_true rfl, Nat.le_of_ble_eq_true rfl⟩) hP (WCD hD) hS 3 0 rfl rfl rfl hl.1 rfl rfl (Nat.le_of_ble_eq_true rfl) ⟨Nat.zero_le _, Nat.zero_le _⟩ dX0_heightOf_24 (fun H locs hP hS => ?_)
      refine lv_aload_n hx hb dX0_heightOf_27 rfl (lv_at hl 0 rfl) ?_
      refine kg (v := .ref (a 14)) hx hb hts hiX0_heightOf_X0 hown hK hP 3 rfl rfl 0 (by decide) flX0_heightOf_12 rfl rfl dX0_heightOf_28 ?_
      refine lv_iload_n hx hb dX0_heightOf_31 rfl (lv_at hl 1 rfl) ?_
      obtain ⟨r32, hq0, hm⟩ := bd1_some hm
      obtain ⟨q, hq, -⟩ := WC_S hG hG.2.2.2.2.1
      refine k_callVI (As := [.int v1]) (rest := [.int r24, .ref (a 8)]) ⟨hx, hb, hml, hown, hts⟩ hK hA hN (c_X3_entriesOf hG hG.2.2.2.2.1 hq0) (cwV 1 hts gX0_heightOf_X3_entriesOf rfl rfl rfl hdX3_entriesOf ⟨Nat.le_of_ble_eq_true rfl, Nat.le_of_ble_eq_true rfl⟩) hP (WCD hD) hS q 3 hq rfl rfl hl.1 rfl rfl (Nat.le_of_ble_eq_true rfl) ⟨Nat.zero_le _, Nat.zero_le _⟩ dX0_heightOf_32 (fun H locs hP hS => ?_)
      obtain ⟨c_base_35, c_from_35, c_to_35, c_above_35, c_bit_35, c_lastLeft_35, hq0, hm⟩ := bd6_some hm
      refine k_callVV (As := [.int r24, .int r32]) (rest := []) ⟨hx, hb, hml, hown, hts⟩ hK hA hN (c_X5_open hG hq0) (cwV 2 hts gX0_heightOf_X5_open rfl rfl rfl hdX5_open ⟨Nat.le_of_ble_eq_true rfl, Nat.le_of_ble_eq_true rfl⟩) hP (WCD hD) hS 8 5 rfl rfl rfl hl.1 rfl rfl (Nat.le_of_ble_eq_true rfl) ⟨Nat.zero_le _, Nat.zero_le _⟩ dX0_heightOf_35 (fun H locs hP hS => ?_)
      refine lv_aload_n hx hb dX0_heightOf_38 rfl (lv_at hl 0 rfl) ?_
      refine kg (v := .ref (a 8)) hx hb hts hiX0_heightOf_X0 hown hK hP 3 rfl rfl 5 (by decide) flX0_heightOf_34 rfl rfl dX0_heightOf_39 ?_
      refine lv_iload_n hx hb dX0_heightOf_42 rfl (lv_at hl 3 rfl) ?_
      obtain ⟨c_from_43, c_to_43, c_above_43, c_bit_43, c_lastLeft_43, hq0, hm⟩ := bd5_some hm
      refine k_callVV (As := [.int v3]) (rest := []) ⟨hx, hb, hml, hown, hts⟩ hK hA hN (c_X5_seek hG hq0) (cwV 1 hts gX0_heightOf_X5_seek rfl rfl rfl hdX5_seek ⟨Nat.le_of_ble_eq_true rfl, Nat.le_of_ble_eq_true rfl⟩) hP (WCD hD) hS 8 5 rfl rfl rfl hl.1 rfl rfl (Nat.le_of_ble_eq_true rfl) ⟨Nat.zero_le _, Nat.zero_le _⟩ dX0_heightOf_43 (fun H locs hP hS => ?_)
      refine lv_iload_n hx hb dX0_heightOf_46 rfl (lv_at hl 2 rfl) ?_
      refine lv_aload_n hx hb dX0_heightOf_47 rfl (lv_at hl 0 rfl) ?_
      refine kg (v := .ref (a 8)) hx hb hts hiX0_heightOf_X0 hown hK hP 3 rfl rfl 5 (by decide) flX0_heightOf_34 rfl rfl dX0_heightOf_48 ?_
      refine kg (v := .int c_above_43) hx hb hts hiX0_heightOf_X5 hown hK hP 8 rfl rfl 4 (by decide) flX0_heightOf_224 rfl rfl dX0_heightOf_51 ?_
      refine lv_iconst (v := 1) hx hb dX0_heightOf_54 (by decide) ?_
      refine lv_iadd hx hb dX0_heightOf_55 ?_
      refine va_mmax hx hb (by rw [hml]; exact hl.1.symm) hown (hts (.methodLink RX0 119 Lib.Math.max.name) (by decide +kernel)) (hts (.static Lib.Math.max.name) (by decide +kernel)) (hts (.initialized "java/lang/Math") (by decide +kernel)) (hts (.code Lib.Math.max.name Lib.Math.max.code 2 (some .int)) (by decide +kernel)) (Nat.le_of_ble_eq_true rfl) (Nat.le_of_ble_eq_true rfl) (Nat.zero_le _) (Nat.zero_le _) dX0_heightOf_56 ?_
      refine lv_istore_n (lv' := [(2, .int (if v2 < (c_above_43 + 1) then (c_above_43 + 1) else v2)), (0, .ref (a 3)), (1, .int v1), (3, .int v3)]) hx hb dX0_heightOf_59 rfl hl (by decide) rfl (fun ls hl => ?_)
      refine lv_iinc (v := (v3 + 1)) (lv' := [(3, .int (v3 + 1)), (2, .int (if v2 < (c_above_43 + 1) then (c_above_43 + 1) else v2)), (0, .ref (a 3)), (1, .int v1)]) hx hb dX0_heightOf_60 hl (k := 3) rfl rfl (by decide) rfl (fun ls hl => ?_)
      refine lv_goto (tgt := 4) hx hb dX0_heightOf_63 (by decide) ?_
      exact ih _ _ _ _ _ _ _ _ _ _ _ hP hS (lv_sub hl [2, 3, 1, 0] rfl) hm
set_option maxRecDepth 100000 in
set_option maxHeartbeats 4000000 in
theorem c_X0_heightOf {l : Launch} {D : va_G} {cI cJ cB cL cS cW : ClassId} {a wb sw se : Nat → Nat} {LW LS LK : List Nat} {c_bytes c_heads c_firsts c_levelOf c_aboveOf c_partings c_signs c_count c_pages c_levels c_most c_page c_known c_guess c_diff c_pieces c_place : Nat → Int32} {c_bits : Nat → Nat → Int64} {c_words : Nat → Nat → Nat} {c_entries : Nat → Nat → Int32} {c_bads c_noes c_fulls c_length c_next c_kept c_base c_from c_to c_above c_bit c_lastLeft : Int32} {v1 : Int32} {r : Int32} {o_base : Int32} {o_from : Int32} {o_to : Int32} {o_above : Int32} {o_bit : Int32} {o_lastLeft : Int32} (hG : kG a LW LS LK) (hm : C0_heightOf a c_firsts c_partings c_pages c_entries c_base c_from c_to c_above c_bit c_lastLeft v1 = some (r, o_base, o_from, o_to, o_above, o_bit, o_lastLeft)) : k_MI l yX0_heightOf wsX0_heightOf { frames := 2, cells := 0, slots := 0, locals := 47 } D (kT cI cJ cB cL cS cW) [.ref (a 3), .int v1] (WC a wb sw se LW LS LK cI cJ cB cL cS cW c_bytes c_heads c_firsts c_levelOf c_aboveOf c_partings c_signs c_count c_pages c_levels c_most c_page c_known c_guess c_diff c_pieces c_place c_bits c_words c_entries c_bads c_noes c_fulls c_length c_next c_kept c_base c_from c_to c_above c_bit c_lastLeft) r (WC a wb sw se LW LS LK cI cJ cB cL cS cW c_bytes c_heads c_firsts c_levelOf c_aboveOf c_partings c_signs c_count c_pages c_levels c_most c_page c_known c_guess c_diff c_pieces c_place c_bits c_words c_entries c_bads c_noes c_fulls c_length c_next c_kept o_base o_from o_to o_above o_bit o_lastLeft) := by
  refine k_ofI (cc := cX0_heightOf) (maxL := 4) (own := RX0) (by decide) rfl rfl (Nat.le_of_ble_eq_true rfl) ?_
  intro p e s m args below meth c A Q ls C hP hD hl hret
  have hD : va_D A (WC0 a wb sw se LW LS LK cI cJ cB cL cS cW) := WCD hD
  have hS : va_S A s.heap s.heap [] := va_S.rf
  have hl : lv_has ls 4 [(0, .ref (a 3)), (1, .int v1)] := hl
  obtain ⟨hx, hb, hml, hr, hown, hts, hlocks, hK, hA, hN⟩ := id C
  rw [C0_heightOf] at hm
  refine lv_iconst (v := 0) hx hb dX0_heightOf_0 (by decide) ?_
  refine lv_istore_n (lv' := [(2, .int 0), (0, .ref (a 3)), (1, .int v1)]) hx hb dX0_heightOf_1 rfl hl (by decide) rfl (fun ls hl => ?_)
  refine lv_iconst (v := 0) hx hb dX0_heightOf_2 (by decide) ?_
  refine lv_istore_n (lv' := [(3, .int 0), (2, .int 0), (0, .ref (a 3)), (1, .int v1)]) hx hb dX0_heightOf_3 rfl hl (by decide) rfl (fun ls hl => ?_)
  refine t_C0_heightOf_L4 C hD hG hret ?_ FU _ _ _ _ _ _ _ _ _ _ _ hP hS (lv_sub hl [2, 3, 1, 0] rfl) hm
  · intro c_base c_from c_to c_above c_bit c_lastLeft v2 H locs ls hP hS hl hm
    try dsimp only at hm
    refine lv_iload_n hx hb dX0_heightOf_66 rfl (lv_at hl 0 rfl) ?_
    simp only [Option.some.injEq, Prod.mk.injEq] at hm
    obtain ⟨rfl, rfl, rfl, rfl, rfl, rfl, rfl⟩ := hm
    exact hret _ _ _ _ dX0_heightOf_67 hP hS
theorem hdX0_weightOf : yX0_weightOf.cls = RX0 ∧ yX0_weightOf.cls ≠ "java/lang/invoke/MethodHandle" ∧ yX0_weightOf.cls ≠ "java/lang/invoke/VarHandle" ∧ (parseMethodDescriptor yX0_weightOf.desc).map (fun d => d.parameters.length) = some 1 := by decide +kernel
theorem hiX0_weightOf_X0 : ∀ w ∈ u_ws RX0 TX0 7, w ∈ wsX0_weightOf := by decide +kernel
theorem hiX0_weightOf_X3 : ∀ w ∈ u_ws RX3 TX3 6, w ∈ wsX0_weightOf := by decide +kernel
theorem hiX0_weightOf_X6 : ∀ w ∈ u_ws RX6 TX6 2, w ∈ wsX0_weightOf := by decide +kernel
theorem flX0_weightOf_12 : Cond.fieldLink RX0 12 "BlindPages$Index" "now" "LBlindPages$State;" ∈ wsX0_weightOf := by decide +kernel
theorem flX0_weightOf_116 : Cond.fieldLink RX0 116 "BlindPages$Word" "signs" "I" ∈ wsX0_weightOf := by decide +kernel
theorem flX0_weightOf_45 : Cond.fieldLink RX0 45 "BlindPages$State" "pages" "I" ∈ wsX0_weightOf := by decide +kernel
def C0_weightOf_L18 (a : Nat → Nat) (LW : List Nat) (c_heads c_firsts c_levelOf c_signs c_count c_pages : Nat → Int32) (c_words : Nat → Nat → Nat) (v1 : Int32) (k47 : Int32 → Int32 → Int32 → Option (Int32)) : Nat → Int32 → Int32 → Int32 → Int32 → Option (Int32)
  | 0, _, _, _, _ => none
  | n + 1, v2, v3, v4, v5 => if v3 ≤ v5 then (k47 v2 v3 v4) else (bd1 (C3_wordAt LW c_words (a 14) v5) fun r32 => gm LW r32 (C0_weightOf_L18 a LW c_heads c_firsts c_levelOf c_signs c_count c_pages c_words v1 k47 n v2 v3 (v4 + (c_signs r32)) (v5 + 1)))
def C0_weightOf_L54 (a : Nat → Nat) (LW : List Nat) (c_heads c_firsts c_levelOf c_signs c_count c_pages : Nat → Int32) (c_words : Nat → Nat → Nat) (v1 : Int32) (k106 : Int32 → Option (Int32)) : Nat → Int32 → Int32 → Int32 → Int32 → Option (Int32)
  | 0, _, _, _, _ => none
  | n + 1, v2, v3, v4, v5 => if (c_pages (a 14)) ≤ v5 then (k106 v4) else (bd1 (C0_headOf c_heads v5) fun r69 => if r69 < v2 then (C0_weightOf_L54 a LW c_heads c_firsts c_levelOf c_signs c_count c_pages c_words v1 k106 n v2 v3 v4 (v5 + 1)) else (bd1 (C0_headOf c_heads v5) fun r79 => if v3 ≤ r79 then (C0_weightOf_L54 a LW c_heads c_firsts c_levelOf c_signs c_count c_pages c_words v1 k106 n v2 v3 v4 (v5 + 1)) else (bd1 (C0_headWord a LW c_heads c_words v5) fun r91 => gm LW r91 (C0_weightOf_L54 a LW c_heads c_firsts c_levelOf c_signs c_count c_pages c_words v1 k106 n v2 v3 (v4 + (c_signs r91)) (v5 + 1)))))
def C0_weightOf (a : Nat → Nat) (LW : List Nat) (c_heads c_firsts c_levelOf c_signs c_count c_pages : Nat → Int32) (c_words : Nat → Nat → Nat) (v1 : Int32) : Option (Int32) := bd1 (C0_headOf c_heads v1) fun r2 => bd1 (C0_endOf a c_heads c_levelOf c_count c_pages v1) fun r8 => C0_weightOf_L18 a LW c_heads c_firsts c_levelOf c_signs c_count c_pages c_words v1 (fun v2 v3 v4 => bd1 (C0_firstOf c_firsts v1) fun r49 => C0_weightOf_L54 a LW c_heads c_firsts c_levelOf c_signs c_count c_pages c_words v1 (fun v4 => some v4) FU v2 v3 v4 r49) FU r2 r8 0 r2
set_option maxRecDepth 100000 in
set_option maxHeartbeats 4000000 in
theorem t_C0_weightOf_L18 {p : Program} {l : Launch} {e : Env} {s : State} {m : MethodId} {args : Array Value} {below : List Frame} {meth : Method} {c : Code} {Q : State → Prop} {A : Nat → Prop} {D : va_G} {cI cJ cB cL cS cW : ClassId} {a wb sw se : Nat → Nat} {LW LS LK : List Nat} {c_bytes c_heads c_firsts c_levelOf c_aboveOf c_partings c_signs c_count c_pages c_levels c_most c_page c_known c_guess c_diff c_pieces c_place : Nat → Int32} {c_bits : Nat → Nat → Int64} {c_words : Nat → Nat → Nat} {c_entries : Nat → Nat → Int32} {c_bads c_noes c_fulls c_length c_next c_kept c_base c_from c_to c_above c_bit c_lastLeft : Int32} {v1 : Int32} {r : Int32} (C : k_C p s m args meth c cX0_weightOf 6 (some .int) RX0 wsX0_weightOf D (kT cI cJ cB cL cS cW) A) (hD : va_D A (WC0 a wb sw se LW LS LK cI cJ cB cL cS cW)) (hG : kG a LW LS LK) (hret : ∀ (H : Heap) (locs : List Loc) (pc : Nat) (ls : Array Slot), decode cX0_weightOf pc = .ok (.ireturn, 1) → va_P D vwCl (WC a wb sw se LW LS LK cI cJ cB cL cS cW c_bytes c_heads c_firsts c_levelOf c_aboveOf c_partings c_signs c_count c_pages c_levels c_most c_page c_known c_guess c_diff c_pieces c_place c_bits c_words c_entries c_bads c_noes c_fulls c_length c_next c_kept c_base c_from c_to c_above c_bit c_lastLeft) H → va_S A s.heap H locs → W p l e { frames := 2, cells := 0, slots := 0, locals := 43 } s m args below meth c H locs 0 0 Q (F0 m pc ls [.int r])) {k47 : Int32 → Int32 → Int32 → Option (Int32)} (hk47 : ∀ (v2 : Int32) (v3 : Int32) (v4 : Int32) (H : Heap) (locs : List Loc) (ls : Array Slot), va_P D vwCl (WC a wb sw se LW LS LK cI cJ cB cL cS cW c_bytes c_heads c_firsts c_levelOf c_aboveOf c_partings c_signs c_count c_pages c_levels c_most c_page c_known c_guess c_diff c_pieces c_place c_bits c_words c_entries c_bads c_noes c_fulls c_length c_next c_kept c_base c_from c_to c_above c_bit c_lastLeft) H → va_S A s.heap H locs → lv_has ls 6 [(0, .ref (a 3)), (1, .int v1), (2, .int v2), (3, .int v3), (4, .int v4)] → k47 v2 v3 v4 = some r → W p l e { frames := 2, cells := 0, slots := 0, locals := 43 } s m args below meth c H locs 0 0 Q (F0 m 47 ls [])) : ∀ n : Nat, ∀ (v2 : Int32) (v3 : Int32) (v4 : Int32) (v5 : Int32) (H : Heap) (locs : List Loc) (ls : Array Slot), va_P D vwCl (WC a wb sw se LW LS LK cI cJ cB cL cS cW c_bytes c_heads c_firsts c_levelOf c_aboveOf c_partings c_signs c_count c_pages c_levels c_most c_page c_known c_guess c_diff c_pieces c_place c_bits c_words c_entries c_bads c_noes c_fulls c_length c_next c_kept c_base c_from c_to c_above c_bit c_lastLeft) H → va_S A s.heap H locs → lv_has ls 6 [(0, .ref (a 3)), (1, .int v1), (2, .int v2), (3, .int v3), (4, .int v4), (5, .int v5)] → (C0_weightOf_L18 a LW c_heads c_firsts c_levelOf c_signs c_count c_pages c_words v1 k47 n) v2 v3 v4 v5 = some r → W p l e { frames := 2, cells := 0, slots := 0, locals := 43 } s m args below meth c H locs 0 0 Q (F0 m 18 ls []) := by
  obtain ⟨hx, hb, hml, hr, hown, hts, hlocks, hK, hA, hN⟩ := id C
  intro n
  induction n with
  | zero =>
    intro v2 v3 v4 v5 H locs ls hP hS hl hm
    cases hm
  | succ n ih =>
    intro v2 v3 v4 v5 H locs ls hP hS hl hm
    rw [C0_weightOf_L18] at hm
    refine lv_iload hx hb dX0_weightOf_18 (lv_at hl 5 rfl) ?_
    refine lv_iload_n hx hb dX0_weightOf_20 rfl (lv_at hl 3 rfl) ?_
    refine lv_icmp_ge (tgt := 47) hx hb dX0_weightOf_21 (by decide) (fun hc => ?_) (fun hc => ?_)
    · have hm := if_t hc hm
      exact hk47 _ _ _ _ _ _ hP hS (lv_sub hl [0, 1, 2, 3, 4] rfl) hm
    · have hm := if_f hc hm
      refine lv_iload hx hb dX0_weightOf_24 (lv_at hl 4 rfl) ?_
      refine lv_aload_n hx hb dX0_weightOf_26 rfl (lv_at hl 0 rfl) ?_
      refine kg (v := .ref (a 14)) hx hb hts hiX0_weightOf_X0 hown hK hP 3 rfl rfl 0 (by decide) flX0_weightOf_12 rfl rfl dX0_weightOf_27 ?_
      refine lv_iload hx hb dX0_weightOf_30 (lv_at hl 5 rfl) ?_
      obtain ⟨r32, hq0, hm⟩ := bd1_some hm
      obtain ⟨hw32, hm⟩ := gm_some hm
      obtain ⟨q, hq, -⟩ := WC_S hG hG.2.2.2.2.1
      refine k_callVA (As := [.int v5]) (rest := [.int v4]) ⟨hx, hb, hml, hown, hts⟩ hK hA hN (c_X3_wordAt hG hG.2.2.2.2.1 hq0) (cwV 1 hts gX0_weightOf_X3_wordAt rfl rfl rfl hdX3_wordAt ⟨Nat.le_of_ble_eq_true rfl, Nat.le_of_ble_eq_true rfl⟩) hP (WCD hD) hS q 3 hq rfl rfl hl.1 rfl rfl (Nat.le_of_ble_eq_true rfl) ⟨Nat.zero_le _, Nat.zero_le _⟩ dX0_weightOf_32 (fun H locs hP hS => ?_)
      obtain ⟨q, hq, -⟩ := WC_W hG hw32
      refine kg (v := .int (c_signs r32)) hx hb hts hiX0_weightOf_X6 hown hK hP q hq rfl 1 (by decide) flX0_weightOf_116 rfl rfl dX0_weightOf_35 ?_
      refine lv_iadd hx hb dX0_weightOf_38 ?_
      refine lv_istore (lv' := [(4, .int (v4 + (c_signs r32))), (0, .ref (a 3)), (1, .int v1), (2, .int v2), (3, .int v3), (5, .int v5)]) hx hb dX0_weightOf_39 hl (by decide) rfl (fun ls hl => ?_)
      refine lv_iinc (v := (v5 + 1)) (lv' := [(5, .int (v5 + 1)), (4, .int (v4 + (c_signs r32))), (0, .ref (a 3)), (1, .int v1), (2, .int v2), (3, .int v3)]) hx hb dX0_weightOf_41 hl (k := 5) rfl rfl (by decide) rfl (fun ls hl => ?_)
      refine lv_goto (tgt := 18) hx hb dX0_weightOf_44 (by decide) ?_
      exact ih _ _ _ _ _ _ _ hP hS (lv_sub hl [2, 3, 4, 5, 1, 0] rfl) hm
set_option maxRecDepth 100000 in
set_option maxHeartbeats 4000000 in
theorem t_C0_weightOf_L54 {p : Program} {l : Launch} {e : Env} {s : State} {m : MethodId} {args : Array Value} {below : List Frame} {meth : Method} {c : Code} {Q : State → Prop} {A : Nat → Prop} {D : va_G} {cI cJ cB cL cS cW : ClassId} {a wb sw se : Nat → Nat} {LW LS LK : List Nat} {c_bytes c_heads c_firsts c_levelOf c_aboveOf c_partings c_signs c_count c_pages c_levels c_most c_page c_known c_guess c_diff c_pieces c_place : Nat → Int32} {c_bits : Nat → Nat → Int64} {c_words : Nat → Nat → Nat} {c_entries : Nat → Nat → Int32} {c_bads c_noes c_fulls c_length c_next c_kept c_base c_from c_to c_above c_bit c_lastLeft : Int32} {v1 : Int32} {r : Int32} (C : k_C p s m args meth c cX0_weightOf 6 (some .int) RX0 wsX0_weightOf D (kT cI cJ cB cL cS cW) A) (hD : va_D A (WC0 a wb sw se LW LS LK cI cJ cB cL cS cW)) (hG : kG a LW LS LK) (hret : ∀ (H : Heap) (locs : List Loc) (pc : Nat) (ls : Array Slot), decode cX0_weightOf pc = .ok (.ireturn, 1) → va_P D vwCl (WC a wb sw se LW LS LK cI cJ cB cL cS cW c_bytes c_heads c_firsts c_levelOf c_aboveOf c_partings c_signs c_count c_pages c_levels c_most c_page c_known c_guess c_diff c_pieces c_place c_bits c_words c_entries c_bads c_noes c_fulls c_length c_next c_kept c_base c_from c_to c_above c_bit c_lastLeft) H → va_S A s.heap H locs → W p l e { frames := 2, cells := 0, slots := 0, locals := 43 } s m args below meth c H locs 0 0 Q (F0 m pc ls [.int r])) {k106 : Int32 → Option (Int32)} (hk106 : ∀ (v4 : Int32) (H : Heap) (locs : List Loc) (ls : Array Slot), va_P D vwCl (WC a wb sw se LW LS LK cI cJ cB cL cS cW c_bytes c_heads c_firsts c_levelOf c_aboveOf c_partings c_signs c_count c_pages c_levels c_most c_page c_known c_guess c_diff c_pieces c_place c_bits c_words c_entries c_bads c_noes c_fulls c_length c_next c_kept c_base c_from c_to c_above c_bit c_lastLeft) H → va_S A s.heap H locs → lv_has ls 6 [(4, .int v4)] → k106 v4 = some r → W p l e { frames := 2, cells := 0, slots := 0, locals := 43 } s m args below meth c H locs 0 0 Q (F0 m 106 ls [])) : ∀ n : Nat, ∀ (v2 : Int32) (v3 : Int32) (v4 : Int32) (v5 : Int32) (H : Heap) (locs : List Loc) (ls : Array Slot), va_P D vwCl (WC a wb sw se LW LS LK cI cJ cB cL cS cW c_bytes c_heads c_firsts c_levelOf c_aboveOf c_partings c_signs c_count c_pages c_levels c_most c_page c_known c_guess c_diff c_pieces c_place c_bits c_words c_entries c_bads c_noes c_fulls c_length c_next c_kept c_base c_from c_to c_above c_bit c_lastLeft) H → va_S A s.heap H locs → lv_has ls 6 [(0, .ref (a 3)), (2, .int v2), (3, .int v3), (4, .int v4), (5, .int v5)] → (C0_weightOf_L54 a LW c_heads c_firsts c_levelOf c_signs c_count c_pages c_words v1 k106 n) v2 v3 v4 v5 = some r → W p l e { frames := 2, cells := 0, slots := 0, locals := 43 } s m args below meth c H locs 0 0 Q (F0 m 54 ls []) := by
  obtain ⟨hx, hb, hml, hr, hown, hts, hlocks, hK, hA, hN⟩ := id C
  intro n
  induction n with
  | zero =>
    intro v2 v3 v4 v5 H locs ls hP hS hl hm
    cases hm
  | succ n ih =>
    intro v2 v3 v4 v5 H locs ls hP hS hl hm
    rw [C0_weightOf_L54] at hm
    refine lv_iload hx hb dX0_weightOf_54 (lv_at hl 4 rfl) ?_
    refine lv_aload_n hx hb dX0_weightOf_56 rfl (lv_at hl 0 rfl) ?_
    refine kg (v := .ref (a 14)) hx hb hts hiX0_weightOf_X0 hown hK hP 3 rfl rfl 0 (by decide) flX0_weightOf_12 rfl rfl dX0_weightOf_57 ?_
    obtain ⟨q, hq, -⟩ := WC_S hG hG.2.2.2.2.1
    refine kg (v := .int (c_pages (a 14))) hx hb hts hiX0_weightOf_X3 hown hK hP q hq rfl 3 (by decide) flX0_weightOf_45 rfl rfl dX0_weightOf_60 ?_
    refine lv_icmp_ge (tgt := 106) hx hb dX0_weightOf_63 (by decide) (fun hc => ?_) (fun hc => ?_)
    · have hm := if_t hc hm
      exact hk106 _ _ _ _ hP hS (lv_sub hl [3] rfl) hm
    · have hm := if_f hc hm
      refine lv_aload_n hx hb dX0_weightOf_66 rfl (lv_at hl 0 rfl) ?_
      refine lv_iload hx hb dX0_weightOf_67 (lv_at hl 4 rfl) ?_
      obtain ⟨r69, hq0, hm⟩ := bd1_some hm
      refine k_callVI (As := [.int v5]) (rest := []) ⟨hx, hb, hml, hown, hts⟩ hK hA hN (c_X0_headOf hG hq0) (cwV 1 hts gX0_weightOf_X0_headOf rfl rfl rfl hdX0_headOf ⟨Nat.le_of_ble_eq_true rfl, Nat.le_of_ble_eq_true rfl⟩) hP (WCD hD) hS 3 0 rfl rfl rfl hl.1 rfl rfl (Nat.le_of_ble_eq_true rfl) ⟨Nat.zero_le _, Nat.zero_le _⟩ dX0_weightOf_69 (fun H locs hP hS => ?_)
      refine lv_iload_n hx hb dX0_weightOf_72 rfl (lv_at hl 1 rfl) ?_
      refine lv_icmp_lt (tgt := 100) hx hb dX0_weightOf_73 (by decide) (fun hc => ?_) (fun hc => ?_)
      · have hm := if_t hc hm
        refine lv_iinc (v := (v5 + 1)) (lv' := [(5, .int (v5 + 1)), (0, .ref (a 3)), (2, .int v2), (3, .int v3), (4, .int v4)]) hx hb dX0_weightOf_100 hl (k := 4) rfl rfl (by decide) rfl (fun ls hl => ?_)
        refine lv_goto (tgt := 54) hx hb dX0_weightOf_103 (by decide) ?_
        exact ih _ _ _ _ _ _ _ hP hS (lv_sub hl [1, 2, 3, 4, 0] rfl) hm
      · have hm := if_f hc hm
        refine lv_aload_n hx hb dX0_weightOf_76 rfl (lv_at hl 0 rfl) ?_
        refine lv_iload hx hb dX0_weightOf_77 (lv_at hl 4 rfl) ?_
        obtain ⟨r79, hq0, hm⟩ := bd1_some hm
        refine k_callVI (As := [.int v5]) (rest := []) ⟨hx, hb, hml, hown, hts⟩ hK hA hN (c_X0_headOf hG hq0) (cwV 1 hts gX0_weightOf_X0_headOf rfl rfl rfl hdX0_headOf ⟨Nat.le_of_ble_eq_true rfl, Nat.le_of_ble_eq_true rfl⟩) hP (WCD hD) hS 3 0 rfl rfl rfl hl.1 rfl rfl (Nat.le_of_ble_eq_true rfl) ⟨Nat.zero_le _, Nat.zero_le _⟩ dX0_weightOf_79 (fun H locs hP hS => ?_)
        refine lv_iload_n hx hb dX0_weightOf_82 rfl (lv_at hl 2 rfl) ?_
        refine lv_icmp_ge (tgt := 100) hx hb dX0_weightOf_83 (by decide) (fun hc => ?_) (fun hc => ?_)
        · have hm := if_t hc hm
          refine lv_iinc (v := (v5 + 1)) (lv' := [(5, .int (v5 + 1)), (0, .ref (a 3)), (2, .int v2), (3, .int v3), (4, .int v4)]) hx hb dX0_weightOf_100 hl (k := 4) rfl rfl (by decide) rfl (fun ls hl => ?_)
          refine lv_goto (tgt := 54) hx hb dX0_weightOf_103 (by decide) ?_
          exact ih _ _ _ _ _ _ _ hP hS (lv_sub hl [1, 2, 3, 4, 0] rfl) hm
        · have hm := if_f hc hm
          refine lv_iload hx hb dX0_weightOf_86 (lv_at hl 3 rfl) ?_
          refine lv_aload_n hx hb dX0_weightOf_88 rfl (lv_at hl 0 rfl) ?_
          refine lv_iload hx hb dX0_weightOf_89 (lv_at hl 4 rfl) ?_
          obtain ⟨r91, hq0, hm⟩ := bd1_some hm
          obtain ⟨hw91, hm⟩ := gm_some hm
          refine k_callVA (As := [.int v5]) (rest := [.int v4]) ⟨hx, hb, hml, hown, hts⟩ hK hA hN (c_X0_headWord hG hq0) (cwV 1 hts gX0_weightOf_X0_headWord rfl rfl rfl hdX0_headWord ⟨Nat.le_of_ble_eq_true rfl, Nat.le_of_ble_eq_true rfl⟩) hP (WCD hD) hS 3 0 rfl rfl rfl hl.1 rfl rfl (Nat.le_of_ble_eq_true rfl) ⟨Nat.zero_le _, Nat.zero_le _⟩ dX0_weightOf_91 (fun H locs hP hS => ?_)
          obtain ⟨q, hq, -⟩ := WC_W hG hw91
          refine kg (v := .int (c_signs r91)) hx hb hts hiX0_weightOf_X6 hown hK hP q hq rfl 1 (by decide) flX0_weightOf_116 rfl rfl dX0_weightOf_94 ?_
          refine lv_iadd hx hb dX0_weightOf_97 ?_
          refine lv_istore (lv' := [(4, .int (v4 + (c_signs r91))), (0, .ref (a 3)), (2, .int v2), (3, .int v3), (5, .int v5)]) hx hb dX0_weightOf_98 hl (by decide) rfl (fun ls hl => ?_)
          refine lv_iinc (v := (v5 + 1)) (lv' := [(5, .int (v5 + 1)), (4, .int (v4 + (c_signs r91))), (0, .ref (a 3)), (2, .int v2), (3, .int v3)]) hx hb dX0_weightOf_100 hl (k := 4) rfl rfl (by decide) rfl (fun ls hl => ?_)
          refine lv_goto (tgt := 54) hx hb dX0_weightOf_103 (by decide) ?_
          exact ih _ _ _ _ _ _ _ hP hS (lv_sub hl [2, 3, 4, 1, 0] rfl) hm
set_option maxRecDepth 100000 in
set_option maxHeartbeats 4000000 in
theorem c_X0_weightOf {l : Launch} {D : va_G} {cI cJ cB cL cS cW : ClassId} {a wb sw se : Nat → Nat} {LW LS LK : List Nat} {c_bytes c_heads c_firsts c_levelOf c_aboveOf c_partings c_signs c_count c_pages c_levels c_most c_page c_known c_guess c_diff c_pieces c_place : Nat → Int32} {c_bits : Nat → Nat → Int64} {c_words : Nat → Nat → Nat} {c_entries : Nat → Nat → Int32} {c_bads c_noes c_fulls c_length c_next c_kept c_base c_from c_to c_above c_bit c_lastLeft : Int32} {v1 : Int32} {r : Int32} (hG : kG a LW LS LK) (hm : C0_weightOf a LW c_heads c_firsts c_levelOf c_signs c_count c_pages c_words v1 = some r) : k_MI l yX0_weightOf wsX0_weightOf { frames := 2, cells := 0, slots := 0, locals := 43 } D (kT cI cJ cB cL cS cW) [.ref (a 3), .int v1] (WC a wb sw se LW LS LK cI cJ cB cL cS cW c_bytes c_heads c_firsts c_levelOf c_aboveOf c_partings c_signs c_count c_pages c_levels c_most c_page c_known c_guess c_diff c_pieces c_place c_bits c_words c_entries c_bads c_noes c_fulls c_length c_next c_kept c_base c_from c_to c_above c_bit c_lastLeft) r (WC a wb sw se LW LS LK cI cJ cB cL cS cW c_bytes c_heads c_firsts c_levelOf c_aboveOf c_partings c_signs c_count c_pages c_levels c_most c_page c_known c_guess c_diff c_pieces c_place c_bits c_words c_entries c_bads c_noes c_fulls c_length c_next c_kept c_base c_from c_to c_above c_bit c_lastLeft) := by
  refine k_ofI (cc := cX0_weightOf) (maxL := 6) (own := RX0) (by decide) rfl rfl (Nat.le_of_ble_eq_true rfl) ?_
  intro p e s m args below meth c A Q ls C hP hD hl hret
  have hD : va_D A (WC0 a wb sw se LW LS LK cI cJ cB cL cS cW) := WCD hD
  have hS : va_S A s.heap s.heap [] := va_S.rf
  have hl : lv_has ls 6 [(0, .ref (a 3)), (1, .int v1)] := hl
  obtain ⟨hx, hb, hml, hr, hown, hts, hlocks, hK, hA, hN⟩ := id C
  rw [C0_weightOf] at hm
  refine lv_aload_n hx hb dX0_weightOf_0 rfl (lv_at hl 0 rfl) ?_
  refine lv_iload_n hx hb dX0_weightOf_1 rfl (lv_at hl 1 rfl) ?_
  obtain ⟨r2, hq0, hm⟩ := bd1_some hm
  refine k_callVI (As := [.int v1]) (rest := []) ⟨hx, hb, hml, hown, hts⟩ hK hA hN (c_X0_headOf hG hq0) (cwV 1 hts gX0_weightOf_X0_headOf rfl rfl rfl hdX0_headOf ⟨Nat.le_of_ble_eq_true rfl, Nat.le_of_ble_eq_true rfl⟩) hP (WCD hD) hS 3 0 rfl rfl rfl hl.1 rfl rfl (Nat.le_of_ble_eq_true rfl) ⟨Nat.zero_le _, Nat.zero_le _⟩ dX0_weightOf_2 (fun H locs hP hS => ?_)
  refine lv_istore_n (lv' := [(2, .int r2), (0, .ref (a 3)), (1, .int v1)]) hx hb dX0_weightOf_5 rfl hl (by decide) rfl (fun ls hl => ?_)
  refine lv_aload_n hx hb dX0_weightOf_6 rfl (lv_at hl 1 rfl) ?_
  refine lv_iload_n hx hb dX0_weightOf_7 rfl (lv_at hl 2 rfl) ?_
  obtain ⟨r8, hq0, hm⟩ := bd1_some hm
  refine k_callVI (As := [.int v1]) (rest := []) ⟨hx, hb, hml, hown, hts⟩ hK hA hN (c_X0_endOf hG hq0) (cwV 1 hts gX0_weightOf_X0_endOf rfl rfl rfl hdX0_endOf ⟨Nat.le_of_ble_eq_true rfl, Nat.le_of_ble_eq_true rfl⟩) hP (WCD hD) hS 3 0 rfl rfl rfl hl.1 rfl rfl (Nat.le_of_ble_eq_true rfl) ⟨Nat.zero_le _, Nat.zero_le _⟩ dX0_weightOf_8 (fun H locs hP hS => ?_)
  refine lv_istore_n (lv' := [(3, .int r8), (2, .int r2), (0, .ref (a 3)), (1, .int v1)]) hx hb dX0_weightOf_11 rfl hl (by decide) rfl (fun ls hl => ?_)
  refine lv_iconst (v := 0) hx hb dX0_weightOf_12 (by decide) ?_
  refine lv_istore (lv' := [(4, .int 0), (3, .int r8), (2, .int r2), (0, .ref (a 3)), (1, .int v1)]) hx hb dX0_weightOf_13 hl (by decide) rfl (fun ls hl => ?_)
  refine lv_iload_n hx hb dX0_weightOf_15 rfl (lv_at hl 2 rfl) ?_
  refine lv_istore (lv' := [(5, .int r2), (4, .int 0), (3, .int r8), (2, .int r2), (0, .ref (a 3)), (1, .int v1)]) hx hb dX0_weightOf_16 hl (by decide) rfl (fun ls hl => ?_)
  refine t_C0_weightOf_L18 C hD hG hret ?_ FU _ _ _ _ _ _ _ hP hS (lv_sub hl [4, 5, 3, 2, 1, 0] rfl) hm
  · intro v2 v3 v4 H locs ls hP hS hl hm
    try dsimp only at hm
    refine lv_aload_n hx hb dX0_weightOf_47 rfl (lv_at hl 0 rfl) ?_
    refine lv_iload_n hx hb dX0_weightOf_48 rfl (lv_at hl 1 rfl) ?_
    obtain ⟨r49, hq0, hm⟩ := bd1_some hm
    refine k_callVI (As := [.int v1]) (rest := []) ⟨hx, hb, hml, hown, hts⟩ hK hA hN (c_X0_firstOf hG hq0) (cwV 1 hts gX0_weightOf_X0_firstOf rfl rfl rfl hdX0_firstOf ⟨Nat.le_of_ble_eq_true rfl, Nat.le_of_ble_eq_true rfl⟩) hP (WCD hD) hS 3 0 rfl rfl rfl hl.1 rfl rfl (Nat.le_of_ble_eq_true rfl) ⟨Nat.zero_le _, Nat.zero_le _⟩ dX0_weightOf_49 (fun H locs hP hS => ?_)
    refine lv_istore (lv' := [(5, .int r49), (0, .ref (a 3)), (1, .int v1), (2, .int v2), (3, .int v3), (4, .int v4)]) hx hb dX0_weightOf_52 hl (by decide) rfl (fun ls hl => ?_)
    refine t_C0_weightOf_L54 C hD hG hret ?_ FU _ _ _ _ _ _ _ hP hS (lv_sub hl [1, 3, 4, 5, 0] rfl) hm
    · intro v4 H locs ls hP hS hl hm
      try dsimp only at hm
      refine lv_iload hx hb dX0_weightOf_106 (lv_at hl 0 rfl) ?_
      obtain rfl := Option.some.inj hm
      exact hret _ _ _ _ dX0_weightOf_108 hP hS
