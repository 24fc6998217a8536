theorem hdX0_growUpwards : yX0_growUpwards.cls = RX0 ∧ yX0_growUpwards.cls ≠ "java/lang/invoke/MethodHandle" ∧ yX0_growUpwards.cls ≠ "java/lang/invoke/VarHandle" ∧ (parseMethodDescriptor yX0_growUpwards.desc).map (fun d => d.parameters.length) = some 0 := by decide +kernel
theorem hiX0_growUpwards_X0 : ∀ w ∈ u_ws RX0 TX0 7, w ∈ wsX0_growUpwards := by decide +kernel
theorem hiX0_growUpwards_X1 : ∀ w ∈ u_ws RX1 TX1 6, w ∈ wsX0_growUpwards := by decide +kernel
theorem hiX0_growUpwards_X3 : ∀ w ∈ u_ws RX3 TX3 6, w ∈ wsX0_growUpwards := by decide +kernel
theorem flX0_growUpwards_12 : Cond.fieldLink RX0 12 "BlindPages$Index" "now" "LBlindPages$State;" ∈ wsX0_growUpwards := by decide +kernel
theorem flX0_growUpwards_134 : Cond.fieldLink RX0 134 "BlindPages$State" "levels" "I" ∈ wsX0_growUpwards := by decide +kernel
theorem flX0_growUpwards_179 : Cond.fieldLink RX0 179 "BlindPages$State" "most" "I" ∈ wsX0_growUpwards := by decide +kernel
theorem flX0_growUpwards_104 : Cond.fieldLink RX0 104 "BlindPages$Look" "page" "I" ∈ wsX0_growUpwards := by decide +kernel
def C0_growUpwards_L22 (a : Nat → Nat) (LK : List Nat) (c_most c_page : Nat → Int32) (k62 : (Nat → Int32) → (Nat → Int32) → (Nat → Nat → Int32) → Int32 → Int32 → Option ((Nat → Int32) × (Nat → Int32) × (Nat → Nat → Int32))) (k105 : (Nat → Int32) → (Nat → Int32) → (Nat → Nat → Int32) → Option ((Nat → Int32) × (Nat → Int32) × (Nat → Nat → Int32))) : Nat → (Nat → Int32) → (Nat → Int32) → (Nat → Nat → Int32) → Int32 → Int32 → Int32 → Option ((Nat → Int32) × (Nat → Int32) × (Nat → Nat → Int32))
  | 0, _, _, _, _, _, _ => none
  | n + 1, c_pages, c_levels, c_entries, v1, v2, v3 => if v1 ≤ v3 then (k105 c_pages c_levels c_entries) else (bd1 (C0_lookOf a LK v3) fun r29 => gm LK r29 (bd1 (C3_entriesOf c_pages c_entries (a 14) (c_page r29)) fun r43 => if (c_most (a 14)) < (r43 + 1) then (bd1 (C3_setEntries c_pages c_entries (a 14) (c_page r29) v2) fun c_entries_81 => bd2 (C3_insertPage c_pages c_entries_81 (a 14) ((c_page r29) + 1) ((r43 + 1) - v2)) fun c_pages_96 c_entries_96 => C0_growUpwards_L22 a LK c_most c_page k62 k105 n c_pages_96 c_levels c_entries_96 v1 v2 (v3 + 1)) else (k62 c_pages c_levels c_entries (c_page r29) (r43 + 1))))
def C0_growUpwards (a : Nat → Nat) (LK : List Nat) (c_most c_page : Nat → Int32) (c_pages c_levels : Nat → Int32) (c_entries : Nat → Nat → Int32) : Option ((Nat → Int32) × (Nat → Int32) × (Nat → Nat → Int32)) := C0_growUpwards_L22 a LK c_most c_page (fun c_pages c_levels c_entries v4 v5 => bd1 (C3_setEntries c_pages c_entries (a 14) v4 v5) fun c_entries_70 => some (c_pages, c_levels, c_entries_70)) (fun c_pages c_levels c_entries => bd2 (C3_insertPage c_pages c_entries (a 14) 0 2) fun c_pages_111 c_entries_111 => some (c_pages_111, (va_up c_levels (a 14) ((c_levels (a 14)) + 1)), c_entries_111)) FU c_pages c_levels c_entries (c_levels (a 14)) (((c_most (a 14)) + 2) / 2) 0
set_option maxRecDepth 100000 in
set_option maxHeartbeats 4000000 in
theorem t_C0_growUpwards_L22 {p : Program} {l : Launch} {e : Env} {s : State} {m : MethodId} {args : Array Value} {below : List Frame} {meth : Method} {c : Code} {Q : State → Prop} {A : Nat → Prop} {D : va_G} {cI cJ cB cL cS cW : ClassId} {a wb sw se : Nat → Nat} {LW LS LK : List Nat} {c_bytes c_heads c_firsts c_levelOf c_aboveOf c_partings c_signs c_count c_most c_page c_known c_guess c_diff c_pieces c_place : Nat → Int32} {c_bits : Nat → Nat → Int64} {c_words : Nat → Nat → Nat} {c_bads c_noes c_fulls c_length c_next c_kept c_base c_from c_to c_above c_bit c_lastLeft : Int32} {o_pages : Nat → Int32} {o_levels : Nat → Int32} {o_entries : Nat → Nat → Int32} (C : k_C p s m args meth c cX0_growUpwards 6 none RX0 wsX0_growUpwards D (kT cI cJ cB cL cS cW) A) (hD : va_D A (WC0 a wb sw se LW LS LK cI cJ cB cL cS cW)) (hG : kG a LW LS LK) (hret : ∀ (H : Heap) (locs : List Loc) (pc : Nat) (ls : Array Slot), decode cX0_growUpwards pc = .ok (.return_, 1) → va_P D vwCl (WC a wb sw se LW LS LK cI cJ cB cL cS cW c_bytes c_heads c_firsts c_levelOf c_aboveOf c_partings c_signs c_count o_pages o_levels c_most c_page c_known c_guess c_diff c_pieces c_place c_bits c_words o_entries c_bads c_noes c_fulls c_length c_next c_kept c_base c_from c_to c_above c_bit c_lastLeft) H → va_S A s.heap H locs → W p l e { frames := 1, cells := 0, slots := 0, locals := 23 } s m args below meth c H locs 0 0 Q (F0 m pc ls [])) {k62 : (Nat → Int32) → (Nat → Int32) → (Nat → Nat → Int32) → Int32 → Int32 → Option ((Nat → Int32) × (Nat → Int32) × (Nat → Nat → Int32))} (hk62 : ∀ (c_pages : (Nat → Int32)) (c_levels : (Nat → Int32)) (c_entries : (Nat → Nat → Int32)) (v4 : Int32) (v5 : Int32) (H : Heap) (locs : List Loc) (ls : Array Slot), va_P D vwCl (WC a wb sw se LW LS LK cI cJ cB cL cS cW c_bytes c_heads c_firsts c_levelOf c_aboveOf c_partings c_signs c_count c_pages c_levels c_most c_page c_known c_guess c_diff c_pieces c_place c_bits c_words c_entries c_bads c_noes c_fulls c_length c_next c_kept c_base c_from c_to c_above c_bit c_lastLeft) H → va_S A s.heap H locs → lv_has ls 6 [(0, .ref (a 3)), (4, .int v4), (5, .int v5)] → k62 c_pages c_levels c_entries v4 v5 = some (o_pages, o_levels, o_entries) → W p l e { frames := 1, cells := 0, slots := 0, locals := 23 } s m args below meth c H locs 0 0 Q (F0 m 62 ls [])) {k105 : (Nat → Int32) → (Nat → Int32) → (Nat → Nat → Int32) → Option ((Nat → Int32) × (Nat → Int32) × (Nat → Nat → Int32))} (hk105 : ∀ (c_pages : (Nat → Int32)) (c_levels : (Nat → Int32)) (c_entries : (Nat → Nat → Int32)) (H : Heap) (locs : List Loc) (ls : Array Slot), va_P D vwCl (WC a wb sw se LW LS LK cI cJ cB cL cS cW c_bytes c_heads c_firsts c_levelOf c_aboveOf c_partings c_signs c_count c_pages c_levels c_most c_page c_known c_guess c_diff c_pieces c_place c_bits c_words c_entries c_bads c_noes c_fulls c_length c_next c_kept c_base c_from c_to c_above c_bit c_lastLeft) H → va_S A s.heap H locs → lv_has ls 6 [(0, .ref (a 3))] → k105 c_pages c_levels c_entries = some (o_pages, o_levels, o_entries) → W p l e { frames := 1, cells := 0, slots := 0, locals := 23 } s m args below meth c H locs 0 0 Q (F0 m 105 ls [])) : ∀ n : Nat, ∀ (c_pages : (Nat → Int32)) (c_levels : (Nat → Int32)) (c_entries : (Nat → Nat → Int32)) (v1 : Int32) (v2 : Int32) (v3 : Int32) (H : Heap) (locs : List Loc) (ls : Array Slot), va_P D vwCl (WC a wb sw se LW LS LK cI cJ cB cL cS cW c_bytes c_heads c_firsts c_levelOf c_aboveOf c_partings c_signs c_count c_pages c_levels c_most c_page c_known c_guess c_diff c_pieces c_place c_bits c_words c_entries c_bads c_noes c_fulls c_length c_next c_kept c_base c_from c_to c_above c_bit c_lastLeft) H → va_S A s.heap H locs → lv_has ls 6 [(0, .ref (a 3)), (1, .int v1), (2, .int v2), (3, .int v3)] → (C0_growUpwards_L22 a LK c_most c_page k62 k105 n) c_pages c_levels c_entries v1 v2 v3 = some (o_pages, o_levels, o_entries) → W p l e { frames := 1, cells := 0, slots := 0, locals := 23 } s m args below meth c H locs 0 0 Q (F0 m 22 ls []) := by
  obtain ⟨hx, hb, hml, hr, hown, hts, hlocks, hK, hA, hN⟩ := id C
  intro n
  induction n with
  | zero =>
    intro c_pages c_levels c_entries v1 v2 v3 H locs ls hP hS hl hm
    cases hm
  | succ n ih =>
    intro c_pages c_levels c_entries v1 v2 v3 H locs ls hP hS hl hm
    rw [C0_growUpwards_L22] at hm
    refine lv_iload_n hx hb dX0_growUpwards_22 rfl (lv_at hl 3 rfl) ?_
    refine lv_iload_n hx hb dX0_growUpwards_23 rfl (lv_at hl 1 rfl) ?_
    refine lv_icmp_ge (tgt := 105) hx hb dX0_growUpwards_24 (by decide) (fun hc => ?_) (fun hc => ?_)
    · have hm := if_t hc hm
      exact hk105 _ _ _ _ _ _ hP hS (lv_sub hl [0] rfl) hm
    · have hm := if_f hc hm
      refine lv_aload_n hx hb dX0_growUpwards_27 rfl (lv_at hl 0 rfl) ?_
      refine lv_iload_n hx hb dX0_growUpwards_28 rfl (lv_at hl 3 rfl) ?_
      obtain ⟨r29, hq0, hm⟩ := bd1_some hm
      obtain ⟨hw29, hm⟩ := gm_some hm
      refine k_callVA (As := [.int v3]) (rest := []) ⟨hx, hb, hml, hown, hts⟩ hK hA hN (c_X0_lookOf hG hq0) (cwV 1 hts gX0_growUpwards_X0_lookOf rfl rfl rfl hdX0_lookOf ⟨Nat.le_of_ble_eq_true rfl, Nat.le_of_ble_eq_true rfl⟩) hP (WCD hD) hS 3 0 rfl rfl rfl hl.1 rfl rfl (Nat.le_of_ble_eq_true rfl) ⟨Nat.zero_le _, Nat.zero_le _⟩ dX0_growUpwards_29 (fun H locs hP hS => ?_)
      obtain ⟨q, hq, -⟩ := WC_K hG hw29
      refine kg (v := .int (c_page r29)) hx hb hts hiX0_growUpwards_X1 hown hK hP q hq rfl 0 (by decide) flX0_growUpwards_104 rfl rfl dX0_growUpwards_32 ?_
      refine lv_istore (lv' := [(4, .int (c_page r29)), (0, .ref (a 3)), (1, .int v1), (2, .int v2), (3, .int v3)]) hx hb dX0_growUpwards_35 hl (by decide) rfl (fun ls hl => ?_)
      refine lv_aload_n hx hb dX0_growUpwards_37 rfl (lv_at hl 1 rfl) ?_
      refine kg (v := .ref (a 14)) hx hb hts hiX0_growUpwards_X0 hown hK hP 3 rfl rfl 0 (by decide) flX0_growUpwards_12 rfl rfl dX0_growUpwards_38 ?_
      refine lv_iload hx hb dX0_growUpwards_41 (lv_at hl 0 rfl) ?_
      obtain ⟨r43, hq0, hm⟩ := bd1_some hm
      obtain ⟨q, hq, -⟩ := WC_S hG hG.2.2.2.2.1
      refine k_callVI (As := [.int (c_page r29)]) (rest := []) ⟨hx, hb, hml, hown, hts⟩ hK hA hN (c_X3_entriesOf hG hG.2.2.2.2.1 hq0) (cwV 1 hts gX0_growUpwards_X3_entriesOf rfl rfl rfl hdX3_entriesOf ⟨Nat.le_of_ble_eq_true rfl, Nat.le_of_ble_eq_true rfl⟩) hP (WCD hD) hS q 3 hq rfl rfl hl.1 rfl rfl (Nat.le_of_ble_eq_true rfl) ⟨Nat.zero_le _, Nat.zero_le _⟩ dX0_growUpwards_43 (fun H locs hP hS => ?_)
      refine lv_iconst (v := 1) hx hb dX0_growUpwards_46 (by decide) ?_
      refine lv_iadd hx hb dX0_growUpwards_47 ?_
      refine lv_istore (lv' := [(5, .int (r43 + 1)), (4, .int (c_page r29)), (0, .ref (a 3)), (1, .int v1), (2, .int v2), (3, .int v3)]) hx hb dX0_growUpwards_48 hl (by decide) rfl (fun ls hl => ?_)
      refine lv_iload hx hb dX0_growUpwards_50 (lv_at hl 0 rfl) ?_
      refine lv_aload_n hx hb dX0_growUpwards_52 rfl (lv_at hl 2 rfl) ?_
      refine kg (v := .ref (a 14)) hx hb hts hiX0_growUpwards_X0 hown hK hP 3 rfl rfl 0 (by decide) flX0_growUpwards_12 rfl rfl dX0_growUpwards_53 ?_
      obtain ⟨q, hq, -⟩ := WC_S hG hG.2.2.2.2.1
      refine kg (v := .int (c_most (a 14))) hx hb hts hiX0_growUpwards_X3 hown hK hP q hq rfl 5 (by decide) flX0_growUpwards_179 rfl rfl dX0_growUpwards_56 ?_
      refine lv_icmp_gt (tgt := 74) hx hb dX0_growUpwards_59 (by decide) (fun hc => ?_) (fun hc => ?_)
      · have hm := if_t hc hm
        refine lv_aload_n hx hb dX0_growUpwards_74 rfl (lv_at hl 2 rfl) ?_
        refine kg (v := .ref (a 14)) hx hb hts hiX0_growUpwards_X0 hown hK hP 3 rfl rfl 0 (by decide) flX0_growUpwards_12 rfl rfl dX0_growUpwards_75 ?_
        refine lv_iload hx hb dX0_growUpwards_78 (lv_at hl 1 rfl) ?_
        refine lv_iload_n hx hb dX0_growUpwards_80 rfl (lv_at hl 4 rfl) ?_
        obtain ⟨c_entries_81, hq0, hm⟩ := bd1_some hm
        obtain ⟨q, hq, -⟩ := WC_S hG hG.2.2.2.2.1
        refine k_callVV (As := [.int (c_page r29), .int v2]) (rest := []) ⟨hx, hb, hml, hown, hts⟩ hK hA hN (c_X3_setEntries hG hG.2.2.2.2.1 hq0) (cwV 2 hts gX0_growUpwards_X3_setEntries rfl rfl rfl hdX3_setEntries ⟨Nat.le_of_ble_eq_true rfl, Nat.le_of_ble_eq_true rfl⟩) hP (WCD hD) hS q 3 hq rfl rfl hl.1 rfl rfl (Nat.le_of_ble_eq_true rfl) ⟨Nat.zero_le _, Nat.zero_le _⟩ dX0_growUpwards_81 (fun H locs hP hS => ?_)
        refine lv_aload_n hx hb dX0_growUpwards_84 rfl (lv_at hl 2 rfl) ?_
        refine kg (v := .ref (a 14)) hx hb hts hiX0_growUpwards_X0 hown hK hP 3 rfl rfl 0 (by decide) flX0_growUpwards_12 rfl rfl dX0_growUpwards_85 ?_
        refine lv_iload hx hb dX0_growUpwards_88 (lv_at hl 1 rfl) ?_
        refine lv_iconst (v := 1) hx hb dX0_growUpwards_90 (by decide) ?_
        refine lv_iadd hx hb dX0_growUpwards_91 ?_
        refine lv_iload hx hb dX0_growUpwards_92 (lv_at hl 0 rfl) ?_
        refine lv_iload_n hx hb dX0_growUpwards_94 rfl (lv_at hl 4 rfl) ?_
        refine lv_isub hx hb dX0_growUpwards_95 ?_
        obtain ⟨c_pages_96, c_entries_96, hq0, hm⟩ := bd2_some hm
        obtain ⟨q, hq, -⟩ := WC_S hG hG.2.2.2.2.1
        refine k_callVV (As := [.int ((c_page r29) + 1), .int ((r43 + 1) - v2)]) (rest := []) ⟨hx, hb, hml, hown, hts⟩ hK hA hN (c_X3_insertPage hG hG.2.2.2.2.1 hq0) (cwV 2 hts gX0_growUpwards_X3_insertPage rfl rfl rfl hdX3_insertPage ⟨Nat.le_of_ble_eq_true rfl, Nat.le_of_ble_eq_true rfl⟩) hP (WCD hD) hS q 3 hq rfl rfl hl.1 rfl rfl (Nat.le_of_ble_eq_true rfl) ⟨Nat.zero_le _, Nat.zero_le _⟩ dX0_growUpwards_96 (fun H locs hP hS => ?_)
        refine lv_iinc (v := (v3 + 1)) (lv' := [(3, .int (v3 + 1)), (5, .int (r43 + 1)), (4, .int (c_page r29)), (0, .ref (a 3)), (1, .int v1), (2, .int v2)]) hx hb dX0_growUpwards_99 hl (k := 5) rfl rfl (by decide) rfl (fun ls hl => ?_)
        refine lv_goto (tgt := 22) hx hb dX0_growUpwards_102 (by decide) ?_
        exact ih _ _ _ _ _ _ _ _ _ hP hS (lv_sub hl [3, 4, 5, 0] rfl) hm
      · have hm := if_f hc hm
        exact hk62 _ _ _ _ _ _ _ _ hP hS (lv_sub hl [2, 1, 0] rfl) hm
set_option maxRecDepth 100000 in
set_option maxHeartbeats 4000000 in
theorem c_X0_growUpwards {l : Launch} {D : va_G} {cI cJ cB cL cS cW : ClassId} {a wb sw se : Nat → Nat} {LW LS LK : List Nat} {c_bytes c_heads c_firsts c_levelOf c_aboveOf c_partings c_signs c_count c_pages c_levels c_most c_page c_known c_guess c_diff c_pieces c_place : Nat → Int32} {c_bits : Nat → Nat → Int64} {c_words : Nat → Nat → Nat} {c_entries : Nat → Nat → Int32} {c_bads c_noes c_fulls c_length c_next c_kept c_base c_from c_to c_above c_bit c_lastLeft : Int32} {o_pages : Nat → Int32} {o_levels : Nat → Int32} {o_entries : Nat → Nat → Int32} (hG : kG a LW LS LK) (hm : C0_growUpwards a LK c_most c_page c_pages c_levels c_entries = some (o_pages, o_levels, o_entries)) : k_MV l yX0_growUpwards wsX0_growUpwards { frames := 1, cells := 0, slots := 0, locals := 23 } D (kT cI cJ cB cL cS cW) [.ref (a 3)] (WC a wb sw se LW LS LK cI cJ cB cL cS cW c_bytes c_heads c_firsts c_levelOf c_aboveOf c_partings c_signs c_count c_pages c_levels c_most c_page c_known c_guess c_diff c_pieces c_place c_bits c_words c_entries c_bads c_noes c_fulls c_length c_next c_kept c_base c_from c_to c_above c_bit c_lastLeft) (WC a wb sw se LW LS LK cI cJ cB cL cS cW c_bytes c_heads c_firsts c_levelOf c_aboveOf c_partings c_signs c_count o_pages o_levels c_most c_page c_known c_guess c_diff c_pieces c_place c_bits c_words o_entries c_bads c_noes c_fulls c_length c_next c_kept c_base c_from c_to c_above c_bit c_lastLeft) := by
  refine k_ofV (cc := cX0_growUpwards) (maxL := 6) (own := RX0) (by decide) rfl rfl (Nat.le_of_ble_eq_true rfl) ?_
  intro p e s m args below meth c A Q ls C hP hD hl hret
  have hD : va_D A (WC0 a wb sw se LW LS LK cI cJ cB cL cS cW) := WCD hD
  have hS : va_S A s.heap s.heap [] := va_S.rf
  have hl : lv_has ls 6 [(0, .ref (a 3))] := hl
  obtain ⟨hx, hb, hml, hr, hown, hts, hlocks, hK, hA, hN⟩ := id C
  rw [C0_growUpwards] at hm
  refine lv_aload_n hx hb dX0_growUpwards_0 rfl (lv_at hl 0 rfl) ?_
  refine kg (v := .ref (a 14)) hx hb hts hiX0_growUpwards_X0 hown hK hP 3 rfl rfl 0 (by decide) flX0_growUpwards_12 rfl rfl dX0_growUpwards_1 ?_
  obtain ⟨q, hq, -⟩ := WC_S hG hG.2.2.2.2.1
  refine kg (v := .int (c_levels (a 14))) hx hb hts hiX0_growUpwards_X3 hown hK hP q hq rfl 4 (by decide) flX0_growUpwards_134 rfl rfl dX0_growUpwards_4 ?_
  refine lv_istore_n (lv' := [(1, .int (c_levels (a 14))), (0, .ref (a 3))]) hx hb dX0_growUpwards_7 rfl hl (by decide) rfl (fun ls hl => ?_)
  refine lv_aload_n hx hb dX0_growUpwards_8 rfl (lv_at hl 1 rfl) ?_
  refine kg (v := .ref (a 14)) hx hb hts hiX0_growUpwards_X0 hown hK hP 3 rfl rfl 0 (by decide) flX0_growUpwards_12 rfl rfl dX0_growUpwards_9 ?_
  obtain ⟨q, hq, -⟩ := WC_S hG hG.2.2.2.2.1
  refine kg (v := .int (c_most (a 14))) hx hb hts hiX0_growUpwards_X3 hown hK hP q hq rfl 5 (by decide) flX0_growUpwards_179 rfl rfl dX0_growUpwards_12 ?_
  refine lv_iconst (v := 2) hx hb dX0_growUpwards_15 (by decide) ?_
  refine lv_iadd hx hb dX0_growUpwards_16 ?_
  refine lv_iconst (v := 2) hx hb dX0_growUpwards_17 (by decide) ?_
  refine lv_idiv hx hb dX0_growUpwards_18 (by decide) ?_
  refine lv_istore_n (lv' := [(2, .int (((c_most (a 14)) + 2) / 2)), (1, .int (c_levels (a 14))), (0, .ref (a 3))]) hx hb dX0_growUpwards_19 rfl hl (by decide) rfl (fun ls hl => ?_)
  refine lv_iconst (v := 0) hx hb dX0_growUpwards_20 (by decide) ?_
  refine lv_istore_n (lv' := [(3, .int 0), (2, .int (((c_most (a 14)) + 2) / 2)), (1, .int (c_levels (a 14))), (0, .ref (a 3))]) hx hb dX0_growUpwards_21 rfl hl (by decide) rfl (fun ls hl => ?_)
  refine t_C0_growUpwards_L22 C hD hG hret ?_ ?_ FU _ _ _ _ _ _ _ _ _ hP hS (lv_sub hl [3, 2, 1, 0] rfl) hm
  · intro c_pages c_levels c_entries v4 v5 H locs ls hP hS hl hm
    try dsimp only at hm
    refine lv_aload_n hx hb dX0_growUpwards_62 rfl (lv_at hl 0 rfl) ?_
    refine kg (v := .ref (a 14)) hx hb hts hiX0_growUpwards_X0 hown hK hP 3 rfl rfl 0 (by decide) flX0_growUpwards_12 rfl rfl dX0_growUpwards_63 ?_
    refine lv_iload hx hb dX0_growUpwards_66 (lv_at hl 1 rfl) ?_
    refine lv_iload hx hb dX0_growUpwards_68 (lv_at hl 2 rfl) ?_
    obtain ⟨c_entries_70, hq0, hm⟩ := bd1_some hm
    obtain ⟨q, hq, -⟩ := WC_S hG hG.2.2.2.2.1
    refine k_callVV (As := [.int v4, .int v5]) (rest := []) ⟨hx, hb, hml, hown, hts⟩ hK hA hN (c_X3_setEntries hG hG.2.2.2.2.1 hq0) (cwV 2 hts gX0_growUpwards_X3_setEntries rfl rfl rfl hdX3_setEntries ⟨Nat.le_of_ble_eq_true rfl, Nat.le_of_ble_eq_true rfl⟩) hP (WCD hD) hS q 3 hq rfl rfl hl.1 rfl rfl (Nat.le_of_ble_eq_true rfl) ⟨Nat.zero_le _, Nat.zero_le _⟩ dX0_growUpwards_70 (fun H locs hP hS => ?_)
    simp only [Option.some.injEq, Prod.mk.injEq] at hm
    obtain ⟨rfl, rfl, rfl⟩ := hm
    exact hret _ _ _ _ dX0_growUpwards_73 hP hS
  · intro c_pages c_levels c_entries H locs ls hP hS hl hm
    try dsimp only at hm
    refine lv_aload_n hx hb dX0_growUpwards_105 rfl (lv_at hl 0 rfl) ?_
    refine kg (v := .ref (a 14)) hx hb hts hiX0_growUpwards_X0 hown hK hP 3 rfl rfl 0 (by decide) flX0_growUpwards_12 rfl rfl dX0_growUpwards_106 ?_
    refine lv_iconst (v := 0) hx hb dX0_growUpwards_109 (by decide) ?_
    refine lv_iconst (v := 2) hx hb dX0_growUpwards_110 (by decide) ?_
    obtain ⟨c_pages_111, c_entries_111, hq0, hm⟩ := bd2_some hm
    obtain ⟨q, hq, -⟩ := WC_S hG hG.2.2.2.2.1
    refine k_callVV (As := [.int 0, .int 2]) (rest := []) ⟨hx, hb, hml, hown, hts⟩ hK hA hN (c_X3_insertPage hG hG.2.2.2.2.1 hq0) (cwV 2 hts gX0_growUpwards_X3_insertPage rfl rfl rfl hdX3_insertPage ⟨Nat.le_of_ble_eq_true rfl, Nat.le_of_ble_eq_true rfl⟩) hP (WCD hD) hS q 3 hq rfl rfl hl.1 rfl rfl (Nat.le_of_ble_eq_true rfl) ⟨Nat.zero_le _, Nat.zero_le _⟩ dX0_growUpwards_111 (fun H locs hP hS => ?_)
    refine lv_aload_n hx hb dX0_growUpwards_114 rfl (lv_at hl 0 rfl) ?_
    refine kg (v := .ref (a 14)) hx hb hts hiX0_growUpwards_X0 hown hK hP 3 rfl rfl 0 (by decide) flX0_growUpwards_12 rfl rfl dX0_growUpwards_115 ?_
    refine lv_dup hx hb dX0_growUpwards_118 rfl ?_
    obtain ⟨q, hq, -⟩ := WC_S hG hG.2.2.2.2.1
    refine kg (v := .int (c_levels (a 14))) hx hb hts hiX0_growUpwards_X3 hown hK hP q hq rfl 4 (by decide) flX0_growUpwards_134 rfl rfl dX0_growUpwards_119 ?_
    refine lv_iconst (v := 1) hx hb dX0_growUpwards_122 (by decide) ?_
    refine lv_iadd hx hb dX0_growUpwards_123 ?_
    obtain ⟨q, hq, he⟩ := WC_S hG hG.2.2.2.2.1
    refine kp hx hb hts hiX0_growUpwards_X3 tyX3 tyX3_ok nmX3 hown hK hP (WCD hD) hS q hq rfl 4 (by decide) flX0_growUpwards_134 rfl rfl rfl (Nat.le_of_ble_eq_true rfl) dX0_growUpwards_124 (fun H locs hP hS => ?_)
    have hP : va_P D vwCl (WC a wb sw se LW LS LK cI cJ cB cL cS cW c_bytes c_heads c_firsts c_levelOf c_aboveOf c_partings c_signs c_count c_pages_111 (va_up c_levels (a 14) ((c_levels (a 14)) + 1)) c_most c_page c_known c_guess c_diff c_pieces c_place c_bits c_words c_entries_111 c_bads c_noes c_fulls c_length c_next c_kept c_base c_from c_to c_above c_bit c_lastLeft) H := by rw [← he.2.2.1]; exact hP
    simp only [Option.some.injEq, Prod.mk.injEq] at hm
    obtain ⟨rfl, rfl, rfl⟩ := hm
    exact hret _ _ _ _ dX0_growUpwards_127 hP hS
theorem hdX0_settleEntries : yX0_settleEntries.cls = RX0 ∧ yX0_settleEntries.cls ≠ "java/lang/invoke/MethodHandle" ∧ yX0_settleEntries.cls ≠ "java/lang/invoke/VarHandle" ∧ (parseMethodDescriptor yX0_settleEntries.desc).map (fun d => d.parameters.length) = some 0 := by decide +kernel
theorem hiX0_settleEntries_X0 : ∀ w ∈ u_ws RX0 TX0 7, w ∈ wsX0_settleEntries := by decide +kernel
theorem hiX0_settleEntries_X3 : ∀ w ∈ u_ws RX3 TX3 6, w ∈ wsX0_settleEntries := by decide +kernel
theorem flX0_settleEntries_28 : Cond.fieldLink RX0 28 "BlindPages$Index" "aboveOf" "[I" ∈ wsX0_settleEntries := by decide +kernel
theorem flX0_settleEntries_12 : Cond.fieldLink RX0 12 "BlindPages$Index" "now" "LBlindPages$State;" ∈ wsX0_settleEntries := by decide +kernel
theorem flX0_settleEntries_45 : Cond.fieldLink RX0 45 "BlindPages$State" "pages" "I" ∈ wsX0_settleEntries := by decide +kernel
theorem flX0_settleEntries_22 : Cond.fieldLink RX0 22 "BlindPages$Index" "firsts" "[I" ∈ wsX0_settleEntries := by decide +kernel
def C0_settleEntries_L49 (a : Nat → Nat) (c_pages : Nat → Int32) (c_entries : Nat → Nat → Int32) (k91 : (Nat → Int32) → (Nat → Int32) → Int32 → Int32 → Option ((Nat → Int32) × (Nat → Int32))) : Nat → (Nat → Int32) → (Nat → Int32) → Int32 → Int32 → Int32 → Option ((Nat → Int32) × (Nat → Int32))
  | 0, _, _, _, _, _ => none
  | n + 1, c_firsts, c_aboveOf, v1, v2, v3 => if v3 ≤ v1 then (k91 c_firsts c_aboveOf v1 v2) else (if (c_pages (a 14)) ≤ v1 then (C0_settleEntries_L49 a c_pages c_entries k91 n c_firsts c_aboveOf (v1 + 1) v2 v3) else (if v1 ≤ 0 then (C0_settleEntries_L49 a c_pages c_entries k91 n c_firsts c_aboveOf (v1 + 1) v2 v3) else (if 48 ≤ v1 then (C0_settleEntries_L49 a c_pages c_entries k91 n c_firsts c_aboveOf (v1 + 1) v2 v3) else (ga v1 48 (C0_settleEntries_L49 a c_pages c_entries k91 n c_firsts (upd c_aboveOf v1.toNatClampNeg v2) (v1 + 1) v2 v3)))))
def C0_settleEntries_L11 (a : Nat → Nat) (c_pages : Nat → Int32) (c_entries : Nat → Nat → Int32) (k97 : (Nat → Int32) → (Nat → Int32) → Option ((Nat → Int32) × (Nat → Int32))) : Nat → (Nat → Int32) → (Nat → Int32) → Int32 → Int32 → Option ((Nat → Int32) × (Nat → Int32))
  | 0, _, _, _, _ => none
  | n + 1, c_firsts, c_aboveOf, v1, v2 => if (c_pages (a 14)) ≤ v2 then (k97 c_firsts c_aboveOf) else (if 48 ≤ v2 then (k97 c_firsts c_aboveOf) else (ga v2 48 (bd1 (C3_entriesOf c_pages c_entries (a 14) v2) fun r44 => C0_settleEntries_L49 a c_pages c_entries (fun c_firsts c_aboveOf v1 v2 => C0_settleEntries_L11 a c_pages c_entries k97 n c_firsts c_aboveOf v1 (v2 + 1)) FU (upd c_firsts v2.toNatClampNeg v1) c_aboveOf v1 v2 (v1 + r44))))
def C0_settleEntries (a : Nat → Nat) (c_pages : Nat → Int32) (c_entries : Nat → Nat → Int32) (c_firsts c_aboveOf : Nat → Int32) : Option ((Nat → Int32) × (Nat → Int32)) := C0_settleEntries_L11 a c_pages c_entries (fun c_firsts c_aboveOf => some (c_firsts, c_aboveOf)) FU c_firsts (upd c_aboveOf 0 (-1)) 1 0
set_option maxRecDepth 100000 in
set_option maxHeartbeats 4000000 in
theorem t_C0_settleEntries_L49 {p : Program} {l : Launch} {e : Env} {s : State} {m : MethodId} {args : Array Value} {below : List Frame} {meth : Method} {c : Code} {Q : State → Prop} {A : Nat → Prop} {D : va_G} {cI cJ cB cL cS cW : ClassId} {a wb sw se : Nat → Nat} {LW LS LK : List Nat} {c_bytes c_heads c_levelOf c_partings c_signs c_count c_pages c_levels c_most c_page c_known c_guess c_diff c_pieces c_place : Nat → Int32} {c_bits : Nat → Nat → Int64} {c_words : Nat → Nat → Nat} {c_entries : Nat → Nat → Int32} {c_bads c_noes c_fulls c_length c_next c_kept c_base c_from c_to c_above c_bit c_lastLeft : Int32} {o_firsts : Nat → Int32} {o_aboveOf : Nat → Int32} (C : k_C p s m args meth c cX0_settleEntries 4 none RX0 wsX0_settleEntries D (kT cI cJ cB cL cS cW) A) (hD : va_D A (WC0 a wb sw se LW LS LK cI cJ cB cL cS cW)) (hG : kG a LW LS LK) (hret : ∀ (H : Heap) (locs : List Loc) (pc : Nat) (ls : Array Slot), decode cX0_settleEntries pc = .ok (.return_, 1) → va_P D vwCl (WC a wb sw se LW LS LK cI cJ cB cL cS cW c_bytes c_heads o_firsts c_levelOf o_aboveOf c_partings c_signs c_count c_pages c_levels c_most c_page c_known c_guess c_diff c_pieces c_place c_bits c_words c_entries c_bads c_noes c_fulls c_length c_next c_kept c_base c_from c_to c_above c_bit c_lastLeft) H → va_S A s.heap H locs → W p l e { frames := 1, cells := 0, slots := 0, locals := 21 } s m args below meth c H locs 0 0 Q (F0 m pc ls [])) {k91 : (Nat → Int32) → (Nat → Int32) → Int32 → Int32 → Option ((Nat → Int32) × (Nat → Int32))} (hk91 : ∀ (c_firsts : (Nat → Int32)) (c_aboveOf : (Nat → Int32)) (v1 : Int32) (v2 : Int32) (H : Heap) (locs : List Loc) (ls : Array Slot), va_P D vwCl (WC a wb sw se LW LS LK cI cJ cB cL cS cW c_bytes c_heads c_firsts c_levelOf c_aboveOf c_partings c_signs c_count c_pages c_levels c_most c_page c_known c_guess c_diff c_pieces c_place c_bits c_words c_entries c_bads c_noes c_fulls c_length c_next c_kept c_base c_from c_to c_above c_bit c_lastLeft) H → va_S A s.heap H locs → lv_has ls 4 [(0, .ref (a 3)), (1, .int v1), (2, .int v2)] → k91 c_firsts c_aboveOf v1 v2 = some (o_firsts, o_aboveOf) → W p l e { frames := 1, cells := 0, slots := 0, locals := 21 } s m args below meth c H locs 0 0 Q (F0 m 91 ls [])) : ∀ n : Nat, ∀ (c_firsts : (Nat → Int32)) (c_aboveOf : (Nat → Int32)) (v1 : Int32) (v2 : Int32) (v3 : Int32) (H : Heap) (locs : List Loc) (ls : Array Slot), va_P D vwCl (WC a wb sw se LW LS LK cI cJ cB cL cS cW c_bytes c_heads c_firsts c_levelOf c_aboveOf c_partings c_signs c_count c_pages c_levels c_most c_page c_known c_guess c_diff c_pieces c_place c_bits c_words c_entries c_bads c_noes c_fulls c_length c_next c_kept c_base c_from c_to c_above c_bit c_lastLeft) H → va_S A s.heap H locs → lv_has ls 4 [(0, .ref (a 3)), (1, .int v1), (2, .int v2), (3, .int v3)] → (C0_settleEntries_L49 a c_pages c_entries k91 n) c_firsts c_aboveOf v1 v2 v3 = some (o_firsts, o_aboveOf) → W p l e { frames := 1, cells := 0, slots := 0, locals := 21 } s m args below meth c H locs 0 0 Q (F0 m 49 ls []) := by
  obtain ⟨hx, hb, hml, hr, hown, hts, hlocks, hK, hA, hN⟩ := id C
  intro n
  induction n with
  | zero =>
    intro c_firsts c_aboveOf v1 v2 v3 H locs ls hP hS hl hm
    cases hm
  | succ n ih =>
    intro c_firsts c_aboveOf v1 v2 v3 H locs ls hP hS hl hm
    rw [C0_settleEntries_L49] at hm
    refine lv_iload_n hx hb dX0_settleEntries_49 rfl (lv_at hl 1 rfl) ?_
    refine lv_iload_n hx hb dX0_settleEntries_50 rfl (lv_at hl 3 rfl) ?_
    refine lv_icmp_ge (tgt := 91) hx hb dX0_settleEntries_51 (by decide) (fun hc => ?_) (fun hc => ?_)
    · have hm := if_t hc hm
      exact hk91 _ _ _ _ _ _ _ hP hS (lv_sub hl [0, 1, 2] rfl) hm
    · have hm := if_f hc hm
      refine lv_iload_n hx hb dX0_settleEntries_54 rfl (lv_at hl 1 rfl) ?_
      refine lv_aload_n hx hb dX0_settleEntries_55 rfl (lv_at hl 0 rfl) ?_
      refine kg (v := .ref (a 14)) hx hb hts hiX0_settleEntries_X0 hown hK hP 3 rfl rfl 0 (by decide) flX0_settleEntries_12 rfl rfl dX0_settleEntries_56 ?_
      obtain ⟨q, hq, -⟩ := WC_S hG hG.2.2.2.2.1
      refine kg (v := .int (c_pages (a 14))) hx hb hts hiX0_settleEntries_X3 hown hK hP q hq rfl 3 (by decide) flX0_settleEntries_45 rfl rfl dX0_settleEntries_59 ?_
      refine lv_icmp_ge (tgt := 85) hx hb dX0_settleEntries_62 (by decide) (fun hc => ?_) (fun hc => ?_)
      · have hm := if_t hc hm
        refine lv_iinc (v := (v1 + 1)) (lv' := [(1, .int (v1 + 1)), (0, .ref (a 3)), (2, .int v2), (3, .int v3)]) hx hb dX0_settleEntries_85 hl (k := 1) rfl rfl (by decide) rfl (fun ls hl => ?_)
        refine lv_goto (tgt := 49) hx hb dX0_settleEntries_88 (by decide) ?_
        exact ih _ _ _ _ _ _ _ _ hP hS (lv_sub hl [1, 0, 2, 3] rfl) hm
      · have hm := if_f hc hm
        refine lv_iload_n hx hb dX0_settleEntries_65 rfl (lv_at hl 1 rfl) ?_
        refine lv_if_le (tgt := 85) hx hb dX0_settleEntries_66 (by decide) (fun hc => ?_) (fun hc => ?_)
        · have hm := if_t hc hm
          refine lv_iinc (v := (v1 + 1)) (lv' := [(1, .int (v1 + 1)), (0, .ref (a 3)), (2, .int v2), (3, .int v3)]) hx hb dX0_settleEntries_85 hl (k := 1) rfl rfl (by decide) rfl (fun ls hl => ?_)
          refine lv_goto (tgt := 49) hx hb dX0_settleEntries_88 (by decide) ?_
          exact ih _ _ _ _ _ _ _ _ hP hS (lv_sub hl [1, 0, 2, 3] rfl) hm
        · have hm := if_f hc hm
          refine lv_iload_n hx hb dX0_settleEntries_69 rfl (lv_at hl 1 rfl) ?_
          refine lv_aload_n hx hb dX0_settleEntries_70 rfl (lv_at hl 0 rfl) ?_
          refine kg (v := .ref (a 7)) hx hb hts hiX0_settleEntries_X0 hown hK hP 3 rfl rfl 4 (by decide) flX0_settleEntries_28 rfl rfl dX0_settleEntries_71 ?_
          refine va_alen (v := 48) hx hb hK hP 7 0 rfl rfl rfl dX0_settleEntries_74 ?_
          refine lv_icmp_ge (tgt := 85) hx hb dX0_settleEntries_75 (by decide) (fun hc => ?_) (fun hc => ?_)
          · have hm := if_t hc hm
            refine lv_iinc (v := (v1 + 1)) (lv' := [(1, .int (v1 + 1)), (0, .ref (a 3)), (2, .int v2), (3, .int v3)]) hx hb dX0_settleEntries_85 hl (k := 1) rfl rfl (by decide) rfl (fun ls hl => ?_)
            refine lv_goto (tgt := 49) hx hb dX0_settleEntries_88 (by decide) ?_
            exact ih _ _ _ _ _ _ _ _ hP hS (lv_sub hl [1, 0, 2, 3] rfl) hm
          · have hm := if_f hc hm
            refine lv_aload_n hx hb dX0_settleEntries_78 rfl (lv_at hl 0 rfl) ?_
            refine kg (v := .ref (a 7)) hx hb hts hiX0_settleEntries_X0 hown hK hP 3 rfl rfl 4 (by decide) flX0_settleEntries_28 rfl rfl dX0_settleEntries_79 ?_
            refine lv_iload_n hx hb dX0_settleEntries_82 rfl (lv_at hl 1 rfl) ?_
            refine lv_iload_n hx hb dX0_settleEntries_83 rfl (lv_at hl 2 rfl) ?_
            obtain ⟨hi, hm⟩ := ga_some hm
            refine k_iast hx hb hK hP (WCD hD) hS 7 0 rfl rfl rfl hi dX0_settleEntries_84 (fun H locs hP hS => ?_)
            have hP : va_P D vwCl (WC a wb sw se LW LS LK cI cJ cB cL cS cW c_bytes c_heads c_firsts c_levelOf (upd c_aboveOf v1.toNatClampNeg v2) c_partings c_signs c_count c_pages c_levels c_most c_page c_known c_guess c_diff c_pieces c_place c_bits c_words c_entries c_bads c_noes c_fulls c_length c_next c_kept c_base c_from c_to c_above c_bit c_lastLeft) H := hP
            refine lv_iinc (v := (v1 + 1)) (lv' := [(1, .int (v1 + 1)), (0, .ref (a 3)), (2, .int v2), (3, .int v3)]) hx hb dX0_settleEntries_85 hl (k := 1) rfl rfl (by decide) rfl (fun ls hl => ?_)
            refine lv_goto (tgt := 49) hx hb dX0_settleEntries_88 (by decide) ?_
            exact ih _ _ _ _ _ _ _ _ hP hS (lv_sub hl [1, 0, 2, 3] rfl) hm
set_option maxRecDepth 100000 in
set_option maxHeartbeats 4000000 in
theorem t_C0_settleEntries_L11 {p : Program} {l : Launch} {e : Env} {s : State} {m : MethodId} {args : Array Value} {below : List Frame} {meth : Method} {c : Code} {Q : State → Prop} {A : Nat → Prop} {D : va_G} {cI cJ cB cL cS cW : ClassId} {a wb sw se : Nat → Nat} {LW LS LK : List Nat} {c_bytes c_heads c_levelOf c_partings c_signs c_count c_pages c_levels c_most c_page c_known c_guess c_diff c_pieces c_place : Nat → Int32} {c_bits : Nat → Nat → Int64} {c_words : Nat → Nat → Nat} {c_entries : Nat → Nat → Int32} {c_bads c_noes c_fulls c_length c_next c_kept c_base c_from c_to c_above c_bit c_lastLeft : Int32} {o_firsts : Nat → Int32} {o_aboveOf : Nat → Int32} (C : k_C p s m args meth c cX0_settleEntries 4 none RX0 wsX0_settleEntries D (kT cI cJ cB cL cS cW) A) (hD : va_D A (WC0 a wb sw se LW LS LK cI cJ cB cL cS cW)) (hG : kG a LW LS LK) (hret : ∀ (H : Heap) (locs : List Loc) (pc : Nat) (ls : Array Slot), decode cX0_settleEntries pc = .ok (.return_, 1) → va_P D vwCl (WC a wb sw se LW LS LK cI cJ cB cL cS cW c_bytes c_heads o_firsts c_levelOf o_aboveOf c_partings c_signs c_count c_pages c_levels c_most c_page c_known c_guess c_diff c_pieces c_place c_bits c_words c_entries c_bads c_noes c_fulls c_length c_next c_kept c_base c_from c_to c_above c_bit c_lastLeft) H → va_S A s.heap H locs → W p l e { frames := 1, cells := 0, slots := 0, locals := 21 } s m args below meth c H locs 0 0 Q (F0 m pc ls [])) {k97 : (Nat → Int32) → (Nat → Int32) → Option ((Nat → Int32) × (Nat → Int32))} (hk97 : ∀ (c_firsts : (Nat → Int32)) (c_aboveOf : (Nat → Int32)) (H : Heap) (locs : List Loc) (ls : Array Slot), va_P D vwCl (WC a wb sw se LW LS LK cI cJ cB cL cS cW c_bytes c_heads c_firsts c_levelOf c_aboveOf c_partings c_signs c_count c_pages c_levels c_most c_page c_known c_guess c_diff c_pieces c_place c_bits c_words c_entries c_bads c_noes c_fulls c_length c_next c_kept c_base c_from c_to c_above c_bit c_lastLeft) H → va_S A s.heap H locs → lv_has ls 4 [] → k97 c_firsts c_aboveOf = some (o_firsts, o_aboveOf) → W p l e { frames := 1, cells := 0, slots := 0, locals := 21 } s m args below meth c H locs 0 0 Q (F0 m 97 ls [])) : ∀ n : Nat, ∀ (c_firsts : (Nat → Int32)) (c_aboveOf : (Nat → Int32)) (v1 : Int32) (v2 : Int32) (H : Heap) (locs : List Loc) (ls : Array Slot), va_P D vwCl (WC a wb sw se LW LS LK cI cJ cB cL cS cW c_bytes c_heads c_firsts c_levelOf c_aboveOf c_partings c_signs c_count c_pages c_levels c_most c_page c_known c_guess c_diff c_pieces c_place c_bits c_words c_entries c_bads c_noes c_fulls c_length c_next c_kept c_base c_from c_to c_above c_bit c_lastLeft) H → va_S A s.heap H locs → lv_has ls 4 [(0, .ref (a 3)), (1, .int v1), (2, .int v2)] → (C0_settleEntries_L11 a c_pages c_entries k97 n) c_firsts c_aboveOf v1 v2 = some (o_firsts, o_aboveOf) → W p l e { frames := 1, cells := 0, slots := 0, locals := 21 } s m args below meth c H locs 0 0 Q (F0 m 11 ls []) := by
  obtain ⟨hx, hb, hml, hr, hown, hts, hlocks, hK, hA, hN⟩ := id C
  intro n
  induction n with
  | zero =>
    intro c_firsts c_aboveOf v1 v2 H locs ls hP hS hl hm
    cases hm
  | succ n ih =>
    intro c_firsts c_aboveOf v1 v2 H locs ls hP hS hl hm
    rw [C0_settleEntries_L11] at hm
    refine lv_iload_n hx hb dX0_settleEntries_11 rfl (lv_at hl 2 rfl) ?_
    refine lv_aload_n hx hb dX0_settleEntries_12 rfl (lv_at hl 0 rfl) ?_
    refine kg (v := .ref (a 14)) hx hb hts hiX0_settleEntries_X0 hown hK hP 3 rfl rfl 0 (by decide) flX0_settleEntries_12 rfl rfl dX0_settleEntries_13 ?_
    obtain ⟨q, hq, -⟩ := WC_S hG hG.2.2.2.2.1
    refine kg (v := .int (c_pages (a 14))) hx hb hts hiX0_settleEntries_X3 hown hK hP q hq rfl 3 (by decide) flX0_settleEntries_45 rfl rfl dX0_settleEntries_16 ?_
    refine lv_icmp_ge (tgt := 97) hx hb dX0_settleEntries_19 (by decide) (fun hc => ?_) (fun hc => ?_)
    · have hm := if_t hc hm
      exact hk97 _ _ _ _ _ hP hS (lv_sub hl [] rfl) hm
    · have hm := if_f hc hm
      refine lv_iload_n hx hb dX0_settleEntries_22 rfl (lv_at hl 2 rfl) ?_
      refine lv_aload_n hx hb dX0_settleEntries_23 rfl (lv_at hl 0 rfl) ?_
      refine kg (v := .ref (a 5)) hx hb hts hiX0_settleEntries_X0 hown hK hP 3 rfl rfl 2 (by decide) flX0_settleEntries_22 rfl rfl dX0_settleEntries_24 ?_
      refine va_alen (v := 48) hx hb hK hP 5 0 rfl rfl rfl dX0_settleEntries_27 ?_
      refine lv_icmp_ge (tgt := 97) hx hb dX0_settleEntries_28 (by decide) (fun hc => ?_) (fun hc => ?_)
      · have hm := if_t hc hm
        exact hk97 _ _ _ _ _ hP hS (lv_sub hl [] rfl) hm
      · have hm := if_f hc hm
        refine lv_aload_n hx hb dX0_settleEntries_31 rfl (lv_at hl 0 rfl) ?_
        refine kg (v := .ref (a 5)) hx hb hts hiX0_settleEntries_X0 hown hK hP 3 rfl rfl 2 (by decide) flX0_settleEntries_22 rfl rfl dX0_settleEntries_32 ?_
        refine lv_iload_n hx hb dX0_settleEntries_35 rfl (lv_at hl 2 rfl) ?_
        refine lv_iload_n hx hb dX0_settleEntries_36 rfl (lv_at hl 1 rfl) ?_
        obtain ⟨hi, hm⟩ := ga_some hm
        refine k_iast hx hb hK hP (WCD hD) hS 5 0 rfl rfl rfl hi dX0_settleEntries_37 (fun H locs hP hS => ?_)
        have hP : va_P D vwCl (WC a wb sw se LW LS LK cI cJ cB cL cS cW c_bytes c_heads (upd c_firsts v2.toNatClampNeg v1) c_levelOf c_aboveOf c_partings c_signs c_count c_pages c_levels c_most c_page c_known c_guess c_diff c_pieces c_place c_bits c_words c_entries c_bads c_noes c_fulls c_length c_next c_kept c_base c_from c_to c_above c_bit c_lastLeft) H := hP
        refine lv_iload_n hx hb dX0_settleEntries_38 rfl (lv_at hl 1 rfl) ?_
        refine lv_aload_n hx hb dX0_settleEntries_39 rfl (lv_at hl 0 rfl) ?_
        refine kg (v := .ref (a 14)) hx hb hts hiX0_settleEntries_X0 hown hK hP 3 rfl rfl 0 (by decide) flX0_settleEntries_12 rfl rfl dX0_settleEntries_40 ?_
        refine lv_iload_n hx hb dX0_settleEntries_43 rfl (lv_at hl 2 rfl) ?_
        obtain ⟨r44, hq0, hm⟩ := bd1_some hm
        obtain ⟨q, hq, -⟩ := WC_S hG hG.2.2.2.2.1
        refine k_callVI (As := [.int v2]) (rest := [.int v1]) ⟨hx, hb, hml, hown, hts⟩ hK hA hN (c_X3_entriesOf hG hG.2.2.2.2.1 hq0) (cwV 1 hts gX0_settleEntries_X3_entriesOf rfl rfl rfl hdX3_entriesOf ⟨Nat.le_of_ble_eq_true rfl, Nat.le_of_ble_eq_true rfl⟩) hP (WCD hD) hS q 3 hq rfl rfl hl.1 rfl rfl (Nat.le_of_ble_eq_true rfl) ⟨Nat.zero_le _, Nat.zero_le _⟩ dX0_settleEntries_44 (fun H locs hP hS => ?_)
        refine lv_iadd hx hb dX0_settleEntries_47 ?_
        refine lv_istore_n (lv' := [(3, .int (v1 + r44)), (0, .ref (a 3)), (1, .int v1), (2, .int v2)]) hx hb dX0_settleEntries_48 rfl hl (by decide) rfl (fun ls hl => ?_)
        refine t_C0_settleEntries_L49 C hD hG hret ?_ FU _ _ _ _ _ _ _ _ hP hS (lv_sub hl [1, 2, 3, 0] rfl) hm
        · intro c_firsts c_aboveOf v1 v2 H locs ls hP hS hl hm
          try dsimp only at hm
          refine lv_iinc (v := (v2 + 1)) (lv' := [(2, .int (v2 + 1)), (0, .ref (a 3)), (1, .int v1)]) hx hb dX0_settleEntries_91 hl (k := 2) rfl rfl (by decide) rfl (fun ls hl => ?_)
          refine lv_goto (tgt := 11) hx hb dX0_settleEntries_94 (by decide) ?_
          exact ih _ _ _ _ _ _ _ hP hS (lv_sub hl [1, 2, 0] rfl) hm
set_option maxRecDepth 100000 in
set_option maxHeartbeats 4000000 in
theorem c_X0_settleEntries {l : Launch} {D : va_G} {cI cJ cB cL cS cW : ClassId} {a wb sw se : Nat → Nat} {LW LS LK : List Nat} {c_bytes c_heads c_firsts c_levelOf c_aboveOf c_partings c_signs c_count c_pages c_levels c_most c_page c_known c_guess c_diff c_pieces c_place : Nat → Int32} {c_bits : Nat → Nat → Int64} {c_words : Nat → Nat → Nat} {c_entries : Nat → Nat → Int32} {c_bads c_noes c_fulls c_length c_next c_kept c_base c_from c_to c_above c_bit c_lastLeft : Int32} {o_firsts : Nat → Int32} {o_aboveOf : Nat → Int32} (hG : kG a LW LS LK) (hm : C0_settleEntries a c_pages c_entries c_firsts c_aboveOf = some (o_firsts, o_aboveOf)) : k_MV l yX0_settleEntries wsX0_settleEntries { frames := 1, cells := 0, slots := 0, locals := 21 } D (kT cI cJ cB cL cS cW) [.ref (a 3)] (WC a wb sw se LW LS LK cI cJ cB cL cS cW c_bytes c_heads c_firsts c_levelOf c_aboveOf c_partings c_signs c_count c_pages c_levels c_most c_page c_known c_guess c_diff c_pieces c_place c_bits c_words c_entries c_bads c_noes c_fulls c_length c_next c_kept c_base c_from c_to c_above c_bit c_lastLeft) (WC a wb sw se LW LS LK cI cJ cB cL cS cW c_bytes c_heads o_firsts c_levelOf o_aboveOf c_partings c_signs c_count c_pages c_levels c_most c_page c_known c_guess c_diff c_pieces c_place c_bits c_words c_entries c_bads c_noes c_fulls c_length c_next c_kept c_base c_from c_to c_above c_bit c_lastLeft) := by
  refine k_ofV (cc := cX0_settleEntries) (maxL := 4) (own := RX0) (by decide) rfl rfl (Nat.le_of_ble_eq_true rfl) ?_
  intro p e s m args below meth c A Q ls C hP hD hl hret
  have hD : va_D A (WC0 a wb sw se LW LS LK cI cJ cB cL cS cW) := WCD hD
  have hS : va_S A s.heap s.heap [] := va_S.rf
  have hl : lv_has ls 4 [(0, .ref (a 3))] := hl
  obtain ⟨hx, hb, hml, hr, hown, hts, hlocks, hK, hA, hN⟩ := id C
  rw [C0_settleEntries] at hm
  refine lv_iconst (v := 1) hx hb dX0_settleEntries_0 (by decide) ?_
  refine lv_istore_n (lv' := [(1, .int 1), (0, .ref (a 3))]) hx hb dX0_settleEntries_1 rfl hl (by decide) rfl (fun ls hl => ?_)
  refine lv_aload_n hx hb dX0_settleEntries_2 rfl (lv_at hl 1 rfl) ?_
  refine kg (v := .ref (a 7)) hx hb hts hiX0_settleEntries_X0 hown hK hP 3 rfl rfl 4 (by decide) flX0_settleEntries_28 rfl rfl dX0_settleEntries_3 ?_
  refine lv_iconst (v := 0) hx hb dX0_settleEntries_6 (by decide) ?_
  refine lv_iconst (v := (-1)) hx hb dX0_settleEntries_7 (by decide) ?_
  refine k_iast (j := 0) hx hb hK hP (WCD hD) hS 7 0 rfl rfl rfl (vp_lit (by decide)) dX0_settleEntries_8 (fun H locs hP hS => ?_)
  have hP : va_P D vwCl (WC a wb sw se LW LS LK cI cJ cB cL cS cW c_bytes c_heads c_firsts c_levelOf (upd c_aboveOf 0 (-1)) c_partings c_signs c_count c_pages c_levels c_most c_page c_known c_guess c_diff c_pieces c_place c_bits c_words c_entries c_bads c_noes c_fulls c_length c_next c_kept c_base c_from c_to c_above c_bit c_lastLeft) H := hP
  refine lv_iconst (v := 0) hx hb dX0_settleEntries_9 (by decide) ?_
  refine lv_istore_n (lv' := [(2, .int 0), (1, .int 1), (0, .ref (a 3))]) hx hb dX0_settleEntries_10 rfl hl (by decide) rfl (fun ls hl => ?_)
  refine t_C0_settleEntries_L11 C hD hG hret ?_ FU _ _ _ _ _ _ _ hP hS (lv_sub hl [2, 1, 0] rfl) hm
  · intro c_firsts c_aboveOf H locs ls hP hS hl hm
    try dsimp only at hm
    simp only [Option.some.injEq, Prod.mk.injEq] at hm
    obtain ⟨rfl, rfl⟩ := hm
    exact hret _ _ _ _ dX0_settleEntries_97 hP hS
theorem hdX0_levelAt : yX0_levelAt.cls = RX0 ∧ yX0_levelAt.cls ≠ "java/lang/invoke/MethodHandle" ∧ yX0_levelAt.cls ≠ "java/lang/invoke/VarHandle" ∧ (parseMethodDescriptor yX0_levelAt.desc).map (fun d => d.parameters.length) = some 1 := by decide +kernel
theorem hiX0_levelAt_X0 : ∀ w ∈ u_ws RX0 TX0 7, w ∈ wsX0_levelAt := by decide +kernel
theorem flX0_levelAt_25 : Cond.fieldLink RX0 25 "BlindPages$Index" "levelOf" "[I" ∈ wsX0_levelAt := by decide +kernel
def C0_levelAt (c_levelOf : Nat → Int32) (v1 : Int32) : Option (Int32) := if v1 < 0 then (some 0) else (if 48 ≤ v1 then (some 0) else (ga v1 48 (some (c_levelOf v1.toNatClampNeg))))
set_option maxRecDepth 100000 in
set_option maxHeartbeats 4000000 in
theorem c_X0_levelAt {l : Launch} {D : va_G} {cI cJ cB cL cS cW : ClassId} {a wb sw se : Nat → Nat} {LW LS LK : List Nat} {c_bytes c_heads c_firsts c_levelOf c_aboveOf c_partings c_signs c_count c_pages c_levels c_most c_page c_known c_guess c_diff c_pieces c_place : Nat → Int32} {c_bits : Nat → Nat → Int64} {c_words : Nat → Nat → Nat} {c_entries : Nat → Nat → Int32} {c_bads c_noes c_fulls c_length c_next c_kept c_base c_from c_to c_above c_bit c_lastLeft : Int32} {v1 : Int32} {r : Int32} (hG : kG a LW LS LK) (hm : C0_levelAt c_levelOf v1 = some r) : k_MI l yX0_levelAt wsX0_levelAt { frames := 0, cells := 0, slots := 0, locals := 0 } D (kT cI cJ cB cL cS cW) [.ref (a 3), .int v1] (WC a wb sw se LW LS LK cI cJ cB cL cS cW c_bytes c_heads c_firsts c_levelOf c_aboveOf c_partings c_signs c_count c_pages c_levels c_most c_page c_known c_guess c_diff c_pieces c_place c_bits c_words c_entries c_bads c_noes c_fulls c_length c_next c_kept c_base c_from c_to c_above c_bit c_lastLeft) r (WC a wb sw se LW LS LK cI cJ cB cL cS cW c_bytes c_heads c_firsts c_levelOf c_aboveOf c_partings c_signs c_count c_pages c_levels c_most c_page c_known c_guess c_diff c_pieces c_place c_bits c_words c_entries c_bads c_noes c_fulls c_length c_next c_kept c_base c_from c_to c_above c_bit c_lastLeft) := by
  refine k_ofI (cc := cX0_levelAt) (maxL := 2) (own := RX0) (by decide) rfl rfl (Nat.le_of_ble_eq_true rfl) ?_
  intro p e s m args below meth c A Q ls C hP hD hl hret
  have hD : va_D A (WC0 a wb sw se LW LS LK cI cJ cB cL cS cW) := WCD hD
  have hS : va_S A s.heap s.heap [] := va_S.rf
  have hl : lv_has ls 2 [(0, .ref (a 3)), (1, .int v1)] := hl
  obtain ⟨hx, hb, hml, hr, hown, hts, hlocks, hK, hA, hN⟩ := id C
  rw [C0_levelAt] at hm
  refine lv_iload_n hx hb dX0_levelAt_0 rfl (lv_at hl 1 rfl) ?_
  refine lv_if_lt (tgt := 22) hx hb dX0_levelAt_1 (by decide) (fun hc => ?_) (fun hc => ?_)
  · have hm := if_t hc hm
    refine lv_iconst (v := 0) hx hb dX0_levelAt_22 (by decide) ?_
    obtain rfl := Option.some.inj hm
    exact hret _ _ _ _ dX0_levelAt_23 hP hS
  · have hm := if_f hc hm
    refine lv_iload_n hx hb dX0_levelAt_4 rfl (lv_at hl 1 rfl) ?_
    refine lv_aload_n hx hb dX0_levelAt_5 rfl (lv_at hl 0 rfl) ?_
    refine kg (v := .ref (a 6)) hx hb hts hiX0_levelAt_X0 hown hK hP 3 rfl rfl 3 (by decide) flX0_levelAt_25 rfl rfl dX0_levelAt_6 ?_
    refine va_alen (v := 48) hx hb hK hP 6 0 rfl rfl rfl dX0_levelAt_9 ?_
    refine lv_icmp_ge (tgt := 22) hx hb dX0_levelAt_10 (by decide) (fun hc => ?_) (fun hc => ?_)
    · have hm := if_t hc hm
      refine lv_iconst (v := 0) hx hb dX0_levelAt_22 (by decide) ?_
      obtain rfl := Option.some.inj hm
      exact hret _ _ _ _ dX0_levelAt_23 hP hS
    · have hm := if_f hc hm
      refine lv_aload_n hx hb dX0_levelAt_13 rfl (lv_at hl 0 rfl) ?_
      refine kg (v := .ref (a 6)) hx hb hts hiX0_levelAt_X0 hown hK hP 3 rfl rfl 3 (by decide) flX0_levelAt_25 rfl rfl dX0_levelAt_14 ?_
      refine lv_iload_n hx hb dX0_levelAt_17 rfl (lv_at hl 1 rfl) ?_
      obtain ⟨hi, hm⟩ := ga_some hm
      refine k_iald hx hb hK hP 6 0 rfl rfl rfl hi dX0_levelAt_18 ?_
      refine lv_goto (tgt := 23) hx hb dX0_levelAt_19 (by decide) ?_
      obtain rfl := Option.some.inj hm
      exact hret _ _ _ _ dX0_levelAt_23 hP hS
theorem hdX0_settleHeads : yX0_settleHeads.cls = RX0 ∧ yX0_settleHeads.cls ≠ "java/lang/invoke/MethodHandle" ∧ yX0_settleHeads.cls ≠ "java/lang/invoke/VarHandle" ∧ (parseMethodDescriptor yX0_settleHeads.desc).map (fun d => d.parameters.length) = some 0 := by decide +kernel
theorem hiX0_settleHeads_X0 : ∀ w ∈ u_ws RX0 TX0 7, w ∈ wsX0_settleHeads := by decide +kernel
theorem hiX0_settleHeads_X3 : ∀ w ∈ u_ws RX3 TX3 6, w ∈ wsX0_settleHeads := by decide +kernel
theorem flX0_settleHeads_12 : Cond.fieldLink RX0 12 "BlindPages$Index" "now" "LBlindPages$State;" ∈ wsX0_settleHeads := by decide +kernel
theorem flX0_settleHeads_63 : Cond.fieldLink RX0 63 "BlindPages$State" "count" "I" ∈ wsX0_settleHeads := by decide +kernel
theorem flX0_settleHeads_45 : Cond.fieldLink RX0 45 "BlindPages$State" "pages" "I" ∈ wsX0_settleHeads := by decide +kernel
theorem flX0_settleHeads_18 : Cond.fieldLink RX0 18 "BlindPages$Index" "heads" "[I" ∈ wsX0_settleHeads := by decide +kernel
theorem flX0_settleHeads_25 : Cond.fieldLink RX0 25 "BlindPages$Index" "levelOf" "[I" ∈ wsX0_settleHeads := by decide +kernel
def C0_settleHeads_L2 (a : Nat → Nat) (c_firsts c_count c_pages : Nat → Int32) (k51 : (Nat → Int32) → (Nat → Int32) → Option ((Nat → Int32) × (Nat → Int32))) : Nat → (Nat → Int32) → (Nat → Int32) → Int32 → Option ((Nat → Int32) × (Nat → Int32))
  | 0, _, _, _ => none
  | n + 1, c_heads, c_levelOf, v1 => if (c_count (a 14)) ≤ v1 then (k51 c_heads c_levelOf) else (if 96 ≤ ((c_pages (a 14)) + v1) then (k51 c_heads c_levelOf) else (ga ((c_pages (a 14)) + v1) 96 (C0_settleHeads_L2 a c_firsts c_count c_pages k51 n (upd c_heads ((c_pages (a 14)) + v1).toNatClampNeg v1) c_levelOf (v1 + 1))))
def C0_settleHeads_L66 (a : Nat → Nat) (c_firsts c_count c_pages : Nat → Int32) (k121 : (Nat → Int32) → (Nat → Int32) → Option ((Nat → Int32) × (Nat → Int32))) : Nat → (Nat → Int32) → (Nat → Int32) → Int32 → Option ((Nat → Int32) × (Nat → Int32))
  | 0, _, _, _ => none
  | n + 1, c_heads, c_levelOf, v1 => if v1 < 0 then (k121 c_heads c_levelOf) else (bd1 (C0_firstOf c_firsts v1) fun r72 => bd1 (C0_headOf c_heads r72) fun r83 => ga v1 96 (if (c_pages (a 14)) ≤ r72 then (ga v1 48 (C0_settleHeads_L66 a c_firsts c_count c_pages k121 n (upd c_heads v1.toNatClampNeg r83) (upd c_levelOf v1.toNatClampNeg 0) (v1 + (-1)))) else (bd1 (C0_levelAt c_levelOf r72) fun r105 => ga v1 48 (C0_settleHeads_L66 a c_firsts c_count c_pages k121 n (upd c_heads v1.toNatClampNeg r83) (upd c_levelOf v1.toNatClampNeg (r105 + 1)) (v1 + (-1))))))
def C0_settleHeads_J51 (a : Nat → Nat) (c_firsts c_count c_pages : Nat → Int32) (c_heads : (Nat → Int32)) (c_levelOf : (Nat → Int32)) : Option ((Nat → Int32) × (Nat → Int32)) := C0_settleHeads_L66 a c_firsts c_count c_pages (fun c_heads c_levelOf => some (c_heads, c_levelOf)) FU c_heads c_levelOf ((if 48 < (c_pages (a 14)) then 48 else (c_pages (a 14))) - 1)
def C0_settleHeads (a : Nat → Nat) (c_firsts c_count c_pages : Nat → Int32) (c_heads c_levelOf : Nat → Int32) : Option ((Nat → Int32) × (Nat → Int32)) := C0_settleHeads_L2 a c_firsts c_count c_pages (fun c_heads c_levelOf => C0_settleHeads_J51 a c_firsts c_count c_pages c_heads c_levelOf) FU c_heads c_levelOf 0
set_option maxRecDepth 100000 in
set_option maxHeartbeats 4000000 in
theorem t_C0_settleHeads_L2 {p : Program} {l : Launch} {e : Env} {s : State} {m : MethodId} {args : Array Value} {below : List Frame} {meth : Method} {c : Code} {Q : State → Prop} {A : Nat → Prop} {D : va_G} {cI cJ cB cL cS cW : ClassId} {a wb sw se : Nat → Nat} {LW LS LK : List Nat} {c_bytes c_firsts c_aboveOf c_partings c_signs c_count c_pages c_levels c_most c_page c_known c_guess c_diff c_pieces c_place : Nat → Int32} {c_bits : Nat → Nat → Int64} {c_words : Nat → Nat → Nat} {c_entries : Nat → Nat → Int32} {c_bads c_noes c_fulls c_length c_next c_kept c_base c_from c_to c_above c_bit c_lastLeft : Int32} {o_heads : Nat → Int32} {o_levelOf : Nat → Int32} (C : k_C p s m args meth c cX0_settleHeads 3 none RX0 wsX0_settleHeads D (kT cI cJ cB cL cS cW) A) (hD : va_D A (WC0 a wb sw se LW LS LK cI cJ cB cL cS cW)) (hG : kG a LW LS LK) (hret : ∀ (H : Heap) (locs : List Loc) (pc : Nat) (ls : Array Slot), decode cX0_settleHeads pc = .ok (.return_, 1) → va_P D vwCl (WC a wb sw se LW LS LK cI cJ cB cL cS cW c_bytes o_heads c_firsts o_levelOf c_aboveOf c_partings c_signs c_count c_pages c_levels c_most c_page c_known c_guess c_diff c_pieces c_place c_bits c_words c_entries c_bads c_noes c_fulls c_length c_next c_kept c_base c_from c_to c_above c_bit c_lastLeft) H → va_S A s.heap H locs → W p l e { frames := 1, cells := 0, slots := 0, locals := 30 } s m args below meth c H locs 0 0 Q (F0 m pc ls [])) {k51 : (Nat → Int32) → (Nat → Int32) → Option ((Nat → Int32) × (Nat → Int32))} (hk51 : ∀ (c_heads : (Nat → Int32)) (c_levelOf : (Nat → Int32)) (H : Heap) (locs : List Loc) (ls : Array Slot), va_P D vwCl (WC a wb sw se LW LS LK cI cJ cB cL cS cW c_bytes c_heads c_firsts c_levelOf c_aboveOf c_partings c_signs c_count c_pages c_levels c_most c_page c_known c_guess c_diff c_pieces c_place c_bits c_words c_entries c_bads c_noes c_fulls c_length c_next c_kept c_base c_from c_to c_above c_bit c_lastLeft) H → va_S A s.heap H locs → lv_has ls 3 [(0, .ref (a 3))] → k51 c_heads c_levelOf = some (o_heads, o_levelOf) → W p l e { frames := 1, cells := 0, slots := 0, locals := 30 } s m args below meth c H locs 0 0 Q (F0 m 51 ls [])) : ∀ n : Nat, ∀ (c_heads : (Nat → Int32)) (c_levelOf : (Nat → Int32)) (v1 : Int32) (H : Heap) (locs : List Loc) (ls : Array Slot), va_P D vwCl (WC a wb sw se LW LS LK cI cJ cB cL cS cW c_bytes c_heads c_firsts c_levelOf c_aboveOf c_partings c_signs c_count c_pages c_levels c_most c_page c_known c_guess c_diff c_pieces c_place c_bits c_words c_entries c_bads c_noes c_fulls c_length c_next c_kept c_base c_from c_to c_above c_bit c_lastLeft) H → va_S A s.heap H locs → lv_has ls 3 [(0, .ref (a 3)), (1, .int v1)] → (C0_settleHeads_L2 a c_firsts c_count c_pages k51 n) c_heads c_levelOf v1 = some (o_heads, o_levelOf) → W p l e { frames := 1, cells := 0, slots := 0, locals := 30 } s m args below meth c H locs 0 0 Q (F0 m 2 ls []) := by
  obtain ⟨hx, hb, hml, hr, hown, hts, hlocks, hK, hA, hN⟩ := id C
  intro n
  induction n with
  | zero =>
    intro c_heads c_levelOf v1 H locs ls hP hS hl hm
    cases hm
  | succ n ih =>
    intro c_heads c_levelOf v1 H locs ls hP hS hl hm
    rw [C0_settleHeads_L2] at hm
    refine lv_iload_n hx hb dX0_settleHeads_2 rfl (lv_at hl 1 rfl) ?_
    refine lv_aload_n hx hb dX0_settleHeads_3 rfl (lv_at hl 0 rfl) ?_
    refine kg (v := .ref (a 14)) hx hb hts hiX0_settleHeads_X0 hown hK hP 3 rfl rfl 0 (by decide) flX0_settleHeads_12 rfl rfl dX0_settleHeads_4 ?_
    obtain ⟨q, hq, -⟩ := WC_S hG hG.2.2.2.2.1
    refine kg (v := .int (c_count (a 14))) hx hb hts hiX0_settleHeads_X3 hown hK hP q hq rfl 2 (by decide) flX0_settleHeads_63 rfl rfl dX0_settleHeads_7 ?_
    refine lv_icmp_ge (tgt := 51) hx hb dX0_settleHeads_10 (by decide) (fun hc => ?_) (fun hc => ?_)
    · have hm := if_t hc hm
      exact hk51 _ _ _ _ _ hP hS (lv_sub hl [0] rfl) hm
    · have hm := if_f hc hm
      refine lv_aload_n hx hb dX0_settleHeads_13 rfl (lv_at hl 0 rfl) ?_
      refine kg (v := .ref (a 14)) hx hb hts hiX0_settleHeads_X0 hown hK hP 3 rfl rfl 0 (by decide) flX0_settleHeads_12 rfl rfl dX0_settleHeads_14 ?_
      obtain ⟨q, hq, -⟩ := WC_S hG hG.2.2.2.2.1
      refine kg (v := .int (c_pages (a 14))) hx hb hts hiX0_settleHeads_X3 hown hK hP q hq rfl 3 (by decide) flX0_settleHeads_45 rfl rfl dX0_settleHeads_17 ?_
      refine lv_iload_n hx hb dX0_settleHeads_20 rfl (lv_at hl 1 rfl) ?_
      refine lv_iadd hx hb dX0_settleHeads_21 ?_
      refine lv_aload_n hx hb dX0_settleHeads_22 rfl (lv_at hl 0 rfl) ?_
      refine kg (v := .ref (a 4)) hx hb hts hiX0_settleHeads_X0 hown hK hP 3 rfl rfl 1 (by decide) flX0_settleHeads_18 rfl rfl dX0_settleHeads_23 ?_
      refine va_alen (v := 96) hx hb hK hP 4 0 rfl rfl rfl dX0_settleHeads_26 ?_
      refine lv_icmp_ge (tgt := 51) hx hb dX0_settleHeads_27 (by decide) (fun hc => ?_) (fun hc => ?_)
      · have hm := if_t hc hm
        exact hk51 _ _ _ _ _ hP hS (lv_sub hl [0] rfl) hm
      · have hm := if_f hc hm
        refine lv_aload_n hx hb dX0_settleHeads_30 rfl (lv_at hl 0 rfl) ?_
        refine kg (v := .ref (a 4)) hx hb hts hiX0_settleHeads_X0 hown hK hP 3 rfl rfl 1 (by decide) flX0_settleHeads_18 rfl rfl dX0_settleHeads_31 ?_
        refine lv_aload_n hx hb dX0_settleHeads_34 rfl (lv_at hl 0 rfl) ?_
        refine kg (v := .ref (a 14)) hx hb hts hiX0_settleHeads_X0 hown hK hP 3 rfl rfl 0 (by decide) flX0_settleHeads_12 rfl rfl dX0_settleHeads_35 ?_
        obtain ⟨q, hq, -⟩ := WC_S hG hG.2.2.2.2.1
        refine kg (v := .int (c_pages (a 14))) hx hb hts hiX0_settleHeads_X3 hown hK hP q hq rfl 3 (by decide) flX0_settleHeads_45 rfl rfl dX0_settleHeads_38 ?_
        refine lv_iload_n hx hb dX0_settleHeads_41 rfl (lv_at hl 1 rfl) ?_
        refine lv_iadd hx hb dX0_settleHeads_42 ?_
        refine lv_iload_n hx hb dX0_settleHeads_43 rfl (lv_at hl 1 rfl) ?_
        obtain ⟨hi, hm⟩ := ga_some hm
        refine k_iast hx hb hK hP (WCD hD) hS 4 0 rfl rfl rfl hi dX0_settleHeads_44 (fun H locs hP hS => ?_)
        have hP : va_P D vwCl (WC a wb sw se LW LS LK cI cJ cB cL cS cW c_bytes (upd c_heads ((c_pages (a 14)) + v1).toNatClampNeg v1) c_firsts c_levelOf c_aboveOf c_partings c_signs c_count c_pages c_levels c_most c_page c_known c_guess c_diff c_pieces c_place c_bits c_words c_entries c_bads c_noes c_fulls c_length c_next c_kept c_base c_from c_to c_above c_bit c_lastLeft) H := hP
        refine lv_iinc (v := (v1 + 1)) (lv' := [(1, .int (v1 + 1)), (0, .ref (a 3))]) hx hb dX0_settleHeads_45 hl (k := 1) rfl rfl (by decide) rfl (fun ls hl => ?_)
        refine lv_goto (tgt := 2) hx hb dX0_settleHeads_48 (by decide) ?_
        exact ih _ _ _ _ _ _ hP hS (lv_sub hl [1, 0] rfl) hm
set_option maxRecDepth 100000 in
set_option maxHeartbeats 4000000 in
theorem t_C0_settleHeads_L66 {p : Program} {l : Launch} {e : Env} {s : State} {m : MethodId} {args : Array Value} {below : List Frame} {meth : Method} {c : Code} {Q : State → Prop} {A : Nat → Prop} {D : va_G} {cI cJ cB cL cS cW : ClassId} {a wb sw se : Nat → Nat} {LW LS LK : List Nat} {c_bytes c_firsts c_aboveOf c_partings c_signs c_count c_pages c_levels c_most c_page c_known c_guess c_diff c_pieces c_place : Nat → Int32} {c_bits : Nat → Nat → Int64} {c_words : Nat → Nat → Nat} {c_entries : Nat → Nat → Int32} {c_bads c_noes c_fulls c_length c_next c_kept c_base c_from c_to c_above c_bit c_lastLeft : Int32} {o_heads : Nat → Int32} {o_levelOf : Nat → Int32} (C : k_C p s m args meth c cX0_settleHeads 3 none RX0 wsX0_settleHeads D (kT cI cJ cB cL cS cW) A) (hD : va_D A (WC0 a wb sw se LW LS LK cI cJ cB cL cS cW)) (hG : kG a LW LS LK) (hret : ∀ (H : Heap) (locs : List Loc) (pc : Nat) (ls : Array Slot), decode cX0_settleHeads pc = .ok (.return_, 1) → va_P D vwCl (WC a wb sw se LW LS LK cI cJ cB cL cS cW c_bytes o_heads c_firsts o_levelOf c_aboveOf c_partings c_signs c_count c_pages c_levels c_most c_page c_known c_guess c_diff c_pieces c_place c_bits c_words c_entries c_bads c_noes c_fulls c_length c_next c_kept c_base c_from c_to c_above c_bit c_lastLeft) H → va_S A s.heap H locs → W p l e { frames := 1, cells := 0, slots := 0, locals := 30 } s m args below meth c H locs 0 0 Q (F0 m pc ls [])) {k121 : (Nat → Int32) → (Nat → Int32) → Option ((Nat → Int32) × (Nat → Int32))} (hk121 : ∀ (c_heads : (Nat → Int32)) (c_levelOf : (Nat → Int32)) (H : Heap) (locs : List Loc) (ls : Array Slot), va_P D vwCl (WC a wb sw se LW LS LK cI cJ cB cL cS cW c_bytes c_heads c_firsts c_levelOf c_aboveOf c_partings c_signs c_count c_pages c_levels c_most c_page c_known c_guess c_diff c_pieces c_place c_bits c_words c_entries c_bads c_noes c_fulls c_length c_next c_kept c_base c_from c_to c_above c_bit c_lastLeft) H → va_S A s.heap H locs → lv_has ls 3 [] → k121 c_heads c_levelOf = some (o_heads, o_levelOf) → W p l e { frames := 1, cells := 0, slots := 0, locals := 30 } s m args below meth c H locs 0 0 Q (F0 m 121 ls [])) : ∀ n : Nat, ∀ (c_heads : (Nat → Int32)) (c_levelOf : (Nat → Int32)) (v1 : Int32) (H : Heap) (locs : List Loc) (ls : Array Slot), va_P D vwCl (WC a wb sw se LW LS LK cI cJ cB cL cS cW c_bytes c_heads c_firsts c_levelOf c_aboveOf c_partings c_signs c_count c_pages c_levels c_most c_page c_known c_guess c_diff c_pieces c_place c_bits c_words c_entries c_bads c_noes c_fulls c_length c_next c_kept c_base c_from c_to c_above c_bit c_lastLeft) H → va_S A s.heap H locs → lv_has ls 3 [(0, .ref (a 3)), (1, .int v1)] → (C0_settleHeads_L66 a c_firsts c_count c_pages k121 n) c_heads c_levelOf v1 = some (o_heads, o_levelOf) → W p l e { frames := 1, cells := 0, slots := 0, locals := 30 } s m args below meth c H locs 0 0 Q (F0 m 66 ls []) := by
  obtain ⟨hx, hb, hml, hr, hown, hts, hlocks, hK, hA, hN⟩ := id C
  intro n
  induction n with
  | zero =>
    intro c_heads c_levelOf v1 H locs ls hP hS hl hm
    cases hm
  | succ n ih =>
    intro c_heads c_levelOf v1 H locs ls hP hS hl hm
    rw [C0_settleHeads_L66] at hm
    refine lv_iload_n hx hb dX0_settleHeads_66 rfl (lv_at hl 1 rfl) ?_
    refine lv_if_lt (tgt := 121) hx hb dX0_settleHeads_67 (by decide) (fun hc => ?_) (fun hc => ?_)
    · have hm := if_t hc hm
      exact hk121 _ _ _ _ _ hP hS (lv_sub hl [] rfl) hm
    · have hm := if_f hc hm
      refine lv_aload_n hx hb dX0_settleHeads_70 rfl (lv_at hl 0 rfl) ?_
      refine lv_iload_n hx hb dX0_settleHeads_71 rfl (lv_at hl 1 rfl) ?_
      obtain ⟨r72, hq0, hm⟩ := bd1_some hm
      refine k_callVI (As := [.int v1]) (rest := []) ⟨hx, hb, hml, hown, hts⟩ hK hA hN (c_X0_firstOf hG hq0) (cwV 1 hts gX0_settleHeads_X0_firstOf rfl rfl rfl hdX0_firstOf ⟨Nat.le_of_ble_eq_true rfl, Nat.le_of_ble_eq_true rfl⟩) hP (WCD hD) hS 3 0 rfl rfl rfl hl.1 rfl rfl (Nat.le_of_ble_eq_true rfl) ⟨Nat.zero_le _, Nat.zero_le _⟩ dX0_settleHeads_72 (fun H locs hP hS => ?_)
      refine lv_istore_n (lv' := [(2, .int r72), (0, .ref (a 3)), (1, .int v1)]) hx hb dX0_settleHeads_75 rfl hl (by decide) rfl (fun ls hl => ?_)
      refine lv_aload_n hx hb dX0_settleHeads_76 rfl (lv_at hl 1 rfl) ?_
      refine kg (v := .ref (a 4)) hx hb hts hiX0_settleHeads_X0 hown hK hP 3 rfl rfl 1 (by decide) flX0_settleHeads_18 rfl rfl dX0_settleHeads_77 ?_
      refine lv_iload_n hx hb dX0_settleHeads_80 rfl (lv_at hl 2 rfl) ?_
      refine lv_aload_n hx hb dX0_settleHeads_81 rfl (lv_at hl 1 rfl) ?_
      refine lv_iload_n hx hb dX0_settleHeads_82 rfl (lv_at hl 0 rfl) ?_
      obtain ⟨r83, hq0, hm⟩ := bd1_some hm
      refine k_callVI (As := [.int r72]) (rest := [.int v1, .ref (a 4)]) ⟨hx, hb, hml, hown, hts⟩ hK hA hN (c_X0_headOf hG hq0) (cwV 1 hts gX0_settleHeads_X0_headOf rfl rfl rfl hdX0_headOf ⟨Nat.le_of_ble_eq_true rfl, Nat.le_of_ble_eq_true rfl⟩) hP (WCD hD) hS 3 0 rfl rfl rfl hl.1 rfl rfl (Nat.le_of_ble_eq_true rfl) ⟨Nat.zero_le _, Nat.zero_le _⟩ dX0_settleHeads_83 (fun H locs hP hS => ?_)
      obtain ⟨hi, hm⟩ := ga_some hm
      refine k_iast hx hb hK hP (WCD hD) hS 4 0 rfl rfl rfl hi dX0_settleHeads_86 (fun H locs hP hS => ?_)
      have hP : va_P D vwCl (WC a wb sw se LW LS LK cI cJ cB cL cS cW c_bytes (upd c_heads v1.toNatClampNeg r83) c_firsts c_levelOf c_aboveOf c_partings c_signs c_count c_pages c_levels c_most c_page c_known c_guess c_diff c_pieces c_place c_bits c_words c_entries c_bads c_noes c_fulls c_length c_next c_kept c_base c_from c_to c_above c_bit c_lastLeft) H := hP
      refine lv_aload_n hx hb dX0_settleHeads_87 rfl (lv_at hl 1 rfl) ?_
      refine kg (v := .ref (a 6)) hx hb hts hiX0_settleHeads_X0 hown hK hP 3 rfl rfl 3 (by decide) flX0_settleHeads_25 rfl rfl dX0_settleHeads_88 ?_
      refine lv_iload_n hx hb dX0_settleHeads_91 rfl (lv_at hl 2 rfl) ?_
      refine lv_iload_n hx hb dX0_settleHeads_92 rfl (lv_at hl 0 rfl) ?_
      refine lv_aload_n hx hb dX0_settleHeads_93 rfl (lv_at hl 1 rfl) ?_
      refine kg (v := .ref (a 14)) hx hb hts hiX0_settleHeads_X0 hown hK hP 3 rfl rfl 0 (by decide) flX0_settleHeads_12 rfl rfl dX0_settleHeads_94 ?_
      obtain ⟨q, hq, -⟩ := WC_S hG hG.2.2.2.2.1
      refine kg (v := .int (c_pages (a 14))) hx hb hts hiX0_settleHeads_X3 hown hK hP q hq rfl 3 (by decide) flX0_settleHeads_45 rfl rfl dX0_settleHeads_97 ?_
      refine lv_icmp_ge (tgt := 113) hx hb dX0_settleHeads_100 (by decide) (fun hc => ?_) (fun hc => ?_)
      · have hm := if_t hc hm
        refine lv_iconst (v := 0) hx hb dX0_settleHeads_113 (by decide) ?_
        obtain ⟨hi, hm⟩ := ga_some hm
        refine k_iast hx hb hK hP (WCD hD) hS 6 0 rfl rfl rfl hi dX0_settleHeads_114 (fun H locs hP hS => ?_)
        have hP : va_P D vwCl (WC a wb sw se LW LS LK cI cJ cB cL cS cW c_bytes (upd c_heads v1.toNatClampNeg r83) c_firsts (upd c_levelOf v1.toNatClampNeg 0) c_aboveOf c_partings c_signs c_count c_pages c_levels c_most c_page c_known c_guess c_diff c_pieces c_place c_bits c_words c_entries c_bads c_noes c_fulls c_length c_next c_kept c_base c_from c_to c_above c_bit c_lastLeft) H := hP
        refine lv_iinc (v := (v1 + (-1))) (lv' := [(1, .int (v1 + (-1))), (2, .int r72), (0, .ref (a 3))]) hx hb dX0_settleHeads_115 hl (k := 2) rfl rfl (by decide) rfl (fun ls hl => ?_)
        refine lv_goto (tgt := 66) hx hb dX0_settleHeads_118 (by decide) ?_
        exact ih _ _ _ _ _ _ hP hS (lv_sub hl [2, 0] rfl) hm
      · have hm := if_f hc hm
        refine lv_aload_n hx hb dX0_settleHeads_103 rfl (lv_at hl 1 rfl) ?_
        refine lv_iload_n hx hb dX0_settleHeads_104 rfl (lv_at hl 0 rfl) ?_
        obtain ⟨r105, hq0, hm⟩ := bd1_some hm
        refine k_callVI (As := [.int r72]) (rest := [.int v1, .ref (a 6)]) ⟨hx, hb, hml, hown, hts⟩ hK hA hN (c_X0_levelAt hG hq0) (cwV 1 hts gX0_settleHeads_X0_levelAt rfl rfl rfl hdX0_levelAt ⟨Nat.le_of_ble_eq_true rfl, Nat.le_of_ble_eq_true rfl⟩) hP (WCD hD) hS 3 0 rfl rfl rfl hl.1 rfl rfl (Nat.le_of_ble_eq_true rfl) ⟨Nat.zero_le _, Nat.zero_le _⟩ dX0_settleHeads_105 (fun H locs hP hS => ?_)
        refine lv_iconst (v := 1) hx hb dX0_settleHeads_108 (by decide) ?_
        refine lv_iadd hx hb dX0_settleHeads_109 ?_
        refine lv_goto (tgt := 114) hx hb dX0_settleHeads_110 (by decide) ?_
        obtain ⟨hi, hm⟩ := ga_some hm
        refine k_iast hx hb hK hP (WCD hD) hS 6 0 rfl rfl rfl hi dX0_settleHeads_114 (fun H locs hP hS => ?_)
        have hP : va_P D vwCl (WC a wb sw se LW LS LK cI cJ cB cL cS cW c_bytes (upd c_heads v1.toNatClampNeg r83) c_firsts (upd c_levelOf v1.toNatClampNeg (r105 + 1)) c_aboveOf c_partings c_signs c_count c_pages c_levels c_most c_page c_known c_guess c_diff c_pieces c_place c_bits c_words c_entries c_bads c_noes c_fulls c_length c_next c_kept c_base c_from c_to c_above c_bit c_lastLeft) H := hP
        refine lv_iinc (v := (v1 + (-1))) (lv' := [(1, .int (v1 + (-1))), (2, .int r72), (0, .ref (a 3))]) hx hb dX0_settleHeads_115 hl (k := 2) rfl rfl (by decide) rfl (fun ls hl => ?_)
        refine lv_goto (tgt := 66) hx hb dX0_settleHeads_118 (by decide) ?_
        exact ih _ _ _ _ _ _ hP hS (lv_sub hl [2, 0] rfl) hm
set_option maxRecDepth 100000 in
set_option maxHeartbeats 4000000 in
theorem t_C0_settleHeads_J51 {p : Program} {l : Launch} {e : Env} {s : State} {m : MethodId} {args : Array Value} {below : List Frame} {meth : Method} {c : Code} {Q : State → Prop} {A : Nat → Prop} {D : va_G} {cI cJ cB cL cS cW : ClassId} {a wb sw se : Nat → Nat} {LW LS LK : List Nat} {c_bytes c_firsts c_aboveOf c_partings c_signs c_count c_pages c_levels c_most c_page c_known c_guess c_diff c_pieces c_place : Nat → Int32} {c_bits : Nat → Nat → Int64} {c_words : Nat → Nat → Nat} {c_entries : Nat → Nat → Int32} {c_bads c_noes c_fulls c_length c_next c_kept c_base c_from c_to c_above c_bit c_lastLeft : Int32} {o_heads : Nat → Int32} {o_levelOf : Nat → Int32} (C : k_C p s m args meth c cX0_settleHeads 3 none RX0 wsX0_settleHeads D (kT cI cJ cB cL cS cW) A) (hD : va_D A (WC0 a wb sw se LW LS LK cI cJ cB cL cS cW)) (hG : kG a LW LS LK) (hret : ∀ (H : Heap) (locs : List Loc) (pc : Nat) (ls : Array Slot), decode cX0_settleHeads pc = .ok (.return_, 1) → va_P D vwCl (WC a wb sw se LW LS LK cI cJ cB cL cS cW c_bytes o_heads c_firsts o_levelOf c_aboveOf c_partings c_signs c_count c_pages c_levels c_most c_page c_known c_guess c_diff c_pieces c_place c_bits c_words c_entries c_bads c_noes c_fulls c_length c_next c_kept c_base c_from c_to c_above c_bit c_lastLeft) H → va_S A s.heap H locs → W p l e { frames := 1, cells := 0, slots := 0, locals := 30 } s m args below meth c H locs 0 0 Q (F0 m pc ls [])) : ∀ (c_heads : (Nat → Int32)) (c_levelOf : (Nat → Int32)) (H : Heap) (locs : List Loc) (ls : Array Slot), va_P D vwCl (WC a wb sw se LW LS LK cI cJ cB cL cS cW c_bytes c_heads c_firsts c_levelOf c_aboveOf c_partings c_signs c_count c_pages c_levels c_most c_page c_known c_guess c_diff c_pieces c_place c_bits c_words c_entries c_bads c_noes c_fulls c_length c_next c_kept c_base c_from c_to c_above c_bit c_lastLeft) H → va_S A s.heap H locs → lv_has ls 3 [(0, .ref (a 3))] → C0_settleHeads_J51 a c_firsts c_count c_pages c_heads c_levelOf = some (o_heads, o_levelOf) → W p l e { frames := 1, cells := 0, slots := 0, locals := 30 } s m args below meth c H locs 0 0 Q (F0 m 51 ls []) := by
  obtain ⟨hx, hb, hml, hr, hown, hts, hlocks, hK, hA, hN⟩ := id C
  intro c_heads c_levelOf H locs ls hP hS hl hm
  rw [C0_settleHeads_J51] at hm
  refine lv_aload_n hx hb dX0_settleHeads_51 rfl (lv_at hl 0 rfl) ?_
  refine kg (v := .ref (a 14)) hx hb hts hiX0_settleHeads_X0 hown hK hP 3 rfl rfl 0 (by decide) flX0_settleHeads_12 rfl rfl dX0_settleHeads_52 ?_
  obtain ⟨q, hq, -⟩ := WC_S hG hG.2.2.2.2.1
  refine kg (v := .int (c_pages (a 14))) hx hb hts hiX0_settleHeads_X3 hown hK hP q hq rfl 3 (by decide) flX0_settleHeads_45 rfl rfl dX0_settleHeads_55 ?_
  refine lv_bipush (v := 48) hx hb dX0_settleHeads_58 (by decide) ?_
  refine va_mmin hx hb (by rw [hml]; exact hl.1.symm) hown (hts (.methodLink RX0 82 Lib.Math.min.name) (by decide +kernel)) (hts (.static Lib.Math.min.name) (by decide +kernel)) (hts (.initialized "java/lang/Math") (by decide +kernel)) (hts (.code Lib.Math.min.name Lib.Math.min.code 2 (some .int)) (by decide +kernel)) (Nat.le_of_ble_eq_true rfl) (Nat.le_of_ble_eq_true rfl) (Nat.zero_le _) (Nat.zero_le _) dX0_settleHeads_60 ?_
  refine lv_iconst (v := 1) hx hb dX0_settleHeads_63 (by decide) ?_
  refine lv_isub hx hb dX0_settleHeads_64 ?_
  refine lv_istore_n (lv' := [(1, .int ((if 48 < (c_pages (a 14)) then 48 else (c_pages (a 14))) - 1)), (0, .ref (a 3))]) hx hb dX0_settleHeads_65 rfl hl (by decide) rfl (fun ls hl => ?_)
  refine t_C0_settleHeads_L66 C hD hG hret ?_ FU _ _ _ _ _ _ hP hS (lv_sub hl [1, 0] rfl) hm
  · intro c_heads c_levelOf H locs ls hP hS hl hm
    try dsimp only at hm
    simp only [Option.some.injEq, Prod.mk.injEq] at hm
    obtain ⟨rfl, rfl⟩ := hm
    exact hret _ _ _ _ dX0_settleHeads_121 hP hS
set_option maxRecDepth 100000 in
set_option maxHeartbeats 4000000 in
theorem c_X0_settleHeads {l : Launch} {D : va_G} {cI cJ cB cL cS cW : ClassId} {a wb sw se : Nat → Nat} {LW LS LK : List Nat} {c_bytes c_heads c_firsts c_levelOf c_aboveOf c_partings c_signs c_count c_pages c_levels c_most c_page c_known c_guess c_diff c_pieces c_place : Nat → Int32} {c_bits : Nat → Nat → Int64} {c_words : Nat → Nat → Nat} {c_entries : Nat → Nat → Int32} {c_bads c_noes c_fulls c_length c_next c_kept c_base c_from c_to c_above c_bit c_lastLeft : Int32} {o_heads : Nat → Int32} {o_levelOf : Nat → Int32} (hG : kG a LW LS LK) (hm : C0_settleHeads a c_firsts c_count c_pages c_heads c_levelOf = some (o_heads, o_levelOf)) : k_MV l yX0_settleHeads wsX0_settleHeads { frames := 1, cells := 0, slots := 0, locals := 30 } D (kT cI cJ cB cL cS cW) [.ref (a 3)] (WC a wb sw se LW LS LK cI cJ cB cL cS cW c_bytes c_heads c_firsts c_levelOf c_aboveOf c_partings c_signs c_count c_pages c_levels c_most c_page c_known c_guess c_diff c_pieces c_place c_bits c_words c_entries c_bads c_noes c_fulls c_length c_next c_kept c_base c_from c_to c_above c_bit c_lastLeft) (WC a wb sw se LW LS LK cI cJ cB cL cS cW c_bytes o_heads c_firsts o_levelOf c_aboveOf c_partings c_signs c_count c_pages c_levels c_most c_page c_known c_guess c_diff c_pieces c_place c_bits c_words c_entries c_bads c_noes c_fulls c_length c_next c_kept c_base c_from c_to c_above c_bit c_lastLeft) := by
  refine k_ofV (cc := cX0_settleHeads) (maxL := 3) (own := RX0) (by decide) rfl rfl (Nat.le_of_ble_eq_true rfl) ?_
  intro p e s m args below meth c A Q ls C hP hD hl hret
  have hD : va_D A (WC0 a wb sw se LW LS LK cI cJ cB cL cS cW) := WCD hD
  have hS : va_S A s.heap s.heap [] := va_S.rf
  have hl : lv_has ls 3 [(0, .ref (a 3))] := hl
  obtain ⟨hx, hb, hml, hr, hown, hts, hlocks, hK, hA, hN⟩ := id C
  rw [C0_settleHeads] at hm
  refine lv_iconst (v := 0) hx hb dX0_settleHeads_0 (by decide) ?_
  refine lv_istore_n (lv' := [(1, .int 0), (0, .ref (a 3))]) hx hb dX0_settleHeads_1 rfl hl (by decide) rfl (fun ls hl => ?_)
  refine t_C0_settleHeads_L2 C hD hG hret ?_ FU _ _ _ _ _ _ hP hS (lv_sub hl [1, 0] rfl) hm
  · intro c_heads c_levelOf H locs ls hP hS hl hm
    try dsimp only at hm
    exact t_C0_settleHeads_J51 C hD hG hret _ _ _ _ _ hP hS (lv_sub hl [0] rfl) hm
theorem hdX5_setParting : yX5_setParting.cls = RX5 ∧ yX5_setParting.cls ≠ "java/lang/invoke/MethodHandle" ∧ yX5_setParting.cls ≠ "java/lang/invoke/VarHandle" ∧ (parseMethodDescriptor yX5_setParting.desc).map (fun d => d.parameters.length) = some 2 := by decide +kernel
theorem hiX5_setParting_X5 : ∀ w ∈ u_ws RX5 TX5 7, w ∈ wsX5_setParting := by decide +kernel
theorem flX5_setParting_9 : Cond.fieldLink RX5 9 "BlindPages$Tree" "partings" "[I" ∈ wsX5_setParting := by decide +kernel
def C5_setParting (c_partings : Nat → Int32) (v1 : Int32) (v2 : Int32) : Option ((Nat → Int32)) := if v1 < 0 then (some c_partings) else (if 96 ≤ v1 then (some c_partings) else (ga v1 96 (some (upd c_partings v1.toNatClampNeg v2))))
set_option maxRecDepth 100000 in
set_option maxHeartbeats 4000000 in
theorem c_X5_setParting {l : Launch} {D : va_G} {cI cJ cB cL cS cW : ClassId} {a wb sw se : Nat → Nat} {LW LS LK : List Nat} {c_bytes c_heads c_firsts c_levelOf c_aboveOf c_partings c_signs c_count c_pages c_levels c_most c_page c_known c_guess c_diff c_pieces c_place : Nat → Int32} {c_bits : Nat → Nat → Int64} {c_words : Nat → Nat → Nat} {c_entries : Nat → Nat → Int32} {c_bads c_noes c_fulls c_length c_next c_kept c_base c_from c_to c_above c_bit c_lastLeft : Int32} {v1 : Int32} {v2 : Int32} {o_partings : Nat → Int32} (hG : kG a LW LS LK) (hm : C5_setParting c_partings v1 v2 = some o_partings) : k_MV l yX5_setParting wsX5_setParting { frames := 0, cells := 0, slots := 0, locals := 0 } D (kT cI cJ cB cL cS cW) [.ref (a 8), .int v1, .int v2] (WC a wb sw se LW LS LK cI cJ cB cL cS cW c_bytes c_heads c_firsts c_levelOf c_aboveOf c_partings c_signs c_count c_pages c_levels c_most c_page c_known c_guess c_diff c_pieces c_place c_bits c_words c_entries c_bads c_noes c_fulls c_length c_next c_kept c_base c_from c_to c_above c_bit c_lastLeft) (WC a wb sw se LW LS LK cI cJ cB cL cS cW c_bytes c_heads c_firsts c_levelOf c_aboveOf o_partings c_signs c_count c_pages c_levels c_most c_page c_known c_guess c_diff c_pieces c_place c_bits c_words c_entries c_bads c_noes c_fulls c_length c_next c_kept c_base c_from c_to c_above c_bit c_lastLeft) := by
  refine k_ofV (cc := cX5_setParting) (maxL := 3) (own := RX5) (by decide) rfl rfl (Nat.le_of_ble_eq_true rfl) ?_
  intro p e s m args below meth c A Q ls C hP hD hl hret
  have hD : va_D A (WC0 a wb sw se LW LS LK cI cJ cB cL cS cW) := WCD hD
  have hS : va_S A s.heap s.heap [] := va_S.rf
  have hl : lv_has ls 3 [(0, .ref (a 8)), (1, .int v1), (2, .int v2)] := hl
  obtain ⟨hx, hb, hml, hr, hown, hts, hlocks, hK, hA, hN⟩ := id C
  rw [C5_setParting] at hm
  refine lv_iload_n hx hb dX5_setParting_0 rfl (lv_at hl 1 rfl) ?_
  refine lv_if_lt (tgt := 20) hx hb dX5_setParting_1 (by decide) (fun hc => ?_) (fun hc => ?_)
  · have hm := if_t hc hm
    obtain rfl := Option.some.inj hm
    exact hret _ _ _ _ dX5_setParting_20 hP hS
  · have hm := if_f hc hm
    refine lv_iload_n hx hb dX5_setParting_4 rfl (lv_at hl 1 rfl) ?_
    refine lv_aload_n hx hb dX5_setParting_5 rfl (lv_at hl 0 rfl) ?_
    refine kg (v := .ref (a 9)) hx hb hts hiX5_setParting_X5 hown hK hP 8 rfl rfl 0 (by decide) flX5_setParting_9 rfl rfl dX5_setParting_6 ?_
    refine va_alen (v := 96) hx hb hK hP 9 0 rfl rfl rfl dX5_setParting_9 ?_
    refine lv_icmp_ge (tgt := 20) hx hb dX5_setParting_10 (by decide) (fun hc => ?_) (fun hc => ?_)
    · have hm := if_t hc hm
      obtain rfl := Option.some.inj hm
      exact hret _ _ _ _ dX5_setParting_20 hP hS
    · have hm := if_f hc hm
      refine lv_aload_n hx hb dX5_setParting_13 rfl (lv_at hl 0 rfl) ?_
      refine kg (v := .ref (a 9)) hx hb hts hiX5_setParting_X5 hown hK hP 8 rfl rfl 0 (by decide) flX5_setParting_9 rfl rfl dX5_setParting_14 ?_
      refine lv_iload_n hx hb dX5_setParting_17 rfl (lv_at hl 1 rfl) ?_
      refine lv_iload_n hx hb dX5_setParting_18 rfl (lv_at hl 2 rfl) ?_
      obtain ⟨hi, hm⟩ := ga_some hm
      refine k_iast hx hb hK hP (WCD hD) hS 9 0 rfl rfl rfl hi dX5_setParting_19 (fun H locs hP hS => ?_)
      have hP : va_P D vwCl (WC a wb sw se LW LS LK cI cJ cB cL cS cW c_bytes c_heads c_firsts c_levelOf c_aboveOf (upd c_partings v1.toNatClampNeg v2) c_signs c_count c_pages c_levels c_most c_page c_known c_guess c_diff c_pieces c_place c_bits c_words c_entries c_bads c_noes c_fulls c_length c_next c_kept c_base c_from c_to c_above c_bit c_lastLeft) H := hP
      obtain rfl := Option.some.inj hm
      exact hret _ _ _ _ dX5_setParting_20 hP hS
theorem hdX0_settle : yX0_settle.cls = RX0 ∧ yX0_settle.cls ≠ "java/lang/invoke/MethodHandle" ∧ yX0_settle.cls ≠ "java/lang/invoke/VarHandle" ∧ (parseMethodDescriptor yX0_settle.desc).map (fun d => d.parameters.length) = some 0 := by decide +kernel
theorem hiX0_settle_X0 : ∀ w ∈ u_ws RX0 TX0 7, w ∈ wsX0_settle := by decide +kernel
theorem hiX0_settle_X3 : ∀ w ∈ u_ws RX3 TX3 6, w ∈ wsX0_settle := by decide +kernel
theorem flX0_settle_12 : Cond.fieldLink RX0 12 "BlindPages$Index" "now" "LBlindPages$State;" ∈ wsX0_settle := by decide +kernel
theorem flX0_settle_45 : Cond.fieldLink RX0 45 "BlindPages$State" "pages" "I" ∈ wsX0_settle := by decide +kernel
theorem flX0_settle_63 : Cond.fieldLink RX0 63 "BlindPages$State" "count" "I" ∈ wsX0_settle := by decide +kernel
theorem flX0_settle_34 : Cond.fieldLink RX0 34 "BlindPages$Index" "tree" "LBlindPages$Tree;" ∈ wsX0_settle := by decide +kernel
def C0_settle_L28 (a : Nat → Nat) (LW : List Nat) (c_count c_pages : Nat → Int32) (c_bits : Nat → Nat → Int64) (c_words : Nat → Nat → Nat) (c_entries : Nat → Nat → Int32) (k62 : (Nat → Int32) → (Nat → Int32) → (Nat → Int32) → (Nat → Int32) → (Nat → Int32) → Option ((Nat → Int32) × (Nat → Int32) × (Nat → Int32) × (Nat → Int32) × (Nat → Int32))) : Nat → (Nat → Int32) → (Nat → Int32) → (Nat → Int32) → (Nat → Int32) → (Nat → Int32) → Int32 → Int32 → Option ((Nat → Int32) × (Nat → Int32) × (Nat → Int32) × (Nat → Int32) × (Nat → Int32))
  | 0, _, _, _, _, _, _, _ => none
  | n + 1, c_heads, c_firsts, c_levelOf, c_aboveOf, c_partings, v1, v2 => if v1 ≤ v2 then (k62 c_heads c_firsts c_levelOf c_aboveOf c_partings) else (bd1 (C0_headWord a LW c_heads c_words v2) fun r40 => gm LW r40 (bd1 (C0_headWord a LW c_heads c_words (v2 + 1)) fun r47 => gm LW r47 (bd1 (C6_partingFrom c_bits r40 r47) fun r50 => bd1 (C5_setParting c_partings v2 r50) fun c_partings_53 => C0_settle_L28 a LW c_count c_pages c_bits c_words c_entries k62 n c_heads c_firsts c_levelOf c_aboveOf c_partings_53 v1 (v2 + 1))))
def C0_settle (a : Nat → Nat) (LW : List Nat) (c_count c_pages : Nat → Int32) (c_bits : Nat → Nat → Int64) (c_words : Nat → Nat → Nat) (c_entries : Nat → Nat → Int32) (c_heads c_firsts c_levelOf c_aboveOf c_partings : Nat → Int32) : Option ((Nat → Int32) × (Nat → Int32) × (Nat → Int32) × (Nat → Int32) × (Nat → Int32)) := bd2 (C0_settleEntries a c_pages c_entries c_firsts c_aboveOf) fun c_firsts_1 c_aboveOf_1 => bd2 (C0_settleHeads a c_firsts_1 c_count c_pages c_heads c_levelOf) fun c_heads_5 c_levelOf_5 => C0_settle_L28 a LW c_count c_pages c_bits c_words c_entries (fun c_heads c_firsts c_levelOf c_aboveOf c_partings => some (c_heads, c_firsts, c_levelOf, c_aboveOf, c_partings)) FU c_heads_5 c_firsts_1 c_levelOf_5 c_aboveOf_1 c_partings (((c_pages (a 14)) + (c_count (a 14))) - 1) 1
set_option maxRecDepth 100000 in
set_option maxHeartbeats 4000000 in
theorem t_C0_settle_L28 {p : Program} {l : Launch} {e : Env} {s : State} {m : MethodId} {args : Array Value} {below : List Frame} {meth : Method} {c : Code} {Q : State → Prop} {A : Nat → Prop} {D : va_G} {cI cJ cB cL cS cW : ClassId} {a wb sw se : Nat → Nat} {LW LS LK : List Nat} {c_bytes c_signs c_count c_pages c_levels c_most c_page c_known c_guess c_diff c_pieces c_place : Nat → Int32} {c_bits : Nat → Nat → Int64} {c_words : Nat → Nat → Nat} {c_entries : Nat → Nat → Int32} {c_bads c_noes c_fulls c_length c_next c_kept c_base c_from c_to c_above c_bit c_lastLeft : Int32} {o_heads : Nat → Int32} {o_firsts : Nat → Int32} {o_levelOf : Nat → Int32} {o_aboveOf : Nat → Int32} {o_partings : Nat → Int32} (C : k_C p s m args meth c cX0_settle 3 none RX0 wsX0_settle D (kT cI cJ cB cL cS cW) A) (hD : va_D A (WC0 a wb sw se LW LS LK cI cJ cB cL cS cW)) (hG : kG a LW LS LK) (hret : ∀ (H : Heap) (locs : List Loc) (pc : Nat) (ls : Array Slot), decode cX0_settle pc = .ok (.return_, 1) → va_P D vwCl (WC a wb sw se LW LS LK cI cJ cB cL cS cW c_bytes o_heads o_firsts o_levelOf o_aboveOf o_partings c_signs c_count c_pages c_levels c_most c_page c_known c_guess c_diff c_pieces c_place c_bits c_words c_entries c_bads c_noes c_fulls c_length c_next c_kept c_base c_from c_to c_above c_bit c_lastLeft) H → va_S A s.heap H locs → W p l e { frames := 3, cells := 0, slots := 0, locals := 67 } s m args below meth c H locs 0 0 Q (F0 m pc ls [])) {k62 : (Nat → Int32) → (Nat → Int32) → (Nat → Int32) → (Nat → Int32) → (Nat → Int32) → Option ((Nat → Int32) × (Nat → Int32) × (Nat → Int32) × (Nat → Int32) × (Nat → Int32))} (hk62 : ∀ (c_heads : (Nat → Int32)) (c_firsts : (Nat → Int32)) (c_levelOf : (Nat → Int32)) (c_aboveOf : (Nat → Int32)) (c_partings : (Nat → Int32)) (H : Heap) (locs : List Loc) (ls : Array Slot), va_P D vwCl (WC a wb sw se LW LS LK cI cJ cB cL cS cW c_bytes c_heads c_firsts c_levelOf c_aboveOf c_partings c_signs c_count c_pages c_levels c_most c_page c_known c_guess c_diff c_pieces c_place c_bits c_words c_entries c_bads c_noes c_fulls c_length c_next c_kept c_base c_from c_to c_above c_bit c_lastLeft) H → va_S A s.heap H locs → lv_has ls 3 [] → k62 c_heads c_firsts c_levelOf c_aboveOf c_partings = some (o_heads, o_firsts, o_levelOf, o_aboveOf, o_partings) → W p l e { frames := 3, cells := 0, slots := 0, locals := 67 } s m args below meth c H locs 0 0 Q (F0 m 62 ls [])) : ∀ n : Nat, ∀ (c_heads : (Nat → Int32)) (c_firsts : (Nat → Int32)) (c_levelOf : (Nat → Int32)) (c_aboveOf : (Nat → Int32)) (c_partings : (Nat → Int32)) (v1 : Int32) (v2 : Int32) (H : Heap) (locs : List Loc) (ls : Array Slot), va_P D vwCl (WC a wb sw se LW LS LK cI cJ cB cL cS cW c_bytes c_heads c_firsts c_levelOf c_aboveOf c_partings c_signs c_count c_pages c_levels c_most c_page c_known c_guess c_diff c_pieces c_place c_bits c_words c_entries c_bads c_noes c_fulls c_length c_next c_kept c_base c_from c_to c_above c_bit c_lastLeft) H → va_S A s.heap H locs → lv_has ls 3 [(0, .ref (a 3)), (1, .int v1), (2, .int v2)] → (C0_settle_L28 a LW c_count c_pages c_bits c_words c_entries k62 n) c_heads c_firsts c_levelOf c_aboveOf c_partings v1 v2 = some (o_heads, o_firsts, o_levelOf, o_aboveOf, o_partings) → W p l e { frames := 3, cells := 0, slots := 0, locals := 67 } s m args below meth c H locs 0 0 Q (F0 m 28 ls []) := by
  obtain ⟨hx, hb, hml, hr, hown, hts, hlocks, hK, hA, hN⟩ := id C
  intro n
  induction n with
  | zero =>
    intro c_heads c_firsts c_levelOf c_aboveOf c_partings v1 v2 H locs ls hP hS hl hm
    cases hm
  | succ n ih =>
    intro c_heads c_firsts c_levelOf c_aboveOf c_partings v1 v2 H locs ls hP hS hl hm
    rw [C0_settle_L28] at hm
    refine lv_iload_n hx hb dX0_settle_28 rfl (lv_at hl 2 rfl) ?_
    refine lv_iload_n hx hb dX0_settle_29 rfl (lv_at hl 1 rfl) ?_
    refine lv_icmp_ge (tgt := 62) hx hb dX0_settle_30 (by decide) (fun hc => ?_) (fun hc => ?_)
    · have hm := if_t hc hm
      exact hk62 _ _ _ _ _ _ _ _ hP hS (lv_sub hl [] rfl) hm
    · have hm := if_f hc hm
      refine lv_aload_n hx hb dX0_settle_33 rfl (lv_at hl 0 rfl) ?_
      refine kg (v := .ref (a 8)) hx hb hts hiX0_settle_X0 hown hK hP 3 rfl rfl 5 (by decide) flX0_settle_34 rfl rfl dX0_settle_34 ?_
      refine lv_iload_n hx hb dX0_settle_37 rfl (lv_at hl 2 rfl) ?_
      refine lv_aload_n hx hb dX0_settle_38 rfl (lv_at hl 0 rfl) ?_
      refine lv_iload_n hx hb dX0_settle_39 rfl (lv_at hl 2 rfl) ?_
      obtain ⟨r40, hq0, hm⟩ := bd1_some hm
      obtain ⟨hw40, hm⟩ := gm_some hm
      refine k_callVA (As := [.int v2]) (rest := [.int v2, .ref (a 8)]) ⟨hx, hb, hml, hown, hts⟩ hK hA hN (c_X0_headWord hG hq0) (cwV 1 hts gX0_settle_X0_headWord rfl rfl rfl hdX0_headWord ⟨Nat.le_of_ble_eq_true rfl, Nat.le_of_ble_eq_true rfl⟩) hP (WCD hD) hS 3 0 rfl rfl rfl hl.1 rfl rfl (Nat.le_of_ble_eq_true rfl) ⟨Nat.zero_le _, Nat.zero_le _⟩ dX0_settle_40 (fun H locs hP hS => ?_)
      refine lv_aload_n hx hb dX0_settle_43 rfl (lv_at hl 0 rfl) ?_
      refine lv_iload_n hx hb dX0_settle_44 rfl (lv_at hl 2 rfl) ?_
      refine lv_iconst (v := 1) hx hb dX0_settle_45 (by decide) ?_
      refine lv_iadd hx hb dX0_settle_46 ?_
      obtain ⟨r47, hq0, hm⟩ := bd1_some hm
      obtain ⟨hw47, hm⟩ := gm_some hm
      refine k_callVA (As := [.int (v2 + 1)]) (rest := [.ref r40, .int v2, .ref (a 8)]) ⟨hx, hb, hml, hown, hts⟩ hK hA hN (c_X0_headWord hG hq0) (cwV 1 hts gX0_settle_X0_headWord rfl rfl rfl hdX0_headWord ⟨Nat.le_of_ble_eq_true rfl, Nat.le_of_ble_eq_true rfl⟩) hP (WCD hD) hS 3 0 rfl rfl rfl hl.1 rfl rfl (Nat.le_of_ble_eq_true rfl) ⟨Nat.zero_le _, Nat.zero_le _⟩ dX0_settle_47 (fun H locs hP hS => ?_)
      obtain ⟨r50, hq0, hm⟩ := bd1_some hm
      obtain ⟨q, hq, -⟩ := WC_W hG hw40
      refine k_callVI (As := [.ref r47]) (rest := [.int v2, .ref (a 8)]) ⟨hx, hb, hml, hown, hts⟩ hK hA hN (c_X6_partingFrom hG hw40 hw47 hq0) (cwV 1 hts gX0_settle_X6_partingFrom rfl rfl rfl hdX6_partingFrom ⟨Nat.le_of_ble_eq_true rfl, Nat.le_of_ble_eq_true rfl⟩) hP (WCD hD) hS q 6 hq rfl rfl hl.1 rfl rfl (Nat.le_of_ble_eq_true rfl) ⟨Nat.zero_le _, Nat.zero_le _⟩ dX0_settle_50 (fun H locs hP hS => ?_)
      obtain ⟨c_partings_53, hq0, hm⟩ := bd1_some hm
      refine k_callVV (As := [.int v2, .int r50]) (rest := []) ⟨hx, hb, hml, hown, hts⟩ hK hA hN (c_X5_setParting hG hq0) (cwV 2 hts gX0_settle_X5_setParting rfl rfl rfl hdX5_setParting ⟨Nat.le_of_ble_eq_true rfl, Nat.le_of_ble_eq_true rfl⟩) hP (WCD hD) hS 8 5 rfl rfl rfl hl.1 rfl rfl (Nat.le_of_ble_eq_true rfl) ⟨Nat.zero_le _, Nat.zero_le _⟩ dX0_settle_53 (fun H locs hP hS => ?_)
      refine lv_iinc (v := (v2 + 1)) (lv' := [(2, .int (v2 + 1)), (0, .ref (a 3)), (1, .int v1)]) hx hb dX0_settle_56 hl (k := 2) rfl rfl (by decide) rfl (fun ls hl => ?_)
      refine lv_goto (tgt := 28) hx hb dX0_settle_59 (by decide) ?_
      exact ih _ _ _ _ _ _ _ _ _ _ hP hS (lv_sub hl [1, 2, 0] rfl) hm
set_option maxRecDepth 100000 in
set_option maxHeartbeats 4000000 in
theorem c_X0_settle {l : Launch} {D : va_G} {cI cJ cB cL cS cW : ClassId} {a wb sw se : Nat → Nat} {LW LS LK : List Nat} {c_bytes c_heads c_firsts c_levelOf c_aboveOf c_partings c_signs c_count c_pages c_levels c_most c_page c_known c_guess c_diff c_pieces c_place : Nat → Int32} {c_bits : Nat → Nat → Int64} {c_words : Nat → Nat → Nat} {c_entries : Nat → Nat → Int32} {c_bads c_noes c_fulls c_length c_next c_kept c_base c_from c_to c_above c_bit c_lastLeft : Int32} {o_heads : Nat → Int32} {o_firsts : Nat → Int32} {o_levelOf : Nat → Int32} {o_aboveOf : Nat → Int32} {o_partings : Nat → Int32} (hG : kG a LW LS LK) (hm : C0_settle a LW c_count c_pages c_bits c_words c_entries c_heads c_firsts c_levelOf c_aboveOf c_partings = some (o_heads, o_firsts, o_levelOf, o_aboveOf, o_partings)) : k_MV l yX0_settle wsX0_settle { frames := 3, cells := 0, slots := 0, locals := 67 } D (kT cI cJ cB cL cS cW) [.ref (a 3)] (WC a wb sw se LW LS LK cI cJ cB cL cS cW c_bytes c_heads c_firsts c_levelOf c_aboveOf c_partings c_signs c_count c_pages c_levels c_most c_page c_known c_guess c_diff c_pieces c_place c_bits c_words c_entries c_bads c_noes c_fulls c_length c_next c_kept c_base c_from c_to c_above c_bit c_lastLeft) (WC a wb sw se LW LS LK cI cJ cB cL cS cW c_bytes o_heads o_firsts o_levelOf o_aboveOf o_partings c_signs c_count c_pages c_levels c_most c_page c_known c_guess c_diff c_pieces c_place c_bits c_words c_entries c_bads c_noes c_fulls c_length c_next c_kept c_base c_from c_to c_above c_bit c_lastLeft) := by
  refine k_ofV (cc := cX0_settle) (maxL := 3) (own := RX0) (by decide) rfl rfl (Nat.le_of_ble_eq_true rfl) ?_
  intro p e s m args below meth c A Q ls C hP hD hl hret
  have hD : va_D A (WC0 a wb sw se LW LS LK cI cJ cB cL cS cW) := WCD hD
  have hS : va_S A s.heap s.heap [] := va_S.rf
  have hl : lv_has ls 3 [(0, .ref (a 3))] := hl
  obtain ⟨hx, hb, hml, hr, hown, hts, hlocks, hK, hA, hN⟩ := id C
  rw [C0_settle] at hm
  refine lv_aload_n hx hb dX0_settle_0 rfl (lv_at hl 0 rfl) ?_
  obtain ⟨c_firsts_1, c_aboveOf_1, hq0, hm⟩ := bd2_some hm
  refine k_callVV (As := []) (rest := []) ⟨hx, hb, hml, hown, hts⟩ hK hA hN (c_X0_settleEntries hG hq0) (cwV 0 hts gX0_settle_X0_settleEntries rfl rfl rfl hdX0_settleEntries ⟨Nat.le_of_ble_eq_true rfl, Nat.le_of_ble_eq_true rfl⟩) hP (WCD hD) hS 3 0 rfl rfl rfl hl.1 rfl rfl (Nat.le_of_ble_eq_true rfl) ⟨Nat.zero_le _, Nat.zero_le _⟩ dX0_settle_1 (fun H locs hP hS => ?_)
  refine lv_aload_n hx hb dX0_settle_4 rfl (lv_at hl 0 rfl) ?_
  obtain ⟨c_heads_5, c_levelOf_5, hq0, hm⟩ := bd2_some hm
  refine k_callVV (As := []) (rest := []) ⟨hx, hb, hml, hown, hts⟩ hK hA hN (c_X0_settleHeads hG hq0) (cwV 0 hts gX0_settle_X0_settleHeads rfl rfl rfl hdX0_settleHeads ⟨Nat.le_of_ble_eq_true rfl, Nat.le_of_ble_eq_true rfl⟩) hP (WCD hD) hS 3 0 rfl rfl rfl hl.1 rfl rfl (Nat.le_of_ble_eq_true rfl) ⟨Nat.zero_le _, Nat.zero_le _⟩ dX0_settle_5 (fun H locs hP hS => ?_)
  refine lv_aload_n hx hb dX0_settle_8 rfl (lv_at hl 0 rfl) ?_
  refine kg (v := .ref (a 14)) hx hb hts hiX0_settle_X0 hown hK hP 3 rfl rfl 0 (by decide) flX0_settle_12 rfl rfl dX0_settle_9 ?_
  obtain ⟨q, hq, -⟩ := WC_S hG hG.2.2.2.2.1
  refine kg (v := .int (c_pages (a 14))) hx hb hts hiX0_settle_X3 hown hK hP q hq rfl 3 (by decide) flX0_settle_45 rfl rfl dX0_settle_12 ?_
  refine lv_aload_n hx hb dX0_settle_15 rfl (lv_at hl 0 rfl) ?_
  refine kg (v := .ref (a 14)) hx hb hts hiX0_settle_X0 hown hK hP 3 rfl rfl 0 (by decide) flX0_settle_12 rfl rfl dX0_settle_16 ?_
  obtain ⟨q, hq, -⟩ := WC_S hG hG.2.2.2.2.1
  refine kg (v := .int (c_count (a 14))) hx hb hts hiX0_settle_X3 hown hK hP q hq rfl 2 (by decide) flX0_settle_63 rfl rfl dX0_settle_19 ?_
  refine lv_iadd hx hb dX0_settle_22 ?_
  refine lv_iconst (v := 1) hx hb dX0_settle_23 (by decide) ?_
  refine lv_isub hx hb dX0_settle_24 ?_
  refine lv_istore_n (lv' := [(1, .int (((c_pages (a 14)) + (c_count (a 14))) - 1)), (0, .ref (a 3))]) hx hb dX0_settle_25 rfl hl (by decide) rfl (fun ls hl => ?_)
  refine lv_iconst (v := 1) hx hb dX0_settle_26 (by decide) ?_
  refine lv_istore_n (lv' := [(2, .int 1), (1, .int (((c_pages (a 14)) + (c_count (a 14))) - 1)), (0, .ref (a 3))]) hx hb dX0_settle_27 rfl hl (by decide) rfl (fun ls hl => ?_)
  refine t_C0_settle_L28 C hD hG hret ?_ FU _ _ _ _ _ _ _ _ _ _ hP hS (lv_sub hl [2, 1, 0] rfl) hm
  · intro c_heads c_firsts c_levelOf c_aboveOf c_partings H locs ls hP hS hl hm
    try dsimp only at hm
    simp only [Option.some.injEq, Prod.mk.injEq] at hm
    obtain ⟨rfl, rfl, rfl, rfl, rfl⟩ := hm
    exact hret _ _ _ _ dX0_settle_62 hP hS
