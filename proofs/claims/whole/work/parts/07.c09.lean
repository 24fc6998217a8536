theorem hdX7_deals : yX7_deals.cls = RX7 ∧ yX7_deals.cls ≠ "java/lang/invoke/MethodHandle" ∧ yX7_deals.cls ≠ "java/lang/invoke/VarHandle" ∧ (parseMethodDescriptor yX7_deals.desc).map (fun d => d.parameters.length) = some 1 := by decide +kernel
theorem hiX7_deals_X7 : ∀ w ∈ u_ws RX7 TX7 8, w ∈ wsX7_deals := by decide +kernel
theorem hiX7_deals_X0 : ∀ w ∈ u_ws RX0 TX0 7, w ∈ wsX7_deals := by decide +kernel
theorem hiX7_deals_X3 : ∀ w ∈ u_ws RX3 TX3 6, w ∈ wsX7_deals := by decide +kernel
theorem flX7_deals_33 : Cond.fieldLink RX7 33 "BlindPages" "past" "LBlindPages$Past;" ∈ wsX7_deals := by decide +kernel
theorem flX7_deals_26 : Cond.fieldLink RX7 26 "BlindPages" "index" "LBlindPages$Index;" ∈ wsX7_deals := by decide +kernel
theorem flX7_deals_68 : Cond.fieldLink RX7 68 "BlindPages$Index" "now" "LBlindPages$State;" ∈ wsX7_deals := by decide +kernel
theorem flX7_deals_118 : Cond.fieldLink RX7 118 "BlindPages$State" "pages" "I" ∈ wsX7_deals := by decide +kernel
def C7_deals_J11 (a : Nat → Nat) (LW LS : List Nat) (c_words : Nat → Nat → Nat) (v1 : Int32) (c_heads : (Nat → Int32)) (c_firsts : (Nat → Int32)) (c_levelOf : (Nat → Int32)) (c_aboveOf : (Nat → Int32)) (c_partings : (Nat → Int32)) (c_signs : (Nat → Int32)) (c_count : (Nat → Int32)) (c_pages : (Nat → Int32)) (c_levels : (Nat → Int32)) (c_most : (Nat → Int32)) (c_bits : (Nat → Nat → Int64)) (c_entries : (Nat → Nat → Int32)) (c_bads : Int32) (c_noes : Int32) (c_fulls : Int32) (c_next : Int32) (c_kept : Int32) : Option (Int32 × (Nat → Int32) × (Nat → Int32) × (Nat → Int32) × (Nat → Int32) × (Nat → Int32) × (Nat → Int32) × (Nat → Int32) × (Nat → Int32) × (Nat → Int32) × (Nat → Int32) × (Nat → Nat → Int64) × (Nat → Nat → Int32) × Int32 × Int32 × Int32 × Int32 × Int32) := bd4 (C7_refuse c_bads c_noes c_fulls (-2)) fun r14 c_bads_14 c_noes_14 c_fulls_14 => some (r14, c_heads, c_firsts, c_levelOf, c_aboveOf, c_partings, c_signs, c_count, c_pages, c_levels, c_most, c_bits, c_entries, c_bads_14, c_noes_14, c_fulls_14, c_next, c_kept)
def C7_deals (a : Nat → Nat) (LW LS : List Nat) (c_words : Nat → Nat → Nat) (c_heads c_firsts c_levelOf c_aboveOf c_partings c_signs c_count c_pages c_levels c_most : Nat → Int32) (c_bits : Nat → Nat → Int64) (c_entries : Nat → Nat → Int32) (c_bads c_noes c_fulls c_next c_kept : Int32) (v1 : Int32) : Option (Int32 × (Nat → Int32) × (Nat → Int32) × (Nat → Int32) × (Nat → Int32) × (Nat → Int32) × (Nat → Int32) × (Nat → Int32) × (Nat → Int32) × (Nat → Int32) × (Nat → Int32) × (Nat → Nat → Int64) × (Nat → Nat → Int32) × Int32 × Int32 × Int32 × Int32 × Int32) := if v1 < 4 then (C7_deals_J11 a LW LS c_words v1 c_heads c_firsts c_levelOf c_aboveOf c_partings c_signs c_count c_pages c_levels c_most c_bits c_entries c_bads c_noes c_fulls c_next c_kept) else (if v1 ≤ 8 then (bd9 (C2_keep a LW LS c_words c_signs c_count c_pages c_levels c_most c_bits c_entries c_next c_kept (a 14)) fun c_signs_29 c_count_29 c_pages_29 c_levels_29 c_most_29 c_bits_29 c_entries_29 c_next_29 c_kept_29 => bd4 (C3_deal c_count_29 c_pages_29 c_levels_29 c_most_29 c_entries_29 (a 14) v1) fun c_pages_40 c_levels_40 c_most_40 c_entries_40 => bd5 (C0_settle a LW c_count_29 c_pages_40 c_bits_29 c_words c_entries_40 c_heads c_firsts c_levelOf c_aboveOf c_partings) fun c_heads_47 c_firsts_47 c_levelOf_47 c_aboveOf_47 c_partings_47 => some ((c_pages_40 (a 14)), c_heads_47, c_firsts_47, c_levelOf_47, c_aboveOf_47, c_partings_47, c_signs_29, c_count_29, c_pages_40, c_levels_40, c_most_40, c_bits_29, c_entries_40, c_bads, c_noes, c_fulls, c_next_29, c_kept_29)) else (C7_deals_J11 a LW LS c_words v1 c_heads c_firsts c_levelOf c_aboveOf c_partings c_signs c_count c_pages c_levels c_most c_bits c_entries c_bads c_noes c_fulls c_next c_kept))
set_option maxRecDepth 100000 in
set_option maxHeartbeats 4000000 in
theorem t_C7_deals_J11 {p : Program} {l : Launch} {e : Env} {s : State} {m : MethodId} {args : Array Value} {below : List Frame} {meth : Method} {c : Code} {Q : State → Prop} {A : Nat → Prop} {D : va_G} {cI cJ cB cL cS cW : ClassId} {a wb sw se : Nat → Nat} {LW LS LK : List Nat} {c_bytes c_page c_known c_guess c_diff c_pieces c_place : Nat → Int32} {c_words : Nat → Nat → Nat} {c_length c_base c_from c_to c_above c_bit c_lastLeft : Int32} {v1 : Int32} {r : Int32} {o_heads : Nat → Int32} {o_firsts : Nat → Int32} {o_levelOf : Nat → Int32} {o_aboveOf : Nat → Int32} {o_partings : Nat → Int32} {o_signs : Nat → Int32} {o_count : Nat → Int32} {o_pages : Nat → Int32} {o_levels : Nat → Int32} {o_most : Nat → Int32} {o_bits : Nat → Nat → Int64} {o_entries : Nat → Nat → Int32} {o_bads : Int32} {o_noes : Int32} {o_fulls : Int32} {o_next : Int32} {o_kept : Int32} (C : k_C p s m args meth c cX7_deals 2 (some .int) RX7 wsX7_deals D (kT cI cJ cB cL cS cW) A) (hD : va_D A (WC0 a wb sw se LW LS LK cI cJ cB cL cS cW)) (hG : kG a LW LS LK) (hret : ∀ (H : Heap) (locs : List Loc) (pc : Nat) (ls : Array Slot), decode cX7_deals pc = .ok (.ireturn, 1) → va_P D vwCl (WC a wb sw se LW LS LK cI cJ cB cL cS cW c_bytes o_heads o_firsts o_levelOf o_aboveOf o_partings o_signs o_count o_pages o_levels o_most c_page c_known c_guess c_diff c_pieces c_place o_bits c_words o_entries o_bads o_noes o_fulls c_length o_next o_kept c_base c_from c_to c_above c_bit c_lastLeft) H → va_S A s.heap H locs → W p l e { frames := 4, cells := 0, slots := 0, locals := 89 } s m args below meth c H locs 0 0 Q (F0 m pc ls [.int r])) : ∀ (c_heads : (Nat → Int32)) (c_firsts : (Nat → Int32)) (c_levelOf : (Nat → Int32)) (c_aboveOf : (Nat → Int32)) (c_partings : (Nat → Int32)) (c_signs : (Nat → Int32)) (c_count : (Nat → Int32)) (c_pages : (Nat → Int32)) (c_levels : (Nat → Int32)) (c_most : (Nat → Int32)) (c_bits : (Nat → Nat → Int64)) (c_entries : (Nat → Nat → Int32)) (c_bads : Int32) (c_noes : Int32) (c_fulls : Int32) (c_next : Int32) (c_kept : Int32) (H : Heap) (locs : List Loc) (ls : Array Slot), va_P D vwCl (WC a wb sw se LW LS LK cI cJ cB cL cS cW c_bytes c_heads c_firsts c_levelOf c_aboveOf c_partings c_signs c_count c_pages c_levels c_most c_page c_known c_guess c_diff c_pieces c_place c_bits c_words c_entries c_bads c_noes c_fulls c_length c_next c_kept c_base c_from c_to c_above c_bit c_lastLeft) H → va_S A s.heap H locs → lv_has ls 2 [(0, .ref (a 0))] → C7_deals_J11 a LW LS c_words v1 c_heads c_firsts c_levelOf c_aboveOf c_partings c_signs c_count c_pages c_levels c_most c_bits c_entries c_bads c_noes c_fulls c_next c_kept = some (r, o_heads, o_firsts, o_levelOf, o_aboveOf, o_partings, o_signs, o_count, o_pages, o_levels, o_most, o_bits, o_entries, o_bads, o_noes, o_fulls, o_next, o_kept) → W p l e { frames := 4, cells := 0, slots := 0, locals := 89 } s m args below meth c H locs 0 0 Q (F0 m 11 ls []) := by
  obtain ⟨hx, hb, hml, hr, hown, hts, hlocks, hK, hA, hN⟩ := id C
  intro c_heads c_firsts c_levelOf c_aboveOf c_partings c_signs c_count c_pages c_levels c_most c_bits c_entries c_bads c_noes c_fulls c_next c_kept H locs ls hP hS hl hm
  rw [C7_deals_J11] at hm
  refine lv_aload_n hx hb dX7_deals_11 rfl (lv_at hl 0 rfl) ?_
  refine lv_bipush (v := (-2)) hx hb dX7_deals_12 (by decide) ?_
  obtain ⟨r14, c_bads_14, c_noes_14, c_fulls_14, hq0, hm⟩ := bd4_some hm
  refine k_callVI (As := [.int (-2)]) (rest := []) ⟨hx, hb, hml, hown, hts⟩ hK hA hN (c_X7_refuse hG hq0) (cwV 1 hts gX7_deals_X7_refuse rfl rfl rfl hdX7_refuse ⟨Nat.le_of_ble_eq_true rfl, Nat.le_of_ble_eq_true rfl⟩) hP (WCD hD) hS 0 7 rfl rfl rfl hl.1 rfl rfl (Nat.le_of_ble_eq_true rfl) ⟨Nat.zero_le _, Nat.zero_le _⟩ dX7_deals_14 (fun H locs hP hS => ?_)
  simp only [Option.some.injEq, Prod.mk.injEq] at hm
  obtain ⟨rfl, rfl, rfl, rfl, rfl, rfl, rfl, rfl, rfl, rfl, rfl, rfl, rfl, rfl, rfl, rfl, rfl, rfl⟩ := hm
  exact hret _ _ _ _ dX7_deals_17 hP hS
set_option maxRecDepth 100000 in
set_option maxHeartbeats 4000000 in
theorem c_X7_deals {l : Launch} {D : va_G} {cI cJ cB cL cS cW : ClassId} {a wb sw se : Nat → Nat} {LW LS LK : List Nat} {c_bytes c_heads c_firsts c_levelOf c_aboveOf c_partings c_signs c_count c_pages c_levels c_most c_page c_known c_guess c_diff c_pieces c_place : Nat → Int32} {c_bits : Nat → Nat → Int64} {c_words : Nat → Nat → Nat} {c_entries : Nat → Nat → Int32} {c_bads c_noes c_fulls c_length c_next c_kept c_base c_from c_to c_above c_bit c_lastLeft : Int32} {v1 : Int32} {r : Int32} {o_heads : Nat → Int32} {o_firsts : Nat → Int32} {o_levelOf : Nat → Int32} {o_aboveOf : Nat → Int32} {o_partings : Nat → Int32} {o_signs : Nat → Int32} {o_count : Nat → Int32} {o_pages : Nat → Int32} {o_levels : Nat → Int32} {o_most : Nat → Int32} {o_bits : Nat → Nat → Int64} {o_entries : Nat → Nat → Int32} {o_bads : Int32} {o_noes : Int32} {o_fulls : Int32} {o_next : Int32} {o_kept : Int32} (hG : kG a LW LS LK) (hm : C7_deals a LW LS c_words c_heads c_firsts c_levelOf c_aboveOf c_partings c_signs c_count c_pages c_levels c_most c_bits c_entries c_bads c_noes c_fulls c_next c_kept v1 = some (r, o_heads, o_firsts, o_levelOf, o_aboveOf, o_partings, o_signs, o_count, o_pages, o_levels, o_most, o_bits, o_entries, o_bads, o_noes, o_fulls, o_next, o_kept)) : k_MI l yX7_deals wsX7_deals { frames := 4, cells := 0, slots := 0, locals := 89 } D (kT cI cJ cB cL cS cW) [.ref (a 0), .int v1] (WC a wb sw se LW LS LK cI cJ cB cL cS cW c_bytes c_heads c_firsts c_levelOf c_aboveOf c_partings c_signs c_count c_pages c_levels c_most c_page c_known c_guess c_diff c_pieces c_place c_bits c_words c_entries c_bads c_noes c_fulls c_length c_next c_kept c_base c_from c_to c_above c_bit c_lastLeft) r (WC a wb sw se LW LS LK cI cJ cB cL cS cW c_bytes o_heads o_firsts o_levelOf o_aboveOf o_partings o_signs o_count o_pages o_levels o_most c_page c_known c_guess c_diff c_pieces c_place o_bits c_words o_entries o_bads o_noes o_fulls c_length o_next o_kept c_base c_from c_to c_above c_bit c_lastLeft) := by
  refine k_ofI (cc := cX7_deals) (maxL := 2) (own := RX7) (by decide) rfl rfl (Nat.le_of_ble_eq_true rfl) ?_
  intro p e s m args below meth c A Q ls C hP hD hl hret
  have hD : va_D A (WC0 a wb sw se LW LS LK cI cJ cB cL cS cW) := WCD hD
  have hS : va_S A s.heap s.heap [] := va_S.rf
  have hl : lv_has ls 2 [(0, .ref (a 0)), (1, .int v1)] := hl
  obtain ⟨hx, hb, hml, hr, hown, hts, hlocks, hK, hA, hN⟩ := id C
  rw [C7_deals] at hm
  refine lv_iload_n hx hb dX7_deals_0 rfl (lv_at hl 1 rfl) ?_
  refine lv_iconst (v := 4) hx hb dX7_deals_1 (by decide) ?_
  refine lv_icmp_lt (tgt := 11) hx hb dX7_deals_2 (by decide) (fun hc => ?_) (fun hc => ?_)
  · have hm := if_t hc hm
    exact t_C7_deals_J11 C hD hG hret _ _ _ _ _ _ _ _ _ _ _ _ _ _ _ _ _ _ _ _ hP hS (lv_sub hl [0] rfl) hm
  · have hm := if_f hc hm
    refine lv_iload_n hx hb dX7_deals_5 rfl (lv_at hl 1 rfl) ?_
    refine lv_bipush (v := 8) hx hb dX7_deals_6 (by decide) ?_
    refine lv_icmp_le (tgt := 18) hx hb dX7_deals_8 (by decide) (fun hc => ?_) (fun hc => ?_)
    · have hm := if_t hc hm
      refine lv_aload_n hx hb dX7_deals_18 rfl (lv_at hl 0 rfl) ?_
      refine kg (v := .ref (a 11)) hx hb hts hiX7_deals_X7 hown hK hP 0 rfl rfl 3 (by decide) flX7_deals_33 rfl rfl dX7_deals_19 ?_
      refine lv_aload_n hx hb dX7_deals_22 rfl (lv_at hl 0 rfl) ?_
      refine kg (v := .ref (a 3)) hx hb hts hiX7_deals_X7 hown hK hP 0 rfl rfl 2 (by decide) flX7_deals_26 rfl rfl dX7_deals_23 ?_
      refine kg (v := .ref (a 14)) hx hb hts hiX7_deals_X0 hown hK hP 3 rfl rfl 0 (by decide) flX7_deals_68 rfl rfl dX7_deals_26 ?_
      obtain ⟨c_signs_29, c_count_29, c_pages_29, c_levels_29, c_most_29, c_bits_29, c_entries_29, c_next_29, c_kept_29, hq0, hm⟩ := bd9_some hm
      refine k_callVV (As := [.ref (a 14)]) (rest := []) ⟨hx, hb, hml, hown, hts⟩ hK hA hN (c_X2_keep hG hG.2.2.2.2.1 hq0) (cwV 1 hts gX7_deals_X2_keep rfl rfl rfl hdX2_keep ⟨Nat.le_of_ble_eq_true rfl, Nat.le_of_ble_eq_true rfl⟩) hP (WCD hD) hS 11 2 rfl rfl rfl hl.1 rfl rfl (Nat.le_of_ble_eq_true rfl) ⟨Nat.zero_le _, Nat.zero_le _⟩ dX7_deals_29 (fun H locs hP hS => ?_)
      refine lv_aload_n hx hb dX7_deals_32 rfl (lv_at hl 0 rfl) ?_
      refine kg (v := .ref (a 3)) hx hb hts hiX7_deals_X7 hown hK hP 0 rfl rfl 2 (by decide) flX7_deals_26 rfl rfl dX7_deals_33 ?_
      refine kg (v := .ref (a 14)) hx hb hts hiX7_deals_X0 hown hK hP 3 rfl rfl 0 (by decide) flX7_deals_68 rfl rfl dX7_deals_36 ?_
      refine lv_iload_n hx hb dX7_deals_39 rfl (lv_at hl 1 rfl) ?_
      obtain ⟨c_pages_40, c_levels_40, c_most_40, c_entries_40, hq0, hm⟩ := bd4_some hm
      obtain ⟨q, hq, -⟩ := WC_S hG hG.2.2.2.2.1
      refine k_callVV (As := [.int v1]) (rest := []) ⟨hx, hb, hml, hown, hts⟩ hK hA hN (c_X3_deal hG hG.2.2.2.2.1 hq0) (cwV 1 hts gX7_deals_X3_deal rfl rfl rfl hdX3_deal ⟨Nat.le_of_ble_eq_true rfl, Nat.le_of_ble_eq_true rfl⟩) hP (WCD hD) hS q 3 hq rfl rfl hl.1 rfl rfl (Nat.le_of_ble_eq_true rfl) ⟨Nat.zero_le _, Nat.zero_le _⟩ dX7_deals_40 (fun H locs hP hS => ?_)
      refine lv_aload_n hx hb dX7_deals_43 rfl (lv_at hl 0 rfl) ?_
      refine kg (v := .ref (a 3)) hx hb hts hiX7_deals_X7 hown hK hP 0 rfl rfl 2 (by decide) flX7_deals_26 rfl rfl dX7_deals_44 ?_
      obtain ⟨c_heads_47, c_firsts_47, c_levelOf_47, c_aboveOf_47, c_partings_47, hq0, hm⟩ := bd5_some hm
      refine k_callVV (As := []) (rest := []) ⟨hx, hb, hml, hown, hts⟩ hK hA hN (c_X0_settle hG hq0) (cwV 0 hts gX7_deals_X0_settle rfl rfl rfl hdX0_settle ⟨Nat.le_of_ble_eq_true rfl, Nat.le_of_ble_eq_true rfl⟩) hP (WCD hD) hS 3 0 rfl rfl rfl hl.1 rfl rfl (Nat.le_of_ble_eq_true rfl) ⟨Nat.zero_le _, Nat.zero_le _⟩ dX7_deals_47 (fun H locs hP hS => ?_)
      refine lv_aload_n hx hb dX7_deals_50 rfl (lv_at hl 0 rfl) ?_
      refine kg (v := .ref (a 3)) hx hb hts hiX7_deals_X7 hown hK hP 0 rfl rfl 2 (by decide) flX7_deals_26 rfl rfl dX7_deals_51 ?_
      refine kg (v := .ref (a 14)) hx hb hts hiX7_deals_X0 hown hK hP 3 rfl rfl 0 (by decide) flX7_deals_68 rfl rfl dX7_deals_54 ?_
      obtain ⟨q, hq, -⟩ := WC_S hG hG.2.2.2.2.1
      refine kg (v := .int (c_pages_40 (a 14))) hx hb hts hiX7_deals_X3 hown hK hP q hq rfl 3 (by decide) flX7_deals_118 rfl rfl dX7_deals_57 ?_
      simp only [Option.some.injEq, Prod.mk.injEq] at hm
      obtain ⟨rfl, rfl, rfl, rfl, rfl, rfl, rfl, rfl, rfl, rfl, rfl, rfl, rfl, rfl, rfl, rfl, rfl, rfl⟩ := hm
      exact hret _ _ _ _ dX7_deals_60 hP hS
    · have hm := if_f hc hm
      exact t_C7_deals_J11 C hD hG hret _ _ _ _ _ _ _ _ _ _ _ _ _ _ _ _ _ _ _ _ hP hS (lv_sub hl [0] rfl) hm
theorem hdX3_empty : yX3_empty.cls = RX3 ∧ yX3_empty.cls ≠ "java/lang/invoke/MethodHandle" ∧ yX3_empty.cls ≠ "java/lang/invoke/VarHandle" ∧ (parseMethodDescriptor yX3_empty.desc).map (fun d => d.parameters.length) = some 0 := by decide +kernel
theorem hiX3_empty_X3 : ∀ w ∈ u_ws RX3 TX3 6, w ∈ wsX3_empty := by decide +kernel
theorem flX3_empty_26 : Cond.fieldLink RX3 26 "BlindPages$State" "count" "I" ∈ wsX3_empty := by decide +kernel
theorem flX3_empty_29 : Cond.fieldLink RX3 29 "BlindPages$State" "pages" "I" ∈ wsX3_empty := by decide +kernel
theorem flX3_empty_32 : Cond.fieldLink RX3 32 "BlindPages$State" "levels" "I" ∈ wsX3_empty := by decide +kernel
theorem flX3_empty_21 : Cond.fieldLink RX3 21 "BlindPages$State" "most" "I" ∈ wsX3_empty := by decide +kernel
def C3_empty (c_count c_pages c_levels c_most : Nat → Int32) (v0 : Nat) : Option ((Nat → Int32) × (Nat → Int32) × (Nat → Int32) × (Nat → Int32)) := some ((va_up c_count v0 0), (va_up c_pages v0 0), (va_up c_levels v0 0), (va_up c_most v0 4))
set_option maxRecDepth 100000 in
set_option maxHeartbeats 4000000 in
theorem c_X3_empty {l : Launch} {D : va_G} {cI cJ cB cL cS cW : ClassId} {a wb sw se : Nat → Nat} {LW LS LK : List Nat} {c_bytes c_heads c_firsts c_levelOf c_aboveOf c_partings c_signs c_count c_pages c_levels c_most c_page c_known c_guess c_diff c_pieces c_place : Nat → Int32} {c_bits : Nat → Nat → Int64} {c_words : Nat → Nat → Nat} {c_entries : Nat → Nat → Int32} {c_bads c_noes c_fulls c_length c_next c_kept c_base c_from c_to c_above c_bit c_lastLeft : Int32} {v0 : Nat} {o_count : Nat → Int32} {o_pages : Nat → Int32} {o_levels : Nat → Int32} {o_most : Nat → Int32} (hG : kG a LW LS LK) (hv0 : v0 ∈ LS) (hm : C3_empty c_count c_pages c_levels c_most v0 = some (o_count, o_pages, o_levels, o_most)) : k_MV l yX3_empty wsX3_empty { frames := 0, cells := 0, slots := 0, locals := 0 } D (kT cI cJ cB cL cS cW) [.ref v0] (WC a wb sw se LW LS LK cI cJ cB cL cS cW c_bytes c_heads c_firsts c_levelOf c_aboveOf c_partings c_signs c_count c_pages c_levels c_most c_page c_known c_guess c_diff c_pieces c_place c_bits c_words c_entries c_bads c_noes c_fulls c_length c_next c_kept c_base c_from c_to c_above c_bit c_lastLeft) (WC a wb sw se LW LS LK cI cJ cB cL cS cW c_bytes c_heads c_firsts c_levelOf c_aboveOf c_partings c_signs o_count o_pages o_levels o_most c_page c_known c_guess c_diff c_pieces c_place c_bits c_words c_entries c_bads c_noes c_fulls c_length c_next c_kept c_base c_from c_to c_above c_bit c_lastLeft) := by
  refine k_ofV (cc := cX3_empty) (maxL := 1) (own := RX3) (by decide) rfl rfl (Nat.le_of_ble_eq_true rfl) ?_
  intro p e s m args below meth c A Q ls C hP hD hl hret
  have hD : va_D A (WC0 a wb sw se LW LS LK cI cJ cB cL cS cW) := WCD hD
  have hS : va_S A s.heap s.heap [] := va_S.rf
  have hl : lv_has ls 1 [(0, .ref v0)] := hl
  obtain ⟨hx, hb, hml, hr, hown, hts, hlocks, hK, hA, hN⟩ := id C
  rw [C3_empty] at hm
  refine lv_aload_n hx hb dX3_empty_0 rfl (lv_at hl 0 rfl) ?_
  refine lv_iconst (v := 0) hx hb dX3_empty_1 (by decide) ?_
  obtain ⟨q, hq, he⟩ := WC_S hG hv0
  refine kp hx hb hts hiX3_empty_X3 tyX3 tyX3_ok nmX3 hown hK hP (WCD hD) hS q hq rfl 2 (by decide) flX3_empty_26 rfl rfl rfl (Nat.le_of_ble_eq_true rfl) dX3_empty_2 (fun H locs hP hS => ?_)
  have hP : va_P D vwCl (WC a wb sw se LW LS LK cI cJ cB cL cS cW c_bytes c_heads c_firsts c_levelOf c_aboveOf c_partings c_signs (va_up c_count v0 0) c_pages c_levels c_most c_page c_known c_guess c_diff c_pieces c_place c_bits c_words c_entries c_bads c_noes c_fulls c_length c_next c_kept c_base c_from c_to c_above c_bit c_lastLeft) H := by rw [← he.1]; exact hP
  refine lv_aload_n hx hb dX3_empty_5 rfl (lv_at hl 0 rfl) ?_
  refine lv_iconst (v := 0) hx hb dX3_empty_6 (by decide) ?_
  obtain ⟨q, hq, he⟩ := WC_S hG hv0
  refine kp hx hb hts hiX3_empty_X3 tyX3 tyX3_ok nmX3 hown hK hP (WCD hD) hS q hq rfl 3 (by decide) flX3_empty_29 rfl rfl rfl (Nat.le_of_ble_eq_true rfl) dX3_empty_7 (fun H locs hP hS => ?_)
  have hP : va_P D vwCl (WC a wb sw se LW LS LK cI cJ cB cL cS cW c_bytes c_heads c_firsts c_levelOf c_aboveOf c_partings c_signs (va_up c_count v0 0) (va_up c_pages v0 0) c_levels c_most c_page c_known c_guess c_diff c_pieces c_place c_bits c_words c_entries c_bads c_noes c_fulls c_length c_next c_kept c_base c_from c_to c_above c_bit c_lastLeft) H := by rw [← he.2.1]; exact hP
  refine lv_aload_n hx hb dX3_empty_10 rfl (lv_at hl 0 rfl) ?_
  refine lv_iconst (v := 0) hx hb dX3_empty_11 (by decide) ?_
  obtain ⟨q, hq, he⟩ := WC_S hG hv0
  refine kp hx hb hts hiX3_empty_X3 tyX3 tyX3_ok nmX3 hown hK hP (WCD hD) hS q hq rfl 4 (by decide) flX3_empty_32 rfl rfl rfl (Nat.le_of_ble_eq_true rfl) dX3_empty_12 (fun H locs hP hS => ?_)
  have hP : va_P D vwCl (WC a wb sw se LW LS LK cI cJ cB cL cS cW c_bytes c_heads c_firsts c_levelOf c_aboveOf c_partings c_signs (va_up c_count v0 0) (va_up c_pages v0 0) (va_up c_levels v0 0) c_most c_page c_known c_guess c_diff c_pieces c_place c_bits c_words c_entries c_bads c_noes c_fulls c_length c_next c_kept c_base c_from c_to c_above c_bit c_lastLeft) H := by rw [← he.2.2.1]; exact hP
  refine lv_aload_n hx hb dX3_empty_15 rfl (lv_at hl 0 rfl) ?_
  refine lv_iconst (v := 4) hx hb dX3_empty_16 (by decide) ?_
  obtain ⟨q, hq, he⟩ := WC_S hG hv0
  refine kp hx hb hts hiX3_empty_X3 tyX3 tyX3_ok nmX3 hown hK hP (WCD hD) hS q hq rfl 5 (by decide) flX3_empty_21 rfl rfl rfl (Nat.le_of_ble_eq_true rfl) dX3_empty_17 (fun H locs hP hS => ?_)
  have hP : va_P D vwCl (WC a wb sw se LW LS LK cI cJ cB cL cS cW c_bytes c_heads c_firsts c_levelOf c_aboveOf c_partings c_signs (va_up c_count v0 0) (va_up c_pages v0 0) (va_up c_levels v0 0) (va_up c_most v0 4) c_page c_known c_guess c_diff c_pieces c_place c_bits c_words c_entries c_bads c_noes c_fulls c_length c_next c_kept c_base c_from c_to c_above c_bit c_lastLeft) H := by rw [← he.2.2.2]; exact hP
  simp only [Option.some.injEq, Prod.mk.injEq] at hm
  obtain ⟨rfl, rfl, rfl, rfl⟩ := hm
  exact hret _ _ _ _ dX3_empty_20 hP hS
theorem hdX7_anew : yX7_anew.cls = RX7 ∧ yX7_anew.cls ≠ "java/lang/invoke/MethodHandle" ∧ yX7_anew.cls ≠ "java/lang/invoke/VarHandle" ∧ (parseMethodDescriptor yX7_anew.desc).map (fun d => d.parameters.length) = some 0 := by decide +kernel
theorem hiX7_anew_X7 : ∀ w ∈ u_ws RX7 TX7 8, w ∈ wsX7_anew := by decide +kernel
theorem hiX7_anew_X0 : ∀ w ∈ u_ws RX0 TX0 7, w ∈ wsX7_anew := by decide +kernel
theorem hiX7_anew_X3 : ∀ w ∈ u_ws RX3 TX3 6, w ∈ wsX7_anew := by decide +kernel
theorem flX7_anew_26 : Cond.fieldLink RX7 26 "BlindPages" "index" "LBlindPages$Index;" ∈ wsX7_anew := by decide +kernel
theorem flX7_anew_68 : Cond.fieldLink RX7 68 "BlindPages$Index" "now" "LBlindPages$State;" ∈ wsX7_anew := by decide +kernel
theorem flX7_anew_72 : Cond.fieldLink RX7 72 "BlindPages$State" "count" "I" ∈ wsX7_anew := by decide +kernel
theorem flX7_anew_33 : Cond.fieldLink RX7 33 "BlindPages" "past" "LBlindPages$Past;" ∈ wsX7_anew := by decide +kernel
def C7_anew (a : Nat → Nat) (LW LS : List Nat) (c_words : Nat → Nat → Nat) (c_heads c_firsts c_levelOf c_aboveOf c_partings c_signs c_count c_pages c_levels c_most : Nat → Int32) (c_bits : Nat → Nat → Int64) (c_entries : Nat → Nat → Int32) (c_next c_kept : Int32) : Option (Int32 × (Nat → Int32) × (Nat → Int32) × (Nat → Int32) × (Nat → Int32) × (Nat → Int32) × (Nat → Int32) × (Nat → Int32) × (Nat → Int32) × (Nat → Int32) × (Nat → Int32) × (Nat → Nat → Int64) × (Nat → Nat → Int32) × Int32 × Int32) := bd9 (C2_keep a LW LS c_words c_signs c_count c_pages c_levels c_most c_bits c_entries c_next c_kept (a 14)) fun c_signs_22 c_count_22 c_pages_22 c_levels_22 c_most_22 c_bits_22 c_entries_22 c_next_22 c_kept_22 => bd4 (C3_empty c_count_22 c_pages_22 c_levels_22 c_most_22 (a 14)) fun c_count_32 c_pages_32 c_levels_32 c_most_32 => bd5 (C0_settle a LW c_count_32 c_pages_32 c_bits_22 c_words c_entries_22 c_heads c_firsts c_levelOf c_aboveOf c_partings) fun c_heads_39 c_firsts_39 c_levelOf_39 c_aboveOf_39 c_partings_39 => some ((c_count (a 14)), c_heads_39, c_firsts_39, c_levelOf_39, c_aboveOf_39, c_partings_39, c_signs_22, c_count_32, c_pages_32, c_levels_32, c_most_32, c_bits_22, c_entries_22, c_next_22, c_kept_22)
set_option maxRecDepth 100000 in
set_option maxHeartbeats 4000000 in
theorem c_X7_anew {l : Launch} {D : va_G} {cI cJ cB cL cS cW : ClassId} {a wb sw se : Nat → Nat} {LW LS LK : List Nat} {c_bytes c_heads c_firsts c_levelOf c_aboveOf c_partings c_signs c_count c_pages c_levels c_most c_page c_known c_guess c_diff c_pieces c_place : Nat → Int32} {c_bits : Nat → Nat → Int64} {c_words : Nat → Nat → Nat} {c_entries : Nat → Nat → Int32} {c_bads c_noes c_fulls c_length c_next c_kept c_base c_from c_to c_above c_bit c_lastLeft : Int32} {r : Int32} {o_heads : Nat → Int32} {o_firsts : Nat → Int32} {o_levelOf : Nat → Int32} {o_aboveOf : Nat → Int32} {o_partings : Nat → Int32} {o_signs : Nat → Int32} {o_count : Nat → Int32} {o_pages : Nat → Int32} {o_levels : Nat → Int32} {o_most : Nat → Int32} {o_bits : Nat → Nat → Int64} {o_entries : Nat → Nat → Int32} {o_next : Int32} {o_kept : Int32} (hG : kG a LW LS LK) (hm : C7_anew a LW LS c_words c_heads c_firsts c_levelOf c_aboveOf c_partings c_signs c_count c_pages c_levels c_most c_bits c_entries c_next c_kept = some (r, o_heads, o_firsts, o_levelOf, o_aboveOf, o_partings, o_signs, o_count, o_pages, o_levels, o_most, o_bits, o_entries, o_next, o_kept)) : k_MI l yX7_anew wsX7_anew { frames := 4, cells := 0, slots := 0, locals := 89 } D (kT cI cJ cB cL cS cW) [.ref (a 0)] (WC a wb sw se LW LS LK cI cJ cB cL cS cW c_bytes c_heads c_firsts c_levelOf c_aboveOf c_partings c_signs c_count c_pages c_levels c_most c_page c_known c_guess c_diff c_pieces c_place c_bits c_words c_entries c_bads c_noes c_fulls c_length c_next c_kept c_base c_from c_to c_above c_bit c_lastLeft) r (WC a wb sw se LW LS LK cI cJ cB cL cS cW c_bytes o_heads o_firsts o_levelOf o_aboveOf o_partings o_signs o_count o_pages o_levels o_most c_page c_known c_guess c_diff c_pieces c_place o_bits c_words o_entries c_bads c_noes c_fulls c_length o_next o_kept c_base c_from c_to c_above c_bit c_lastLeft) := by
  refine k_ofI (cc := cX7_anew) (maxL := 2) (own := RX7) (by decide) rfl rfl (Nat.le_of_ble_eq_true rfl) ?_
  intro p e s m args below meth c A Q ls C hP hD hl hret
  have hD : va_D A (WC0 a wb sw se LW LS LK cI cJ cB cL cS cW) := WCD hD
  have hS : va_S A s.heap s.heap [] := va_S.rf
  have hl : lv_has ls 2 [(0, .ref (a 0))] := hl
  obtain ⟨hx, hb, hml, hr, hown, hts, hlocks, hK, hA, hN⟩ := id C
  rw [C7_anew] at hm
  refine lv_aload_n hx hb dX7_anew_0 rfl (lv_at hl 0 rfl) ?_
  refine kg (v := .ref (a 3)) hx hb hts hiX7_anew_X7 hown hK hP 0 rfl rfl 2 (by decide) flX7_anew_26 rfl rfl dX7_anew_1 ?_
  refine kg (v := .ref (a 14)) hx hb hts hiX7_anew_X0 hown hK hP 3 rfl rfl 0 (by decide) flX7_anew_68 rfl rfl dX7_anew_4 ?_
  obtain ⟨q, hq, -⟩ := WC_S hG hG.2.2.2.2.1
  refine kg (v := .int (c_count (a 14))) hx hb hts hiX7_anew_X3 hown hK hP q hq rfl 2 (by decide) flX7_anew_72 rfl rfl dX7_anew_7 ?_
  refine lv_istore_n (lv' := [(1, .int (c_count (a 14))), (0, .ref (a 0))]) hx hb dX7_anew_10 rfl hl (by decide) rfl (fun ls hl => ?_)
  refine lv_aload_n hx hb dX7_anew_11 rfl (lv_at hl 1 rfl) ?_
  refine kg (v := .ref (a 11)) hx hb hts hiX7_anew_X7 hown hK hP 0 rfl rfl 3 (by decide) flX7_anew_33 rfl rfl dX7_anew_12 ?_
  refine lv_aload_n hx hb dX7_anew_15 rfl (lv_at hl 1 rfl) ?_
  refine kg (v := .ref (a 3)) hx hb hts hiX7_anew_X7 hown hK hP 0 rfl rfl 2 (by decide) flX7_anew_26 rfl rfl dX7_anew_16 ?_
  refine kg (v := .ref (a 14)) hx hb hts hiX7_anew_X0 hown hK hP 3 rfl rfl 0 (by decide) flX7_anew_68 rfl rfl dX7_anew_19 ?_
  obtain ⟨c_signs_22, c_count_22, c_pages_22, c_levels_22, c_most_22, c_bits_22, c_entries_22, c_next_22, c_kept_22, hq0, hm⟩ := bd9_some hm
  refine k_callVV (As := [.ref (a 14)]) (rest := []) ⟨hx, hb, hml, hown, hts⟩ hK hA hN (c_X2_keep hG hG.2.2.2.2.1 hq0) (cwV 1 hts gX7_anew_X2_keep rfl rfl rfl hdX2_keep ⟨Nat.le_of_ble_eq_true rfl, Nat.le_of_ble_eq_true rfl⟩) hP (WCD hD) hS 11 2 rfl rfl rfl hl.1 rfl rfl (Nat.le_of_ble_eq_true rfl) ⟨Nat.zero_le _, Nat.zero_le _⟩ dX7_anew_22 (fun H locs hP hS => ?_)
  refine lv_aload_n hx hb dX7_anew_25 rfl (lv_at hl 1 rfl) ?_
  refine kg (v := .ref (a 3)) hx hb hts hiX7_anew_X7 hown hK hP 0 rfl rfl 2 (by decide) flX7_anew_26 rfl rfl dX7_anew_26 ?_
  refine kg (v := .ref (a 14)) hx hb hts hiX7_anew_X0 hown hK hP 3 rfl rfl 0 (by decide) flX7_anew_68 rfl rfl dX7_anew_29 ?_
  obtain ⟨c_count_32, c_pages_32, c_levels_32, c_most_32, hq0, hm⟩ := bd4_some hm
  obtain ⟨q, hq, -⟩ := WC_S hG hG.2.2.2.2.1
  refine k_callVV (As := []) (rest := []) ⟨hx, hb, hml, hown, hts⟩ hK hA hN (c_X3_empty hG hG.2.2.2.2.1 hq0) (cwV 0 hts gX7_anew_X3_empty rfl rfl rfl hdX3_empty ⟨Nat.le_of_ble_eq_true rfl, Nat.le_of_ble_eq_true rfl⟩) hP (WCD hD) hS q 3 hq rfl rfl hl.1 rfl rfl (Nat.le_of_ble_eq_true rfl) ⟨Nat.zero_le _, Nat.zero_le _⟩ dX7_anew_32 (fun H locs hP hS => ?_)
  refine lv_aload_n hx hb dX7_anew_35 rfl (lv_at hl 1 rfl) ?_
  refine kg (v := .ref (a 3)) hx hb hts hiX7_anew_X7 hown hK hP 0 rfl rfl 2 (by decide) flX7_anew_26 rfl rfl dX7_anew_36 ?_
  obtain ⟨c_heads_39, c_firsts_39, c_levelOf_39, c_aboveOf_39, c_partings_39, hq0, hm⟩ := bd5_some hm
  refine k_callVV (As := []) (rest := []) ⟨hx, hb, hml, hown, hts⟩ hK hA hN (c_X0_settle hG hq0) (cwV 0 hts gX7_anew_X0_settle rfl rfl rfl hdX0_settle ⟨Nat.le_of_ble_eq_true rfl, Nat.le_of_ble_eq_true rfl⟩) hP (WCD hD) hS 3 0 rfl rfl rfl hl.1 rfl rfl (Nat.le_of_ble_eq_true rfl) ⟨Nat.zero_le _, Nat.zero_le _⟩ dX7_anew_39 (fun H locs hP hS => ?_)
  refine lv_iload_n hx hb dX7_anew_42 rfl (lv_at hl 0 rfl) ?_
  simp only [Option.some.injEq, Prod.mk.injEq] at hm
  obtain ⟨rfl, rfl, rfl, rfl, rfl, rfl, rfl, rfl, rfl, rfl, rfl, rfl, rfl, rfl, rfl⟩ := hm
  exact hret _ _ _ _ dX7_anew_43 hP hS
theorem hdX0_cost : yX0_cost.cls = RX0 ∧ yX0_cost.cls ≠ "java/lang/invoke/MethodHandle" ∧ yX0_cost.cls ≠ "java/lang/invoke/VarHandle" ∧ (parseMethodDescriptor yX0_cost.desc).map (fun d => d.parameters.length) = some 0 := by decide +kernel
theorem hiX0_cost_X0 : ∀ w ∈ u_ws RX0 TX0 7, w ∈ wsX0_cost := by decide +kernel
theorem hiX0_cost_X1 : ∀ w ∈ u_ws RX1 TX1 6, w ∈ wsX0_cost := by decide +kernel
theorem hiX0_cost_X3 : ∀ w ∈ u_ws RX3 TX3 6, w ∈ wsX0_cost := by decide +kernel
theorem flX0_cost_12 : Cond.fieldLink RX0 12 "BlindPages$Index" "now" "LBlindPages$State;" ∈ wsX0_cost := by decide +kernel
theorem flX0_cost_134 : Cond.fieldLink RX0 134 "BlindPages$State" "levels" "I" ∈ wsX0_cost := by decide +kernel
theorem flX0_cost_122 : Cond.fieldLink RX0 122 "BlindPages$Look" "pieces" "I" ∈ wsX0_cost := by decide +kernel
def C0_cost_L4 (a : Nat → Nat) (LK : List Nat) (c_levels c_pieces : Nat → Int32) (k32 : Int32 → Option (Int32)) : Nat → Int32 → Int32 → Option (Int32)
  | 0, _, _ => none
  | n + 1, v1, v2 => if (c_levels (a 14)) ≤ v2 then (k32 v1) else (bd1 (C0_lookOf a LK v2) fun r18 => gm LK r18 (C0_cost_L4 a LK c_levels c_pieces k32 n (v1 + (c_pieces r18)) (v2 + 1)))
def C0_cost (a : Nat → Nat) (LK : List Nat) (c_levels c_pieces : Nat → Int32) : Option (Int32) := C0_cost_L4 a LK c_levels c_pieces (fun v1 => some v1) FU 0 0
set_option maxRecDepth 100000 in
set_option maxHeartbeats 4000000 in
theorem t_C0_cost_L4 {p : Program} {l : Launch} {e : Env} {s : State} {m : MethodId} {args : Array Value} {below : List Frame} {meth : Method} {c : Code} {Q : State → Prop} {A : Nat → Prop} {D : va_G} {cI cJ cB cL cS cW : ClassId} {a wb sw se : Nat → Nat} {LW LS LK : List Nat} {c_bytes c_heads c_firsts c_levelOf c_aboveOf c_partings c_signs c_count c_pages c_levels c_most c_page c_known c_guess c_diff c_pieces c_place : Nat → Int32} {c_bits : Nat → Nat → Int64} {c_words : Nat → Nat → Nat} {c_entries : Nat → Nat → Int32} {c_bads c_noes c_fulls c_length c_next c_kept c_base c_from c_to c_above c_bit c_lastLeft : Int32} {r : Int32} (C : k_C p s m args meth c cX0_cost 3 (some .int) RX0 wsX0_cost D (kT cI cJ cB cL cS cW) A) (hD : va_D A (WC0 a wb sw se LW LS LK cI cJ cB cL cS cW)) (hG : kG a LW LS LK) (hret : ∀ (H : Heap) (locs : List Loc) (pc : Nat) (ls : Array Slot), decode cX0_cost pc = .ok (.ireturn, 1) → va_P D vwCl (WC a wb sw se LW LS LK cI cJ cB cL cS cW c_bytes c_heads c_firsts c_levelOf c_aboveOf c_partings c_signs c_count c_pages c_levels c_most c_page c_known c_guess c_diff c_pieces c_place c_bits c_words c_entries c_bads c_noes c_fulls c_length c_next c_kept c_base c_from c_to c_above c_bit c_lastLeft) H → va_S A s.heap H locs → W p l e { frames := 1, cells := 0, slots := 0, locals := 21 } s m args below meth c H locs 0 0 Q (F0 m pc ls [.int r])) {k32 : Int32 → Option (Int32)} (hk32 : ∀ (v1 : Int32) (H : Heap) (locs : List Loc) (ls : Array Slot), va_P D vwCl (WC a wb sw se LW LS LK cI cJ cB cL cS cW c_bytes c_heads c_firsts c_levelOf c_aboveOf c_partings c_signs c_count c_pages c_levels c_most c_page c_known c_guess c_diff c_pieces c_place c_bits c_words c_entries c_bads c_noes c_fulls c_length c_next c_kept c_base c_from c_to c_above c_bit c_lastLeft) H → va_S A s.heap H locs → lv_has ls 3 [(1, .int v1)] → k32 v1 = some r → W p l e { frames := 1, cells := 0, slots := 0, locals := 21 } s m args below meth c H locs 0 0 Q (F0 m 32 ls [])) : ∀ n : Nat, ∀ (v1 : Int32) (v2 : Int32) (H : Heap) (locs : List Loc) (ls : Array Slot), va_P D vwCl (WC a wb sw se LW LS LK cI cJ cB cL cS cW c_bytes c_heads c_firsts c_levelOf c_aboveOf c_partings c_signs c_count c_pages c_levels c_most c_page c_known c_guess c_diff c_pieces c_place c_bits c_words c_entries c_bads c_noes c_fulls c_length c_next c_kept c_base c_from c_to c_above c_bit c_lastLeft) H → va_S A s.heap H locs → lv_has ls 3 [(0, .ref (a 3)), (1, .int v1), (2, .int v2)] → (C0_cost_L4 a LK c_levels c_pieces k32 n) v1 v2 = some r → W p l e { frames := 1, cells := 0, slots := 0, locals := 21 } s m args below meth c H locs 0 0 Q (F0 m 4 ls []) := by
  obtain ⟨hx, hb, hml, hr, hown, hts, hlocks, hK, hA, hN⟩ := id C
  intro n
  induction n with
  | zero =>
    intro v1 v2 H locs ls hP hS hl hm
    cases hm
  | succ n ih =>
    intro v1 v2 H locs ls hP hS hl hm
    rw [C0_cost_L4] at hm
    refine lv_iload_n hx hb dX0_cost_4 rfl (lv_at hl 2 rfl) ?_
    refine lv_aload_n hx hb dX0_cost_5 rfl (lv_at hl 0 rfl) ?_
    refine kg (v := .ref (a 14)) hx hb hts hiX0_cost_X0 hown hK hP 3 rfl rfl 0 (by decide) flX0_cost_12 rfl rfl dX0_cost_6 ?_
    obtain ⟨q, hq, -⟩ := WC_S hG hG.2.2.2.2.1
    refine kg (v := .int (c_levels (a 14))) hx hb hts hiX0_cost_X3 hown hK hP q hq rfl 4 (by decide) flX0_cost_134 rfl rfl dX0_cost_9 ?_
    refine lv_icmp_ge (tgt := 32) hx hb dX0_cost_12 (by decide) (fun hc => ?_) (fun hc => ?_)
    · have hm := if_t hc hm
      exact hk32 _ _ _ _ hP hS (lv_sub hl [1] rfl) hm
    · have hm := if_f hc hm
      refine lv_iload_n hx hb dX0_cost_15 rfl (lv_at hl 1 rfl) ?_
      refine lv_aload_n hx hb dX0_cost_16 rfl (lv_at hl 0 rfl) ?_
      refine lv_iload_n hx hb dX0_cost_17 rfl (lv_at hl 2 rfl) ?_
      obtain ⟨r18, hq0, hm⟩ := bd1_some hm
      obtain ⟨hw18, hm⟩ := gm_some hm
      refine k_callVA (As := [.int v2]) (rest := [.int v1]) ⟨hx, hb, hml, hown, hts⟩ hK hA hN (c_X0_lookOf hG hq0) (cwV 1 hts gX0_cost_X0_lookOf rfl rfl rfl hdX0_lookOf ⟨Nat.le_of_ble_eq_true rfl, Nat.le_of_ble_eq_true rfl⟩) hP (WCD hD) hS 3 0 rfl rfl rfl hl.1 rfl rfl (Nat.le_of_ble_eq_true rfl) ⟨Nat.zero_le _, Nat.zero_le _⟩ dX0_cost_18 (fun H locs hP hS => ?_)
      obtain ⟨q, hq, -⟩ := WC_K hG hw18
      refine kg (v := .int (c_pieces r18)) hx hb hts hiX0_cost_X1 hown hK hP q hq rfl 4 (by decide) flX0_cost_122 rfl rfl dX0_cost_21 ?_
      refine lv_iadd hx hb dX0_cost_24 ?_
      refine lv_istore_n (lv' := [(1, .int (v1 + (c_pieces r18))), (0, .ref (a 3)), (2, .int v2)]) hx hb dX0_cost_25 rfl hl (by decide) rfl (fun ls hl => ?_)
      refine lv_iinc (v := (v2 + 1)) (lv' := [(2, .int (v2 + 1)), (1, .int (v1 + (c_pieces r18))), (0, .ref (a 3))]) hx hb dX0_cost_26 hl (k := 2) rfl rfl (by decide) rfl (fun ls hl => ?_)
      refine lv_goto (tgt := 4) hx hb dX0_cost_29 (by decide) ?_
      exact ih _ _ _ _ _ hP hS (lv_sub hl [2, 1, 0] rfl) hm
set_option maxRecDepth 100000 in
set_option maxHeartbeats 4000000 in
theorem c_X0_cost {l : Launch} {D : va_G} {cI cJ cB cL cS cW : ClassId} {a wb sw se : Nat → Nat} {LW LS LK : List Nat} {c_bytes c_heads c_firsts c_levelOf c_aboveOf c_partings c_signs c_count c_pages c_levels c_most c_page c_known c_guess c_diff c_pieces c_place : Nat → Int32} {c_bits : Nat → Nat → Int64} {c_words : Nat → Nat → Nat} {c_entries : Nat → Nat → Int32} {c_bads c_noes c_fulls c_length c_next c_kept c_base c_from c_to c_above c_bit c_lastLeft : Int32} {r : Int32} (hG : kG a LW LS LK) (hm : C0_cost a LK c_levels c_pieces = some r) : k_MI l yX0_cost wsX0_cost { frames := 1, cells := 0, slots := 0, locals := 21 } D (kT cI cJ cB cL cS cW) [.ref (a 3)] (WC a wb sw se LW LS LK cI cJ cB cL cS cW c_bytes c_heads c_firsts c_levelOf c_aboveOf c_partings c_signs c_count c_pages c_levels c_most c_page c_known c_guess c_diff c_pieces c_place c_bits c_words c_entries c_bads c_noes c_fulls c_length c_next c_kept c_base c_from c_to c_above c_bit c_lastLeft) r (WC a wb sw se LW LS LK cI cJ cB cL cS cW c_bytes c_heads c_firsts c_levelOf c_aboveOf c_partings c_signs c_count c_pages c_levels c_most c_page c_known c_guess c_diff c_pieces c_place c_bits c_words c_entries c_bads c_noes c_fulls c_length c_next c_kept c_base c_from c_to c_above c_bit c_lastLeft) := by
  refine k_ofI (cc := cX0_cost) (maxL := 3) (own := RX0) (by decide) rfl rfl (Nat.le_of_ble_eq_true rfl) ?_
  intro p e s m args below meth c A Q ls C hP hD hl hret
  have hD : va_D A (WC0 a wb sw se LW LS LK cI cJ cB cL cS cW) := WCD hD
  have hS : va_S A s.heap s.heap [] := va_S.rf
  have hl : lv_has ls 3 [(0, .ref (a 3))] := hl
  obtain ⟨hx, hb, hml, hr, hown, hts, hlocks, hK, hA, hN⟩ := id C
  rw [C0_cost] at hm
  refine lv_iconst (v := 0) hx hb dX0_cost_0 (by decide) ?_
  refine lv_istore_n (lv' := [(1, .int 0), (0, .ref (a 3))]) hx hb dX0_cost_1 rfl hl (by decide) rfl (fun ls hl => ?_)
  refine lv_iconst (v := 0) hx hb dX0_cost_2 (by decide) ?_
  refine lv_istore_n (lv' := [(2, .int 0), (1, .int 0), (0, .ref (a 3))]) hx hb dX0_cost_3 rfl hl (by decide) rfl (fun ls hl => ?_)
  refine t_C0_cost_L4 C hD hG hret ?_ FU _ _ _ _ _ hP hS (lv_sub hl [2, 1, 0] rfl) hm
  · intro v1 H locs ls hP hS hl hm
    try dsimp only at hm
    refine lv_iload_n hx hb dX0_cost_32 rfl (lv_at hl 0 rfl) ?_
    obtain rfl := Option.some.inj hm
    exact hret _ _ _ _ dX0_cost_33 hP hS
theorem hdX7_finds : yX7_finds.cls = RX7 ∧ yX7_finds.cls ≠ "java/lang/invoke/MethodHandle" ∧ yX7_finds.cls ≠ "java/lang/invoke/VarHandle" ∧ (parseMethodDescriptor yX7_finds.desc).map (fun d => d.parameters.length) = some 1 := by decide +kernel
theorem hiX7_finds_X7 : ∀ w ∈ u_ws RX7 TX7 8, w ∈ wsX7_finds := by decide +kernel
theorem flX7_finds_10 : Cond.fieldLink RX7 10 "BlindPages" "text" "LBlindPages$Text;" ∈ wsX7_finds := by decide +kernel
theorem flX7_finds_19 : Cond.fieldLink RX7 19 "BlindPages" "word" "LBlindPages$Word;" ∈ wsX7_finds := by decide +kernel
theorem flX7_finds_26 : Cond.fieldLink RX7 26 "BlindPages" "index" "LBlindPages$Index;" ∈ wsX7_finds := by decide +kernel
def C7_finds_J9 (a : Nat → Nat) (LW LK : List Nat) (c_bytes c_heads c_firsts c_partings c_pages c_levels : Nat → Int32) (c_words : Nat → Nat → Nat) (c_entries : Nat → Nat → Int32) (c_length : Int32) (v1 : Int32) (c_signs : (Nat → Int32)) (c_page : (Nat → Int32)) (c_known : (Nat → Int32)) (c_guess : (Nat → Int32)) (c_diff : (Nat → Int32)) (c_pieces : (Nat → Int32)) (c_place : (Nat → Int32)) (c_bits : (Nat → Nat → Int64)) (c_bads : Int32) (c_noes : Int32) (c_fulls : Int32) (c_base : Int32) (c_from : Int32) (c_to : Int32) (c_above : Int32) (c_bit : Int32) (c_lastLeft : Int32) : Option (Int32 × (Nat → Int32) × (Nat → Int32) × (Nat → Int32) × (Nat → Int32) × (Nat → Int32) × (Nat → Int32) × (Nat → Int32) × (Nat → Nat → Int64) × Int32 × Int32 × Int32 × Int32 × Int32 × Int32 × Int32 × Int32 × Int32) := bd4 (C7_refuse c_bads c_noes c_fulls (-2)) fun r12 c_bads_12 c_noes_12 c_fulls_12 => some (r12, c_signs, c_page, c_known, c_guess, c_diff, c_pieces, c_place, c_bits, c_bads_12, c_noes_12, c_fulls_12, c_base, c_from, c_to, c_above, c_bit, c_lastLeft)
def C7_finds (a : Nat → Nat) (LW LK : List Nat) (c_bytes c_heads c_firsts c_partings c_pages c_levels : Nat → Int32) (c_words : Nat → Nat → Nat) (c_entries : Nat → Nat → Int32) (c_length : Int32) (c_signs c_page c_known c_guess c_diff c_pieces c_place : Nat → Int32) (c_bits : Nat → Nat → Int64) (c_bads c_noes c_fulls c_base c_from c_to c_above c_bit c_lastLeft : Int32) (v1 : Int32) : Option (Int32 × (Nat → Int32) × (Nat → Int32) × (Nat → Int32) × (Nat → Int32) × (Nat → Int32) × (Nat → Int32) × (Nat → Int32) × (Nat → Nat → Int64) × Int32 × Int32 × Int32 × Int32 × Int32 × Int32 × Int32 × Int32 × Int32) := if v1 < 0 then (C7_finds_J9 a LW LK c_bytes c_heads c_firsts c_partings c_pages c_levels c_words c_entries c_length v1 c_signs c_page c_known c_guess c_diff c_pieces c_place c_bits c_bads c_noes c_fulls c_base c_from c_to c_above c_bit c_lastLeft) else (if v1 ≤ 2 then (bd3 (C4_readWord c_bytes c_length c_signs c_bits (a 13)) fun r24 c_signs_24 c_bits_24 => if r24 = 0 then (bd4 (C7_refuse c_bads c_noes c_fulls (-3)) fun r33 c_bads_33 c_noes_33 c_fulls_33 => some (r33, c_signs_24, c_page, c_known, c_guess, c_diff, c_pieces, c_place, c_bits_24, c_bads_33, c_noes_33, c_fulls_33, c_base, c_from, c_to, c_above, c_bit, c_lastLeft)) else (bd12 (C0_walk a LW LK c_heads c_firsts c_partings c_signs_24 c_pages c_levels c_bits_24 c_words c_entries c_page c_known c_guess c_diff c_pieces c_place c_base c_from c_to c_above c_bit c_lastLeft (a 13)) fun c_page_45 c_known_45 c_guess_45 c_diff_45 c_pieces_45 c_place_45 c_base_45 c_from_45 c_to_45 c_above_45 c_bit_45 c_lastLeft_45 => if v1 = 0 then (bd1 (C0_rank a LK c_heads c_pages c_page_45 c_place_45) fun r56 => some (r56, c_signs_24, c_page_45, c_known_45, c_guess_45, c_diff_45, c_pieces_45, c_place_45, c_bits_24, c_bads, c_noes, c_fulls, c_base_45, c_from_45, c_to_45, c_above_45, c_bit_45, c_lastLeft_45)) else (if v1 = 1 then (bd1 (C0_isThere a LK c_pages c_diff_45) fun r69 => if r69 = 0 then (some (0, c_signs_24, c_page_45, c_known_45, c_guess_45, c_diff_45, c_pieces_45, c_place_45, c_bits_24, c_bads, c_noes, c_fulls, c_base_45, c_from_45, c_to_45, c_above_45, c_bit_45, c_lastLeft_45)) else (some (1, c_signs_24, c_page_45, c_known_45, c_guess_45, c_diff_45, c_pieces_45, c_place_45, c_bits_24, c_bads, c_noes, c_fulls, c_base_45, c_from_45, c_to_45, c_above_45, c_bit_45, c_lastLeft_45))) else (bd1 (C0_cost a LK c_levels c_pieces_45) fun r85 => some (r85, c_signs_24, c_page_45, c_known_45, c_guess_45, c_diff_45, c_pieces_45, c_place_45, c_bits_24, c_bads, c_noes, c_fulls, c_base_45, c_from_45, c_to_45, c_above_45, c_bit_45, c_lastLeft_45))))) else (C7_finds_J9 a LW LK c_bytes c_heads c_firsts c_partings c_pages c_levels c_words c_entries c_length v1 c_signs c_page c_known c_guess c_diff c_pieces c_place c_bits c_bads c_noes c_fulls c_base c_from c_to c_above c_bit c_lastLeft))
set_option maxRecDepth 100000 in
set_option maxHeartbeats 4000000 in
theorem t_C7_finds_J9 {p : Program} {l : Launch} {e : Env} {s : State} {m : MethodId} {args : Array Value} {below : List Frame} {meth : Method} {c : Code} {Q : State → Prop} {A : Nat → Prop} {D : va_G} {cI cJ cB cL cS cW : ClassId} {a wb sw se : Nat → Nat} {LW LS LK : List Nat} {c_bytes c_heads c_firsts c_levelOf c_aboveOf c_partings c_count c_pages c_levels c_most : Nat → Int32} {c_words : Nat → Nat → Nat} {c_entries : Nat → Nat → Int32} {c_length c_next c_kept : Int32} {v1 : Int32} {r : Int32} {o_signs : Nat → Int32} {o_page : Nat → Int32} {o_known : Nat → Int32} {o_guess : Nat → Int32} {o_diff : Nat → Int32} {o_pieces : Nat → Int32} {o_place : Nat → Int32} {o_bits : Nat → Nat → Int64} {o_bads : Int32} {o_noes : Int32} {o_fulls : Int32} {o_base : Int32} {o_from : Int32} {o_to : Int32} {o_above : Int32} {o_bit : Int32} {o_lastLeft : Int32} (C : k_C p s m args meth c cX7_finds 2 (some .int) RX7 wsX7_finds D (kT cI cJ cB cL cS cW) A) (hD : va_D A (WC0 a wb sw se LW LS LK cI cJ cB cL cS cW)) (hG : kG a LW LS LK) (hret : ∀ (H : Heap) (locs : List Loc) (pc : Nat) (ls : Array Slot), decode cX7_finds pc = .ok (.ireturn, 1) → va_P D vwCl (WC a wb sw se LW LS LK cI cJ cB cL cS cW c_bytes c_heads c_firsts c_levelOf c_aboveOf c_partings o_signs c_count c_pages c_levels c_most o_page o_known o_guess o_diff o_pieces o_place o_bits c_words c_entries o_bads o_noes o_fulls c_length c_next c_kept o_base o_from o_to o_above o_bit o_lastLeft) H → va_S A s.heap H locs → W p l e { frames := 5, cells := 0, slots := 0, locals := 119 } s m args below meth c H locs 0 0 Q (F0 m pc ls [.int r])) : ∀ (c_signs : (Nat → Int32)) (c_page : (Nat → Int32)) (c_known : (Nat → Int32)) (c_guess : (Nat → Int32)) (c_diff : (Nat → Int32)) (c_pieces : (Nat → Int32)) (c_place : (Nat → Int32)) (c_bits : (Nat → Nat → Int64)) (c_bads : Int32) (c_noes : Int32) (c_fulls : Int32) (c_base : Int32) (c_from : Int32) (c_to : Int32) (c_above : Int32) (c_bit : Int32) (c_lastLeft : Int32) (H : Heap) (locs : List Loc) (ls : Array Slot), va_P D vwCl (WC a wb sw se LW LS LK cI cJ cB cL cS cW c_bytes c_heads c_firsts c_levelOf c_aboveOf c_partings c_signs c_count c_pages c_levels c_most c_page c_known c_guess c_diff c_pieces c_place c_bits c_words c_entries c_bads c_noes c_fulls c_length c_next c_kept c_base c_from c_to c_above c_bit c_lastLeft) H → va_S A s.heap H locs → lv_has ls 2 [(0, .ref (a 0))] → C7_finds_J9 a LW LK c_bytes c_heads c_firsts c_partings c_pages c_levels c_words c_entries c_length v1 c_signs c_page c_known c_guess c_diff c_pieces c_place c_bits c_bads c_noes c_fulls c_base c_from c_to c_above c_bit c_lastLeft = some (r, o_signs, o_page, o_known, o_guess, o_diff, o_pieces, o_place, o_bits, o_bads, o_noes, o_fulls, o_base, o_from, o_to, o_above, o_bit, o_lastLeft) → W p l e { frames := 5, cells := 0, slots := 0, locals := 119 } s m args below meth c H locs 0 0 Q (F0 m 9 ls []) := by
  obtain ⟨hx, hb, hml, hr, hown, hts, hlocks, hK, hA, hN⟩ := id C
  intro c_signs c_page c_known c_guess c_diff c_pieces c_place c_bits c_bads c_noes c_fulls c_base c_from c_to c_above c_bit c_lastLeft H locs ls hP hS hl hm
  rw [C7_finds_J9] at hm
  refine lv_aload_n hx hb dX7_finds_9 rfl (lv_at hl 0 rfl) ?_
  refine lv_bipush (v := (-2)) hx hb dX7_finds_10 (by decide) ?_
  obtain ⟨r12, c_bads_12, c_noes_12, c_fulls_12, hq0, hm⟩ := bd4_some hm
  refine k_callVI (As := [.int (-2)]) (rest := []) ⟨hx, hb, hml, hown, hts⟩ hK hA hN (c_X7_refuse hG hq0) (cwV 1 hts gX7_finds_X7_refuse rfl rfl rfl hdX7_refuse ⟨Nat.le_of_ble_eq_true rfl, Nat.le_of_ble_eq_true rfl⟩) hP (WCD hD) hS 0 7 rfl rfl rfl hl.1 rfl rfl (Nat.le_of_ble_eq_true rfl) ⟨Nat.zero_le _, Nat.zero_le _⟩ dX7_finds_12 (fun H locs hP hS => ?_)
  simp only [Option.some.injEq, Prod.mk.injEq] at hm
  obtain ⟨rfl, rfl, rfl, rfl, rfl, rfl, rfl, rfl, rfl, rfl, rfl, rfl, rfl, rfl, rfl, rfl, rfl, rfl⟩ := hm
  exact hret _ _ _ _ dX7_finds_15 hP hS
set_option maxRecDepth 100000 in
set_option maxHeartbeats 4000000 in
theorem c_X7_finds {l : Launch} {D : va_G} {cI cJ cB cL cS cW : ClassId} {a wb sw se : Nat → Nat} {LW LS LK : List Nat} {c_bytes c_heads c_firsts c_levelOf c_aboveOf c_partings c_signs c_count c_pages c_levels c_most c_page c_known c_guess c_diff c_pieces c_place : Nat → Int32} {c_bits : Nat → Nat → Int64} {c_words : Nat → Nat → Nat} {c_entries : Nat → Nat → Int32} {c_bads c_noes c_fulls c_length c_next c_kept c_base c_from c_to c_above c_bit c_lastLeft : Int32} {v1 : Int32} {r : Int32} {o_signs : Nat → Int32} {o_page : Nat → Int32} {o_known : Nat → Int32} {o_guess : Nat → Int32} {o_diff : Nat → Int32} {o_pieces : Nat → Int32} {o_place : Nat → Int32} {o_bits : Nat → Nat → Int64} {o_bads : Int32} {o_noes : Int32} {o_fulls : Int32} {o_base : Int32} {o_from : Int32} {o_to : Int32} {o_above : Int32} {o_bit : Int32} {o_lastLeft : Int32} (hG : kG a LW LS LK) (hm : C7_finds a LW LK c_bytes c_heads c_firsts c_partings c_pages c_levels c_words c_entries c_length c_signs c_page c_known c_guess c_diff c_pieces c_place c_bits c_bads c_noes c_fulls c_base c_from c_to c_above c_bit c_lastLeft v1 = some (r, o_signs, o_page, o_known, o_guess, o_diff, o_pieces, o_place, o_bits, o_bads, o_noes, o_fulls, o_base, o_from, o_to, o_above, o_bit, o_lastLeft)) : k_MI l yX7_finds wsX7_finds { frames := 5, cells := 0, slots := 0, locals := 119 } D (kT cI cJ cB cL cS cW) [.ref (a 0), .int v1] (WC a wb sw se LW LS LK cI cJ cB cL cS cW c_bytes c_heads c_firsts c_levelOf c_aboveOf c_partings c_signs c_count c_pages c_levels c_most c_page c_known c_guess c_diff c_pieces c_place c_bits c_words c_entries c_bads c_noes c_fulls c_length c_next c_kept c_base c_from c_to c_above c_bit c_lastLeft) r (WC a wb sw se LW LS LK cI cJ cB cL cS cW c_bytes c_heads c_firsts c_levelOf c_aboveOf c_partings o_signs c_count c_pages c_levels c_most o_page o_known o_guess o_diff o_pieces o_place o_bits c_words c_entries o_bads o_noes o_fulls c_length c_next c_kept o_base o_from o_to o_above o_bit o_lastLeft) := by
  refine k_ofI (cc := cX7_finds) (maxL := 2) (own := RX7) (by decide) rfl rfl (Nat.le_of_ble_eq_true rfl) ?_
  intro p e s m args below meth c A Q ls C hP hD hl hret
  have hD : va_D A (WC0 a wb sw se LW LS LK cI cJ cB cL cS cW) := WCD hD
  have hS : va_S A s.heap s.heap [] := va_S.rf
  have hl : lv_has ls 2 [(0, .ref (a 0)), (1, .int v1)] := hl
  obtain ⟨hx, hb, hml, hr, hown, hts, hlocks, hK, hA, hN⟩ := id C
  rw [C7_finds] at hm
  refine lv_iload_n hx hb dX7_finds_0 rfl (lv_at hl 1 rfl) ?_
  refine lv_if_lt (tgt := 9) hx hb dX7_finds_1 (by decide) (fun hc => ?_) (fun hc => ?_)
  · have hm := if_t hc hm
    exact t_C7_finds_J9 C hD hG hret _ _ _ _ _ _ _ _ _ _ _ _ _ _ _ _ _ _ _ _ hP hS (lv_sub hl [0] rfl) hm
  · have hm := if_f hc hm
    refine lv_iload_n hx hb dX7_finds_4 rfl (lv_at hl 1 rfl) ?_
    refine lv_iconst (v := 2) hx hb dX7_finds_5 (by decide) ?_
    refine lv_icmp_le (tgt := 16) hx hb dX7_finds_6 (by decide) (fun hc => ?_) (fun hc => ?_)
    · have hm := if_t hc hm
      refine lv_aload_n hx hb dX7_finds_16 rfl (lv_at hl 0 rfl) ?_
      refine kg (v := .ref (a 1)) hx hb hts hiX7_finds_X7 hown hK hP 0 rfl rfl 0 (by decide) flX7_finds_10 rfl rfl dX7_finds_17 ?_
      refine lv_aload_n hx hb dX7_finds_20 rfl (lv_at hl 0 rfl) ?_
      refine kg (v := .ref (a 13)) hx hb hts hiX7_finds_X7 hown hK hP 0 rfl rfl 1 (by decide) flX7_finds_19 rfl rfl dX7_finds_21 ?_
      obtain ⟨r24, c_signs_24, c_bits_24, hq0, hm⟩ := bd3_some hm
      refine k_callVI (As := [.ref (a 13)]) (rest := []) ⟨hx, hb, hml, hown, hts⟩ hK hA hN (c_X4_readWord hG hG.2.2.2.1 hq0) (cwV 1 hts gX7_finds_X4_readWord rfl rfl rfl hdX4_readWord ⟨Nat.le_of_ble_eq_true rfl, Nat.le_of_ble_eq_true rfl⟩) hP (WCD hD) hS 1 4 rfl rfl rfl hl.1 rfl rfl (Nat.le_of_ble_eq_true rfl) ⟨Nat.zero_le _, Nat.zero_le _⟩ dX7_finds_24 (fun H locs hP hS => ?_)
      refine lv_if_ne (tgt := 37) hx hb dX7_finds_27 (by decide) (fun hc => ?_) (fun hc => ?_)
      · have hm := if_f hc hm
        refine lv_aload_n hx hb dX7_finds_37 rfl (lv_at hl 0 rfl) ?_
        refine kg (v := .ref (a 3)) hx hb hts hiX7_finds_X7 hown hK hP 0 rfl rfl 2 (by decide) flX7_finds_26 rfl rfl dX7_finds_38 ?_
        refine lv_aload_n hx hb dX7_finds_41 rfl (lv_at hl 0 rfl) ?_
        refine kg (v := .ref (a 13)) hx hb hts hiX7_finds_X7 hown hK hP 0 rfl rfl 1 (by decide) flX7_finds_19 rfl rfl dX7_finds_42 ?_
        obtain ⟨c_page_45, c_known_45, c_guess_45, c_diff_45, c_pieces_45, c_place_45, c_base_45, c_from_45, c_to_45, c_above_45, c_bit_45, c_lastLeft_45, hq0, hm⟩ := bd12_some hm
        refine k_callVV (As := [.ref (a 13)]) (rest := []) ⟨hx, hb, hml, hown, hts⟩ hK hA hN (c_X0_walk hG hG.2.2.2.1 hq0) (cwV 1 hts gX7_finds_X0_walk rfl rfl rfl hdX0_walk ⟨Nat.le_of_ble_eq_true rfl, Nat.le_of_ble_eq_true rfl⟩) hP (WCD hD) hS 3 0 rfl rfl rfl hl.1 rfl rfl (Nat.le_of_ble_eq_true rfl) ⟨Nat.zero_le _, Nat.zero_le _⟩ dX7_finds_45 (fun H locs hP hS => ?_)
        refine lv_iload_n hx hb dX7_finds_48 rfl (lv_at hl 1 rfl) ?_
        refine lv_if_ne (tgt := 60) hx hb dX7_finds_49 (by decide) (fun hc => ?_) (fun hc => ?_)
        · have hm := if_f hc hm
          refine lv_iload_n hx hb dX7_finds_60 rfl (lv_at hl 1 rfl) ?_
          refine lv_iconst (v := 1) hx hb dX7_finds_61 (by decide) ?_
          refine lv_icmp_ne (tgt := 81) hx hb dX7_finds_62 (by decide) (fun hc => ?_) (fun hc => ?_)
          · have hm := if_f hc hm
            refine lv_aload_n hx hb dX7_finds_81 rfl (lv_at hl 0 rfl) ?_
            refine kg (v := .ref (a 3)) hx hb hts hiX7_finds_X7 hown hK hP 0 rfl rfl 2 (by decide) flX7_finds_26 rfl rfl dX7_finds_82 ?_
            obtain ⟨r85, hq0, hm⟩ := bd1_some hm
            refine k_callVI (As := []) (rest := []) ⟨hx, hb, hml, hown, hts⟩ hK hA hN (c_X0_cost hG hq0) (cwV 0 hts gX7_finds_X0_cost rfl rfl rfl hdX0_cost ⟨Nat.le_of_ble_eq_true rfl, Nat.le_of_ble_eq_true rfl⟩) hP (WCD hD) hS 3 0 rfl rfl rfl hl.1 rfl rfl (Nat.le_of_ble_eq_true rfl) ⟨Nat.zero_le _, Nat.zero_le _⟩ dX7_finds_85 (fun H locs hP hS => ?_)
            simp only [Option.some.injEq, Prod.mk.injEq] at hm
            obtain ⟨rfl, rfl, rfl, rfl, rfl, rfl, rfl, rfl, rfl, rfl, rfl, rfl, rfl, rfl, rfl, rfl, rfl, rfl⟩ := hm
            exact hret _ _ _ _ dX7_finds_88 hP hS
          · have hm := if_t hc hm
            refine lv_aload_n hx hb dX7_finds_65 rfl (lv_at hl 0 rfl) ?_
            refine kg (v := .ref (a 3)) hx hb hts hiX7_finds_X7 hown hK hP 0 rfl rfl 2 (by decide) flX7_finds_26 rfl rfl dX7_finds_66 ?_
            obtain ⟨r69, hq0, hm⟩ := bd1_some hm
            refine k_callVI (As := []) (rest := []) ⟨hx, hb, hml, hown, hts⟩ hK hA hN (c_X0_isThere hG hq0) (cwV 0 hts gX7_finds_X0_isThere rfl rfl rfl hdX0_isThere ⟨Nat.le_of_ble_eq_true rfl, Nat.le_of_ble_eq_true rfl⟩) hP (WCD hD) hS 3 0 rfl rfl rfl hl.1 rfl rfl (Nat.le_of_ble_eq_true rfl) ⟨Nat.zero_le _, Nat.zero_le _⟩ dX7_finds_69 (fun H locs hP hS => ?_)
            refine lv_if_eq (tgt := 79) hx hb dX7_finds_72 (by decide) (fun hc => ?_) (fun hc => ?_)
            · have hm := if_t hc hm
              refine lv_iconst (v := 0) hx hb dX7_finds_79 (by decide) ?_
              simp only [Option.some.injEq, Prod.mk.injEq] at hm
              obtain ⟨rfl, rfl, rfl, rfl, rfl, rfl, rfl, rfl, rfl, rfl, rfl, rfl, rfl, rfl, rfl, rfl, rfl, rfl⟩ := hm
              exact hret _ _ _ _ dX7_finds_80 hP hS
            · have hm := if_f hc hm
              refine lv_iconst (v := 1) hx hb dX7_finds_75 (by decide) ?_
              refine lv_goto (tgt := 80) hx hb dX7_finds_76 (by decide) ?_
              simp only [Option.some.injEq, Prod.mk.injEq] at hm
              obtain ⟨rfl, rfl, rfl, rfl, rfl, rfl, rfl, rfl, rfl, rfl, rfl, rfl, rfl, rfl, rfl, rfl, rfl, rfl⟩ := hm
              exact hret _ _ _ _ dX7_finds_80 hP hS
        · have hm := if_t hc hm
          refine lv_aload_n hx hb dX7_finds_52 rfl (lv_at hl 0 rfl) ?_
          refine kg (v := .ref (a 3)) hx hb hts hiX7_finds_X7 hown hK hP 0 rfl rfl 2 (by decide) flX7_finds_26 rfl rfl dX7_finds_53 ?_
          obtain ⟨r56, hq0, hm⟩ := bd1_some hm
          refine k_callVI (As := []) (rest := []) ⟨hx, hb, hml, hown, hts⟩ hK hA hN (c_X0_rank hG hq0) (cwV 0 hts gX7_finds_X0_rank rfl rfl rfl hdX0_rank ⟨Nat.le_of_ble_eq_true rfl, Nat.le_of_ble_eq_true rfl⟩) hP (WCD hD) hS 3 0 rfl rfl rfl hl.1 rfl rfl (Nat.le_of_ble_eq_true rfl) ⟨Nat.zero_le _, Nat.zero_le _⟩ dX7_finds_56 (fun H locs hP hS => ?_)
          simp only [Option.some.injEq, Prod.mk.injEq] at hm
          obtain ⟨rfl, rfl, rfl, rfl, rfl, rfl, rfl, rfl, rfl, rfl, rfl, rfl, rfl, rfl, rfl, rfl, rfl, rfl⟩ := hm
          exact hret _ _ _ _ dX7_finds_59 hP hS
      · have hm := if_t hc hm
        refine lv_aload_n hx hb dX7_finds_30 rfl (lv_at hl 0 rfl) ?_
        refine lv_bipush (v := (-3)) hx hb dX7_finds_31 (by decide) ?_
        obtain ⟨r33, c_bads_33, c_noes_33, c_fulls_33, hq0, hm⟩ := bd4_some hm
        refine k_callVI (As := [.int (-3)]) (rest := []) ⟨hx, hb, hml, hown, hts⟩ hK hA hN (c_X7_refuse hG hq0) (cwV 1 hts gX7_finds_X7_refuse rfl rfl rfl hdX7_refuse ⟨Nat.le_of_ble_eq_true rfl, Nat.le_of_ble_eq_true rfl⟩) hP (WCD hD) hS 0 7 rfl rfl rfl hl.1 rfl rfl (Nat.le_of_ble_eq_true rfl) ⟨Nat.zero_le _, Nat.zero_le _⟩ dX7_finds_33 (fun H locs hP hS => ?_)
        simp only [Option.some.injEq, Prod.mk.injEq] at hm
        obtain ⟨rfl, rfl, rfl, rfl, rfl, rfl, rfl, rfl, rfl, rfl, rfl, rfl, rfl, rfl, rfl, rfl, rfl, rfl⟩ := hm
        exact hret _ _ _ _ dX7_finds_36 hP hS
    · have hm := if_f hc hm
      exact t_C7_finds_J9 C hD hG hret _ _ _ _ _ _ _ _ _ _ _ _ _ _ _ _ _ _ _ _ hP hS (lv_sub hl [0] rfl) hm
theorem hdX7_way : yX7_way.cls = RX7 ∧ yX7_way.cls ≠ "java/lang/invoke/MethodHandle" ∧ yX7_way.cls ≠ "java/lang/invoke/VarHandle" ∧ (parseMethodDescriptor yX7_way.desc).map (fun d => d.parameters.length) = some 2 := by decide +kernel
theorem hiX7_way_X7 : ∀ w ∈ u_ws RX7 TX7 8, w ∈ wsX7_way := by decide +kernel
theorem hiX7_way_X0 : ∀ w ∈ u_ws RX0 TX0 7, w ∈ wsX7_way := by decide +kernel
theorem hiX7_way_X1 : ∀ w ∈ u_ws RX1 TX1 6, w ∈ wsX7_way := by decide +kernel
theorem hiX7_way_X3 : ∀ w ∈ u_ws RX3 TX3 6, w ∈ wsX7_way := by decide +kernel
theorem flX7_way_26 : Cond.fieldLink RX7 26 "BlindPages" "index" "LBlindPages$Index;" ∈ wsX7_way := by decide +kernel
theorem flX7_way_68 : Cond.fieldLink RX7 68 "BlindPages$Index" "now" "LBlindPages$State;" ∈ wsX7_way := by decide +kernel
theorem flX7_way_127 : Cond.fieldLink RX7 127 "BlindPages$State" "levels" "I" ∈ wsX7_way := by decide +kernel
theorem flX7_way_10 : Cond.fieldLink RX7 10 "BlindPages" "text" "LBlindPages$Text;" ∈ wsX7_way := by decide +kernel
theorem flX7_way_19 : Cond.fieldLink RX7 19 "BlindPages" "word" "LBlindPages$Word;" ∈ wsX7_way := by decide +kernel
theorem flX7_way_134 : Cond.fieldLink RX7 134 "BlindPages$Look" "page" "I" ∈ wsX7_way := by decide +kernel
theorem flX7_way_137 : Cond.fieldLink RX7 137 "BlindPages$Look" "known" "I" ∈ wsX7_way := by decide +kernel
theorem flX7_way_140 : Cond.fieldLink RX7 140 "BlindPages$Look" "guess" "I" ∈ wsX7_way := by decide +kernel
theorem flX7_way_143 : Cond.fieldLink RX7 143 "BlindPages$Look" "diff" "I" ∈ wsX7_way := by decide +kernel
theorem flX7_way_146 : Cond.fieldLink RX7 146 "BlindPages$Look" "pieces" "I" ∈ wsX7_way := by decide +kernel
theorem flX7_way_149 : Cond.fieldLink RX7 149 "BlindPages$Look" "place" "I" ∈ wsX7_way := by decide +kernel
def C7_way_J27 (a : Nat → Nat) (LW LK : List Nat) (c_bytes c_heads c_firsts c_partings c_pages c_levels : Nat → Int32) (c_words : Nat → Nat → Nat) (c_entries : Nat → Nat → Int32) (c_length : Int32) (v1 : Int32) (v2 : Int32) (c_signs : (Nat → Int32)) (c_page : (Nat → Int32)) (c_known : (Nat → Int32)) (c_guess : (Nat → Int32)) (c_diff : (Nat → Int32)) (c_pieces : (Nat → Int32)) (c_place : (Nat → Int32)) (c_bits : (Nat → Nat → Int64)) (c_bads : Int32) (c_noes : Int32) (c_fulls : Int32) (c_base : Int32) (c_from : Int32) (c_to : Int32) (c_above : Int32) (c_bit : Int32) (c_lastLeft : Int32) : Option (Int32 × (Nat → Int32) × (Nat → Int32) × (Nat → Int32) × (Nat → Int32) × (Nat → Int32) × (Nat → Int32) × (Nat → Int32) × (Nat → Nat → Int64) × Int32 × Int32 × Int32 × Int32 × Int32 × Int32 × Int32 × Int32 × Int32) := bd4 (C7_refuse c_bads c_noes c_fulls (-2)) fun r30 c_bads_30 c_noes_30 c_fulls_30 => some (r30, c_signs, c_page, c_known, c_guess, c_diff, c_pieces, c_place, c_bits, c_bads_30, c_noes_30, c_fulls_30, c_base, c_from, c_to, c_above, c_bit, c_lastLeft)
def C7_way (a : Nat → Nat) (LW LK : List Nat) (c_bytes c_heads c_firsts c_partings c_pages c_levels : Nat → Int32) (c_words : Nat → Nat → Nat) (c_entries : Nat → Nat → Int32) (c_length : Int32) (c_signs c_page c_known c_guess c_diff c_pieces c_place : Nat → Int32) (c_bits : Nat → Nat → Int64) (c_bads c_noes c_fulls c_base c_from c_to c_above c_bit c_lastLeft : Int32) (v1 : Int32) (v2 : Int32) : Option (Int32 × (Nat → Int32) × (Nat → Int32) × (Nat → Int32) × (Nat → Int32) × (Nat → Int32) × (Nat → Int32) × (Nat → Int32) × (Nat → Nat → Int64) × Int32 × Int32 × Int32 × Int32 × Int32 × Int32 × Int32 × Int32 × Int32) := if v2 < 0 then (C7_way_J27 a LW LK c_bytes c_heads c_firsts c_partings c_pages c_levels c_words c_entries c_length v1 v2 c_signs c_page c_known c_guess c_diff c_pieces c_place c_bits c_bads c_noes c_fulls c_base c_from c_to c_above c_bit c_lastLeft) else (if 5 < v2 then (C7_way_J27 a LW LK c_bytes c_heads c_firsts c_partings c_pages c_levels c_words c_entries c_length v1 v2 c_signs c_page c_known c_guess c_diff c_pieces c_place c_bits c_bads c_noes c_fulls c_base c_from c_to c_above c_bit c_lastLeft) else (if v1 < 0 then (C7_way_J27 a LW LK c_bytes c_heads c_firsts c_partings c_pages c_levels c_words c_entries c_length v1 v2 c_signs c_page c_known c_guess c_diff c_pieces c_place c_bits c_bads c_noes c_fulls c_base c_from c_to c_above c_bit c_lastLeft) else (if v1 < (c_levels (a 14)) then (bd3 (C4_readWord c_bytes c_length c_signs c_bits (a 13)) fun r42 c_signs_42 c_bits_42 => if r42 = 0 then (bd4 (C7_refuse c_bads c_noes c_fulls (-3)) fun r51 c_bads_51 c_noes_51 c_fulls_51 => some (r51, c_signs_42, c_page, c_known, c_guess, c_diff, c_pieces, c_place, c_bits_42, c_bads_51, c_noes_51, c_fulls_51, c_base, c_from, c_to, c_above, c_bit, c_lastLeft)) else (bd12 (C0_walk a LW LK c_heads c_firsts c_partings c_signs_42 c_pages c_levels c_bits_42 c_words c_entries c_page c_known c_guess c_diff c_pieces c_place c_base c_from c_to c_above c_bit c_lastLeft (a 13)) fun c_page_63 c_known_63 c_guess_63 c_diff_63 c_pieces_63 c_place_63 c_base_63 c_from_63 c_to_63 c_above_63 c_bit_63 c_lastLeft_63 => bd1 (C0_lookOf a LK v1) fun r71 => gm LK r71 (if v2 = 0 then (some ((c_page_63 r71), c_signs_42, c_page_63, c_known_63, c_guess_63, c_diff_63, c_pieces_63, c_place_63, c_bits_42, c_bads, c_noes, c_fulls, c_base_63, c_from_63, c_to_63, c_above_63, c_bit_63, c_lastLeft_63)) else if v2 = 1 then (some ((c_known_63 r71), c_signs_42, c_page_63, c_known_63, c_guess_63, c_diff_63, c_pieces_63, c_place_63, c_bits_42, c_bads, c_noes, c_fulls, c_base_63, c_from_63, c_to_63, c_above_63, c_bit_63, c_lastLeft_63)) else if v2 = 2 then (some ((c_guess_63 r71), c_signs_42, c_page_63, c_known_63, c_guess_63, c_diff_63, c_pieces_63, c_place_63, c_bits_42, c_bads, c_noes, c_fulls, c_base_63, c_from_63, c_to_63, c_above_63, c_bit_63, c_lastLeft_63)) else if v2 = 3 then (some ((c_diff_63 r71), c_signs_42, c_page_63, c_known_63, c_guess_63, c_diff_63, c_pieces_63, c_place_63, c_bits_42, c_bads, c_noes, c_fulls, c_base_63, c_from_63, c_to_63, c_above_63, c_bit_63, c_lastLeft_63)) else if v2 = 4 then (some ((c_pieces_63 r71), c_signs_42, c_page_63, c_known_63, c_guess_63, c_diff_63, c_pieces_63, c_place_63, c_bits_42, c_bads, c_noes, c_fulls, c_base_63, c_from_63, c_to_63, c_above_63, c_bit_63, c_lastLeft_63)) else (some ((c_place_63 r71), c_signs_42, c_page_63, c_known_63, c_guess_63, c_diff_63, c_pieces_63, c_place_63, c_bits_42, c_bads, c_noes, c_fulls, c_base_63, c_from_63, c_to_63, c_above_63, c_bit_63, c_lastLeft_63))))) else (C7_way_J27 a LW LK c_bytes c_heads c_firsts c_partings c_pages c_levels c_words c_entries c_length v1 v2 c_signs c_page c_known c_guess c_diff c_pieces c_place c_bits c_bads c_noes c_fulls c_base c_from c_to c_above c_bit c_lastLeft))))
set_option maxRecDepth 100000 in
set_option maxHeartbeats 4000000 in
theorem t_C7_way_J27 {p : Program} {l : Launch} {e : Env} {s : State} {m : MethodId} {args : Array Value} {below : List Frame} {meth : Method} {c : Code} {Q : State → Prop} {A : Nat → Prop} {D : va_G} {cI cJ cB cL cS cW : ClassId} {a wb sw se : Nat → Nat} {LW LS LK : List Nat} {c_bytes c_heads c_firsts c_levelOf c_aboveOf c_partings c_count c_pages c_levels c_most : Nat → Int32} {c_words : Nat → Nat → Nat} {c_entries : Nat → Nat → Int32} {c_length c_next c_kept : Int32} {v1 : Int32} {v2 : Int32} {r : Int32} {o_signs : Nat → Int32} {o_page : Nat → Int32} {o_known : Nat → Int32} {o_guess : Nat → Int32} {o_diff : Nat → Int32} {o_pieces : Nat → Int32} {o_place : Nat → Int32} {o_bits : Nat → Nat → Int64} {o_bads : Int32} {o_noes : Int32} {o_fulls : Int32} {o_base : Int32} {o_from : Int32} {o_to : Int32} {o_above : Int32} {o_bit : Int32} {o_lastLeft : Int32} (C : k_C p s m args meth c cX7_way 4 (some .int) RX7 wsX7_way D (kT cI cJ cB cL cS cW) A) (hD : va_D A (WC0 a wb sw se LW LS LK cI cJ cB cL cS cW)) (hG : kG a LW LS LK) (hret : ∀ (H : Heap) (locs : List Loc) (pc : Nat) (ls : Array Slot), decode cX7_way pc = .ok (.ireturn, 1) → va_P D vwCl (WC a wb sw se LW LS LK cI cJ cB cL cS cW c_bytes c_heads c_firsts c_levelOf c_aboveOf c_partings o_signs c_count c_pages c_levels c_most o_page o_known o_guess o_diff o_pieces o_place o_bits c_words c_entries o_bads o_noes o_fulls c_length c_next c_kept o_base o_from o_to o_above o_bit o_lastLeft) H → va_S A s.heap H locs → W p l e { frames := 5, cells := 0, slots := 0, locals := 119 } s m args below meth c H locs 0 0 Q (F0 m pc ls [.int r])) : ∀ (c_signs : (Nat → Int32)) (c_page : (Nat → Int32)) (c_known : (Nat → Int32)) (c_guess : (Nat → Int32)) (c_diff : (Nat → Int32)) (c_pieces : (Nat → Int32)) (c_place : (Nat → Int32)) (c_bits : (Nat → Nat → Int64)) (c_bads : Int32) (c_noes : Int32) (c_fulls : Int32) (c_base : Int32) (c_from : Int32) (c_to : Int32) (c_above : Int32) (c_bit : Int32) (c_lastLeft : Int32) (H : Heap) (locs : List Loc) (ls : Array Slot), va_P D vwCl (WC a wb sw se LW LS LK cI cJ cB cL cS cW c_bytes c_heads c_firsts c_levelOf c_aboveOf c_partings c_signs c_count c_pages c_levels c_most c_page c_known c_guess c_diff c_pieces c_place c_bits c_words c_entries c_bads c_noes c_fulls c_length c_next c_kept c_base c_from c_to c_above c_bit c_lastLeft) H → va_S A s.heap H locs → lv_has ls 4 [(0, .ref (a 0))] → C7_way_J27 a LW LK c_bytes c_heads c_firsts c_partings c_pages c_levels c_words c_entries c_length v1 v2 c_signs c_page c_known c_guess c_diff c_pieces c_place c_bits c_bads c_noes c_fulls c_base c_from c_to c_above c_bit c_lastLeft = some (r, o_signs, o_page, o_known, o_guess, o_diff, o_pieces, o_place, o_bits, o_bads, o_noes, o_fulls, o_base, o_from, o_to, o_above, o_bit, o_lastLeft) → W p l e { frames := 5, cells := 0, slots := 0, locals := 119 } s m args below meth c H locs 0 0 Q (F0 m 27 ls []) := by
  obtain ⟨hx, hb, hml, hr, hown, hts, hlocks, hK, hA, hN⟩ := id C
  intro c_signs c_page c_known c_guess c_diff c_pieces c_place c_bits c_bads c_noes c_fulls c_base c_from c_to c_above c_bit c_lastLeft H locs ls hP hS hl hm
  rw [C7_way_J27] at hm
  refine lv_aload_n hx hb dX7_way_27 rfl (lv_at hl 0 rfl) ?_
  refine lv_bipush (v := (-2)) hx hb dX7_way_28 (by decide) ?_
  obtain ⟨r30, c_bads_30, c_noes_30, c_fulls_30, hq0, hm⟩ := bd4_some hm
  refine k_callVI (As := [.int (-2)]) (rest := []) ⟨hx, hb, hml, hown, hts⟩ hK hA hN (c_X7_refuse hG hq0) (cwV 1 hts gX7_way_X7_refuse rfl rfl rfl hdX7_refuse ⟨Nat.le_of_ble_eq_true rfl, Nat.le_of_ble_eq_true rfl⟩) hP (WCD hD) hS 0 7 rfl rfl rfl hl.1 rfl rfl (Nat.le_of_ble_eq_true rfl) ⟨Nat.zero_le _, Nat.zero_le _⟩ dX7_way_30 (fun H locs hP hS => ?_)
  simp only [Option.some.injEq, Prod.mk.injEq] at hm
  obtain ⟨rfl, rfl, rfl, rfl, rfl, rfl, rfl, rfl, rfl, rfl, rfl, rfl, rfl, rfl, rfl, rfl, rfl, rfl⟩ := hm
  exact hret _ _ _ _ dX7_way_33 hP hS
set_option maxRecDepth 100000 in
set_option maxHeartbeats 4000000 in
theorem c_X7_way {l : Launch} {D : va_G} {cI cJ cB cL cS cW : ClassId} {a wb sw se : Nat → Nat} {LW LS LK : List Nat} {c_bytes c_heads c_firsts c_levelOf c_aboveOf c_partings c_signs c_count c_pages c_levels c_most c_page c_known c_guess c_diff c_pieces c_place : Nat → Int32} {c_bits : Nat → Nat → Int64} {c_words : Nat → Nat → Nat} {c_entries : Nat → Nat → Int32} {c_bads c_noes c_fulls c_length c_next c_kept c_base c_from c_to c_above c_bit c_lastLeft : Int32} {v1 : Int32} {v2 : Int32} {r : Int32} {o_signs : Nat → Int32} {o_page : Nat → Int32} {o_known : Nat → Int32} {o_guess : Nat → Int32} {o_diff : Nat → Int32} {o_pieces : Nat → Int32} {o_place : Nat → Int32} {o_bits : Nat → Nat → Int64} {o_bads : Int32} {o_noes : Int32} {o_fulls : Int32} {o_base : Int32} {o_from : Int32} {o_to : Int32} {o_above : Int32} {o_bit : Int32} {o_lastLeft : Int32} (hG : kG a LW LS LK) (hm : C7_way a LW LK c_bytes c_heads c_firsts c_partings c_pages c_levels c_words c_entries c_length c_signs c_page c_known c_guess c_diff c_pieces c_place c_bits c_bads c_noes c_fulls c_base c_from c_to c_above c_bit c_lastLeft v1 v2 = some (r, o_signs, o_page, o_known, o_guess, o_diff, o_pieces, o_place, o_bits, o_bads, o_noes, o_fulls, o_base, o_from, o_to, o_above, o_bit, o_lastLeft)) : k_MI l yX7_way wsX7_way { frames := 5, cells := 0, slots := 0, locals := 119 } D (kT cI cJ cB cL cS cW) [.ref (a 0), .int v1, .int v2] (WC a wb sw se LW LS LK cI cJ cB cL cS cW c_bytes c_heads c_firsts c_levelOf c_aboveOf c_partings c_signs c_count c_pages c_levels c_most c_page c_known c_guess c_diff c_pieces c_place c_bits c_words c_entries c_bads c_noes c_fulls c_length c_next c_kept c_base c_from c_to c_above c_bit c_lastLeft) r (WC a wb sw se LW LS LK cI cJ cB cL cS cW c_bytes c_heads c_firsts c_levelOf c_aboveOf c_partings o_signs c_count c_pages c_levels c_most o_page o_known o_guess o_diff o_pieces o_place o_bits c_words c_entries o_bads o_noes o_fulls c_length c_next c_kept o_base o_from o_to o_above o_bit o_lastLeft) := by
  refine k_ofI (cc := cX7_way) (maxL := 4) (own := RX7) (by decide) rfl rfl (Nat.le_of_ble_eq_true rfl) ?_
  intro p e s m args below meth c A Q ls C hP hD hl hret
  have hD : va_D A (WC0 a wb sw se LW LS LK cI cJ cB cL cS cW) := WCD hD
  have hS : va_S A s.heap s.heap [] := va_S.rf
  have hl : lv_has ls 4 [(0, .ref (a 0)), (1, .int v1), (2, .int v2)] := hl
  obtain ⟨hx, hb, hml, hr, hown, hts, hlocks, hK, hA, hN⟩ := id C
  rw [C7_way] at hm
  refine lv_iload_n hx hb dX7_way_0 rfl (lv_at hl 2 rfl) ?_
  refine lv_if_lt (tgt := 27) hx hb dX7_way_1 (by decide) (fun hc => ?_) (fun hc => ?_)
  · have hm := if_t hc hm
    exact t_C7_way_J27 C hD hG hret _ _ _ _ _ _ _ _ _ _ _ _ _ _ _ _ _ _ _ _ hP hS (lv_sub hl [0] rfl) hm
  · have hm := if_f hc hm
    refine lv_iload_n hx hb dX7_way_4 rfl (lv_at hl 2 rfl) ?_
    refine lv_iconst (v := 5) hx hb dX7_way_5 (by decide) ?_
    refine lv_icmp_gt (tgt := 27) hx hb dX7_way_6 (by decide) (fun hc => ?_) (fun hc => ?_)
    · have hm := if_t hc hm
      exact t_C7_way_J27 C hD hG hret _ _ _ _ _ _ _ _ _ _ _ _ _ _ _ _ _ _ _ _ hP hS (lv_sub hl [0] rfl) hm
    · have hm := if_f hc hm
      refine lv_iload_n hx hb dX7_way_9 rfl (lv_at hl 1 rfl) ?_
      refine lv_if_lt (tgt := 27) hx hb dX7_way_10 (by decide) (fun hc => ?_) (fun hc => ?_)
      · have hm := if_t hc hm
        exact t_C7_way_J27 C hD hG hret _ _ _ _ _ _ _ _ _ _ _ _ _ _ _ _ _ _ _ _ hP hS (lv_sub hl [0] rfl) hm
      · have hm := if_f hc hm
        refine lv_iload_n hx hb dX7_way_13 rfl (lv_at hl 1 rfl) ?_
        refine lv_aload_n hx hb dX7_way_14 rfl (lv_at hl 0 rfl) ?_
        refine kg (v := .ref (a 3)) hx hb hts hiX7_way_X7 hown hK hP 0 rfl rfl 2 (by decide) flX7_way_26 rfl rfl dX7_way_15 ?_
        refine kg (v := .ref (a 14)) hx hb hts hiX7_way_X0 hown hK hP 3 rfl rfl 0 (by decide) flX7_way_68 rfl rfl dX7_way_18 ?_
        obtain ⟨q, hq, -⟩ := WC_S hG hG.2.2.2.2.1
        refine kg (v := .int (c_levels (a 14))) hx hb hts hiX7_way_X3 hown hK hP q hq rfl 4 (by decide) flX7_way_127 rfl rfl dX7_way_21 ?_
        refine lv_icmp_lt (tgt := 34) hx hb dX7_way_24 (by decide) (fun hc => ?_) (fun hc => ?_)
        · have hm := if_t hc hm
          refine lv_aload_n hx hb dX7_way_34 rfl (lv_at hl 0 rfl) ?_
          refine kg (v := .ref (a 1)) hx hb hts hiX7_way_X7 hown hK hP 0 rfl rfl 0 (by decide) flX7_way_10 rfl rfl dX7_way_35 ?_
          refine lv_aload_n hx hb dX7_way_38 rfl (lv_at hl 0 rfl) ?_
          refine kg (v := .ref (a 13)) hx hb hts hiX7_way_X7 hown hK hP 0 rfl rfl 1 (by decide) flX7_way_19 rfl rfl dX7_way_39 ?_
          obtain ⟨r42, c_signs_42, c_bits_42, hq0, hm⟩ := bd3_some hm
          refine k_callVI (As := [.ref (a 13)]) (rest := []) ⟨hx, hb, hml, hown, hts⟩ hK hA hN (c_X4_readWord hG hG.2.2.2.1 hq0) (cwV 1 hts gX7_way_X4_readWord rfl rfl rfl hdX4_readWord ⟨Nat.le_of_ble_eq_true rfl, Nat.le_of_ble_eq_true rfl⟩) hP (WCD hD) hS 1 4 rfl rfl rfl hl.1 rfl rfl (Nat.le_of_ble_eq_true rfl) ⟨Nat.zero_le _, Nat.zero_le _⟩ dX7_way_42 (fun H locs hP hS => ?_)
          refine lv_if_ne (tgt := 55) hx hb dX7_way_45 (by decide) (fun hc => ?_) (fun hc => ?_)
          · have hm := if_f hc hm
            refine lv_aload_n hx hb dX7_way_55 rfl (lv_at hl 0 rfl) ?_
            refine kg (v := .ref (a 3)) hx hb hts hiX7_way_X7 hown hK hP 0 rfl rfl 2 (by decide) flX7_way_26 rfl rfl dX7_way_56 ?_
            refine lv_aload_n hx hb dX7_way_59 rfl (lv_at hl 0 rfl) ?_
            refine kg (v := .ref (a 13)) hx hb hts hiX7_way_X7 hown hK hP 0 rfl rfl 1 (by decide) flX7_way_19 rfl rfl dX7_way_60 ?_
            obtain ⟨c_page_63, c_known_63, c_guess_63, c_diff_63, c_pieces_63, c_place_63, c_base_63, c_from_63, c_to_63, c_above_63, c_bit_63, c_lastLeft_63, hq0, hm⟩ := bd12_some hm
            refine k_callVV (As := [.ref (a 13)]) (rest := []) ⟨hx, hb, hml, hown, hts⟩ hK hA hN (c_X0_walk hG hG.2.2.2.1 hq0) (cwV 1 hts gX7_way_X0_walk rfl rfl rfl hdX0_walk ⟨Nat.le_of_ble_eq_true rfl, Nat.le_of_ble_eq_true rfl⟩) hP (WCD hD) hS 3 0 rfl rfl rfl hl.1 rfl rfl (Nat.le_of_ble_eq_true rfl) ⟨Nat.zero_le _, Nat.zero_le _⟩ dX7_way_63 (fun H locs hP hS => ?_)
            refine lv_aload_n hx hb dX7_way_66 rfl (lv_at hl 0 rfl) ?_
            refine kg (v := .ref (a 3)) hx hb hts hiX7_way_X7 hown hK hP 0 rfl rfl 2 (by decide) flX7_way_26 rfl rfl dX7_way_67 ?_
            refine lv_iload_n hx hb dX7_way_70 rfl (lv_at hl 1 rfl) ?_
            obtain ⟨r71, hq0, hm⟩ := bd1_some hm
            obtain ⟨hw71, hm⟩ := gm_some hm
            refine k_callVA (As := [.int v1]) (rest := []) ⟨hx, hb, hml, hown, hts⟩ hK hA hN (c_X0_lookOf hG hq0) (cwV 1 hts gX7_way_X0_lookOf rfl rfl rfl hdX0_lookOf ⟨Nat.le_of_ble_eq_true rfl, Nat.le_of_ble_eq_true rfl⟩) hP (WCD hD) hS 3 0 rfl rfl rfl hl.1 rfl rfl (Nat.le_of_ble_eq_true rfl) ⟨Nat.zero_le _, Nat.zero_le _⟩ dX7_way_71 (fun H locs hP hS => ?_)
            refine lv_astore_n (lv' := [(3, .ref r71), (0, .ref (a 0)), (1, .int v1), (2, .int v2)]) hx hb dX7_way_74 rfl hl (by decide) rfl (fun ls hl => ?_)
            refine lv_iload_n hx hb dX7_way_75 rfl (lv_at hl 3 rfl) ?_
            by_cases hc0 : v2 = 0
            · have hm := if_t hc0 hm
              refine lv_tableIn (tgt := 112) (off := 36) hx hb dX7_way_76 (by rw [hc0]; decide) (by rw [hc0]; decide) (by rw [hc0]; rfl) (by decide) ?_
              refine lv_aload_n hx hb dX7_way_112 rfl (lv_at hl 0 rfl) ?_
              obtain ⟨q, hq, -⟩ := WC_K hG hw71
              refine kg (v := .int (c_page_63 r71)) hx hb hts hiX7_way_X1 hown hK hP q hq rfl 0 (by decide) flX7_way_134 rfl rfl dX7_way_113 ?_
              simp only [Option.some.injEq, Prod.mk.injEq] at hm
              obtain ⟨rfl, rfl, rfl, rfl, rfl, rfl, rfl, rfl, rfl, rfl, rfl, rfl, rfl, rfl, rfl, rfl, rfl, rfl⟩ := hm
              exact hret _ _ _ _ dX7_way_116 hP hS
            have hm := if_f hc0 hm
            by_cases hc1 : v2 = 1
            · have hm := if_t hc1 hm
              refine lv_tableIn (tgt := 117) (off := 41) hx hb dX7_way_76 (by rw [hc1]; decide) (by rw [hc1]; decide) (by rw [hc1]; rfl) (by decide) ?_
              refine lv_aload_n hx hb dX7_way_117 rfl (lv_at hl 0 rfl) ?_
              obtain ⟨q, hq, -⟩ := WC_K hG hw71
              refine kg (v := .int (c_known_63 r71)) hx hb hts hiX7_way_X1 hown hK hP q hq rfl 1 (by decide) flX7_way_137 rfl rfl dX7_way_118 ?_
              simp only [Option.some.injEq, Prod.mk.injEq] at hm
              obtain ⟨rfl, rfl, rfl, rfl, rfl, rfl, rfl, rfl, rfl, rfl, rfl, rfl, rfl, rfl, rfl, rfl, rfl, rfl⟩ := hm
              exact hret _ _ _ _ dX7_way_121 hP hS
            have hm := if_f hc1 hm
            by_cases hc2 : v2 = 2
            · have hm := if_t hc2 hm
              refine lv_tableIn (tgt := 122) (off := 46) hx hb dX7_way_76 (by rw [hc2]; decide) (by rw [hc2]; decide) (by rw [hc2]; rfl) (by decide) ?_
              refine lv_aload_n hx hb dX7_way_122 rfl (lv_at hl 0 rfl) ?_
              obtain ⟨q, hq, -⟩ := WC_K hG hw71
              refine kg (v := .int (c_guess_63 r71)) hx hb hts hiX7_way_X1 hown hK hP q hq rfl 2 (by decide) flX7_way_140 rfl rfl dX7_way_123 ?_
              simp only [Option.some.injEq, Prod.mk.injEq] at hm
              obtain ⟨rfl, rfl, rfl, rfl, rfl, rfl, rfl, rfl, rfl, rfl, rfl, rfl, rfl, rfl, rfl, rfl, rfl, rfl⟩ := hm
              exact hret _ _ _ _ dX7_way_126 hP hS
            have hm := if_f hc2 hm
            by_cases hc3 : v2 = 3
            · have hm := if_t hc3 hm
              refine lv_tableIn (tgt := 127) (off := 51) hx hb dX7_way_76 (by rw [hc3]; decide) (by rw [hc3]; decide) (by rw [hc3]; rfl) (by decide) ?_
              refine lv_aload_n hx hb dX7_way_127 rfl (lv_at hl 0 rfl) ?_
              obtain ⟨q, hq, -⟩ := WC_K hG hw71
              refine kg (v := .int (c_diff_63 r71)) hx hb hts hiX7_way_X1 hown hK hP q hq rfl 3 (by decide) flX7_way_143 rfl rfl dX7_way_128 ?_
              simp only [Option.some.injEq, Prod.mk.injEq] at hm
              obtain ⟨rfl, rfl, rfl, rfl, rfl, rfl, rfl, rfl, rfl, rfl, rfl, rfl, rfl, rfl, rfl, rfl, rfl, rfl⟩ := hm
              exact hret _ _ _ _ dX7_way_131 hP hS
            have hm := if_f hc3 hm
            by_cases hc4 : v2 = 4
            · have hm := if_t hc4 hm
              refine lv_tableIn (tgt := 132) (off := 56) hx hb dX7_way_76 (by rw [hc4]; decide) (by rw [hc4]; decide) (by rw [hc4]; rfl) (by decide) ?_
              refine lv_aload_n hx hb dX7_way_132 rfl (lv_at hl 0 rfl) ?_
              obtain ⟨q, hq, -⟩ := WC_K hG hw71
              refine kg (v := .int (c_pieces_63 r71)) hx hb hts hiX7_way_X1 hown hK hP q hq rfl 4 (by decide) flX7_way_146 rfl rfl dX7_way_133 ?_
              simp only [Option.some.injEq, Prod.mk.injEq] at hm
              obtain ⟨rfl, rfl, rfl, rfl, rfl, rfl, rfl, rfl, rfl, rfl, rfl, rfl, rfl, rfl, rfl, rfl, rfl, rfl⟩ := hm
              exact hret _ _ _ _ dX7_way_136 hP hS
            have hm := if_f hc4 hm
            refine lv_tableOut (tgt := 137) hx hb dX7_way_76 (sw_out0_4 hc0 hc1 hc2 hc3 hc4) (by decide) ?_
            refine lv_aload_n hx hb dX7_way_137 rfl (lv_at hl 0 rfl) ?_
            obtain ⟨q, hq, -⟩ := WC_K hG hw71
            refine kg (v := .int (c_place_63 r71)) hx hb hts hiX7_way_X1 hown hK hP q hq rfl 5 (by decide) flX7_way_149 rfl rfl dX7_way_138 ?_
            simp only [Option.some.injEq, Prod.mk.injEq] at hm
            obtain ⟨rfl, rfl, rfl, rfl, rfl, rfl, rfl, rfl, rfl, rfl, rfl, rfl, rfl, rfl, rfl, rfl, rfl, rfl⟩ := hm
            exact hret _ _ _ _ dX7_way_141 hP hS
          · have hm := if_t hc hm
            refine lv_aload_n hx hb dX7_way_48 rfl (lv_at hl 0 rfl) ?_
            refine lv_bipush (v := (-3)) hx hb dX7_way_49 (by decide) ?_
            obtain ⟨r51, c_bads_51, c_noes_51, c_fulls_51, hq0, hm⟩ := bd4_some hm
            refine k_callVI (As := [.int (-3)]) (rest := []) ⟨hx, hb, hml, hown, hts⟩ hK hA hN (c_X7_refuse hG hq0) (cwV 1 hts gX7_way_X7_refuse rfl rfl rfl hdX7_refuse ⟨Nat.le_of_ble_eq_true rfl, Nat.le_of_ble_eq_true rfl⟩) hP (WCD hD) hS 0 7 rfl rfl rfl hl.1 rfl rfl (Nat.le_of_ble_eq_true rfl) ⟨Nat.zero_le _, Nat.zero_le _⟩ dX7_way_51 (fun H locs hP hS => ?_)
            simp only [Option.some.injEq, Prod.mk.injEq] at hm
            obtain ⟨rfl, rfl, rfl, rfl, rfl, rfl, rfl, rfl, rfl, rfl, rfl, rfl, rfl, rfl, rfl, rfl, rfl, rfl⟩ := hm
            exact hret _ _ _ _ dX7_way_54 hP hS
        · have hm := if_f hc hm
          exact t_C7_way_J27 C hD hG hret _ _ _ _ _ _ _ _ _ _ _ _ _ _ _ _ _ _ _ _ hP hS (lv_sub hl [0] rfl) hm
theorem hdX0_hasPage : yX0_hasPage.cls = RX0 ∧ yX0_hasPage.cls ≠ "java/lang/invoke/MethodHandle" ∧ yX0_hasPage.cls ≠ "java/lang/invoke/VarHandle" ∧ (parseMethodDescriptor yX0_hasPage.desc).map (fun d => d.parameters.length) = some 1 := by decide +kernel
theorem hiX0_hasPage_X0 : ∀ w ∈ u_ws RX0 TX0 7, w ∈ wsX0_hasPage := by decide +kernel
theorem hiX0_hasPage_X3 : ∀ w ∈ u_ws RX3 TX3 6, w ∈ wsX0_hasPage := by decide +kernel
theorem flX0_hasPage_12 : Cond.fieldLink RX0 12 "BlindPages$Index" "now" "LBlindPages$State;" ∈ wsX0_hasPage := by decide +kernel
theorem flX0_hasPage_45 : Cond.fieldLink RX0 45 "BlindPages$State" "pages" "I" ∈ wsX0_hasPage := by decide +kernel
def C0_hasPage (a : Nat → Nat) (c_pages : Nat → Int32) (v1 : Int32) : Option (Int32) := if v1 < 0 then (some 0) else (if (c_pages (a 14)) ≤ v1 then (some 0) else (some 1))
set_option maxRecDepth 100000 in
set_option maxHeartbeats 4000000 in
theorem c_X0_hasPage {l : Launch} {D : va_G} {cI cJ cB cL cS cW : ClassId} {a wb sw se : Nat → Nat} {LW LS LK : List Nat} {c_bytes c_heads c_firsts c_levelOf c_aboveOf c_partings c_signs c_count c_pages c_levels c_most c_page c_known c_guess c_diff c_pieces c_place : Nat → Int32} {c_bits : Nat → Nat → Int64} {c_words : Nat → Nat → Nat} {c_entries : Nat → Nat → Int32} {c_bads c_noes c_fulls c_length c_next c_kept c_base c_from c_to c_above c_bit c_lastLeft : Int32} {v1 : Int32} {r : Int32} (hG : kG a LW LS LK) (hm : C0_hasPage a c_pages v1 = some r) : k_MI l yX0_hasPage wsX0_hasPage { frames := 0, cells := 0, slots := 0, locals := 0 } D (kT cI cJ cB cL cS cW) [.ref (a 3), .int v1] (WC a wb sw se LW LS LK cI cJ cB cL cS cW c_bytes c_heads c_firsts c_levelOf c_aboveOf c_partings c_signs c_count c_pages c_levels c_most c_page c_known c_guess c_diff c_pieces c_place c_bits c_words c_entries c_bads c_noes c_fulls c_length c_next c_kept c_base c_from c_to c_above c_bit c_lastLeft) r (WC a wb sw se LW LS LK cI cJ cB cL cS cW c_bytes c_heads c_firsts c_levelOf c_aboveOf c_partings c_signs c_count c_pages c_levels c_most c_page c_known c_guess c_diff c_pieces c_place c_bits c_words c_entries c_bads c_noes c_fulls c_length c_next c_kept c_base c_from c_to c_above c_bit c_lastLeft) := by
  refine k_ofZ (cc := cX0_hasPage) (maxL := 2) (own := RX0) (by decide) rfl rfl (Nat.le_of_ble_eq_true rfl) ?_
  intro p e s m args below meth c A Q ls C hP hD hl hret
  have hD : va_D A (WC0 a wb sw se LW LS LK cI cJ cB cL cS cW) := WCD hD
  have hS : va_S A s.heap s.heap [] := va_S.rf
  have hl : lv_has ls 2 [(0, .ref (a 3)), (1, .int v1)] := hl
  obtain ⟨hx, hb, hml, hr, hown, hts, hlocks, hK, hA, hN⟩ := id C
  rw [C0_hasPage] at hm
  refine lv_iload_n hx hb dX0_hasPage_0 rfl (lv_at hl 1 rfl) ?_
  refine lv_if_lt (tgt := 19) hx hb dX0_hasPage_1 (by decide) (fun hc => ?_) (fun hc => ?_)
  · have hm := if_t hc hm
    refine lv_iconst (v := 0) hx hb dX0_hasPage_19 (by decide) ?_
    obtain rfl := Option.some.inj hm
    exact hret _ _ _ _ dX0_hasPage_20 (by decide) hP hS
  · have hm := if_f hc hm
    refine lv_iload_n hx hb dX0_hasPage_4 rfl (lv_at hl 1 rfl) ?_
    refine lv_aload_n hx hb dX0_hasPage_5 rfl (lv_at hl 0 rfl) ?_
    refine kg (v := .ref (a 14)) hx hb hts hiX0_hasPage_X0 hown hK hP 3 rfl rfl 0 (by decide) flX0_hasPage_12 rfl rfl dX0_hasPage_6 ?_
    obtain ⟨q, hq, -⟩ := WC_S hG hG.2.2.2.2.1
    refine kg (v := .int (c_pages (a 14))) hx hb hts hiX0_hasPage_X3 hown hK hP q hq rfl 3 (by decide) flX0_hasPage_45 rfl rfl dX0_hasPage_9 ?_
    refine lv_icmp_ge (tgt := 19) hx hb dX0_hasPage_12 (by decide) (fun hc => ?_) (fun hc => ?_)
    · have hm := if_t hc hm
      refine lv_iconst (v := 0) hx hb dX0_hasPage_19 (by decide) ?_
      obtain rfl := Option.some.inj hm
      exact hret _ _ _ _ dX0_hasPage_20 (by decide) hP hS
    · have hm := if_f hc hm
      refine lv_iconst (v := 1) hx hb dX0_hasPage_15 (by decide) ?_
      refine lv_goto (tgt := 20) hx hb dX0_hasPage_16 (by decide) ?_
      obtain rfl := Option.some.inj hm
      exact hret _ _ _ _ dX0_hasPage_20 (by decide) hP hS
