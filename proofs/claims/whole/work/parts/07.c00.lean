theorem hdX7_refuse : yX7_refuse.cls = RX7 ∧ yX7_refuse.cls ≠ "java/lang/invoke/MethodHandle" ∧ yX7_refuse.cls ≠ "java/lang/invoke/VarHandle" ∧ (parseMethodDescriptor yX7_refuse.desc).map (fun d => d.parameters.length) = some 1 := by decide +kernel
theorem hiX7_refuse_X7 : ∀ w ∈ u_ws RX7 TX7 8, w ∈ wsX7_refuse := by decide +kernel
theorem flX7_refuse_211 : Cond.fieldLink RX7 211 "BlindPages" "bads" "I" ∈ wsX7_refuse := by decide +kernel
theorem flX7_refuse_214 : Cond.fieldLink RX7 214 "BlindPages" "noes" "I" ∈ wsX7_refuse := by decide +kernel
theorem flX7_refuse_217 : Cond.fieldLink RX7 217 "BlindPages" "fulls" "I" ∈ wsX7_refuse := by decide +kernel
def C7_refuse (c_bads c_noes c_fulls : Int32) (v1 : Int32) : Option (Int32 × Int32 × Int32 × Int32) := if v1 = (-2) then (some (v1, (c_bads + 1), c_noes, c_fulls)) else (if v1 = (-3) then (some (v1, c_bads, (c_noes + 1), c_fulls)) else (if v1 = (-4) then (some (v1, c_bads, c_noes, (c_fulls + 1))) else (some (v1, c_bads, c_noes, c_fulls))))
set_option maxRecDepth 100000 in
set_option maxHeartbeats 4000000 in
theorem c_X7_refuse {l : Launch} {D : va_G} {cI cJ cB cL cS cW : ClassId} {a wb sw se : Nat → Nat} {LW LS LK : List Nat} {c_bytes c_heads c_firsts c_levelOf c_aboveOf c_partings c_signs c_count c_pages c_levels c_most c_page c_known c_guess c_diff c_pieces c_place : Nat → Int32} {c_bits : Nat → Nat → Int64} {c_words : Nat → Nat → Nat} {c_entries : Nat → Nat → Int32} {c_bads c_noes c_fulls c_length c_next c_kept c_base c_from c_to c_above c_bit c_lastLeft : Int32} {v1 : Int32} {r : Int32} {o_bads : Int32} {o_noes : Int32} {o_fulls : Int32} (hG : kG a LW LS LK) (hm : C7_refuse c_bads c_noes c_fulls v1 = some (r, o_bads, o_noes, o_fulls)) : k_MI l yX7_refuse wsX7_refuse { frames := 0, cells := 0, slots := 0, locals := 0 } D (kT cI cJ cB cL cS cW) [.ref (a 0), .int v1] (WC a wb sw se LW LS LK cI cJ cB cL cS cW c_bytes c_heads c_firsts c_levelOf c_aboveOf c_partings c_signs c_count c_pages c_levels c_most c_page c_known c_guess c_diff c_pieces c_place c_bits c_words c_entries c_bads c_noes c_fulls c_length c_next c_kept c_base c_from c_to c_above c_bit c_lastLeft) r (WC a wb sw se LW LS LK cI cJ cB cL cS cW c_bytes c_heads c_firsts c_levelOf c_aboveOf c_partings c_signs c_count c_pages c_levels c_most c_page c_known c_guess c_diff c_pieces c_place c_bits c_words c_entries o_bads o_noes o_fulls c_length c_next c_kept c_base c_from c_to c_above c_bit c_lastLeft) := by
  refine k_ofI (cc := cX7_refuse) (maxL := 2) (own := RX7) (by decide) rfl rfl (Nat.le_of_ble_eq_true rfl) ?_
  intro p e s m args below meth c A Q ls C hP hD hl hret
  have hD : va_D A (WC0 a wb sw se LW LS LK cI cJ cB cL cS cW) := WCD hD
  have hS : va_S A s.heap s.heap [] := va_S.rf
  have hl : lv_has ls 2 [(0, .ref (a 0)), (1, .int v1)] := hl
  obtain ⟨hx, hb, hml, hr, hown, hts, hlocks, hK, hA, hN⟩ := id C
  rw [C7_refuse] at hm
  refine lv_iload_n hx hb dX7_refuse_0 rfl (lv_at hl 1 rfl) ?_
  refine lv_bipush (v := (-2)) hx hb dX7_refuse_1 (by decide) ?_
  refine lv_icmp_ne (tgt := 19) hx hb dX7_refuse_3 (by decide) (fun hc => ?_) (fun hc => ?_)
  · have hm := if_f hc hm
    refine lv_iload_n hx hb dX7_refuse_19 rfl (lv_at hl 1 rfl) ?_
    refine lv_bipush (v := (-3)) hx hb dX7_refuse_20 (by decide) ?_
    refine lv_icmp_ne (tgt := 38) hx hb dX7_refuse_22 (by decide) (fun hc => ?_) (fun hc => ?_)
    · have hm := if_f hc hm
      refine lv_iload_n hx hb dX7_refuse_38 rfl (lv_at hl 1 rfl) ?_
      refine lv_bipush (v := (-4)) hx hb dX7_refuse_39 (by decide) ?_
      refine lv_icmp_ne (tgt := 54) hx hb dX7_refuse_41 (by decide) (fun hc => ?_) (fun hc => ?_)
      · have hm := if_f hc hm
        refine lv_iload_n hx hb dX7_refuse_54 rfl (lv_at hl 1 rfl) ?_
        simp only [Option.some.injEq, Prod.mk.injEq] at hm
        obtain ⟨rfl, rfl, rfl, rfl⟩ := hm
        exact hret _ _ _ _ dX7_refuse_55 hP hS
      · have hm := if_t hc hm
        refine lv_aload_n hx hb dX7_refuse_44 rfl (lv_at hl 0 rfl) ?_
        refine lv_dup hx hb dX7_refuse_45 rfl ?_
        refine kg (v := .int c_fulls) hx hb hts hiX7_refuse_X7 hown hK hP 0 rfl rfl 7 (by decide) flX7_refuse_217 rfl rfl dX7_refuse_46 ?_
        refine lv_iconst (v := 1) hx hb dX7_refuse_49 (by decide) ?_
        refine lv_iadd hx hb dX7_refuse_50 ?_
        refine kp hx hb hts hiX7_refuse_X7 tyX7 tyX7_ok nmX7 hown hK hP (WCD hD) hS 0 rfl rfl 7 (by decide) flX7_refuse_217 rfl rfl rfl (Nat.le_of_ble_eq_true rfl) dX7_refuse_51 (fun H locs hP hS => ?_)
        have hP : va_P D vwCl (WC a wb sw se LW LS LK cI cJ cB cL cS cW c_bytes c_heads c_firsts c_levelOf c_aboveOf c_partings c_signs c_count c_pages c_levels c_most c_page c_known c_guess c_diff c_pieces c_place c_bits c_words c_entries c_bads c_noes (c_fulls + 1) c_length c_next c_kept c_base c_from c_to c_above c_bit c_lastLeft) H := hP
        refine lv_iload_n hx hb dX7_refuse_54 rfl (lv_at hl 1 rfl) ?_
        simp only [Option.some.injEq, Prod.mk.injEq] at hm
        obtain ⟨rfl, rfl, rfl, rfl⟩ := hm
        exact hret _ _ _ _ dX7_refuse_55 hP hS
    · have hm := if_t hc hm
      refine lv_aload_n hx hb dX7_refuse_25 rfl (lv_at hl 0 rfl) ?_
      refine lv_dup hx hb dX7_refuse_26 rfl ?_
      refine kg (v := .int c_noes) hx hb hts hiX7_refuse_X7 hown hK hP 0 rfl rfl 6 (by decide) flX7_refuse_214 rfl rfl dX7_refuse_27 ?_
      refine lv_iconst (v := 1) hx hb dX7_refuse_30 (by decide) ?_
      refine lv_iadd hx hb dX7_refuse_31 ?_
      refine kp hx hb hts hiX7_refuse_X7 tyX7 tyX7_ok nmX7 hown hK hP (WCD hD) hS 0 rfl rfl 6 (by decide) flX7_refuse_214 rfl rfl rfl (Nat.le_of_ble_eq_true rfl) dX7_refuse_32 (fun H locs hP hS => ?_)
      have hP : va_P D vwCl (WC a wb sw se LW LS LK cI cJ cB cL cS cW c_bytes c_heads c_firsts c_levelOf c_aboveOf c_partings c_signs c_count c_pages c_levels c_most c_page c_known c_guess c_diff c_pieces c_place c_bits c_words c_entries c_bads (c_noes + 1) c_fulls c_length c_next c_kept c_base c_from c_to c_above c_bit c_lastLeft) H := hP
      refine lv_goto (tgt := 54) hx hb dX7_refuse_35 (by decide) ?_
      refine lv_iload_n hx hb dX7_refuse_54 rfl (lv_at hl 1 rfl) ?_
      simp only [Option.some.injEq, Prod.mk.injEq] at hm
      obtain ⟨rfl, rfl, rfl, rfl⟩ := hm
      exact hret _ _ _ _ dX7_refuse_55 hP hS
  · have hm := if_t hc hm
    refine lv_aload_n hx hb dX7_refuse_6 rfl (lv_at hl 0 rfl) ?_
    refine lv_dup hx hb dX7_refuse_7 rfl ?_
    refine kg (v := .int c_bads) hx hb hts hiX7_refuse_X7 hown hK hP 0 rfl rfl 5 (by decide) flX7_refuse_211 rfl rfl dX7_refuse_8 ?_
    refine lv_iconst (v := 1) hx hb dX7_refuse_11 (by decide) ?_
    refine lv_iadd hx hb dX7_refuse_12 ?_
    refine kp hx hb hts hiX7_refuse_X7 tyX7 tyX7_ok nmX7 hown hK hP (WCD hD) hS 0 rfl rfl 5 (by decide) flX7_refuse_211 rfl rfl rfl (Nat.le_of_ble_eq_true rfl) dX7_refuse_13 (fun H locs hP hS => ?_)
    have hP : va_P D vwCl (WC a wb sw se LW LS LK cI cJ cB cL cS cW c_bytes c_heads c_firsts c_levelOf c_aboveOf c_partings c_signs c_count c_pages c_levels c_most c_page c_known c_guess c_diff c_pieces c_place c_bits c_words c_entries (c_bads + 1) c_noes c_fulls c_length c_next c_kept c_base c_from c_to c_above c_bit c_lastLeft) H := hP
    refine lv_goto (tgt := 54) hx hb dX7_refuse_16 (by decide) ?_
    refine lv_iload_n hx hb dX7_refuse_54 rfl (lv_at hl 1 rfl) ?_
    simp only [Option.some.injEq, Prod.mk.injEq] at hm
    obtain ⟨rfl, rfl, rfl, rfl⟩ := hm
    exact hret _ _ _ _ dX7_refuse_55 hP hS
theorem hdX4_append : yX4_append.cls = RX4 ∧ yX4_append.cls ≠ "java/lang/invoke/MethodHandle" ∧ yX4_append.cls ≠ "java/lang/invoke/VarHandle" ∧ (parseMethodDescriptor yX4_append.desc).map (fun d => d.parameters.length) = some 1 := by decide +kernel
theorem hiX4_append_X4 : ∀ w ∈ u_ws RX4 TX4 2, w ∈ wsX4_append := by decide +kernel
theorem flX4_append_15 : Cond.fieldLink RX4 15 "BlindPages$Text" "length" "I" ∈ wsX4_append := by decide +kernel
theorem flX4_append_9 : Cond.fieldLink RX4 9 "BlindPages$Text" "bytes" "[B" ∈ wsX4_append := by decide +kernel
def C4_append (c_bytes : Nat → Int32) (c_length : Int32) (v1 : Int32) : Option ((Nat → Int32) × Int32) := if c_length < 0 then (some (c_bytes, c_length)) else (if 120 ≤ c_length then (some (c_bytes, c_length)) else (ga c_length 120 (some ((upd c_bytes c_length.toNatClampNeg (vp_nar .byte v1.toInt8.toInt32)), (c_length + 1)))))
set_option maxRecDepth 100000 in
set_option maxHeartbeats 4000000 in
theorem c_X4_append {l : Launch} {D : va_G} {cI cJ cB cL cS cW : ClassId} {a wb sw se : Nat → Nat} {LW LS LK : List Nat} {c_bytes c_heads c_firsts c_levelOf c_aboveOf c_partings c_signs c_count c_pages c_levels c_most c_page c_known c_guess c_diff c_pieces c_place : Nat → Int32} {c_bits : Nat → Nat → Int64} {c_words : Nat → Nat → Nat} {c_entries : Nat → Nat → Int32} {c_bads c_noes c_fulls c_length c_next c_kept c_base c_from c_to c_above c_bit c_lastLeft : Int32} {v1 : Int32} {o_bytes : Nat → Int32} {o_length : Int32} (hG : kG a LW LS LK) (hm : C4_append c_bytes c_length v1 = some (o_bytes, o_length)) : k_MV l yX4_append wsX4_append { frames := 0, cells := 0, slots := 0, locals := 0 } D (kT cI cJ cB cL cS cW) [.ref (a 1), .int v1] (WC a wb sw se LW LS LK cI cJ cB cL cS cW c_bytes c_heads c_firsts c_levelOf c_aboveOf c_partings c_signs c_count c_pages c_levels c_most c_page c_known c_guess c_diff c_pieces c_place c_bits c_words c_entries c_bads c_noes c_fulls c_length c_next c_kept c_base c_from c_to c_above c_bit c_lastLeft) (WC a wb sw se LW LS LK cI cJ cB cL cS cW o_bytes c_heads c_firsts c_levelOf c_aboveOf c_partings c_signs c_count c_pages c_levels c_most c_page c_known c_guess c_diff c_pieces c_place c_bits c_words c_entries c_bads c_noes c_fulls o_length c_next c_kept c_base c_from c_to c_above c_bit c_lastLeft) := by
  refine k_ofV (cc := cX4_append) (maxL := 2) (own := RX4) (by decide) rfl rfl (Nat.le_of_ble_eq_true rfl) ?_
  intro p e s m args below meth c A Q ls C hP hD hl hret
  have hD : va_D A (WC0 a wb sw se LW LS LK cI cJ cB cL cS cW) := WCD hD
  have hS : va_S A s.heap s.heap [] := va_S.rf
  have hl : lv_has ls 2 [(0, .ref (a 1)), (1, .int v1)] := hl
  obtain ⟨hx, hb, hml, hr, hown, hts, hlocks, hK, hA, hN⟩ := id C
  rw [C4_append] at hm
  refine lv_aload_n hx hb dX4_append_0 rfl (lv_at hl 0 rfl) ?_
  refine kg (v := .int c_length) hx hb hts hiX4_append_X4 hown hK hP 1 rfl rfl 1 (by decide) flX4_append_15 rfl rfl dX4_append_1 ?_
  refine lv_if_lt (tgt := 40) hx hb dX4_append_4 (by decide) (fun hc => ?_) (fun hc => ?_)
  · have hm := if_t hc hm
    simp only [Option.some.injEq, Prod.mk.injEq] at hm
    obtain ⟨rfl, rfl⟩ := hm
    exact hret _ _ _ _ dX4_append_40 hP hS
  · have hm := if_f hc hm
    refine lv_aload_n hx hb dX4_append_7 rfl (lv_at hl 0 rfl) ?_
    refine kg (v := .int c_length) hx hb hts hiX4_append_X4 hown hK hP 1 rfl rfl 1 (by decide) flX4_append_15 rfl rfl dX4_append_8 ?_
    refine lv_aload_n hx hb dX4_append_11 rfl (lv_at hl 0 rfl) ?_
    refine kg (v := .ref (a 2)) hx hb hts hiX4_append_X4 hown hK hP 1 rfl rfl 0 (by decide) flX4_append_9 rfl rfl dX4_append_12 ?_
    refine va_alen (v := 120) hx hb hK hP 2 2 rfl rfl rfl dX4_append_15 ?_
    refine lv_icmp_ge (tgt := 40) hx hb dX4_append_16 (by decide) (fun hc => ?_) (fun hc => ?_)
    · have hm := if_t hc hm
      simp only [Option.some.injEq, Prod.mk.injEq] at hm
      obtain ⟨rfl, rfl⟩ := hm
      exact hret _ _ _ _ dX4_append_40 hP hS
    · have hm := if_f hc hm
      refine lv_aload_n hx hb dX4_append_19 rfl (lv_at hl 0 rfl) ?_
      refine kg (v := .ref (a 2)) hx hb hts hiX4_append_X4 hown hK hP 1 rfl rfl 0 (by decide) flX4_append_9 rfl rfl dX4_append_20 ?_
      refine lv_aload_n hx hb dX4_append_23 rfl (lv_at hl 0 rfl) ?_
      refine kg (v := .int c_length) hx hb hts hiX4_append_X4 hown hK hP 1 rfl rfl 1 (by decide) flX4_append_15 rfl rfl dX4_append_24 ?_
      refine lv_iload_n hx hb dX4_append_27 rfl (lv_at hl 1 rfl) ?_
      refine lv_i2b hx hb dX4_append_28 rfl ?_
      obtain ⟨hi, hm⟩ := ga_some hm
      refine k_bast hx hb hK hP (WCD hD) hS 2 2 rfl rfl rfl hi dX4_append_29 (fun H locs hP hS => ?_)
      have hP : va_P D vwCl (WC a wb sw se LW LS LK cI cJ cB cL cS cW (upd c_bytes c_length.toNatClampNeg (vp_nar .byte v1.toInt8.toInt32)) c_heads c_firsts c_levelOf c_aboveOf c_partings c_signs c_count c_pages c_levels c_most c_page c_known c_guess c_diff c_pieces c_place c_bits c_words c_entries c_bads c_noes c_fulls c_length c_next c_kept c_base c_from c_to c_above c_bit c_lastLeft) H := hP
      refine lv_aload_n hx hb dX4_append_30 rfl (lv_at hl 0 rfl) ?_
      refine lv_dup hx hb dX4_append_31 rfl ?_
      refine kg (v := .int c_length) hx hb hts hiX4_append_X4 hown hK hP 1 rfl rfl 1 (by decide) flX4_append_15 rfl rfl dX4_append_32 ?_
      refine lv_iconst (v := 1) hx hb dX4_append_35 (by decide) ?_
      refine lv_iadd hx hb dX4_append_36 ?_
      refine kp hx hb hts hiX4_append_X4 tyX4 tyX4_ok nmX4 hown hK hP (WCD hD) hS 1 rfl rfl 1 (by decide) flX4_append_15 rfl rfl rfl (Nat.le_of_ble_eq_true rfl) dX4_append_37 (fun H locs hP hS => ?_)
      have hP : va_P D vwCl (WC a wb sw se LW LS LK cI cJ cB cL cS cW (upd c_bytes c_length.toNatClampNeg (vp_nar .byte v1.toInt8.toInt32)) c_heads c_firsts c_levelOf c_aboveOf c_partings c_signs c_count c_pages c_levels c_most c_page c_known c_guess c_diff c_pieces c_place c_bits c_words c_entries c_bads c_noes c_fulls (c_length + 1) c_next c_kept c_base c_from c_to c_above c_bit c_lastLeft) H := hP
      simp only [Option.some.injEq, Prod.mk.injEq] at hm
      obtain ⟨rfl, rfl⟩ := hm
      exact hret _ _ _ _ dX4_append_40 hP hS
theorem hdX7_type : yX7_type.cls = RX7 ∧ yX7_type.cls ≠ "java/lang/invoke/MethodHandle" ∧ yX7_type.cls ≠ "java/lang/invoke/VarHandle" ∧ (parseMethodDescriptor yX7_type.desc).map (fun d => d.parameters.length) = some 1 := by decide +kernel
theorem hiX7_type_X7 : ∀ w ∈ u_ws RX7 TX7 8, w ∈ wsX7_type := by decide +kernel
theorem hiX7_type_X4 : ∀ w ∈ u_ws RX4 TX4 2, w ∈ wsX7_type := by decide +kernel
theorem flX7_type_10 : Cond.fieldLink RX7 10 "BlindPages" "text" "LBlindPages$Text;" ∈ wsX7_type := by decide +kernel
theorem flX7_type_48 : Cond.fieldLink RX7 48 "BlindPages$Text" "length" "I" ∈ wsX7_type := by decide +kernel
def C7_type_J10 (v1 : Int32) (c_bytes : (Nat → Int32)) (c_bads : Int32) (c_noes : Int32) (c_fulls : Int32) (c_length : Int32) : Option (Int32 × (Nat → Int32) × Int32 × Int32 × Int32 × Int32) := bd4 (C7_refuse c_bads c_noes c_fulls (-2)) fun r13 c_bads_13 c_noes_13 c_fulls_13 => some (r13, c_bytes, c_bads_13, c_noes_13, c_fulls_13, c_length)
def C7_type (c_bytes : Nat → Int32) (c_bads c_noes c_fulls c_length : Int32) (v1 : Int32) : Option (Int32 × (Nat → Int32) × Int32 × Int32 × Int32 × Int32) := if v1 < 0 then (C7_type_J10 v1 c_bytes c_bads c_noes c_fulls c_length) else (if v1 ≤ 127 then (if c_length < 120 then (bd2 (C4_append c_bytes c_length v1) fun c_bytes_41 c_length_41 => some (c_length_41, c_bytes_41, c_bads, c_noes, c_fulls, c_length_41)) else (bd4 (C7_refuse c_bads c_noes c_fulls (-4)) fun r32 c_bads_32 c_noes_32 c_fulls_32 => some (r32, c_bytes, c_bads_32, c_noes_32, c_fulls_32, c_length))) else (C7_type_J10 v1 c_bytes c_bads c_noes c_fulls c_length))
set_option maxRecDepth 100000 in
set_option maxHeartbeats 4000000 in
theorem t_C7_type_J10 {p : Program} {l : Launch} {e : Env} {s : State} {m : MethodId} {args : Array Value} {below : List Frame} {meth : Method} {c : Code} {Q : State → Prop} {A : Nat → Prop} {D : va_G} {cI cJ cB cL cS cW : ClassId} {a wb sw se : Nat → Nat} {LW LS LK : List Nat} {c_heads c_firsts c_levelOf c_aboveOf c_partings c_signs c_count c_pages c_levels c_most c_page c_known c_guess c_diff c_pieces c_place : Nat → Int32} {c_bits : Nat → Nat → Int64} {c_words : Nat → Nat → Nat} {c_entries : Nat → Nat → Int32} {c_next c_kept c_base c_from c_to c_above c_bit c_lastLeft : Int32} {v1 : Int32} {r : Int32} {o_bytes : Nat → Int32} {o_bads : Int32} {o_noes : Int32} {o_fulls : Int32} {o_length : Int32} (C : k_C p s m args meth c cX7_type 2 (some .int) RX7 wsX7_type D (kT cI cJ cB cL cS cW) A) (hD : va_D A (WC0 a wb sw se LW LS LK cI cJ cB cL cS cW)) (hG : kG a LW LS LK) (hret : ∀ (H : Heap) (locs : List Loc) (pc : Nat) (ls : Array Slot), decode cX7_type pc = .ok (.ireturn, 1) → va_P D vwCl (WC a wb sw se LW LS LK cI cJ cB cL cS cW o_bytes c_heads c_firsts c_levelOf c_aboveOf c_partings c_signs c_count c_pages c_levels c_most c_page c_known c_guess c_diff c_pieces c_place c_bits c_words c_entries o_bads o_noes o_fulls o_length c_next c_kept c_base c_from c_to c_above c_bit c_lastLeft) H → va_S A s.heap H locs → W p l e { frames := 1, cells := 0, slots := 0, locals := 21 } s m args below meth c H locs 0 0 Q (F0 m pc ls [.int r])) : ∀ (c_bytes : (Nat → Int32)) (c_bads : Int32) (c_noes : Int32) (c_fulls : Int32) (c_length : Int32) (H : Heap) (locs : List Loc) (ls : Array Slot), va_P D vwCl (WC a wb sw se LW LS LK cI cJ cB cL cS cW c_bytes c_heads c_firsts c_levelOf c_aboveOf c_partings c_signs c_count c_pages c_levels c_most c_page c_known c_guess c_diff c_pieces c_place c_bits c_words c_entries c_bads c_noes c_fulls c_length c_next c_kept c_base c_from c_to c_above c_bit c_lastLeft) H → va_S A s.heap H locs → lv_has ls 2 [(0, .ref (a 0))] → C7_type_J10 v1 c_bytes c_bads c_noes c_fulls c_length = some (r, o_bytes, o_bads, o_noes, o_fulls, o_length) → W p l e { frames := 1, cells := 0, slots := 0, locals := 21 } s m args below meth c H locs 0 0 Q (F0 m 10 ls []) := by
  obtain ⟨hx, hb, hml, hr, hown, hts, hlocks, hK, hA, hN⟩ := id C
  intro c_bytes c_bads c_noes c_fulls c_length H locs ls hP hS hl hm
  rw [C7_type_J10] at hm
  refine lv_aload_n hx hb dX7_type_10 rfl (lv_at hl 0 rfl) ?_
  refine lv_bipush (v := (-2)) hx hb dX7_type_11 (by decide) ?_
  obtain ⟨r13, c_bads_13, c_noes_13, c_fulls_13, hq0, hm⟩ := bd4_some hm
  refine k_callVI (As := [.int (-2)]) (rest := []) ⟨hx, hb, hml, hown, hts⟩ hK hA hN (c_X7_refuse hG hq0) (cwV 1 hts gX7_type_X7_refuse rfl rfl rfl hdX7_refuse ⟨Nat.le_of_ble_eq_true rfl, Nat.le_of_ble_eq_true rfl⟩) hP (WCD hD) hS 0 7 rfl rfl rfl hl.1 rfl rfl (Nat.le_of_ble_eq_true rfl) ⟨Nat.zero_le _, Nat.zero_le _⟩ dX7_type_13 (fun H locs hP hS => ?_)
  simp only [Option.some.injEq, Prod.mk.injEq] at hm
  obtain ⟨rfl, rfl, rfl, rfl, rfl, rfl⟩ := hm
  exact hret _ _ _ _ dX7_type_16 hP hS
set_option maxRecDepth 100000 in
set_option maxHeartbeats 4000000 in
theorem c_X7_type {l : Launch} {D : va_G} {cI cJ cB cL cS cW : ClassId} {a wb sw se : Nat → Nat} {LW LS LK : List Nat} {c_bytes c_heads c_firsts c_levelOf c_aboveOf c_partings c_signs c_count c_pages c_levels c_most c_page c_known c_guess c_diff c_pieces c_place : Nat → Int32} {c_bits : Nat → Nat → Int64} {c_words : Nat → Nat → Nat} {c_entries : Nat → Nat → Int32} {c_bads c_noes c_fulls c_length c_next c_kept c_base c_from c_to c_above c_bit c_lastLeft : Int32} {v1 : Int32} {r : Int32} {o_bytes : Nat → Int32} {o_bads : Int32} {o_noes : Int32} {o_fulls : Int32} {o_length : Int32} (hG : kG a LW LS LK) (hm : C7_type c_bytes c_bads c_noes c_fulls c_length v1 = some (r, o_bytes, o_bads, o_noes, o_fulls, o_length)) : k_MI l yX7_type wsX7_type { frames := 1, cells := 0, slots := 0, locals := 21 } D (kT cI cJ cB cL cS cW) [.ref (a 0), .int v1] (WC a wb sw se LW LS LK cI cJ cB cL cS cW c_bytes c_heads c_firsts c_levelOf c_aboveOf c_partings c_signs c_count c_pages c_levels c_most c_page c_known c_guess c_diff c_pieces c_place c_bits c_words c_entries c_bads c_noes c_fulls c_length c_next c_kept c_base c_from c_to c_above c_bit c_lastLeft) r (WC a wb sw se LW LS LK cI cJ cB cL cS cW o_bytes c_heads c_firsts c_levelOf c_aboveOf c_partings c_signs c_count c_pages c_levels c_most c_page c_known c_guess c_diff c_pieces c_place c_bits c_words c_entries o_bads o_noes o_fulls o_length c_next c_kept c_base c_from c_to c_above c_bit c_lastLeft) := by
  refine k_ofI (cc := cX7_type) (maxL := 2) (own := RX7) (by decide) rfl rfl (Nat.le_of_ble_eq_true rfl) ?_
  intro p e s m args below meth c A Q ls C hP hD hl hret
  have hD : va_D A (WC0 a wb sw se LW LS LK cI cJ cB cL cS cW) := WCD hD
  have hS : va_S A s.heap s.heap [] := va_S.rf
  have hl : lv_has ls 2 [(0, .ref (a 0)), (1, .int v1)] := hl
  obtain ⟨hx, hb, hml, hr, hown, hts, hlocks, hK, hA, hN⟩ := id C
  rw [C7_type] at hm
  refine lv_iload_n hx hb dX7_type_0 rfl (lv_at hl 1 rfl) ?_
  refine lv_if_lt (tgt := 10) hx hb dX7_type_1 (by decide) (fun hc => ?_) (fun hc => ?_)
  · have hm := if_t hc hm
    exact t_C7_type_J10 C hD hG hret _ _ _ _ _ _ _ _ hP hS (lv_sub hl [0] rfl) hm
  · have hm := if_f hc hm
    refine lv_iload_n hx hb dX7_type_4 rfl (lv_at hl 1 rfl) ?_
    refine lv_bipush (v := 127) hx hb dX7_type_5 (by decide) ?_
    refine lv_icmp_le (tgt := 17) hx hb dX7_type_7 (by decide) (fun hc => ?_) (fun hc => ?_)
    · have hm := if_t hc hm
      refine lv_aload_n hx hb dX7_type_17 rfl (lv_at hl 0 rfl) ?_
      refine kg (v := .ref (a 1)) hx hb hts hiX7_type_X7 hown hK hP 0 rfl rfl 0 (by decide) flX7_type_10 rfl rfl dX7_type_18 ?_
      refine kg (v := .int c_length) hx hb hts hiX7_type_X4 hown hK hP 1 rfl rfl 1 (by decide) flX7_type_48 rfl rfl dX7_type_21 ?_
      refine lv_bipush (v := 120) hx hb dX7_type_24 (by decide) ?_
      refine lv_icmp_lt (tgt := 36) hx hb dX7_type_26 (by decide) (fun hc => ?_) (fun hc => ?_)
      · have hm := if_t hc hm
        refine lv_aload_n hx hb dX7_type_36 rfl (lv_at hl 0 rfl) ?_
        refine kg (v := .ref (a 1)) hx hb hts hiX7_type_X7 hown hK hP 0 rfl rfl 0 (by decide) flX7_type_10 rfl rfl dX7_type_37 ?_
        refine lv_iload_n hx hb dX7_type_40 rfl (lv_at hl 1 rfl) ?_
        obtain ⟨c_bytes_41, c_length_41, hq0, hm⟩ := bd2_some hm
        refine k_callVV (As := [.int v1]) (rest := []) ⟨hx, hb, hml, hown, hts⟩ hK hA hN (c_X4_append hG hq0) (cwV 1 hts gX7_type_X4_append rfl rfl rfl hdX4_append ⟨Nat.le_of_ble_eq_true rfl, Nat.le_of_ble_eq_true rfl⟩) hP (WCD hD) hS 1 4 rfl rfl rfl hl.1 rfl rfl (Nat.le_of_ble_eq_true rfl) ⟨Nat.zero_le _, Nat.zero_le _⟩ dX7_type_41 (fun H locs hP hS => ?_)
        refine lv_aload_n hx hb dX7_type_44 rfl (lv_at hl 0 rfl) ?_
        refine kg (v := .ref (a 1)) hx hb hts hiX7_type_X7 hown hK hP 0 rfl rfl 0 (by decide) flX7_type_10 rfl rfl dX7_type_45 ?_
        refine kg (v := .int c_length_41) hx hb hts hiX7_type_X4 hown hK hP 1 rfl rfl 1 (by decide) flX7_type_48 rfl rfl dX7_type_48 ?_
        simp only [Option.some.injEq, Prod.mk.injEq] at hm
        obtain ⟨rfl, rfl, rfl, rfl, rfl, rfl⟩ := hm
        exact hret _ _ _ _ dX7_type_51 hP hS
      · have hm := if_f hc hm
        refine lv_aload_n hx hb dX7_type_29 rfl (lv_at hl 0 rfl) ?_
        refine lv_bipush (v := (-4)) hx hb dX7_type_30 (by decide) ?_
        obtain ⟨r32, c_bads_32, c_noes_32, c_fulls_32, hq0, hm⟩ := bd4_some hm
        refine k_callVI (As := [.int (-4)]) (rest := []) ⟨hx, hb, hml, hown, hts⟩ hK hA hN (c_X7_refuse hG hq0) (cwV 1 hts gX7_type_X7_refuse rfl rfl rfl hdX7_refuse ⟨Nat.le_of_ble_eq_true rfl, Nat.le_of_ble_eq_true rfl⟩) hP (WCD hD) hS 0 7 rfl rfl rfl hl.1 rfl rfl (Nat.le_of_ble_eq_true rfl) ⟨Nat.zero_le _, Nat.zero_le _⟩ dX7_type_32 (fun H locs hP hS => ?_)
        simp only [Option.some.injEq, Prod.mk.injEq] at hm
        obtain ⟨rfl, rfl, rfl, rfl, rfl, rfl⟩ := hm
        exact hret _ _ _ _ dX7_type_35 hP hS
    · have hm := if_f hc hm
      exact t_C7_type_J10 C hD hG hret _ _ _ _ _ _ _ _ hP hS (lv_sub hl [0] rfl) hm
theorem hdX7_clear : yX7_clear.cls = RX7 ∧ yX7_clear.cls ≠ "java/lang/invoke/MethodHandle" ∧ yX7_clear.cls ≠ "java/lang/invoke/VarHandle" ∧ (parseMethodDescriptor yX7_clear.desc).map (fun d => d.parameters.length) = some 0 := by decide +kernel
theorem hiX7_clear_X7 : ∀ w ∈ u_ws RX7 TX7 8, w ∈ wsX7_clear := by decide +kernel
theorem hiX7_clear_X4 : ∀ w ∈ u_ws RX4 TX4 2, w ∈ wsX7_clear := by decide +kernel
theorem flX7_clear_10 : Cond.fieldLink RX7 10 "BlindPages" "text" "LBlindPages$Text;" ∈ wsX7_clear := by decide +kernel
theorem flX7_clear_48 : Cond.fieldLink RX7 48 "BlindPages$Text" "length" "I" ∈ wsX7_clear := by decide +kernel
def C7_clear (c_length : Int32) : Option (Int32 × Int32) := some (c_length, 0)
set_option maxRecDepth 100000 in
set_option maxHeartbeats 4000000 in
theorem c_X7_clear {l : Launch} {D : va_G} {cI cJ cB cL cS cW : ClassId} {a wb sw se : Nat → Nat} {LW LS LK : List Nat} {c_bytes c_heads c_firsts c_levelOf c_aboveOf c_partings c_signs c_count c_pages c_levels c_most c_page c_known c_guess c_diff c_pieces c_place : Nat → Int32} {c_bits : Nat → Nat → Int64} {c_words : Nat → Nat → Nat} {c_entries : Nat → Nat → Int32} {c_bads c_noes c_fulls c_length c_next c_kept c_base c_from c_to c_above c_bit c_lastLeft : Int32} {r : Int32} {o_length : Int32} (hG : kG a LW LS LK) (hm : C7_clear c_length = some (r, o_length)) : k_MI l yX7_clear wsX7_clear { frames := 0, cells := 0, slots := 0, locals := 0 } D (kT cI cJ cB cL cS cW) [.ref (a 0)] (WC a wb sw se LW LS LK cI cJ cB cL cS cW c_bytes c_heads c_firsts c_levelOf c_aboveOf c_partings c_signs c_count c_pages c_levels c_most c_page c_known c_guess c_diff c_pieces c_place c_bits c_words c_entries c_bads c_noes c_fulls c_length c_next c_kept c_base c_from c_to c_above c_bit c_lastLeft) r (WC a wb sw se LW LS LK cI cJ cB cL cS cW c_bytes c_heads c_firsts c_levelOf c_aboveOf c_partings c_signs c_count c_pages c_levels c_most c_page c_known c_guess c_diff c_pieces c_place c_bits c_words c_entries c_bads c_noes c_fulls o_length c_next c_kept c_base c_from c_to c_above c_bit c_lastLeft) := by
  refine k_ofI (cc := cX7_clear) (maxL := 2) (own := RX7) (by decide) rfl rfl (Nat.le_of_ble_eq_true rfl) ?_
  intro p e s m args below meth c A Q ls C hP hD hl hret
  have hD : va_D A (WC0 a wb sw se LW LS LK cI cJ cB cL cS cW) := WCD hD
  have hS : va_S A s.heap s.heap [] := va_S.rf
  have hl : lv_has ls 2 [(0, .ref (a 0))] := hl
  obtain ⟨hx, hb, hml, hr, hown, hts, hlocks, hK, hA, hN⟩ := id C
  rw [C7_clear] at hm
  refine lv_aload_n hx hb dX7_clear_0 rfl (lv_at hl 0 rfl) ?_
  refine kg (v := .ref (a 1)) hx hb hts hiX7_clear_X7 hown hK hP 0 rfl rfl 0 (by decide) flX7_clear_10 rfl rfl dX7_clear_1 ?_
  refine kg (v := .int c_length) hx hb hts hiX7_clear_X4 hown hK hP 1 rfl rfl 1 (by decide) flX7_clear_48 rfl rfl dX7_clear_4 ?_
  refine lv_istore_n (lv' := [(1, .int c_length), (0, .ref (a 0))]) hx hb dX7_clear_7 rfl hl (by decide) rfl (fun ls hl => ?_)
  refine lv_aload_n hx hb dX7_clear_8 rfl (lv_at hl 1 rfl) ?_
  refine kg (v := .ref (a 1)) hx hb hts hiX7_clear_X7 hown hK hP 0 rfl rfl 0 (by decide) flX7_clear_10 rfl rfl dX7_clear_9 ?_
  refine lv_iconst (v := 0) hx hb dX7_clear_12 (by decide) ?_
  refine kp hx hb hts hiX7_clear_X4 tyX4 tyX4_ok nmX4 hown hK hP (WCD hD) hS 1 rfl rfl 1 (by decide) flX7_clear_48 rfl rfl rfl (Nat.le_of_ble_eq_true rfl) dX7_clear_13 (fun H locs hP hS => ?_)
  have hP : va_P D vwCl (WC a wb sw se LW LS LK cI cJ cB cL cS cW c_bytes c_heads c_firsts c_levelOf c_aboveOf c_partings c_signs c_count c_pages c_levels c_most c_page c_known c_guess c_diff c_pieces c_place c_bits c_words c_entries c_bads c_noes c_fulls 0 c_next c_kept c_base c_from c_to c_above c_bit c_lastLeft) H := hP
  refine lv_iload_n hx hb dX7_clear_16 rfl (lv_at hl 0 rfl) ?_
  simp only [Option.some.injEq, Prod.mk.injEq] at hm
  obtain ⟨rfl, rfl⟩ := hm
  exact hret _ _ _ _ dX7_clear_17 hP hS
theorem hdX6_empty : yX6_empty.cls = RX6 ∧ yX6_empty.cls ≠ "java/lang/invoke/MethodHandle" ∧ yX6_empty.cls ≠ "java/lang/invoke/VarHandle" ∧ (parseMethodDescriptor yX6_empty.desc).map (fun d => d.parameters.length) = some 0 := by decide +kernel
theorem hiX6_empty_X6 : ∀ w ∈ u_ws RX6 TX6 2, w ∈ wsX6_empty := by decide +kernel
theorem flX6_empty_9 : Cond.fieldLink RX6 9 "BlindPages$Word" "bits" "[J" ∈ wsX6_empty := by decide +kernel
theorem flX6_empty_15 : Cond.fieldLink RX6 15 "BlindPages$Word" "signs" "I" ∈ wsX6_empty := by decide +kernel
def C6_empty_L2 (v0 : Nat) (k24 : (Nat → Int32) → (Nat → Nat → Int64) → Option ((Nat → Int32) × (Nat → Nat → Int64))) : Nat → (Nat → Int32) → (Nat → Nat → Int64) → Int32 → Option ((Nat → Int32) × (Nat → Nat → Int64))
  | 0, _, _, _ => none
  | n + 1, c_signs, c_bits, v1 => if 3 ≤ v1 then (k24 c_signs c_bits) else (ga v1 3 (C6_empty_L2 v0 k24 n c_signs (va_up c_bits v0 (vp_updL (c_bits v0) v1.toNatClampNeg (0 : Int64))) (v1 + 1)))
def C6_empty (c_signs : Nat → Int32) (c_bits : Nat → Nat → Int64) (v0 : Nat) : Option ((Nat → Int32) × (Nat → Nat → Int64)) := C6_empty_L2 v0 (fun c_signs c_bits => some ((va_up c_signs v0 0), c_bits)) FU c_signs c_bits 0
set_option maxRecDepth 100000 in
set_option maxHeartbeats 4000000 in
theorem t_C6_empty_L2 {p : Program} {l : Launch} {e : Env} {s : State} {m : MethodId} {args : Array Value} {below : List Frame} {meth : Method} {c : Code} {Q : State → Prop} {A : Nat → Prop} {D : va_G} {cI cJ cB cL cS cW : ClassId} {a wb sw se : Nat → Nat} {LW LS LK : List Nat} {c_bytes c_heads c_firsts c_levelOf c_aboveOf c_partings c_count c_pages c_levels c_most c_page c_known c_guess c_diff c_pieces c_place : Nat → Int32} {c_words : Nat → Nat → Nat} {c_entries : Nat → Nat → Int32} {c_bads c_noes c_fulls c_length c_next c_kept c_base c_from c_to c_above c_bit c_lastLeft : Int32} {v0 : Nat} {o_signs : Nat → Int32} {o_bits : Nat → Nat → Int64} (C : k_C p s m args meth c cX6_empty 2 none RX6 wsX6_empty D (kT cI cJ cB cL cS cW) A) (hD : va_D A (WC0 a wb sw se LW LS LK cI cJ cB cL cS cW)) (hG : kG a LW LS LK) (hv0 : v0 ∈ LW) (hret : ∀ (H : Heap) (locs : List Loc) (pc : Nat) (ls : Array Slot), decode cX6_empty pc = .ok (.return_, 1) → va_P D vwCl (WC a wb sw se LW LS LK cI cJ cB cL cS cW c_bytes c_heads c_firsts c_levelOf c_aboveOf c_partings o_signs c_count c_pages c_levels c_most c_page c_known c_guess c_diff c_pieces c_place o_bits c_words c_entries c_bads c_noes c_fulls c_length c_next c_kept c_base c_from c_to c_above c_bit c_lastLeft) H → va_S A s.heap H locs → W p l e { frames := 0, cells := 0, slots := 0, locals := 0 } s m args below meth c H locs 0 0 Q (F0 m pc ls [])) {k24 : (Nat → Int32) → (Nat → Nat → Int64) → Option ((Nat → Int32) × (Nat → Nat → Int64))} (hk24 : ∀ (c_signs : (Nat → Int32)) (c_bits : (Nat → Nat → Int64)) (H : Heap) (locs : List Loc) (ls : Array Slot), va_P D vwCl (WC a wb sw se LW LS LK cI cJ cB cL cS cW c_bytes c_heads c_firsts c_levelOf c_aboveOf c_partings c_signs c_count c_pages c_levels c_most c_page c_known c_guess c_diff c_pieces c_place c_bits c_words c_entries c_bads c_noes c_fulls c_length c_next c_kept c_base c_from c_to c_above c_bit c_lastLeft) H → va_S A s.heap H locs → lv_has ls 2 [(0, .ref v0)] → k24 c_signs c_bits = some (o_signs, o_bits) → W p l e { frames := 0, cells := 0, slots := 0, locals := 0 } s m args below meth c H locs 0 0 Q (F0 m 24 ls [])) : ∀ n : Nat, ∀ (c_signs : (Nat → Int32)) (c_bits : (Nat → Nat → Int64)) (v1 : Int32) (H : Heap) (locs : List Loc) (ls : Array Slot), va_P D vwCl (WC a wb sw se LW LS LK cI cJ cB cL cS cW c_bytes c_heads c_firsts c_levelOf c_aboveOf c_partings c_signs c_count c_pages c_levels c_most c_page c_known c_guess c_diff c_pieces c_place c_bits c_words c_entries c_bads c_noes c_fulls c_length c_next c_kept c_base c_from c_to c_above c_bit c_lastLeft) H → va_S A s.heap H locs → lv_has ls 2 [(0, .ref v0), (1, .int v1)] → (C6_empty_L2 v0 k24 n) c_signs c_bits v1 = some (o_signs, o_bits) → W p l e { frames := 0, cells := 0, slots := 0, locals := 0 } s m args below meth c H locs 0 0 Q (F0 m 2 ls []) := by
  obtain ⟨hx, hb, hml, hr, hown, hts, hlocks, hK, hA, hN⟩ := id C
  intro n
  induction n with
  | zero =>
    intro c_signs c_bits v1 H locs ls hP hS hl hm
    cases hm
  | succ n ih =>
    intro c_signs c_bits v1 H locs ls hP hS hl hm
    rw [C6_empty_L2] at hm
    refine lv_iload_n hx hb dX6_empty_2 rfl (lv_at hl 1 rfl) ?_
    refine lv_aload_n hx hb dX6_empty_3 rfl (lv_at hl 0 rfl) ?_
    obtain ⟨q, hq, -⟩ := WC_W hG hv0
    refine kg (v := .ref (wb v0)) hx hb hts hiX6_empty_X6 hown hK hP q hq rfl 0 (by decide) flX6_empty_9 rfl rfl dX6_empty_4 ?_
    obtain ⟨q, hq, -⟩ := WC_bits hG hv0
    refine va_alen (v := 3) hx hb hK hP q 1 hq rfl rfl dX6_empty_7 ?_
    refine lv_icmp_ge (tgt := 24) hx hb dX6_empty_8 (by decide) (fun hc => ?_) (fun hc => ?_)
    · have hm := if_t hc hm
      exact hk24 _ _ _ _ _ hP hS (lv_sub hl [0] rfl) hm
    · have hm := if_f hc hm
      refine lv_aload_n hx hb dX6_empty_11 rfl (lv_at hl 0 rfl) ?_
      obtain ⟨q, hq, -⟩ := WC_W hG hv0
      refine kg (v := .ref (wb v0)) hx hb hts hiX6_empty_X6 hown hK hP q hq rfl 0 (by decide) flX6_empty_9 rfl rfl dX6_empty_12 ?_
      refine lv_iload_n hx hb dX6_empty_15 rfl (lv_at hl 1 rfl) ?_
      refine lv_lconst (v := 0) hx hb dX6_empty_16 rfl ?_
      obtain ⟨hi, hm⟩ := ga_some hm
      obtain ⟨q, hq, he⟩ := WC_bits hG hv0
      refine k_last hx hb hK hP (WCD hD) hS q 1 hq rfl rfl hi dX6_empty_17 (fun H locs hP hS => ?_)
      have hP : va_P D vwCl (WC a wb sw se LW LS LK cI cJ cB cL cS cW c_bytes c_heads c_firsts c_levelOf c_aboveOf c_partings c_signs c_count c_pages c_levels c_most c_page c_known c_guess c_diff c_pieces c_place (va_up c_bits v0 (vp_updL (c_bits v0) v1.toNatClampNeg (0 : Int64))) c_words c_entries c_bads c_noes c_fulls c_length c_next c_kept c_base c_from c_to c_above c_bit c_lastLeft) H := by rw [← he]; exact hP
      refine lv_iinc (v := (v1 + 1)) (lv' := [(1, .int (v1 + 1)), (0, .ref v0)]) hx hb dX6_empty_18 hl (k := 1) rfl rfl (by decide) rfl (fun ls hl => ?_)
      refine lv_goto (tgt := 2) hx hb dX6_empty_21 (by decide) ?_
      exact ih _ _ _ _ _ _ hP hS (lv_sub hl [1, 0] rfl) hm
set_option maxRecDepth 100000 in
set_option maxHeartbeats 4000000 in
theorem c_X6_empty {l : Launch} {D : va_G} {cI cJ cB cL cS cW : ClassId} {a wb sw se : Nat → Nat} {LW LS LK : List Nat} {c_bytes c_heads c_firsts c_levelOf c_aboveOf c_partings c_signs c_count c_pages c_levels c_most c_page c_known c_guess c_diff c_pieces c_place : Nat → Int32} {c_bits : Nat → Nat → Int64} {c_words : Nat → Nat → Nat} {c_entries : Nat → Nat → Int32} {c_bads c_noes c_fulls c_length c_next c_kept c_base c_from c_to c_above c_bit c_lastLeft : Int32} {v0 : Nat} {o_signs : Nat → Int32} {o_bits : Nat → Nat → Int64} (hG : kG a LW LS LK) (hv0 : v0 ∈ LW) (hm : C6_empty c_signs c_bits v0 = some (o_signs, o_bits)) : k_MV l yX6_empty wsX6_empty { frames := 0, cells := 0, slots := 0, locals := 0 } D (kT cI cJ cB cL cS cW) [.ref v0] (WC a wb sw se LW LS LK cI cJ cB cL cS cW c_bytes c_heads c_firsts c_levelOf c_aboveOf c_partings c_signs c_count c_pages c_levels c_most c_page c_known c_guess c_diff c_pieces c_place c_bits c_words c_entries c_bads c_noes c_fulls c_length c_next c_kept c_base c_from c_to c_above c_bit c_lastLeft) (WC a wb sw se LW LS LK cI cJ cB cL cS cW c_bytes c_heads c_firsts c_levelOf c_aboveOf c_partings o_signs c_count c_pages c_levels c_most c_page c_known c_guess c_diff c_pieces c_place o_bits c_words c_entries c_bads c_noes c_fulls c_length c_next c_kept c_base c_from c_to c_above c_bit c_lastLeft) := by
  refine k_ofV (cc := cX6_empty) (maxL := 2) (own := RX6) (by decide) rfl rfl (Nat.le_of_ble_eq_true rfl) ?_
  intro p e s m args below meth c A Q ls C hP hD hl hret
  have hD : va_D A (WC0 a wb sw se LW LS LK cI cJ cB cL cS cW) := WCD hD
  have hS : va_S A s.heap s.heap [] := va_S.rf
  have hl : lv_has ls 2 [(0, .ref v0)] := hl
  obtain ⟨hx, hb, hml, hr, hown, hts, hlocks, hK, hA, hN⟩ := id C
  rw [C6_empty] at hm
  refine lv_iconst (v := 0) hx hb dX6_empty_0 (by decide) ?_
  refine lv_istore_n (lv' := [(1, .int 0), (0, .ref v0)]) hx hb dX6_empty_1 rfl hl (by decide) rfl (fun ls hl => ?_)
  refine t_C6_empty_L2 C hD hG hv0 hret ?_ FU _ _ _ _ _ _ hP hS (lv_sub hl [1, 0] rfl) hm
  · intro c_signs c_bits H locs ls hP hS hl hm
    try dsimp only at hm
    refine lv_aload_n hx hb dX6_empty_24 rfl (lv_at hl 0 rfl) ?_
    refine lv_iconst (v := 0) hx hb dX6_empty_25 (by decide) ?_
    obtain ⟨q, hq, he⟩ := WC_W hG hv0
    refine kp hx hb hts hiX6_empty_X6 tyX6 tyX6_ok nmX6 hown hK hP (WCD hD) hS q hq rfl 1 (by decide) flX6_empty_15 rfl rfl rfl (Nat.le_of_ble_eq_true rfl) dX6_empty_26 (fun H locs hP hS => ?_)
    have hP : va_P D vwCl (WC a wb sw se LW LS LK cI cJ cB cL cS cW c_bytes c_heads c_firsts c_levelOf c_aboveOf c_partings (va_up c_signs v0 0) c_count c_pages c_levels c_most c_page c_known c_guess c_diff c_pieces c_place c_bits c_words c_entries c_bads c_noes c_fulls c_length c_next c_kept c_base c_from c_to c_above c_bit c_lastLeft) H := by rw [← he]; exact hP
    simp only [Option.some.injEq, Prod.mk.injEq] at hm
    obtain ⟨rfl, rfl⟩ := hm
    exact hret _ _ _ _ dX6_empty_29 hP hS
theorem hdX4_byteAt : yX4_byteAt.cls = RX4 ∧ yX4_byteAt.cls ≠ "java/lang/invoke/MethodHandle" ∧ yX4_byteAt.cls ≠ "java/lang/invoke/VarHandle" ∧ (parseMethodDescriptor yX4_byteAt.desc).map (fun d => d.parameters.length) = some 1 := by decide +kernel
theorem hiX4_byteAt_X4 : ∀ w ∈ u_ws RX4 TX4 2, w ∈ wsX4_byteAt := by decide +kernel
theorem flX4_byteAt_15 : Cond.fieldLink RX4 15 "BlindPages$Text" "length" "I" ∈ wsX4_byteAt := by decide +kernel
theorem flX4_byteAt_9 : Cond.fieldLink RX4 9 "BlindPages$Text" "bytes" "[B" ∈ wsX4_byteAt := by decide +kernel
def C4_byteAt (c_bytes : Nat → Int32) (c_length : Int32) (v1 : Int32) : Option (Int32) := if v1 < 0 then (some (-1)) else (if c_length ≤ v1 then (some (-1)) else (if 120 ≤ v1 then (some (-1)) else (ga v1 120 (some (c_bytes v1.toNatClampNeg)))))
set_option maxRecDepth 100000 in
set_option maxHeartbeats 4000000 in
theorem c_X4_byteAt {l : Launch} {D : va_G} {cI cJ cB cL cS cW : ClassId} {a wb sw se : Nat → Nat} {LW LS LK : List Nat} {c_bytes c_heads c_firsts c_levelOf c_aboveOf c_partings c_signs c_count c_pages c_levels c_most c_page c_known c_guess c_diff c_pieces c_place : Nat → Int32} {c_bits : Nat → Nat → Int64} {c_words : Nat → Nat → Nat} {c_entries : Nat → Nat → Int32} {c_bads c_noes c_fulls c_length c_next c_kept c_base c_from c_to c_above c_bit c_lastLeft : Int32} {v1 : Int32} {r : Int32} (hG : kG a LW LS LK) (hm : C4_byteAt c_bytes c_length v1 = some r) : k_MI l yX4_byteAt wsX4_byteAt { frames := 0, cells := 0, slots := 0, locals := 0 } D (kT cI cJ cB cL cS cW) [.ref (a 1), .int v1] (WC a wb sw se LW LS LK cI cJ cB cL cS cW c_bytes c_heads c_firsts c_levelOf c_aboveOf c_partings c_signs c_count c_pages c_levels c_most c_page c_known c_guess c_diff c_pieces c_place c_bits c_words c_entries c_bads c_noes c_fulls c_length c_next c_kept c_base c_from c_to c_above c_bit c_lastLeft) r (WC a wb sw se LW LS LK cI cJ cB cL cS cW c_bytes c_heads c_firsts c_levelOf c_aboveOf c_partings c_signs c_count c_pages c_levels c_most c_page c_known c_guess c_diff c_pieces c_place c_bits c_words c_entries c_bads c_noes c_fulls c_length c_next c_kept c_base c_from c_to c_above c_bit c_lastLeft) := by
  refine k_ofI (cc := cX4_byteAt) (maxL := 2) (own := RX4) (by decide) rfl rfl (Nat.le_of_ble_eq_true rfl) ?_
  intro p e s m args below meth c A Q ls C hP hD hl hret
  have hD : va_D A (WC0 a wb sw se LW LS LK cI cJ cB cL cS cW) := WCD hD
  have hS : va_S A s.heap s.heap [] := va_S.rf
  have hl : lv_has ls 2 [(0, .ref (a 1)), (1, .int v1)] := hl
  obtain ⟨hx, hb, hml, hr, hown, hts, hlocks, hK, hA, hN⟩ := id C
  rw [C4_byteAt] at hm
  refine lv_iload_n hx hb dX4_byteAt_0 rfl (lv_at hl 1 rfl) ?_
  refine lv_if_lt (tgt := 30) hx hb dX4_byteAt_1 (by decide) (fun hc => ?_) (fun hc => ?_)
  · have hm := if_t hc hm
    refine lv_iconst (v := (-1)) hx hb dX4_byteAt_30 (by decide) ?_
    obtain rfl := Option.some.inj hm
    exact hret _ _ _ _ dX4_byteAt_31 hP hS
  · have hm := if_f hc hm
    refine lv_iload_n hx hb dX4_byteAt_4 rfl (lv_at hl 1 rfl) ?_
    refine lv_aload_n hx hb dX4_byteAt_5 rfl (lv_at hl 0 rfl) ?_
    refine kg (v := .int c_length) hx hb hts hiX4_byteAt_X4 hown hK hP 1 rfl rfl 1 (by decide) flX4_byteAt_15 rfl rfl dX4_byteAt_6 ?_
    refine lv_icmp_ge (tgt := 30) hx hb dX4_byteAt_9 (by decide) (fun hc => ?_) (fun hc => ?_)
    · have hm := if_t hc hm
      refine lv_iconst (v := (-1)) hx hb dX4_byteAt_30 (by decide) ?_
      obtain rfl := Option.some.inj hm
      exact hret _ _ _ _ dX4_byteAt_31 hP hS
    · have hm := if_f hc hm
      refine lv_iload_n hx hb dX4_byteAt_12 rfl (lv_at hl 1 rfl) ?_
      refine lv_aload_n hx hb dX4_byteAt_13 rfl (lv_at hl 0 rfl) ?_
      refine kg (v := .ref (a 2)) hx hb hts hiX4_byteAt_X4 hown hK hP 1 rfl rfl 0 (by decide) flX4_byteAt_9 rfl rfl dX4_byteAt_14 ?_
      refine va_alen (v := 120) hx hb hK hP 2 2 rfl rfl rfl dX4_byteAt_17 ?_
      refine lv_icmp_ge (tgt := 30) hx hb dX4_byteAt_18 (by decide) (fun hc => ?_) (fun hc => ?_)
      · have hm := if_t hc hm
        refine lv_iconst (v := (-1)) hx hb dX4_byteAt_30 (by decide) ?_
        obtain rfl := Option.some.inj hm
        exact hret _ _ _ _ dX4_byteAt_31 hP hS
      · have hm := if_f hc hm
        refine lv_aload_n hx hb dX4_byteAt_21 rfl (lv_at hl 0 rfl) ?_
        refine kg (v := .ref (a 2)) hx hb hts hiX4_byteAt_X4 hown hK hP 1 rfl rfl 0 (by decide) flX4_byteAt_9 rfl rfl dX4_byteAt_22 ?_
        refine lv_iload_n hx hb dX4_byteAt_25 rfl (lv_at hl 1 rfl) ?_
        obtain ⟨hi, hm⟩ := ga_some hm
        refine k_bald hx hb hK hP 2 2 rfl rfl rfl hi dX4_byteAt_26 ?_
        refine lv_goto (tgt := 31) hx hb dX4_byteAt_27 (by decide) ?_
        obtain rfl := Option.some.inj hm
        exact hret _ _ _ _ dX4_byteAt_31 hP hS
theorem hdX7_isSign : yX7_isSign.cls ≠ "java/lang/invoke/MethodHandle" ∧ yX7_isSign.cls ≠ "java/lang/invoke/VarHandle" ∧ (parseMethodDescriptor yX7_isSign.desc).map (fun d => d.parameters.length) = some 1 := by decide +kernel
def C7_isSign_J24 (v0 : Int32) : Option (Int32) := if v0 < 48 then (some 0) else (if 57 < v0 then (some 0) else (some 1))
def C7_isSign_J12 (v0 : Int32) : Option (Int32) := if v0 < 65 then (C7_isSign_J24 v0) else (if v0 ≤ 90 then (some 1) else (C7_isSign_J24 v0))
def C7_isSign (v0 : Int32) : Option (Int32) := if v0 < 97 then (C7_isSign_J12 v0) else (if v0 ≤ 122 then (some 1) else (C7_isSign_J12 v0))
set_option maxRecDepth 100000 in
set_option maxHeartbeats 4000000 in
theorem t_C7_isSign_J24 {p : Program} {l : Launch} {e : Env} {s : State} {m : MethodId} {args : Array Value} {below : List Frame} {meth : Method} {c : Code} {Q : State → Prop} {A : Nat → Prop} {D : va_G} {cI cJ cB cL cS cW : ClassId} {a wb sw se : Nat → Nat} {LW LS LK : List Nat} {c_bytes c_heads c_firsts c_levelOf c_aboveOf c_partings c_signs c_count c_pages c_levels c_most c_page c_known c_guess c_diff c_pieces c_place : Nat → Int32} {c_bits : Nat → Nat → Int64} {c_words : Nat → Nat → Nat} {c_entries : Nat → Nat → Int32} {c_bads c_noes c_fulls c_length c_next c_kept c_base c_from c_to c_above c_bit c_lastLeft : Int32} {v0 : Int32} {r : Int32} (C : k_C p s m args meth c cX7_isSign 1 (some .boolean) RX7 wsX7_isSign D (kT cI cJ cB cL cS cW) A) (hD : va_D A (WC0 a wb sw se LW LS LK cI cJ cB cL cS cW)) (hG : kG a LW LS LK) (hret : ∀ (H : Heap) (locs : List Loc) (pc : Nat) (ls : Array Slot), decode cX7_isSign pc = .ok (.ireturn, 1) → (r = 0 ∨ r = 1) → va_P D vwCl (WC a wb sw se LW LS LK cI cJ cB cL cS cW c_bytes c_heads c_firsts c_levelOf c_aboveOf c_partings c_signs c_count c_pages c_levels c_most c_page c_known c_guess c_diff c_pieces c_place c_bits c_words c_entries c_bads c_noes c_fulls c_length c_next c_kept c_base c_from c_to c_above c_bit c_lastLeft) H → va_S A s.heap H locs → W p l e { frames := 0, cells := 0, slots := 0, locals := 0 } s m args below meth c H locs 0 0 Q (F0 m pc ls [.int r])) : ∀  (H : Heap) (locs : List Loc) (ls : Array Slot), va_P D vwCl (WC a wb sw se LW LS LK cI cJ cB cL cS cW c_bytes c_heads c_firsts c_levelOf c_aboveOf c_partings c_signs c_count c_pages c_levels c_most c_page c_known c_guess c_diff c_pieces c_place c_bits c_words c_entries c_bads c_noes c_fulls c_length c_next c_kept c_base c_from c_to c_above c_bit c_lastLeft) H → va_S A s.heap H locs → lv_has ls 1 [(0, .int v0)] → C7_isSign_J24 v0 = some r → W p l e { frames := 0, cells := 0, slots := 0, locals := 0 } s m args below meth c H locs 0 0 Q (F0 m 24 ls []) := by
  obtain ⟨hx, hb, hml, hr, hown, hts, hlocks, hK, hA, hN⟩ := id C
  intro  H locs ls hP hS hl hm
  rw [C7_isSign_J24] at hm
  refine lv_iload_n hx hb dX7_isSign_24 rfl (lv_at hl 0 rfl) ?_
  refine lv_bipush (v := 48) hx hb dX7_isSign_25 (by decide) ?_
  refine lv_icmp_lt (tgt := 40) hx hb dX7_isSign_27 (by decide) (fun hc => ?_) (fun hc => ?_)
  · have hm := if_t hc hm
    refine lv_iconst (v := 0) hx hb dX7_isSign_40 (by decide) ?_
    obtain rfl := Option.some.inj hm
    exact hret _ _ _ _ dX7_isSign_41 (by decide) hP hS
  · have hm := if_f hc hm
    refine lv_iload_n hx hb dX7_isSign_30 rfl (lv_at hl 0 rfl) ?_
    refine lv_bipush (v := 57) hx hb dX7_isSign_31 (by decide) ?_
    refine lv_icmp_gt (tgt := 40) hx hb dX7_isSign_33 (by decide) (fun hc => ?_) (fun hc => ?_)
    · have hm := if_t hc hm
      refine lv_iconst (v := 0) hx hb dX7_isSign_40 (by decide) ?_
      obtain rfl := Option.some.inj hm
      exact hret _ _ _ _ dX7_isSign_41 (by decide) hP hS
    · have hm := if_f hc hm
      refine lv_iconst (v := 1) hx hb dX7_isSign_36 (by decide) ?_
      refine lv_goto (tgt := 41) hx hb dX7_isSign_37 (by decide) ?_
      obtain rfl := Option.some.inj hm
      exact hret _ _ _ _ dX7_isSign_41 (by decide) hP hS
set_option maxRecDepth 100000 in
set_option maxHeartbeats 4000000 in
theorem t_C7_isSign_J12 {p : Program} {l : Launch} {e : Env} {s : State} {m : MethodId} {args : Array Value} {below : List Frame} {meth : Method} {c : Code} {Q : State → Prop} {A : Nat → Prop} {D : va_G} {cI cJ cB cL cS cW : ClassId} {a wb sw se : Nat → Nat} {LW LS LK : List Nat} {c_bytes c_heads c_firsts c_levelOf c_aboveOf c_partings c_signs c_count c_pages c_levels c_most c_page c_known c_guess c_diff c_pieces c_place : Nat → Int32} {c_bits : Nat → Nat → Int64} {c_words : Nat → Nat → Nat} {c_entries : Nat → Nat → Int32} {c_bads c_noes c_fulls c_length c_next c_kept c_base c_from c_to c_above c_bit c_lastLeft : Int32} {v0 : Int32} {r : Int32} (C : k_C p s m args meth c cX7_isSign 1 (some .boolean) RX7 wsX7_isSign D (kT cI cJ cB cL cS cW) A) (hD : va_D A (WC0 a wb sw se LW LS LK cI cJ cB cL cS cW)) (hG : kG a LW LS LK) (hret : ∀ (H : Heap) (locs : List Loc) (pc : Nat) (ls : Array Slot), decode cX7_isSign pc = .ok (.ireturn, 1) → (r = 0 ∨ r = 1) → va_P D vwCl (WC a wb sw se LW LS LK cI cJ cB cL cS cW c_bytes c_heads c_firsts c_levelOf c_aboveOf c_partings c_signs c_count c_pages c_levels c_most c_page c_known c_guess c_diff c_pieces c_place c_bits c_words c_entries c_bads c_noes c_fulls c_length c_next c_kept c_base c_from c_to c_above c_bit c_lastLeft) H → va_S A s.heap H locs → W p l e { frames := 0, cells := 0, slots := 0, locals := 0 } s m args below meth c H locs 0 0 Q (F0 m pc ls [.int r])) : ∀  (H : Heap) (locs : List Loc) (ls : Array Slot), va_P D vwCl (WC a wb sw se LW LS LK cI cJ cB cL cS cW c_bytes c_heads c_firsts c_levelOf c_aboveOf c_partings c_signs c_count c_pages c_levels c_most c_page c_known c_guess c_diff c_pieces c_place c_bits c_words c_entries c_bads c_noes c_fulls c_length c_next c_kept c_base c_from c_to c_above c_bit c_lastLeft) H → va_S A s.heap H locs → lv_has ls 1 [(0, .int v0)] → C7_isSign_J12 v0 = some r → W p l e { frames := 0, cells := 0, slots := 0, locals := 0 } s m args below meth c H locs 0 0 Q (F0 m 12 ls []) := by
  obtain ⟨hx, hb, hml, hr, hown, hts, hlocks, hK, hA, hN⟩ := id C
  intro  H locs ls hP hS hl hm
  rw [C7_isSign_J12] at hm
  refine lv_iload_n hx hb dX7_isSign_12 rfl (lv_at hl 0 rfl) ?_
  refine lv_bipush (v := 65) hx hb dX7_isSign_13 (by decide) ?_
  refine lv_icmp_lt (tgt := 24) hx hb dX7_isSign_15 (by decide) (fun hc => ?_) (fun hc => ?_)
  · have hm := if_t hc hm
    exact t_C7_isSign_J24 C hD hG hret  _ _ _ hP hS (lv_sub hl [0] rfl) hm
  · have hm := if_f hc hm
    refine lv_iload_n hx hb dX7_isSign_18 rfl (lv_at hl 0 rfl) ?_
    refine lv_bipush (v := 90) hx hb dX7_isSign_19 (by decide) ?_
    refine lv_icmp_le (tgt := 36) hx hb dX7_isSign_21 (by decide) (fun hc => ?_) (fun hc => ?_)
    · have hm := if_t hc hm
      refine lv_iconst (v := 1) hx hb dX7_isSign_36 (by decide) ?_
      refine lv_goto (tgt := 41) hx hb dX7_isSign_37 (by decide) ?_
      obtain rfl := Option.some.inj hm
      exact hret _ _ _ _ dX7_isSign_41 (by decide) hP hS
    · have hm := if_f hc hm
      exact t_C7_isSign_J24 C hD hG hret  _ _ _ hP hS (lv_sub hl [0] rfl) hm
set_option maxRecDepth 100000 in
set_option maxHeartbeats 4000000 in
theorem c_X7_isSign {l : Launch} {D : va_G} {cI cJ cB cL cS cW : ClassId} {a wb sw se : Nat → Nat} {LW LS LK : List Nat} {c_bytes c_heads c_firsts c_levelOf c_aboveOf c_partings c_signs c_count c_pages c_levels c_most c_page c_known c_guess c_diff c_pieces c_place : Nat → Int32} {c_bits : Nat → Nat → Int64} {c_words : Nat → Nat → Nat} {c_entries : Nat → Nat → Int32} {c_bads c_noes c_fulls c_length c_next c_kept c_base c_from c_to c_above c_bit c_lastLeft : Int32} {v0 : Int32} {r : Int32} (hG : kG a LW LS LK) (hm : C7_isSign v0 = some r) : k_MI l yX7_isSign wsX7_isSign { frames := 0, cells := 0, slots := 0, locals := 0 } D (kT cI cJ cB cL cS cW) [.int v0] (WC a wb sw se LW LS LK cI cJ cB cL cS cW c_bytes c_heads c_firsts c_levelOf c_aboveOf c_partings c_signs c_count c_pages c_levels c_most c_page c_known c_guess c_diff c_pieces c_place c_bits c_words c_entries c_bads c_noes c_fulls c_length c_next c_kept c_base c_from c_to c_above c_bit c_lastLeft) r (WC a wb sw se LW LS LK cI cJ cB cL cS cW c_bytes c_heads c_firsts c_levelOf c_aboveOf c_partings c_signs c_count c_pages c_levels c_most c_page c_known c_guess c_diff c_pieces c_place c_bits c_words c_entries c_bads c_noes c_fulls c_length c_next c_kept c_base c_from c_to c_above c_bit c_lastLeft) := by
  refine k_ofZ (cc := cX7_isSign) (maxL := 1) (own := RX7) (by decide) rfl rfl (Nat.le_of_ble_eq_true rfl) ?_
  intro p e s m args below meth c A Q ls C hP hD hl hret
  have hD : va_D A (WC0 a wb sw se LW LS LK cI cJ cB cL cS cW) := WCD hD
  have hS : va_S A s.heap s.heap [] := va_S.rf
  have hl : lv_has ls 1 [(0, .int v0)] := hl
  obtain ⟨hx, hb, hml, hr, hown, hts, hlocks, hK, hA, hN⟩ := id C
  rw [C7_isSign] at hm
  refine lv_iload_n hx hb dX7_isSign_0 rfl (lv_at hl 0 rfl) ?_
  refine lv_bipush (v := 97) hx hb dX7_isSign_1 (by decide) ?_
  refine lv_icmp_lt (tgt := 12) hx hb dX7_isSign_3 (by decide) (fun hc => ?_) (fun hc => ?_)
  · have hm := if_t hc hm
    exact t_C7_isSign_J12 C hD hG hret  _ _ _ hP hS (lv_sub hl [0] rfl) hm
  · have hm := if_f hc hm
    refine lv_iload_n hx hb dX7_isSign_6 rfl (lv_at hl 0 rfl) ?_
    refine lv_bipush (v := 122) hx hb dX7_isSign_7 (by decide) ?_
    refine lv_icmp_le (tgt := 36) hx hb dX7_isSign_9 (by decide) (fun hc => ?_) (fun hc => ?_)
    · have hm := if_t hc hm
      refine lv_iconst (v := 1) hx hb dX7_isSign_36 (by decide) ?_
      refine lv_goto (tgt := 41) hx hb dX7_isSign_37 (by decide) ?_
      obtain rfl := Option.some.inj hm
      exact hret _ _ _ _ dX7_isSign_41 (by decide) hP hS
    · have hm := if_f hc hm
      exact t_C7_isSign_J12 C hD hG hret  _ _ _ hP hS (lv_sub hl [0] rfl) hm
theorem hdX6_append : yX6_append.cls = RX6 ∧ yX6_append.cls ≠ "java/lang/invoke/MethodHandle" ∧ yX6_append.cls ≠ "java/lang/invoke/VarHandle" ∧ (parseMethodDescriptor yX6_append.desc).map (fun d => d.parameters.length) = some 1 := by decide +kernel
theorem hiX6_append_X6 : ∀ w ∈ u_ws RX6 TX6 2, w ∈ wsX6_append := by decide +kernel
theorem flX6_append_15 : Cond.fieldLink RX6 15 "BlindPages$Word" "signs" "I" ∈ wsX6_append := by decide +kernel
theorem flX6_append_9 : Cond.fieldLink RX6 9 "BlindPages$Word" "bits" "[J" ∈ wsX6_append := by decide +kernel
def C6_append (c_signs : Nat → Int32) (c_bits : Nat → Nat → Int64) (v0 : Nat) (v1 : Int32) : Option ((Nat → Int32) × (Nat → Nat → Int64)) := if 24 ≤ (c_signs v0) then (some (c_signs, c_bits)) else (if ((c_signs v0) >>> ((3 : Int32) &&& 31)) < 0 then (some (c_signs, c_bits)) else (if 3 ≤ ((c_signs v0) >>> ((3 : Int32) &&& 31)) then (some (c_signs, c_bits)) else (ga ((c_signs v0) >>> ((3 : Int32) &&& 31)) 3 (ga ((c_signs v0) >>> ((3 : Int32) &&& 31)) 3 (some ((va_up c_signs v0 ((c_signs v0) + 1)), (va_up c_bits v0 (vp_updL (c_bits v0) ((c_signs v0) >>> ((3 : Int32) &&& 31)).toNatClampNeg ((c_bits v0 ((c_signs v0) >>> ((3 : Int32) &&& 31)).toNatClampNeg) ||| (v1.toInt64 <<< ((56 - (8 * ((c_signs v0) &&& 7))).toInt64 &&& 63)))))))))))
set_option maxRecDepth 100000 in
set_option maxHeartbeats 4000000 in
theorem c_X6_append {l : Launch} {D : va_G} {cI cJ cB cL cS cW : ClassId} {a wb sw se : Nat → Nat} {LW LS LK : List Nat} {c_bytes c_heads c_firsts c_levelOf c_aboveOf c_partings c_signs c_count c_pages c_levels c_most c_page c_known c_guess c_diff c_pieces c_place : Nat → Int32} {c_bits : Nat → Nat → Int64} {c_words : Nat → Nat → Nat} {c_entries : Nat → Nat → Int32} {c_bads c_noes c_fulls c_length c_next c_kept c_base c_from c_to c_above c_bit c_lastLeft : Int32} {v0 : Nat} {v1 : Int32} {o_signs : Nat → Int32} {o_bits : Nat → Nat → Int64} (hG : kG a LW LS LK) (hv0 : v0 ∈ LW) (hm : C6_append c_signs c_bits v0 v1 = some (o_signs, o_bits)) : k_MV l yX6_append wsX6_append { frames := 0, cells := 0, slots := 0, locals := 0 } D (kT cI cJ cB cL cS cW) [.ref v0, .int v1] (WC a wb sw se LW LS LK cI cJ cB cL cS cW c_bytes c_heads c_firsts c_levelOf c_aboveOf c_partings c_signs c_count c_pages c_levels c_most c_page c_known c_guess c_diff c_pieces c_place c_bits c_words c_entries c_bads c_noes c_fulls c_length c_next c_kept c_base c_from c_to c_above c_bit c_lastLeft) (WC a wb sw se LW LS LK cI cJ cB cL cS cW c_bytes c_heads c_firsts c_levelOf c_aboveOf c_partings o_signs c_count c_pages c_levels c_most c_page c_known c_guess c_diff c_pieces c_place o_bits c_words c_entries c_bads c_noes c_fulls c_length c_next c_kept c_base c_from c_to c_above c_bit c_lastLeft) := by
  refine k_ofV (cc := cX6_append) (maxL := 3) (own := RX6) (by decide) rfl rfl (Nat.le_of_ble_eq_true rfl) ?_
  intro p e s m args below meth c A Q ls C hP hD hl hret
  have hD : va_D A (WC0 a wb sw se LW LS LK cI cJ cB cL cS cW) := WCD hD
  have hS : va_S A s.heap s.heap [] := va_S.rf
  have hl : lv_has ls 3 [(0, .ref v0), (1, .int v1)] := hl
  obtain ⟨hx, hb, hml, hr, hown, hts, hlocks, hK, hA, hN⟩ := id C
  rw [C6_append] at hm
  refine lv_aload_n hx hb dX6_append_0 rfl (lv_at hl 0 rfl) ?_
  obtain ⟨q, hq, -⟩ := WC_W hG hv0
  refine kg (v := .int (c_signs v0)) hx hb hts hiX6_append_X6 hown hK hP q hq rfl 1 (by decide) flX6_append_15 rfl rfl dX6_append_1 ?_
  refine lv_iconst (v := 3) hx hb dX6_append_4 (by decide) ?_
  refine lv_ishr hx hb dX6_append_5 ?_
  refine lv_istore_n (lv' := [(2, .int ((c_signs v0) >>> ((3 : Int32) &&& 31))), (0, .ref v0), (1, .int v1)]) hx hb dX6_append_6 rfl hl (by decide) rfl (fun ls hl => ?_)
  refine lv_aload_n hx hb dX6_append_7 rfl (lv_at hl 1 rfl) ?_
  obtain ⟨q, hq, -⟩ := WC_W hG hv0
  refine kg (v := .int (c_signs v0)) hx hb hts hiX6_append_X6 hown hK hP q hq rfl 1 (by decide) flX6_append_15 rfl rfl dX6_append_8 ?_
  refine lv_bipush (v := 24) hx hb dX6_append_11 (by decide) ?_
  refine lv_icmp_ge (tgt := 64) hx hb dX6_append_13 (by decide) (fun hc => ?_) (fun hc => ?_)
  · have hm := if_t hc hm
    simp only [Option.some.injEq, Prod.mk.injEq] at hm
    obtain ⟨rfl, rfl⟩ := hm
    exact hret _ _ _ _ dX6_append_64 hP hS
  · have hm := if_f hc hm
    refine lv_iload_n hx hb dX6_append_16 rfl (lv_at hl 0 rfl) ?_
    refine lv_if_lt (tgt := 64) hx hb dX6_append_17 (by decide) (fun hc => ?_) (fun hc => ?_)
    · have hm := if_t hc hm
      simp only [Option.some.injEq, Prod.mk.injEq] at hm
      obtain ⟨rfl, rfl⟩ := hm
      exact hret _ _ _ _ dX6_append_64 hP hS
    · have hm := if_f hc hm
      refine lv_iload_n hx hb dX6_append_20 rfl (lv_at hl 0 rfl) ?_
      refine lv_aload_n hx hb dX6_append_21 rfl (lv_at hl 1 rfl) ?_
      obtain ⟨q, hq, -⟩ := WC_W hG hv0
      refine kg (v := .ref (wb v0)) hx hb hts hiX6_append_X6 hown hK hP q hq rfl 0 (by decide) flX6_append_9 rfl rfl dX6_append_22 ?_
      obtain ⟨q, hq, -⟩ := WC_bits hG hv0
      refine va_alen (v := 3) hx hb hK hP q 1 hq rfl rfl dX6_append_25 ?_
      refine lv_icmp_ge (tgt := 64) hx hb dX6_append_26 (by decide) (fun hc => ?_) (fun hc => ?_)
      · have hm := if_t hc hm
        simp only [Option.some.injEq, Prod.mk.injEq] at hm
        obtain ⟨rfl, rfl⟩ := hm
        exact hret _ _ _ _ dX6_append_64 hP hS
      · have hm := if_f hc hm
        refine lv_aload_n hx hb dX6_append_29 rfl (lv_at hl 1 rfl) ?_
        obtain ⟨q, hq, -⟩ := WC_W hG hv0
        refine kg (v := .ref (wb v0)) hx hb hts hiX6_append_X6 hown hK hP q hq rfl 0 (by decide) flX6_append_9 rfl rfl dX6_append_30 ?_
        refine lv_iload_n hx hb dX6_append_33 rfl (lv_at hl 0 rfl) ?_
        refine lv_dup2_11 hx hb dX6_append_34 rfl rfl ?_
        obtain ⟨hi, hm⟩ := ga_some hm
        obtain ⟨q, hq, -⟩ := WC_bits hG hv0
        refine k_lald hx hb hK hP q 1 hq rfl rfl hi dX6_append_35 ?_
        refine lv_iload_n hx hb dX6_append_36 rfl (lv_at hl 2 rfl) ?_
        refine lv_i2l hx hb dX6_append_37 rfl ?_
        refine lv_bipush (v := 56) hx hb dX6_append_38 (by decide) ?_
        refine lv_bipush (v := 8) hx hb dX6_append_40 (by decide) ?_
        refine lv_aload_n hx hb dX6_append_42 rfl (lv_at hl 1 rfl) ?_
        obtain ⟨q, hq, -⟩ := WC_W hG hv0
        refine kg (v := .int (c_signs v0)) hx hb hts hiX6_append_X6 hown hK hP q hq rfl 1 (by decide) flX6_append_15 rfl rfl dX6_append_43 ?_
        refine lv_bipush (v := 7) hx hb dX6_append_46 (by decide) ?_
        refine lv_iand hx hb dX6_append_48 ?_
        refine lv_imul hx hb dX6_append_49 ?_
        refine lv_isub hx hb dX6_append_50 ?_
        refine lv_lshl hx hb dX6_append_51 rfl ?_
        refine lv_lor hx hb dX6_append_52 ?_
        obtain ⟨hi, hm⟩ := ga_some hm
        obtain ⟨q, hq, he⟩ := WC_bits hG hv0
        refine k_last hx hb hK hP (WCD hD) hS q 1 hq rfl rfl hi dX6_append_53 (fun H locs hP hS => ?_)
        have hP : va_P D vwCl (WC a wb sw se LW LS LK cI cJ cB cL cS cW c_bytes c_heads c_firsts c_levelOf c_aboveOf c_partings c_signs c_count c_pages c_levels c_most c_page c_known c_guess c_diff c_pieces c_place (va_up c_bits v0 (vp_updL (c_bits v0) ((c_signs v0) >>> ((3 : Int32) &&& 31)).toNatClampNeg ((c_bits v0 ((c_signs v0) >>> ((3 : Int32) &&& 31)).toNatClampNeg) ||| (v1.toInt64 <<< ((56 - (8 * ((c_signs v0) &&& 7))).toInt64 &&& 63))))) c_words c_entries c_bads c_noes c_fulls c_length c_next c_kept c_base c_from c_to c_above c_bit c_lastLeft) H := by rw [← he]; exact hP
        refine lv_aload_n hx hb dX6_append_54 rfl (lv_at hl 1 rfl) ?_
        refine lv_dup hx hb dX6_append_55 rfl ?_
        obtain ⟨q, hq, -⟩ := WC_W hG hv0
        refine kg (v := .int (c_signs v0)) hx hb hts hiX6_append_X6 hown hK hP q hq rfl 1 (by decide) flX6_append_15 rfl rfl dX6_append_56 ?_
        refine lv_iconst (v := 1) hx hb dX6_append_59 (by decide) ?_
        refine lv_iadd hx hb dX6_append_60 ?_
        obtain ⟨q, hq, he⟩ := WC_W hG hv0
        refine kp hx hb hts hiX6_append_X6 tyX6 tyX6_ok nmX6 hown hK hP (WCD hD) hS q hq rfl 1 (by decide) flX6_append_15 rfl rfl rfl (Nat.le_of_ble_eq_true rfl) dX6_append_61 (fun H locs hP hS => ?_)
        have hP : va_P D vwCl (WC a wb sw se LW LS LK cI cJ cB cL cS cW c_bytes c_heads c_firsts c_levelOf c_aboveOf c_partings (va_up c_signs v0 ((c_signs v0) + 1)) c_count c_pages c_levels c_most c_page c_known c_guess c_diff c_pieces c_place (va_up c_bits v0 (vp_updL (c_bits v0) ((c_signs v0) >>> ((3 : Int32) &&& 31)).toNatClampNeg ((c_bits v0 ((c_signs v0) >>> ((3 : Int32) &&& 31)).toNatClampNeg) ||| (v1.toInt64 <<< ((56 - (8 * ((c_signs v0) &&& 7))).toInt64 &&& 63))))) c_words c_entries c_bads c_noes c_fulls c_length c_next c_kept c_base c_from c_to c_above c_bit c_lastLeft) H := by rw [← he]; exact hP
        simp only [Option.some.injEq, Prod.mk.injEq] at hm
        obtain ⟨rfl, rfl⟩ := hm
        exact hret _ _ _ _ dX6_append_64 hP hS
theorem hdX4_readSigns : yX4_readSigns.cls = RX4 ∧ yX4_readSigns.cls ≠ "java/lang/invoke/MethodHandle" ∧ yX4_readSigns.cls ≠ "java/lang/invoke/VarHandle" ∧ (parseMethodDescriptor yX4_readSigns.desc).map (fun d => d.parameters.length) = some 2 := by decide +kernel
def C4_readSigns_L9 (c_bytes : Nat → Int32) (c_length : Int32) (v1 : Int32) (v2 : Nat) (k45 : (Nat → Int32) → (Nat → Nat → Int64) → Int32 → Option (Int32 × (Nat → Int32) × (Nat → Nat → Int64))) : Nat → (Nat → Int32) → (Nat → Nat → Int64) → Int32 → Int32 → Option (Int32 × (Nat → Int32) × (Nat → Nat → Int64))
  | 0, _, _, _, _ => none
  | n + 1, c_signs, c_bits, v3, v4 => if 24 ≤ v4 then (k45 c_signs c_bits v3) else (bd1 (C4_byteAt c_bytes c_length v3) fun r18 => bd1 (C7_isSign r18) fun r21 => if r21 = 0 then (k45 c_signs c_bits v3) else (bd1 (C4_byteAt c_bytes c_length v3) fun r30 => bd2 (C6_append c_signs c_bits v2 r30) fun c_signs_33 c_bits_33 => C4_readSigns_L9 c_bytes c_length v1 v2 k45 n c_signs_33 c_bits_33 (v3 + 1) (v4 + 1)))
def C4_readSigns (c_bytes : Nat → Int32) (c_length : Int32) (c_signs : Nat → Int32) (c_bits : Nat → Nat → Int64) (v1 : Int32) (v2 : Nat) : Option (Int32 × (Nat → Int32) × (Nat → Nat → Int64)) := bd2 (C6_empty c_signs c_bits v2) fun c_signs_1 c_bits_1 => C4_readSigns_L9 c_bytes c_length v1 v2 (fun c_signs c_bits v3 => some (v3, c_signs, c_bits)) FU c_signs_1 c_bits_1 v1 0
set_option maxRecDepth 100000 in
set_option maxHeartbeats 4000000 in
theorem t_C4_readSigns_L9 {p : Program} {l : Launch} {e : Env} {s : State} {m : MethodId} {args : Array Value} {below : List Frame} {meth : Method} {c : Code} {Q : State → Prop} {A : Nat → Prop} {D : va_G} {cI cJ cB cL cS cW : ClassId} {a wb sw se : Nat → Nat} {LW LS LK : List Nat} {c_bytes c_heads c_firsts c_levelOf c_aboveOf c_partings c_count c_pages c_levels c_most c_page c_known c_guess c_diff c_pieces c_place : Nat → Int32} {c_words : Nat → Nat → Nat} {c_entries : Nat → Nat → Int32} {c_bads c_noes c_fulls c_length c_next c_kept c_base c_from c_to c_above c_bit c_lastLeft : Int32} {v1 : Int32} {v2 : Nat} {r : Int32} {o_signs : Nat → Int32} {o_bits : Nat → Nat → Int64} (C : k_C p s m args meth c cX4_readSigns 5 (some .int) RX4 wsX4_readSigns D (kT cI cJ cB cL cS cW) A) (hD : va_D A (WC0 a wb sw se LW LS LK cI cJ cB cL cS cW)) (hG : kG a LW LS LK) (hv2 : v2 ∈ LW) (hret : ∀ (H : Heap) (locs : List Loc) (pc : Nat) (ls : Array Slot), decode cX4_readSigns pc = .ok (.ireturn, 1) → va_P D vwCl (WC a wb sw se LW LS LK cI cJ cB cL cS cW c_bytes c_heads c_firsts c_levelOf c_aboveOf c_partings o_signs c_count c_pages c_levels c_most c_page c_known c_guess c_diff c_pieces c_place o_bits c_words c_entries c_bads c_noes c_fulls c_length c_next c_kept c_base c_from c_to c_above c_bit c_lastLeft) H → va_S A s.heap H locs → W p l e { frames := 1, cells := 0, slots := 0, locals := 22 } s m args below meth c H locs 0 0 Q (F0 m pc ls [.int r])) {k45 : (Nat → Int32) → (Nat → Nat → Int64) → Int32 → Option (Int32 × (Nat → Int32) × (Nat → Nat → Int64))} (hk45 : ∀ (c_signs : (Nat → Int32)) (c_bits : (Nat → Nat → Int64)) (v3 : Int32) (H : Heap) (locs : List Loc) (ls : Array Slot), va_P D vwCl (WC a wb sw se LW LS LK cI cJ cB cL cS cW c_bytes c_heads c_firsts c_levelOf c_aboveOf c_partings c_signs c_count c_pages c_levels c_most c_page c_known c_guess c_diff c_pieces c_place c_bits c_words c_entries c_bads c_noes c_fulls c_length c_next c_kept c_base c_from c_to c_above c_bit c_lastLeft) H → va_S A s.heap H locs → lv_has ls 5 [(3, .int v3)] → k45 c_signs c_bits v3 = some (r, o_signs, o_bits) → W p l e { frames := 1, cells := 0, slots := 0, locals := 22 } s m args below meth c H locs 0 0 Q (F0 m 45 ls [])) : ∀ n : Nat, ∀ (c_signs : (Nat → Int32)) (c_bits : (Nat → Nat → Int64)) (v3 : Int32) (v4 : Int32) (H : Heap) (locs : List Loc) (ls : Array Slot), va_P D vwCl (WC a wb sw se LW LS LK cI cJ cB cL cS cW c_bytes c_heads c_firsts c_levelOf c_aboveOf c_partings c_signs c_count c_pages c_levels c_most c_page c_known c_guess c_diff c_pieces c_place c_bits c_words c_entries c_bads c_noes c_fulls c_length c_next c_kept c_base c_from c_to c_above c_bit c_lastLeft) H → va_S A s.heap H locs → lv_has ls 5 [(0, .ref (a 1)), (2, .ref v2), (3, .int v3), (4, .int v4)] → (C4_readSigns_L9 c_bytes c_length v1 v2 k45 n) c_signs c_bits v3 v4 = some (r, o_signs, o_bits) → W p l e { frames := 1, cells := 0, slots := 0, locals := 22 } s m args below meth c H locs 0 0 Q (F0 m 9 ls []) := by
  obtain ⟨hx, hb, hml, hr, hown, hts, hlocks, hK, hA, hN⟩ := id C
  intro n
  induction n with
  | zero =>
    intro c_signs c_bits v3 v4 H locs ls hP hS hl hm
    cases hm
  | succ n ih =>
    intro c_signs c_bits v3 v4 H locs ls hP hS hl hm
    rw [C4_readSigns_L9] at hm
    refine lv_iload hx hb dX4_readSigns_9 (lv_at hl 3 rfl) ?_
    refine lv_bipush (v := 24) hx hb dX4_readSigns_11 (by decide) ?_
    refine lv_icmp_ge (tgt := 45) hx hb dX4_readSigns_13 (by decide) (fun hc => ?_) (fun hc => ?_)
    · have hm := if_t hc hm
      exact hk45 _ _ _ _ _ _ hP hS (lv_sub hl [2] rfl) hm
    · have hm := if_f hc hm
      refine lv_aload_n hx hb dX4_readSigns_16 rfl (lv_at hl 0 rfl) ?_
      refine lv_iload_n hx hb dX4_readSigns_17 rfl (lv_at hl 2 rfl) ?_
      obtain ⟨r18, hq0, hm⟩ := bd1_some hm
      refine k_callVI (As := [.int v3]) (rest := []) ⟨hx, hb, hml, hown, hts⟩ hK hA hN (c_X4_byteAt hG hq0) (cwV 1 hts gX4_readSigns_X4_byteAt rfl rfl rfl hdX4_byteAt ⟨Nat.le_of_ble_eq_true rfl, Nat.le_of_ble_eq_true rfl⟩) hP (WCD hD) hS 1 4 rfl rfl rfl hl.1 rfl rfl (Nat.le_of_ble_eq_true rfl) ⟨Nat.zero_le _, Nat.zero_le _⟩ dX4_readSigns_18 (fun H locs hP hS => ?_)
      obtain ⟨r21, hq0, hm⟩ := bd1_some hm
      refine k_callNI (As := [.int r18]) (rest := []) ⟨hx, hb, hml, hown, hts⟩ hK hA hN (c_X7_isSign hG hq0) (⟨va_cnB (host := RX7) 1 hts ggX4_readSigns_X7_isSign rfl rfl rfl hN (hts (.initialized RX7) (by decide +kernel)) hdX7_isSign ⟨Nat.le_of_ble_eq_true rfl, Nat.le_of_ble_eq_true rfl⟩, hts (.static yX7_isSign) (by decide +kernel), trivial⟩) hP (WCD hD) hS hl.1 rfl rfl (Nat.le_of_ble_eq_true rfl) ⟨Nat.zero_le _, Nat.zero_le _⟩ dX4_readSigns_21 (fun H locs hP hS => ?_)
      refine lv_if_eq (tgt := 45) hx hb dX4_readSigns_24 (by decide) (fun hc => ?_) (fun hc => ?_)
      · have hm := if_t hc hm
        exact hk45 _ _ _ _ _ _ hP hS (lv_sub hl [2] rfl) hm
      · have hm := if_f hc hm
        refine lv_aload_n hx hb dX4_readSigns_27 rfl (lv_at hl 1 rfl) ?_
        refine lv_aload_n hx hb dX4_readSigns_28 rfl (lv_at hl 0 rfl) ?_
        refine lv_iload_n hx hb dX4_readSigns_29 rfl (lv_at hl 2 rfl) ?_
        obtain ⟨r30, hq0, hm⟩ := bd1_some hm
        refine k_callVI (As := [.int v3]) (rest := [.ref v2]) ⟨hx, hb, hml, hown, hts⟩ hK hA hN (c_X4_byteAt hG hq0) (cwV 1 hts gX4_readSigns_X4_byteAt rfl rfl rfl hdX4_byteAt ⟨Nat.le_of_ble_eq_true rfl, Nat.le_of_ble_eq_true rfl⟩) hP (WCD hD) hS 1 4 rfl rfl rfl hl.1 rfl rfl (Nat.le_of_ble_eq_true rfl) ⟨Nat.zero_le _, Nat.zero_le _⟩ dX4_readSigns_30 (fun H locs hP hS => ?_)
        obtain ⟨c_signs_33, c_bits_33, hq0, hm⟩ := bd2_some hm
        obtain ⟨q, hq, -⟩ := WC_W hG hv2
        refine k_callVV (As := [.int r30]) (rest := []) ⟨hx, hb, hml, hown, hts⟩ hK hA hN (c_X6_append hG hv2 hq0) (cwV 1 hts gX4_readSigns_X6_append rfl rfl rfl hdX6_append ⟨Nat.le_of_ble_eq_true rfl, Nat.le_of_ble_eq_true rfl⟩) hP (WCD hD) hS q 6 hq rfl rfl hl.1 rfl rfl (Nat.le_of_ble_eq_true rfl) ⟨Nat.zero_le _, Nat.zero_le _⟩ dX4_readSigns_33 (fun H locs hP hS => ?_)
        refine lv_iinc (v := (v3 + 1)) (lv' := [(3, .int (v3 + 1)), (0, .ref (a 1)), (2, .ref v2), (4, .int v4)]) hx hb dX4_readSigns_36 hl (k := 2) rfl rfl (by decide) rfl (fun ls hl => ?_)
        refine lv_iinc (v := (v4 + 1)) (lv' := [(4, .int (v4 + 1)), (3, .int (v3 + 1)), (0, .ref (a 1)), (2, .ref v2)]) hx hb dX4_readSigns_39 hl (k := 3) rfl rfl (by decide) rfl (fun ls hl => ?_)
        refine lv_goto (tgt := 9) hx hb dX4_readSigns_42 (by decide) ?_
        exact ih _ _ _ _ _ _ _ hP hS (lv_sub hl [2, 3, 1, 0] rfl) hm
set_option maxRecDepth 100000 in
set_option maxHeartbeats 4000000 in
theorem c_X4_readSigns {l : Launch} {D : va_G} {cI cJ cB cL cS cW : ClassId} {a wb sw se : Nat → Nat} {LW LS LK : List Nat} {c_bytes c_heads c_firsts c_levelOf c_aboveOf c_partings c_signs c_count c_pages c_levels c_most c_page c_known c_guess c_diff c_pieces c_place : Nat → Int32} {c_bits : Nat → Nat → Int64} {c_words : Nat → Nat → Nat} {c_entries : Nat → Nat → Int32} {c_bads c_noes c_fulls c_length c_next c_kept c_base c_from c_to c_above c_bit c_lastLeft : Int32} {v1 : Int32} {v2 : Nat} {r : Int32} {o_signs : Nat → Int32} {o_bits : Nat → Nat → Int64} (hG : kG a LW LS LK) (hv2 : v2 ∈ LW) (hm : C4_readSigns c_bytes c_length c_signs c_bits v1 v2 = some (r, o_signs, o_bits)) : k_MI l yX4_readSigns wsX4_readSigns { frames := 1, cells := 0, slots := 0, locals := 22 } D (kT cI cJ cB cL cS cW) [.ref (a 1), .int v1, .ref v2] (WC a wb sw se LW LS LK cI cJ cB cL cS cW c_bytes c_heads c_firsts c_levelOf c_aboveOf c_partings c_signs c_count c_pages c_levels c_most c_page c_known c_guess c_diff c_pieces c_place c_bits c_words c_entries c_bads c_noes c_fulls c_length c_next c_kept c_base c_from c_to c_above c_bit c_lastLeft) r (WC a wb sw se LW LS LK cI cJ cB cL cS cW c_bytes c_heads c_firsts c_levelOf c_aboveOf c_partings o_signs c_count c_pages c_levels c_most c_page c_known c_guess c_diff c_pieces c_place o_bits c_words c_entries c_bads c_noes c_fulls c_length c_next c_kept c_base c_from c_to c_above c_bit c_lastLeft) := by
  refine k_ofI (cc := cX4_readSigns) (maxL := 5) (own := RX4) (by decide) rfl rfl (Nat.le_of_ble_eq_true rfl) ?_
  intro p e s m args below meth c A Q ls C hP hD hl hret
  have hD : va_D A (WC0 a wb sw se LW LS LK cI cJ cB cL cS cW) := WCD hD
  have hS : va_S A s.heap s.heap [] := va_S.rf
  have hl : lv_has ls 5 [(0, .ref (a 1)), (1, .int v1), (2, .ref v2)] := hl
  obtain ⟨hx, hb, hml, hr, hown, hts, hlocks, hK, hA, hN⟩ := id C
  rw [C4_readSigns] at hm
  refine lv_aload_n hx hb dX4_readSigns_0 rfl (lv_at hl 2 rfl) ?_
  obtain ⟨c_signs_1, c_bits_1, hq0, hm⟩ := bd2_some hm
  obtain ⟨q, hq, -⟩ := WC_W hG hv2
  refine k_callVV (As := []) (rest := []) ⟨hx, hb, hml, hown, hts⟩ hK hA hN (c_X6_empty hG hv2 hq0) (cwV 0 hts gX4_readSigns_X6_empty rfl rfl rfl hdX6_empty ⟨Nat.le_of_ble_eq_true rfl, Nat.le_of_ble_eq_true rfl⟩) hP (WCD hD) hS q 6 hq rfl rfl hl.1 rfl rfl (Nat.le_of_ble_eq_true rfl) ⟨Nat.zero_le _, Nat.zero_le _⟩ dX4_readSigns_1 (fun H locs hP hS => ?_)
  refine lv_iload_n hx hb dX4_readSigns_4 rfl (lv_at hl 1 rfl) ?_
  refine lv_istore_n (lv' := [(3, .int v1), (0, .ref (a 1)), (1, .int v1), (2, .ref v2)]) hx hb dX4_readSigns_5 rfl hl (by decide) rfl (fun ls hl => ?_)
  refine lv_iconst (v := 0) hx hb dX4_readSigns_6 (by decide) ?_
  refine lv_istore (lv' := [(4, .int 0), (3, .int v1), (0, .ref (a 1)), (1, .int v1), (2, .ref v2)]) hx hb dX4_readSigns_7 hl (by decide) rfl (fun ls hl => ?_)
  refine t_C4_readSigns_L9 C hD hG hv2 hret ?_ FU _ _ _ _ _ _ _ hP hS (lv_sub hl [2, 4, 1, 0] rfl) hm
  · intro c_signs c_bits v3 H locs ls hP hS hl hm
    try dsimp only at hm
    refine lv_iload_n hx hb dX4_readSigns_45 rfl (lv_at hl 0 rfl) ?_
    simp only [Option.some.injEq, Prod.mk.injEq] at hm
    obtain ⟨rfl, rfl, rfl⟩ := hm
    exact hret _ _ _ _ dX4_readSigns_46 hP hS
theorem hdX4_readWord : yX4_readWord.cls = RX4 ∧ yX4_readWord.cls ≠ "java/lang/invoke/MethodHandle" ∧ yX4_readWord.cls ≠ "java/lang/invoke/VarHandle" ∧ (parseMethodDescriptor yX4_readWord.desc).map (fun d => d.parameters.length) = some 1 := by decide +kernel
theorem hiX4_readWord_X4 : ∀ w ∈ u_ws RX4 TX4 2, w ∈ wsX4_readWord := by decide +kernel
theorem flX4_readWord_15 : Cond.fieldLink RX4 15 "BlindPages$Text" "length" "I" ∈ wsX4_readWord := by decide +kernel
def C4_readWord (c_bytes : Nat → Int32) (c_length : Int32) (c_signs : Nat → Int32) (c_bits : Nat → Nat → Int64) (v1 : Nat) : Option (Int32 × (Nat → Int32) × (Nat → Nat → Int64)) := bd3 (C4_readSigns c_bytes c_length c_signs c_bits 0 v1) fun r3 c_signs_3 c_bits_3 => if r3 = c_length then (if c_length ≤ 0 then (some (0, c_signs_3, c_bits_3)) else (some (1, c_signs_3, c_bits_3))) else (some (0, c_signs_3, c_bits_3))
set_option maxRecDepth 100000 in
set_option maxHeartbeats 4000000 in
theorem c_X4_readWord {l : Launch} {D : va_G} {cI cJ cB cL cS cW : ClassId} {a wb sw se : Nat → Nat} {LW LS LK : List Nat} {c_bytes c_heads c_firsts c_levelOf c_aboveOf c_partings c_signs c_count c_pages c_levels c_most c_page c_known c_guess c_diff c_pieces c_place : Nat → Int32} {c_bits : Nat → Nat → Int64} {c_words : Nat → Nat → Nat} {c_entries : Nat → Nat → Int32} {c_bads c_noes c_fulls c_length c_next c_kept c_base c_from c_to c_above c_bit c_lastLeft : Int32} {v1 : Nat} {r : Int32} {o_signs : Nat → Int32} {o_bits : Nat → Nat → Int64} (hG : kG a LW LS LK) (hv1 : v1 ∈ LW) (hm : C4_readWord c_bytes c_length c_signs c_bits v1 = some (r, o_signs, o_bits)) : k_MI l yX4_readWord wsX4_readWord { frames := 2, cells := 0, slots := 0, locals := 46 } D (kT cI cJ cB cL cS cW) [.ref (a 1), .ref v1] (WC a wb sw se LW LS LK cI cJ cB cL cS cW c_bytes c_heads c_firsts c_levelOf c_aboveOf c_partings c_signs c_count c_pages c_levels c_most c_page c_known c_guess c_diff c_pieces c_place c_bits c_words c_entries c_bads c_noes c_fulls c_length c_next c_kept c_base c_from c_to c_above c_bit c_lastLeft) r (WC a wb sw se LW LS LK cI cJ cB cL cS cW c_bytes c_heads c_firsts c_levelOf c_aboveOf c_partings o_signs c_count c_pages c_levels c_most c_page c_known c_guess c_diff c_pieces c_place o_bits c_words c_entries c_bads c_noes c_fulls c_length c_next c_kept c_base c_from c_to c_above c_bit c_lastLeft) := by
  refine k_ofZ (cc := cX4_readWord) (maxL := 2) (own := RX4) (by decide) rfl rfl (Nat.le_of_ble_eq_true rfl) ?_
  intro p e s m args below meth c A Q ls C hP hD hl hret
  have hD : va_D A (WC0 a wb sw se LW LS LK cI cJ cB cL cS cW) := WCD hD
  have hS : va_S A s.heap s.heap [] := va_S.rf
  have hl : lv_has ls 2 [(0, .ref (a 1)), (1, .ref v1)] := hl
  obtain ⟨hx, hb, hml, hr, hown, hts, hlocks, hK, hA, hN⟩ := id C
  rw [C4_readWord] at hm
  refine lv_aload_n hx hb dX4_readWord_0 rfl (lv_at hl 0 rfl) ?_
  refine lv_iconst (v := 0) hx hb dX4_readWord_1 (by decide) ?_
  refine lv_aload_n hx hb dX4_readWord_2 rfl (lv_at hl 1 rfl) ?_
  obtain ⟨r3, c_signs_3, c_bits_3, hq0, hm⟩ := bd3_some hm
  refine k_callVI (As := [.int 0, .ref v1]) (rest := []) ⟨hx, hb, hml, hown, hts⟩ hK hA hN (c_X4_readSigns hG hv1 hq0) (cwV 2 hts gX4_readWord_X4_readSigns rfl rfl rfl hdX4_readSigns ⟨Nat.le_of_ble_eq_true rfl, Nat.le_of_ble_eq_true rfl⟩) hP (WCD hD) hS 1 4 rfl rfl rfl hl.1 rfl rfl (Nat.le_of_ble_eq_true rfl) ⟨Nat.zero_le _, Nat.zero_le _⟩ dX4_readWord_3 (fun H locs hP hS => ?_)
  refine lv_aload_n hx hb dX4_readWord_6 rfl (lv_at hl 0 rfl) ?_
  refine kg (v := .int c_length) hx hb hts hiX4_readWord_X4 hown hK hP 1 rfl rfl 1 (by decide) flX4_readWord_15 rfl rfl dX4_readWord_7 ?_
  refine lv_icmp_ne (tgt := 24) hx hb dX4_readWord_10 (by decide) (fun hc => ?_) (fun hc => ?_)
  · have hm := if_f hc hm
    refine lv_iconst (v := 0) hx hb dX4_readWord_24 (by decide) ?_
    simp only [Option.some.injEq, Prod.mk.injEq] at hm
    obtain ⟨rfl, rfl, rfl⟩ := hm
    exact hret _ _ _ _ dX4_readWord_25 (by decide) hP hS
  · have hm := if_t hc hm
    refine lv_aload_n hx hb dX4_readWord_13 rfl (lv_at hl 0 rfl) ?_
    refine kg (v := .int c_length) hx hb hts hiX4_readWord_X4 hown hK hP 1 rfl rfl 1 (by decide) flX4_readWord_15 rfl rfl dX4_readWord_14 ?_
    refine lv_if_le (tgt := 24) hx hb dX4_readWord_17 (by decide) (fun hc => ?_) (fun hc => ?_)
    · have hm := if_t hc hm
      refine lv_iconst (v := 0) hx hb dX4_readWord_24 (by decide) ?_
      simp only [Option.some.injEq, Prod.mk.injEq] at hm
      obtain ⟨rfl, rfl, rfl⟩ := hm
      exact hret _ _ _ _ dX4_readWord_25 (by decide) hP hS
    · have hm := if_f hc hm
      refine lv_iconst (v := 1) hx hb dX4_readWord_20 (by decide) ?_
      refine lv_goto (tgt := 25) hx hb dX4_readWord_21 (by decide) ?_
      simp only [Option.some.injEq, Prod.mk.injEq] at hm
      obtain ⟨rfl, rfl, rfl⟩ := hm
      exact hret _ _ _ _ dX4_readWord_25 (by decide) hP hS
theorem hdX0_lookOf : yX0_lookOf.cls = RX0 ∧ yX0_lookOf.cls ≠ "java/lang/invoke/MethodHandle" ∧ yX0_lookOf.cls ≠ "java/lang/invoke/VarHandle" ∧ (parseMethodDescriptor yX0_lookOf.desc).map (fun d => d.parameters.length) = some 1 := by decide +kernel
theorem hiX0_lookOf_X0 : ∀ w ∈ u_ws RX0 TX0 7, w ∈ wsX0_lookOf := by decide +kernel
theorem flX0_lookOf_40 : Cond.fieldLink RX0 40 "BlindPages$Index" "steps" "[LBlindPages$Look;" ∈ wsX0_lookOf := by decide +kernel
def C0_lookOf (a : Nat → Nat) (LK : List Nat) (v1 : Int32) : Option (Nat) := if v1 < 0 then (gm LK (a (30 + 0)) (some (a (30 + 0)))) else (if 6 ≤ v1 then (gm LK (a (30 + 0)) (some (a (30 + 0)))) else (ga v1 6 (gm LK (a (30 + v1.toNatClampNeg)) (some (a (30 + v1.toNatClampNeg))))))
set_option maxRecDepth 100000 in
set_option maxHeartbeats 4000000 in
theorem c_X0_lookOf {l : Launch} {D : va_G} {cI cJ cB cL cS cW : ClassId} {a wb sw se : Nat → Nat} {LW LS LK : List Nat} {c_bytes c_heads c_firsts c_levelOf c_aboveOf c_partings c_signs c_count c_pages c_levels c_most c_page c_known c_guess c_diff c_pieces c_place : Nat → Int32} {c_bits : Nat → Nat → Int64} {c_words : Nat → Nat → Nat} {c_entries : Nat → Nat → Int32} {c_bads c_noes c_fulls c_length c_next c_kept c_base c_from c_to c_above c_bit c_lastLeft : Int32} {v1 : Int32} {r : Nat} (hG : kG a LW LS LK) (hm : C0_lookOf a LK v1 = some r) : k_MA l yX0_lookOf wsX0_lookOf { frames := 0, cells := 0, slots := 0, locals := 0 } D (kT cI cJ cB cL cS cW) [.ref (a 3), .int v1] (WC a wb sw se LW LS LK cI cJ cB cL cS cW c_bytes c_heads c_firsts c_levelOf c_aboveOf c_partings c_signs c_count c_pages c_levels c_most c_page c_known c_guess c_diff c_pieces c_place c_bits c_words c_entries c_bads c_noes c_fulls c_length c_next c_kept c_base c_from c_to c_above c_bit c_lastLeft) r (WC a wb sw se LW LS LK cI cJ cB cL cS cW c_bytes c_heads c_firsts c_levelOf c_aboveOf c_partings c_signs c_count c_pages c_levels c_most c_page c_known c_guess c_diff c_pieces c_place c_bits c_words c_entries c_bads c_noes c_fulls c_length c_next c_kept c_base c_from c_to c_above c_bit c_lastLeft) := by
  refine k_ofA (cc := cX0_lookOf) (maxL := 2) (own := RX0) (by decide) rfl rfl (Nat.le_of_ble_eq_true rfl) ?_
  intro p e s m args below meth c A Q ls C hP hD hl hret
  have hD : va_D A (WC0 a wb sw se LW LS LK cI cJ cB cL cS cW) := WCD hD
  have hS : va_S A s.heap s.heap [] := va_S.rf
  have hl : lv_has ls 2 [(0, .ref (a 3)), (1, .int v1)] := hl
  obtain ⟨hx, hb, hml, hr, hown, hts, hlocks, hK, hA, hN⟩ := id C
  rw [C0_lookOf] at hm
  refine lv_aload_n hx hb dX0_lookOf_0 rfl (lv_at hl 0 rfl) ?_
  refine kg (v := .ref (a 10)) hx hb hts hiX0_lookOf_X0 hown hK hP 3 rfl rfl 6 (by decide) flX0_lookOf_40 rfl rfl dX0_lookOf_1 ?_
  refine lv_iload_n hx hb dX0_lookOf_4 rfl (lv_at hl 1 rfl) ?_
  refine lv_if_lt (tgt := 21) hx hb dX0_lookOf_5 (by decide) (fun hc => ?_) (fun hc => ?_)
  · have hm := if_t hc hm
    refine lv_iconst (v := 0) hx hb dX0_lookOf_21 (by decide) ?_
    obtain ⟨hw22, hm⟩ := gm_some hm
    refine k_aald (f := fun k => a (30 + k)) (j := 0) hx hb hK hP 10 3 rfl rfl rfl (vp_lit (by decide)) dX0_lookOf_22 ?_
    obtain rfl := Option.some.inj hm
    exact hret _ _ _ _ dX0_lookOf_23 hP hS
  · have hm := if_f hc hm
    refine lv_iload_n hx hb dX0_lookOf_8 rfl (lv_at hl 1 rfl) ?_
    refine lv_aload_n hx hb dX0_lookOf_9 rfl (lv_at hl 0 rfl) ?_
    refine kg (v := .ref (a 10)) hx hb hts hiX0_lookOf_X0 hown hK hP 3 rfl rfl 6 (by decide) flX0_lookOf_40 rfl rfl dX0_lookOf_10 ?_
    refine va_alen (v := 6) hx hb hK hP 10 3 rfl rfl rfl dX0_lookOf_13 ?_
    refine lv_icmp_ge (tgt := 21) hx hb dX0_lookOf_14 (by decide) (fun hc => ?_) (fun hc => ?_)
    · have hm := if_t hc hm
      refine lv_iconst (v := 0) hx hb dX0_lookOf_21 (by decide) ?_
      obtain ⟨hw22, hm⟩ := gm_some hm
      refine k_aald (f := fun k => a (30 + k)) (j := 0) hx hb hK hP 10 3 rfl rfl rfl (vp_lit (by decide)) dX0_lookOf_22 ?_
      obtain rfl := Option.some.inj hm
      exact hret _ _ _ _ dX0_lookOf_23 hP hS
    · have hm := if_f hc hm
      refine lv_iload_n hx hb dX0_lookOf_17 rfl (lv_at hl 1 rfl) ?_
      refine lv_goto (tgt := 22) hx hb dX0_lookOf_18 (by decide) ?_
      obtain ⟨hi, hm⟩ := ga_some hm
      obtain ⟨hw22, hm⟩ := gm_some hm
      refine k_aald (f := fun k => a (30 + k)) hx hb hK hP 10 3 rfl rfl rfl hi dX0_lookOf_22 ?_
      obtain rfl := Option.some.inj hm
      exact hret _ _ _ _ dX0_lookOf_23 hP hS
theorem hdX0_firstOf : yX0_firstOf.cls = RX0 ∧ yX0_firstOf.cls ≠ "java/lang/invoke/MethodHandle" ∧ yX0_firstOf.cls ≠ "java/lang/invoke/VarHandle" ∧ (parseMethodDescriptor yX0_firstOf.desc).map (fun d => d.parameters.length) = some 1 := by decide +kernel
theorem hiX0_firstOf_X0 : ∀ w ∈ u_ws RX0 TX0 7, w ∈ wsX0_firstOf := by decide +kernel
theorem flX0_firstOf_22 : Cond.fieldLink RX0 22 "BlindPages$Index" "firsts" "[I" ∈ wsX0_firstOf := by decide +kernel
def C0_firstOf (c_firsts : Nat → Int32) (v1 : Int32) : Option (Int32) := if v1 < 0 then (some 0) else (if 48 ≤ v1 then (some 0) else (ga v1 48 (some (c_firsts v1.toNatClampNeg))))
set_option maxRecDepth 100000 in
set_option maxHeartbeats 4000000 in
theorem c_X0_firstOf {l : Launch} {D : va_G} {cI cJ cB cL cS cW : ClassId} {a wb sw se : Nat → Nat} {LW LS LK : List Nat} {c_bytes c_heads c_firsts c_levelOf c_aboveOf c_partings c_signs c_count c_pages c_levels c_most c_page c_known c_guess c_diff c_pieces c_place : Nat → Int32} {c_bits : Nat → Nat → Int64} {c_words : Nat → Nat → Nat} {c_entries : Nat → Nat → Int32} {c_bads c_noes c_fulls c_length c_next c_kept c_base c_from c_to c_above c_bit c_lastLeft : Int32} {v1 : Int32} {r : Int32} (hG : kG a LW LS LK) (hm : C0_firstOf c_firsts v1 = some r) : k_MI l yX0_firstOf wsX0_firstOf { frames := 0, cells := 0, slots := 0, locals := 0 } D (kT cI cJ cB cL cS cW) [.ref (a 3), .int v1] (WC a wb sw se LW LS LK cI cJ cB cL cS cW c_bytes c_heads c_firsts c_levelOf c_aboveOf c_partings c_signs c_count c_pages c_levels c_most c_page c_known c_guess c_diff c_pieces c_place c_bits c_words c_entries c_bads c_noes c_fulls c_length c_next c_kept c_base c_from c_to c_above c_bit c_lastLeft) r (WC a wb sw se LW LS LK cI cJ cB cL cS cW c_bytes c_heads c_firsts c_levelOf c_aboveOf c_partings c_signs c_count c_pages c_levels c_most c_page c_known c_guess c_diff c_pieces c_place c_bits c_words c_entries c_bads c_noes c_fulls c_length c_next c_kept c_base c_from c_to c_above c_bit c_lastLeft) := by
  refine k_ofI (cc := cX0_firstOf) (maxL := 2) (own := RX0) (by decide) rfl rfl (Nat.le_of_ble_eq_true rfl) ?_
  intro p e s m args below meth c A Q ls C hP hD hl hret
  have hD : va_D A (WC0 a wb sw se LW LS LK cI cJ cB cL cS cW) := WCD hD
  have hS : va_S A s.heap s.heap [] := va_S.rf
  have hl : lv_has ls 2 [(0, .ref (a 3)), (1, .int v1)] := hl
  obtain ⟨hx, hb, hml, hr, hown, hts, hlocks, hK, hA, hN⟩ := id C
  rw [C0_firstOf] at hm
  refine lv_iload_n hx hb dX0_firstOf_0 rfl (lv_at hl 1 rfl) ?_
  refine lv_if_lt (tgt := 22) hx hb dX0_firstOf_1 (by decide) (fun hc => ?_) (fun hc => ?_)
  · have hm := if_t hc hm
    refine lv_iconst (v := 0) hx hb dX0_firstOf_22 (by decide) ?_
    obtain rfl := Option.some.inj hm
    exact hret _ _ _ _ dX0_firstOf_23 hP hS
  · have hm := if_f hc hm
    refine lv_iload_n hx hb dX0_firstOf_4 rfl (lv_at hl 1 rfl) ?_
    refine lv_aload_n hx hb dX0_firstOf_5 rfl (lv_at hl 0 rfl) ?_
    refine kg (v := .ref (a 5)) hx hb hts hiX0_firstOf_X0 hown hK hP 3 rfl rfl 2 (by decide) flX0_firstOf_22 rfl rfl dX0_firstOf_6 ?_
    refine va_alen (v := 48) hx hb hK hP 5 0 rfl rfl rfl dX0_firstOf_9 ?_
    refine lv_icmp_ge (tgt := 22) hx hb dX0_firstOf_10 (by decide) (fun hc => ?_) (fun hc => ?_)
    · have hm := if_t hc hm
      refine lv_iconst (v := 0) hx hb dX0_firstOf_22 (by decide) ?_
      obtain rfl := Option.some.inj hm
      exact hret _ _ _ _ dX0_firstOf_23 hP hS
    · have hm := if_f hc hm
      refine lv_aload_n hx hb dX0_firstOf_13 rfl (lv_at hl 0 rfl) ?_
      refine kg (v := .ref (a 5)) hx hb hts hiX0_firstOf_X0 hown hK hP 3 rfl rfl 2 (by decide) flX0_firstOf_22 rfl rfl dX0_firstOf_14 ?_
      refine lv_iload_n hx hb dX0_firstOf_17 rfl (lv_at hl 1 rfl) ?_
      obtain ⟨hi, hm⟩ := ga_some hm
      refine k_iald hx hb hK hP 5 0 rfl rfl rfl hi dX0_firstOf_18 ?_
      refine lv_goto (tgt := 23) hx hb dX0_firstOf_19 (by decide) ?_
      obtain rfl := Option.some.inj hm
      exact hret _ _ _ _ dX0_firstOf_23 hP hS
theorem hdX3_entriesOf : yX3_entriesOf.cls = RX3 ∧ yX3_entriesOf.cls ≠ "java/lang/invoke/MethodHandle" ∧ yX3_entriesOf.cls ≠ "java/lang/invoke/VarHandle" ∧ (parseMethodDescriptor yX3_entriesOf.desc).map (fun d => d.parameters.length) = some 1 := by decide +kernel
theorem hiX3_entriesOf_X3 : ∀ w ∈ u_ws RX3 TX3 6, w ∈ wsX3_entriesOf := by decide +kernel
theorem flX3_entriesOf_29 : Cond.fieldLink RX3 29 "BlindPages$State" "pages" "I" ∈ wsX3_entriesOf := by decide +kernel
theorem flX3_entriesOf_17 : Cond.fieldLink RX3 17 "BlindPages$State" "entries" "[I" ∈ wsX3_entriesOf := by decide +kernel
def C3_entriesOf (c_pages : Nat → Int32) (c_entries : Nat → Nat → Int32) (v0 : Nat) (v1 : Int32) : Option (Int32) := if v1 < 0 then (some 0) else (if (c_pages v0) ≤ v1 then (some 0) else (if 48 ≤ v1 then (some 0) else (ga v1 48 (some (c_entries v0 v1.toNatClampNeg)))))
set_option maxRecDepth 100000 in
set_option maxHeartbeats 4000000 in
theorem c_X3_entriesOf {l : Launch} {D : va_G} {cI cJ cB cL cS cW : ClassId} {a wb sw se : Nat → Nat} {LW LS LK : List Nat} {c_bytes c_heads c_firsts c_levelOf c_aboveOf c_partings c_signs c_count c_pages c_levels c_most c_page c_known c_guess c_diff c_pieces c_place : Nat → Int32} {c_bits : Nat → Nat → Int64} {c_words : Nat → Nat → Nat} {c_entries : Nat → Nat → Int32} {c_bads c_noes c_fulls c_length c_next c_kept c_base c_from c_to c_above c_bit c_lastLeft : Int32} {v0 : Nat} {v1 : Int32} {r : Int32} (hG : kG a LW LS LK) (hv0 : v0 ∈ LS) (hm : C3_entriesOf c_pages c_entries v0 v1 = some r) : k_MI l yX3_entriesOf wsX3_entriesOf { frames := 0, cells := 0, slots := 0, locals := 0 } D (kT cI cJ cB cL cS cW) [.ref v0, .int v1] (WC a wb sw se LW LS LK cI cJ cB cL cS cW c_bytes c_heads c_firsts c_levelOf c_aboveOf c_partings c_signs c_count c_pages c_levels c_most c_page c_known c_guess c_diff c_pieces c_place c_bits c_words c_entries c_bads c_noes c_fulls c_length c_next c_kept c_base c_from c_to c_above c_bit c_lastLeft) r (WC a wb sw se LW LS LK cI cJ cB cL cS cW c_bytes c_heads c_firsts c_levelOf c_aboveOf c_partings c_signs c_count c_pages c_levels c_most c_page c_known c_guess c_diff c_pieces c_place c_bits c_words c_entries c_bads c_noes c_fulls c_length c_next c_kept c_base c_from c_to c_above c_bit c_lastLeft) := by
  refine k_ofI (cc := cX3_entriesOf) (maxL := 2) (own := RX3) (by decide) rfl rfl (Nat.le_of_ble_eq_true rfl) ?_
  intro p e s m args below meth c A Q ls C hP hD hl hret
  have hD : va_D A (WC0 a wb sw se LW LS LK cI cJ cB cL cS cW) := WCD hD
  have hS : va_S A s.heap s.heap [] := va_S.rf
  have hl : lv_has ls 2 [(0, .ref v0), (1, .int v1)] := hl
  obtain ⟨hx, hb, hml, hr, hown, hts, hlocks, hK, hA, hN⟩ := id C
  rw [C3_entriesOf] at hm
  refine lv_iload_n hx hb dX3_entriesOf_0 rfl (lv_at hl 1 rfl) ?_
  refine lv_if_lt (tgt := 30) hx hb dX3_entriesOf_1 (by decide) (fun hc => ?_) (fun hc => ?_)
  · have hm := if_t hc hm
    refine lv_iconst (v := 0) hx hb dX3_entriesOf_30 (by decide) ?_
    obtain rfl := Option.some.inj hm
    exact hret _ _ _ _ dX3_entriesOf_31 hP hS
  · have hm := if_f hc hm
    refine lv_iload_n hx hb dX3_entriesOf_4 rfl (lv_at hl 1 rfl) ?_
    refine lv_aload_n hx hb dX3_entriesOf_5 rfl (lv_at hl 0 rfl) ?_
    obtain ⟨q, hq, -⟩ := WC_S hG hv0
    refine kg (v := .int (c_pages v0)) hx hb hts hiX3_entriesOf_X3 hown hK hP q hq rfl 3 (by decide) flX3_entriesOf_29 rfl rfl dX3_entriesOf_6 ?_
    refine lv_icmp_ge (tgt := 30) hx hb dX3_entriesOf_9 (by decide) (fun hc => ?_) (fun hc => ?_)
    · have hm := if_t hc hm
      refine lv_iconst (v := 0) hx hb dX3_entriesOf_30 (by decide) ?_
      obtain rfl := Option.some.inj hm
      exact hret _ _ _ _ dX3_entriesOf_31 hP hS
    · have hm := if_f hc hm
      refine lv_iload_n hx hb dX3_entriesOf_12 rfl (lv_at hl 1 rfl) ?_
      refine lv_aload_n hx hb dX3_entriesOf_13 rfl (lv_at hl 0 rfl) ?_
      obtain ⟨q, hq, -⟩ := WC_S hG hv0
      refine kg (v := .ref (se v0)) hx hb hts hiX3_entriesOf_X3 hown hK hP q hq rfl 1 (by decide) flX3_entriesOf_17 rfl rfl dX3_entriesOf_14 ?_
      obtain ⟨q, hq, -⟩ := WC_entries hG hv0
      refine va_alen (v := 48) hx hb hK hP q 0 hq rfl rfl dX3_entriesOf_17 ?_
      refine lv_icmp_ge (tgt := 30) hx hb dX3_entriesOf_18 (by decide) (fun hc => ?_) (fun hc => ?_)
      · have hm := if_t hc hm
        refine lv_iconst (v := 0) hx hb dX3_entriesOf_30 (by decide) ?_
        obtain rfl := Option.some.inj hm
        exact hret _ _ _ _ dX3_entriesOf_31 hP hS
      · have hm := if_f hc hm
        refine lv_aload_n hx hb dX3_entriesOf_21 rfl (lv_at hl 0 rfl) ?_
        obtain ⟨q, hq, -⟩ := WC_S hG hv0
        refine kg (v := .ref (se v0)) hx hb hts hiX3_entriesOf_X3 hown hK hP q hq rfl 1 (by decide) flX3_entriesOf_17 rfl rfl dX3_entriesOf_22 ?_
        refine lv_iload_n hx hb dX3_entriesOf_25 rfl (lv_at hl 1 rfl) ?_
        obtain ⟨hi, hm⟩ := ga_some hm
        obtain ⟨q, hq, -⟩ := WC_entries hG hv0
        refine k_iald hx hb hK hP q 0 hq rfl rfl hi dX3_entriesOf_26 ?_
        refine lv_goto (tgt := 31) hx hb dX3_entriesOf_27 (by decide) ?_
        obtain rfl := Option.some.inj hm
        exact hret _ _ _ _ dX3_entriesOf_31 hP hS
