theorem hdX5_findFork : yX5_findFork.cls = RX5 ∧ yX5_findFork.cls ≠ "java/lang/invoke/MethodHandle" ∧ yX5_findFork.cls ≠ "java/lang/invoke/VarHandle" ∧ (parseMethodDescriptor yX5_findFork.desc).map (fun d => d.parameters.length) = some 0 := by decide +kernel
theorem hiX5_findFork_X5 : ∀ w ∈ u_ws RX5 TX5 7, w ∈ wsX5_findFork := by decide +kernel
theorem flX5_findFork_31 : Cond.fieldLink RX5 31 "BlindPages$Tree" "bit" "I" ∈ wsX5_findFork := by decide +kernel
theorem flX5_findFork_19 : Cond.fieldLink RX5 19 "BlindPages$Tree" "from" "I" ∈ wsX5_findFork := by decide +kernel
theorem flX5_findFork_34 : Cond.fieldLink RX5 34 "BlindPages$Tree" "lastLeft" "I" ∈ wsX5_findFork := by decide +kernel
theorem flX5_findFork_22 : Cond.fieldLink RX5 22 "BlindPages$Tree" "to" "I" ∈ wsX5_findFork := by decide +kernel
theorem flX5_findFork_15 : Cond.fieldLink RX5 15 "BlindPages$Tree" "base" "I" ∈ wsX5_findFork := by decide +kernel
theorem flX5_findFork_9 : Cond.fieldLink RX5 9 "BlindPages$Tree" "partings" "[I" ∈ wsX5_findFork := by decide +kernel
def C5_findFork_L20 (c_partings : Nat → Int32) (c_base c_from c_to : Int32) (k82 : Int32 → Int32 → Option (Int32 × Int32)) : Nat → Int32 → Int32 → Int32 → Option (Int32 × Int32)
  | 0, _, _, _ => none
  | n + 1, c_bit, c_lastLeft, v1 => if c_to ≤ v1 then (k82 c_bit c_lastLeft) else (if (c_base + v1) < 0 then (C5_findFork_L20 c_partings c_base c_from c_to k82 n c_bit c_lastLeft (v1 + 1)) else (if 96 ≤ (c_base + v1) then (C5_findFork_L20 c_partings c_base c_from c_to k82 n c_bit c_lastLeft (v1 + 1)) else (ga (c_base + v1) 96 (if c_bit ≤ (c_partings (c_base + v1).toNatClampNeg) then (C5_findFork_L20 c_partings c_base c_from c_to k82 n c_bit c_lastLeft (v1 + 1)) else (ga (c_base + v1) 96 (C5_findFork_L20 c_partings c_base c_from c_to k82 n (c_partings (c_base + v1).toNatClampNeg) v1 (v1 + 1)))))))
def C5_findFork (c_partings : Nat → Int32) (c_base c_from c_to : Int32) (c_bit c_lastLeft : Int32) : Option (Int32 × Int32) := C5_findFork_L20 c_partings c_base c_from c_to (fun c_bit c_lastLeft => some (c_bit, c_lastLeft)) FU 192 c_from c_from
set_option maxRecDepth 100000 in
set_option maxHeartbeats 4000000 in
theorem t_C5_findFork_L20 {p : Program} {l : Launch} {e : Env} {s : State} {m : MethodId} {args : Array Value} {below : List Frame} {meth : Method} {c : Code} {Q : State → Prop} {A : Nat → Prop} {D : va_G} {cI cJ cB cL cS cW : ClassId} {a wb sw se : Nat → Nat} {LW LS LK : List Nat} {c_bytes c_heads c_firsts c_levelOf c_aboveOf c_partings c_signs c_count c_pages c_levels c_most c_page c_known c_guess c_diff c_pieces c_place : Nat → Int32} {c_bits : Nat → Nat → Int64} {c_words : Nat → Nat → Nat} {c_entries : Nat → Nat → Int32} {c_bads c_noes c_fulls c_length c_next c_kept c_base c_from c_to c_above : Int32} {o_bit : Int32} {o_lastLeft : Int32} (C : k_C p s m args meth c cX5_findFork 3 none RX5 wsX5_findFork D (kT cI cJ cB cL cS cW) A) (hD : va_D A (WC0 a wb sw se LW LS LK cI cJ cB cL cS cW)) (hG : kG a LW LS LK) (hret : ∀ (H : Heap) (locs : List Loc) (pc : Nat) (ls : Array Slot), decode cX5_findFork pc = .ok (.return_, 1) → va_P D vwCl (WC a wb sw se LW LS LK cI cJ cB cL cS cW c_bytes c_heads c_firsts c_levelOf c_aboveOf c_partings c_signs c_count c_pages c_levels c_most c_page c_known c_guess c_diff c_pieces c_place c_bits c_words c_entries c_bads c_noes c_fulls c_length c_next c_kept c_base c_from c_to c_above o_bit o_lastLeft) H → va_S A s.heap H locs → W p l e { frames := 0, cells := 0, slots := 0, locals := 0 } s m args below meth c H locs 0 0 Q (F0 m pc ls [])) {k82 : Int32 → Int32 → Option (Int32 × Int32)} (hk82 : ∀ (c_bit : Int32) (c_lastLeft : Int32) (H : Heap) (locs : List Loc) (ls : Array Slot), va_P D vwCl (WC a wb sw se LW LS LK cI cJ cB cL cS cW c_bytes c_heads c_firsts c_levelOf c_aboveOf c_partings c_signs c_count c_pages c_levels c_most c_page c_known c_guess c_diff c_pieces c_place c_bits c_words c_entries c_bads c_noes c_fulls c_length c_next c_kept c_base c_from c_to c_above c_bit c_lastLeft) H → va_S A s.heap H locs → lv_has ls 3 [] → k82 c_bit c_lastLeft = some (o_bit, o_lastLeft) → W p l e { frames := 0, cells := 0, slots := 0, locals := 0 } s m args below meth c H locs 0 0 Q (F0 m 82 ls [])) : ∀ n : Nat, ∀ (c_bit : Int32) (c_lastLeft : Int32) (v1 : Int32) (H : Heap) (locs : List Loc) (ls : Array Slot), va_P D vwCl (WC a wb sw se LW LS LK cI cJ cB cL cS cW c_bytes c_heads c_firsts c_levelOf c_aboveOf c_partings c_signs c_count c_pages c_levels c_most c_page c_known c_guess c_diff c_pieces c_place c_bits c_words c_entries c_bads c_noes c_fulls c_length c_next c_kept c_base c_from c_to c_above c_bit c_lastLeft) H → va_S A s.heap H locs → lv_has ls 3 [(0, .ref (a 8)), (1, .int v1)] → (C5_findFork_L20 c_partings c_base c_from c_to k82 n) c_bit c_lastLeft v1 = some (o_bit, o_lastLeft) → W p l e { frames := 0, cells := 0, slots := 0, locals := 0 } s m args below meth c H locs 0 0 Q (F0 m 20 ls []) := by
  obtain ⟨hx, hb, hml, hr, hown, hts, hlocks, hK, hA, hN⟩ := id C
  intro n
  induction n with
  | zero =>
    intro c_bit c_lastLeft v1 H locs ls hP hS hl hm
    cases hm
  | succ n ih =>
    intro c_bit c_lastLeft v1 H locs ls hP hS hl hm
    rw [C5_findFork_L20] at hm
    refine lv_iload_n hx hb dX5_findFork_20 rfl (lv_at hl 1 rfl) ?_
    refine lv_aload_n hx hb dX5_findFork_21 rfl (lv_at hl 0 rfl) ?_
    refine kg (v := .int c_to) hx hb hts hiX5_findFork_X5 hown hK hP 8 rfl rfl 3 (by decide) flX5_findFork_22 rfl rfl dX5_findFork_22 ?_
    refine lv_icmp_ge (tgt := 82) hx hb dX5_findFork_25 (by decide) (fun hc => ?_) (fun hc => ?_)
    · have hm := if_t hc hm
      exact hk82 _ _ _ _ _ hP hS (lv_sub hl [] rfl) hm
    · have hm := if_f hc hm
      refine lv_aload_n hx hb dX5_findFork_28 rfl (lv_at hl 0 rfl) ?_
      refine kg (v := .int c_base) hx hb hts hiX5_findFork_X5 hown hK hP 8 rfl rfl 1 (by decide) flX5_findFork_15 rfl rfl dX5_findFork_29 ?_
      refine lv_iload_n hx hb dX5_findFork_32 rfl (lv_at hl 1 rfl) ?_
      refine lv_iadd hx hb dX5_findFork_33 ?_
      refine lv_istore_n (lv' := [(2, .int (c_base + v1)), (0, .ref (a 8)), (1, .int v1)]) hx hb dX5_findFork_34 rfl hl (by decide) rfl (fun ls hl => ?_)
      refine lv_iload_n hx hb dX5_findFork_35 rfl (lv_at hl 0 rfl) ?_
      refine lv_if_lt (tgt := 76) hx hb dX5_findFork_36 (by decide) (fun hc => ?_) (fun hc => ?_)
      · have hm := if_t hc hm
        refine lv_iinc (v := (v1 + 1)) (lv' := [(1, .int (v1 + 1)), (2, .int (c_base + v1)), (0, .ref (a 8))]) hx hb dX5_findFork_76 hl (k := 2) rfl rfl (by decide) rfl (fun ls hl => ?_)
        refine lv_goto (tgt := 20) hx hb dX5_findFork_79 (by decide) ?_
        exact ih _ _ _ _ _ _ hP hS (lv_sub hl [2, 0] rfl) hm
      · have hm := if_f hc hm
        refine lv_iload_n hx hb dX5_findFork_39 rfl (lv_at hl 0 rfl) ?_
        refine lv_aload_n hx hb dX5_findFork_40 rfl (lv_at hl 1 rfl) ?_
        refine kg (v := .ref (a 9)) hx hb hts hiX5_findFork_X5 hown hK hP 8 rfl rfl 0 (by decide) flX5_findFork_9 rfl rfl dX5_findFork_41 ?_
        refine va_alen (v := 96) hx hb hK hP 9 0 rfl rfl rfl dX5_findFork_44 ?_
        refine lv_icmp_ge (tgt := 76) hx hb dX5_findFork_45 (by decide) (fun hc => ?_) (fun hc => ?_)
        · have hm := if_t hc hm
          refine lv_iinc (v := (v1 + 1)) (lv' := [(1, .int (v1 + 1)), (2, .int (c_base + v1)), (0, .ref (a 8))]) hx hb dX5_findFork_76 hl (k := 2) rfl rfl (by decide) rfl (fun ls hl => ?_)
          refine lv_goto (tgt := 20) hx hb dX5_findFork_79 (by decide) ?_
          exact ih _ _ _ _ _ _ hP hS (lv_sub hl [2, 0] rfl) hm
        · have hm := if_f hc hm
          refine lv_aload_n hx hb dX5_findFork_48 rfl (lv_at hl 1 rfl) ?_
          refine kg (v := .ref (a 9)) hx hb hts hiX5_findFork_X5 hown hK hP 8 rfl rfl 0 (by decide) flX5_findFork_9 rfl rfl dX5_findFork_49 ?_
          refine lv_iload_n hx hb dX5_findFork_52 rfl (lv_at hl 0 rfl) ?_
          obtain ⟨hi, hm⟩ := ga_some hm
          refine k_iald hx hb hK hP 9 0 rfl rfl rfl hi dX5_findFork_53 ?_
          refine lv_aload_n hx hb dX5_findFork_54 rfl (lv_at hl 1 rfl) ?_
          refine kg (v := .int c_bit) hx hb hts hiX5_findFork_X5 hown hK hP 8 rfl rfl 5 (by decide) flX5_findFork_31 rfl rfl dX5_findFork_55 ?_
          refine lv_icmp_ge (tgt := 76) hx hb dX5_findFork_58 (by decide) (fun hc => ?_) (fun hc => ?_)
          · have hm := if_t hc hm
            refine lv_iinc (v := (v1 + 1)) (lv' := [(1, .int (v1 + 1)), (2, .int (c_base + v1)), (0, .ref (a 8))]) hx hb dX5_findFork_76 hl (k := 2) rfl rfl (by decide) rfl (fun ls hl => ?_)
            refine lv_goto (tgt := 20) hx hb dX5_findFork_79 (by decide) ?_
            exact ih _ _ _ _ _ _ hP hS (lv_sub hl [2, 0] rfl) hm
          · have hm := if_f hc hm
            refine lv_aload_n hx hb dX5_findFork_61 rfl (lv_at hl 1 rfl) ?_
            refine lv_aload_n hx hb dX5_findFork_62 rfl (lv_at hl 1 rfl) ?_
            refine kg (v := .ref (a 9)) hx hb hts hiX5_findFork_X5 hown hK hP 8 rfl rfl 0 (by decide) flX5_findFork_9 rfl rfl dX5_findFork_63 ?_
            refine lv_iload_n hx hb dX5_findFork_66 rfl (lv_at hl 0 rfl) ?_
            obtain ⟨hi, hm⟩ := ga_some hm
            refine k_iald hx hb hK hP 9 0 rfl rfl rfl hi dX5_findFork_67 ?_
            refine kp hx hb hts hiX5_findFork_X5 tyX5 tyX5_ok nmX5 hown hK hP (WCD hD) hS 8 rfl rfl 5 (by decide) flX5_findFork_31 rfl rfl rfl (Nat.le_of_ble_eq_true rfl) dX5_findFork_68 (fun H locs hP hS => ?_)
            have hP : va_P D vwCl (WC a wb sw se LW LS LK cI cJ cB cL cS cW c_bytes c_heads c_firsts c_levelOf c_aboveOf c_partings c_signs c_count c_pages c_levels c_most c_page c_known c_guess c_diff c_pieces c_place c_bits c_words c_entries c_bads c_noes c_fulls c_length c_next c_kept c_base c_from c_to c_above (c_partings (c_base + v1).toNatClampNeg) c_lastLeft) H := hP
            refine lv_aload_n hx hb dX5_findFork_71 rfl (lv_at hl 1 rfl) ?_
            refine lv_iload_n hx hb dX5_findFork_72 rfl (lv_at hl 2 rfl) ?_
            refine kp hx hb hts hiX5_findFork_X5 tyX5 tyX5_ok nmX5 hown hK hP (WCD hD) hS 8 rfl rfl 6 (by decide) flX5_findFork_34 rfl rfl rfl (Nat.le_of_ble_eq_true rfl) dX5_findFork_73 (fun H locs hP hS => ?_)
            have hP : va_P D vwCl (WC a wb sw se LW LS LK cI cJ cB cL cS cW c_bytes c_heads c_firsts c_levelOf c_aboveOf c_partings c_signs c_count c_pages c_levels c_most c_page c_known c_guess c_diff c_pieces c_place c_bits c_words c_entries c_bads c_noes c_fulls c_length c_next c_kept c_base c_from c_to c_above (c_partings (c_base + v1).toNatClampNeg) v1) H := hP
            refine lv_iinc (v := (v1 + 1)) (lv' := [(1, .int (v1 + 1)), (2, .int (c_base + v1)), (0, .ref (a 8))]) hx hb dX5_findFork_76 hl (k := 2) rfl rfl (by decide) rfl (fun ls hl => ?_)
            refine lv_goto (tgt := 20) hx hb dX5_findFork_79 (by decide) ?_
            exact ih _ _ _ _ _ _ hP hS (lv_sub hl [2, 0] rfl) hm
set_option maxRecDepth 100000 in
set_option maxHeartbeats 4000000 in
theorem c_X5_findFork {l : Launch} {D : va_G} {cI cJ cB cL cS cW : ClassId} {a wb sw se : Nat → Nat} {LW LS LK : List Nat} {c_bytes c_heads c_firsts c_levelOf c_aboveOf c_partings c_signs c_count c_pages c_levels c_most c_page c_known c_guess c_diff c_pieces c_place : Nat → Int32} {c_bits : Nat → Nat → Int64} {c_words : Nat → Nat → Nat} {c_entries : Nat → Nat → Int32} {c_bads c_noes c_fulls c_length c_next c_kept c_base c_from c_to c_above c_bit c_lastLeft : Int32} {o_bit : Int32} {o_lastLeft : Int32} (hG : kG a LW LS LK) (hm : C5_findFork c_partings c_base c_from c_to c_bit c_lastLeft = some (o_bit, o_lastLeft)) : k_MV l yX5_findFork wsX5_findFork { frames := 0, cells := 0, slots := 0, locals := 0 } D (kT cI cJ cB cL cS cW) [.ref (a 8)] (WC a wb sw se LW LS LK cI cJ cB cL cS cW c_bytes c_heads c_firsts c_levelOf c_aboveOf c_partings c_signs c_count c_pages c_levels c_most c_page c_known c_guess c_diff c_pieces c_place c_bits c_words c_entries c_bads c_noes c_fulls c_length c_next c_kept c_base c_from c_to c_above c_bit c_lastLeft) (WC a wb sw se LW LS LK cI cJ cB cL cS cW c_bytes c_heads c_firsts c_levelOf c_aboveOf c_partings c_signs c_count c_pages c_levels c_most c_page c_known c_guess c_diff c_pieces c_place c_bits c_words c_entries c_bads c_noes c_fulls c_length c_next c_kept c_base c_from c_to c_above o_bit o_lastLeft) := by
  refine k_ofV (cc := cX5_findFork) (maxL := 3) (own := RX5) (by decide) rfl rfl (Nat.le_of_ble_eq_true rfl) ?_
  intro p e s m args below meth c A Q ls C hP hD hl hret
  have hD : va_D A (WC0 a wb sw se LW LS LK cI cJ cB cL cS cW) := WCD hD
  have hS : va_S A s.heap s.heap [] := va_S.rf
  have hl : lv_has ls 3 [(0, .ref (a 8))] := hl
  obtain ⟨hx, hb, hml, hr, hown, hts, hlocks, hK, hA, hN⟩ := id C
  rw [C5_findFork] at hm
  refine lv_aload_n hx hb dX5_findFork_0 rfl (lv_at hl 0 rfl) ?_
  refine lv_sipush (v := 192) hx hb dX5_findFork_1 (by decide) ?_
  refine kp hx hb hts hiX5_findFork_X5 tyX5 tyX5_ok nmX5 hown hK hP (WCD hD) hS 8 rfl rfl 5 (by decide) flX5_findFork_31 rfl rfl rfl (Nat.le_of_ble_eq_true rfl) dX5_findFork_4 (fun H locs hP hS => ?_)
  have hP : va_P D vwCl (WC a wb sw se LW LS LK cI cJ cB cL cS cW c_bytes c_heads c_firsts c_levelOf c_aboveOf c_partings c_signs c_count c_pages c_levels c_most c_page c_known c_guess c_diff c_pieces c_place c_bits c_words c_entries c_bads c_noes c_fulls c_length c_next c_kept c_base c_from c_to c_above 192 c_lastLeft) H := hP
  refine lv_aload_n hx hb dX5_findFork_7 rfl (lv_at hl 0 rfl) ?_
  refine lv_aload_n hx hb dX5_findFork_8 rfl (lv_at hl 0 rfl) ?_
  refine kg (v := .int c_from) hx hb hts hiX5_findFork_X5 hown hK hP 8 rfl rfl 2 (by decide) flX5_findFork_19 rfl rfl dX5_findFork_9 ?_
  refine kp hx hb hts hiX5_findFork_X5 tyX5 tyX5_ok nmX5 hown hK hP (WCD hD) hS 8 rfl rfl 6 (by decide) flX5_findFork_34 rfl rfl rfl (Nat.le_of_ble_eq_true rfl) dX5_findFork_12 (fun H locs hP hS => ?_)
  have hP : va_P D vwCl (WC a wb sw se LW LS LK cI cJ cB cL cS cW c_bytes c_heads c_firsts c_levelOf c_aboveOf c_partings c_signs c_count c_pages c_levels c_most c_page c_known c_guess c_diff c_pieces c_place c_bits c_words c_entries c_bads c_noes c_fulls c_length c_next c_kept c_base c_from c_to c_above 192 c_from) H := hP
  refine lv_aload_n hx hb dX5_findFork_15 rfl (lv_at hl 0 rfl) ?_
  refine kg (v := .int c_from) hx hb hts hiX5_findFork_X5 hown hK hP 8 rfl rfl 2 (by decide) flX5_findFork_19 rfl rfl dX5_findFork_16 ?_
  refine lv_istore_n (lv' := [(1, .int c_from), (0, .ref (a 8))]) hx hb dX5_findFork_19 rfl hl (by decide) rfl (fun ls hl => ?_)
  refine t_C5_findFork_L20 C hD hG hret ?_ FU _ _ _ _ _ _ hP hS (lv_sub hl [1, 0] rfl) hm
  · intro c_bit c_lastLeft H locs ls hP hS hl hm
    try dsimp only at hm
    simp only [Option.some.injEq, Prod.mk.injEq] at hm
    obtain ⟨rfl, rfl⟩ := hm
    exact hret _ _ _ _ dX5_findFork_82 hP hS
theorem hdX5_open : yX5_open.cls = RX5 ∧ yX5_open.cls ≠ "java/lang/invoke/MethodHandle" ∧ yX5_open.cls ≠ "java/lang/invoke/VarHandle" ∧ (parseMethodDescriptor yX5_open.desc).map (fun d => d.parameters.length) = some 2 := by decide +kernel
theorem hiX5_open_X5 : ∀ w ∈ u_ws RX5 TX5 7, w ∈ wsX5_open := by decide +kernel
theorem flX5_open_15 : Cond.fieldLink RX5 15 "BlindPages$Tree" "base" "I" ∈ wsX5_open := by decide +kernel
theorem flX5_open_19 : Cond.fieldLink RX5 19 "BlindPages$Tree" "from" "I" ∈ wsX5_open := by decide +kernel
theorem flX5_open_22 : Cond.fieldLink RX5 22 "BlindPages$Tree" "to" "I" ∈ wsX5_open := by decide +kernel
theorem flX5_open_25 : Cond.fieldLink RX5 25 "BlindPages$Tree" "above" "I" ∈ wsX5_open := by decide +kernel
def C5_open (c_partings : Nat → Int32) (c_base c_from c_to c_above c_bit c_lastLeft : Int32) (v1 : Int32) (v2 : Int32) : Option (Int32 × Int32 × Int32 × Int32 × Int32 × Int32) := bd2 (C5_findFork c_partings v1 0 (v2 - 1) c_bit c_lastLeft) fun c_bit_23 c_lastLeft_23 => some (v1, 0, (v2 - 1), 0, c_bit_23, c_lastLeft_23)
set_option maxRecDepth 100000 in
set_option maxHeartbeats 4000000 in
theorem c_X5_open {l : Launch} {D : va_G} {cI cJ cB cL cS cW : ClassId} {a wb sw se : Nat → Nat} {LW LS LK : List Nat} {c_bytes c_heads c_firsts c_levelOf c_aboveOf c_partings c_signs c_count c_pages c_levels c_most c_page c_known c_guess c_diff c_pieces c_place : Nat → Int32} {c_bits : Nat → Nat → Int64} {c_words : Nat → Nat → Nat} {c_entries : Nat → Nat → Int32} {c_bads c_noes c_fulls c_length c_next c_kept c_base c_from c_to c_above c_bit c_lastLeft : Int32} {v1 : Int32} {v2 : Int32} {o_base : Int32} {o_from : Int32} {o_to : Int32} {o_above : Int32} {o_bit : Int32} {o_lastLeft : Int32} (hG : kG a LW LS LK) (hm : C5_open c_partings c_base c_from c_to c_above c_bit c_lastLeft v1 v2 = some (o_base, o_from, o_to, o_above, o_bit, o_lastLeft)) : k_MV l yX5_open wsX5_open { frames := 1, cells := 0, slots := 0, locals := 22 } D (kT cI cJ cB cL cS cW) [.ref (a 8), .int v1, .int v2] (WC a wb sw se LW LS LK cI cJ cB cL cS cW c_bytes c_heads c_firsts c_levelOf c_aboveOf c_partings c_signs c_count c_pages c_levels c_most c_page c_known c_guess c_diff c_pieces c_place c_bits c_words c_entries c_bads c_noes c_fulls c_length c_next c_kept c_base c_from c_to c_above c_bit c_lastLeft) (WC a wb sw se LW LS LK cI cJ cB cL cS cW c_bytes c_heads c_firsts c_levelOf c_aboveOf c_partings c_signs c_count c_pages c_levels c_most c_page c_known c_guess c_diff c_pieces c_place c_bits c_words c_entries c_bads c_noes c_fulls c_length c_next c_kept o_base o_from o_to o_above o_bit o_lastLeft) := by
  refine k_ofV (cc := cX5_open) (maxL := 3) (own := RX5) (by decide) rfl rfl (Nat.le_of_ble_eq_true rfl) ?_
  intro p e s m args below meth c A Q ls C hP hD hl hret
  have hD : va_D A (WC0 a wb sw se LW LS LK cI cJ cB cL cS cW) := WCD hD
  have hS : va_S A s.heap s.heap [] := va_S.rf
  have hl : lv_has ls 3 [(0, .ref (a 8)), (1, .int v1), (2, .int v2)] := hl
  obtain ⟨hx, hb, hml, hr, hown, hts, hlocks, hK, hA, hN⟩ := id C
  rw [C5_open] at hm
  refine lv_aload_n hx hb dX5_open_0 rfl (lv_at hl 0 rfl) ?_
  refine lv_iload_n hx hb dX5_open_1 rfl (lv_at hl 1 rfl) ?_
  refine kp hx hb hts hiX5_open_X5 tyX5 tyX5_ok nmX5 hown hK hP (WCD hD) hS 8 rfl rfl 1 (by decide) flX5_open_15 rfl rfl rfl (Nat.le_of_ble_eq_true rfl) dX5_open_2 (fun H locs hP hS => ?_)
  have hP : va_P D vwCl (WC a wb sw se LW LS LK cI cJ cB cL cS cW c_bytes c_heads c_firsts c_levelOf c_aboveOf c_partings c_signs c_count c_pages c_levels c_most c_page c_known c_guess c_diff c_pieces c_place c_bits c_words c_entries c_bads c_noes c_fulls c_length c_next c_kept v1 c_from c_to c_above c_bit c_lastLeft) H := hP
  refine lv_aload_n hx hb dX5_open_5 rfl (lv_at hl 0 rfl) ?_
  refine lv_iconst (v := 0) hx hb dX5_open_6 (by decide) ?_
  refine kp hx hb hts hiX5_open_X5 tyX5 tyX5_ok nmX5 hown hK hP (WCD hD) hS 8 rfl rfl 2 (by decide) flX5_open_19 rfl rfl rfl (Nat.le_of_ble_eq_true rfl) dX5_open_7 (fun H locs hP hS => ?_)
  have hP : va_P D vwCl (WC a wb sw se LW LS LK cI cJ cB cL cS cW c_bytes c_heads c_firsts c_levelOf c_aboveOf c_partings c_signs c_count c_pages c_levels c_most c_page c_known c_guess c_diff c_pieces c_place c_bits c_words c_entries c_bads c_noes c_fulls c_length c_next c_kept v1 0 c_to c_above c_bit c_lastLeft) H := hP
  refine lv_aload_n hx hb dX5_open_10 rfl (lv_at hl 0 rfl) ?_
  refine lv_iload_n hx hb dX5_open_11 rfl (lv_at hl 2 rfl) ?_
  refine lv_iconst (v := 1) hx hb dX5_open_12 (by decide) ?_
  refine lv_isub hx hb dX5_open_13 ?_
  refine kp hx hb hts hiX5_open_X5 tyX5 tyX5_ok nmX5 hown hK hP (WCD hD) hS 8 rfl rfl 3 (by decide) flX5_open_22 rfl rfl rfl (Nat.le_of_ble_eq_true rfl) dX5_open_14 (fun H locs hP hS => ?_)
  have hP : va_P D vwCl (WC a wb sw se LW LS LK cI cJ cB cL cS cW c_bytes c_heads c_firsts c_levelOf c_aboveOf c_partings c_signs c_count c_pages c_levels c_most c_page c_known c_guess c_diff c_pieces c_place c_bits c_words c_entries c_bads c_noes c_fulls c_length c_next c_kept v1 0 (v2 - 1) c_above c_bit c_lastLeft) H := hP
  refine lv_aload_n hx hb dX5_open_17 rfl (lv_at hl 0 rfl) ?_
  refine lv_iconst (v := 0) hx hb dX5_open_18 (by decide) ?_
  refine kp hx hb hts hiX5_open_X5 tyX5 tyX5_ok nmX5 hown hK hP (WCD hD) hS 8 rfl rfl 4 (by decide) flX5_open_25 rfl rfl rfl (Nat.le_of_ble_eq_true rfl) dX5_open_19 (fun H locs hP hS => ?_)
  have hP : va_P D vwCl (WC a wb sw se LW LS LK cI cJ cB cL cS cW c_bytes c_heads c_firsts c_levelOf c_aboveOf c_partings c_signs c_count c_pages c_levels c_most c_page c_known c_guess c_diff c_pieces c_place c_bits c_words c_entries c_bads c_noes c_fulls c_length c_next c_kept v1 0 (v2 - 1) 0 c_bit c_lastLeft) H := hP
  refine lv_aload_n hx hb dX5_open_22 rfl (lv_at hl 0 rfl) ?_
  obtain ⟨c_bit_23, c_lastLeft_23, hq0, hm⟩ := bd2_some hm
  refine k_callVV (As := []) (rest := []) ⟨hx, hb, hml, hown, hts⟩ hK hA hN (c_X5_findFork hG hq0) (cwV 0 hts gX5_open_X5_findFork rfl rfl rfl hdX5_findFork ⟨Nat.le_of_ble_eq_true rfl, Nat.le_of_ble_eq_true rfl⟩) hP (WCD hD) hS 8 5 rfl rfl rfl hl.1 rfl rfl (Nat.le_of_ble_eq_true rfl) ⟨Nat.zero_le _, Nat.zero_le _⟩ dX5_open_23 (fun H locs hP hS => ?_)
  simp only [Option.some.injEq, Prod.mk.injEq] at hm
  obtain ⟨rfl, rfl, rfl, rfl, rfl, rfl⟩ := hm
  exact hret _ _ _ _ dX5_open_26 hP hS
theorem hdX6_bitAt : yX6_bitAt.cls = RX6 ∧ yX6_bitAt.cls ≠ "java/lang/invoke/MethodHandle" ∧ yX6_bitAt.cls ≠ "java/lang/invoke/VarHandle" ∧ (parseMethodDescriptor yX6_bitAt.desc).map (fun d => d.parameters.length) = some 1 := by decide +kernel
theorem hiX6_bitAt_X6 : ∀ w ∈ u_ws RX6 TX6 2, w ∈ wsX6_bitAt := by decide +kernel
theorem flX6_bitAt_9 : Cond.fieldLink RX6 9 "BlindPages$Word" "bits" "[J" ∈ wsX6_bitAt := by decide +kernel
def C6_bitAt (c_bits : Nat → Nat → Int64) (v0 : Nat) (v1 : Int32) : Option (Int32) := if (v1 >>> ((6 : Int32) &&& 31)) < 0 then (some 0) else (if 3 ≤ (v1 >>> ((6 : Int32) &&& 31)) then (some 0) else (ga (v1 >>> ((6 : Int32) &&& 31)) 3 (some ((((c_bits v0 (v1 >>> ((6 : Int32) &&& 31)).toNatClampNeg).toUInt64 >>> ((63 - (v1 &&& 63)).toInt64.toUInt64 &&& Int64.toUInt64 63)).toInt64).toInt32 &&& 1))))
set_option maxRecDepth 100000 in
set_option maxHeartbeats 4000000 in
theorem c_X6_bitAt {l : Launch} {D : va_G} {cI cJ cB cL cS cW : ClassId} {a wb sw se : Nat → Nat} {LW LS LK : List Nat} {c_bytes c_heads c_firsts c_levelOf c_aboveOf c_partings c_signs c_count c_pages c_levels c_most c_page c_known c_guess c_diff c_pieces c_place : Nat → Int32} {c_bits : Nat → Nat → Int64} {c_words : Nat → Nat → Nat} {c_entries : Nat → Nat → Int32} {c_bads c_noes c_fulls c_length c_next c_kept c_base c_from c_to c_above c_bit c_lastLeft : Int32} {v0 : Nat} {v1 : Int32} {r : Int32} (hG : kG a LW LS LK) (hv0 : v0 ∈ LW) (hm : C6_bitAt c_bits v0 v1 = some r) : k_MI l yX6_bitAt wsX6_bitAt { frames := 0, cells := 0, slots := 0, locals := 0 } D (kT cI cJ cB cL cS cW) [.ref v0, .int v1] (WC a wb sw se LW LS LK cI cJ cB cL cS cW c_bytes c_heads c_firsts c_levelOf c_aboveOf c_partings c_signs c_count c_pages c_levels c_most c_page c_known c_guess c_diff c_pieces c_place c_bits c_words c_entries c_bads c_noes c_fulls c_length c_next c_kept c_base c_from c_to c_above c_bit c_lastLeft) r (WC a wb sw se LW LS LK cI cJ cB cL cS cW c_bytes c_heads c_firsts c_levelOf c_aboveOf c_partings c_signs c_count c_pages c_levels c_most c_page c_known c_guess c_diff c_pieces c_place c_bits c_words c_entries c_bads c_noes c_fulls c_length c_next c_kept c_base c_from c_to c_above c_bit c_lastLeft) := by
  refine k_ofI (cc := cX6_bitAt) (maxL := 3) (own := RX6) (by decide) rfl rfl (Nat.le_of_ble_eq_true rfl) ?_
  intro p e s m args below meth c A Q ls C hP hD hl hret
  have hD : va_D A (WC0 a wb sw se LW LS LK cI cJ cB cL cS cW) := WCD hD
  have hS : va_S A s.heap s.heap [] := va_S.rf
  have hl : lv_has ls 3 [(0, .ref v0), (1, .int v1)] := hl
  obtain ⟨hx, hb, hml, hr, hown, hts, hlocks, hK, hA, hN⟩ := id C
  rw [C6_bitAt] at hm
  refine lv_iload_n hx hb dX6_bitAt_0 rfl (lv_at hl 1 rfl) ?_
  refine lv_bipush (v := 6) hx hb dX6_bitAt_1 (by decide) ?_
  refine lv_ishr hx hb dX6_bitAt_3 ?_
  refine lv_istore_n (lv' := [(2, .int (v1 >>> ((6 : Int32) &&& 31))), (0, .ref v0), (1, .int v1)]) hx hb dX6_bitAt_4 rfl hl (by decide) rfl (fun ls hl => ?_)
  refine lv_iload_n hx hb dX6_bitAt_5 rfl (lv_at hl 0 rfl) ?_
  refine lv_if_lt (tgt := 38) hx hb dX6_bitAt_6 (by decide) (fun hc => ?_) (fun hc => ?_)
  · have hm := if_t hc hm
    refine lv_iconst (v := 0) hx hb dX6_bitAt_38 (by decide) ?_
    obtain rfl := Option.some.inj hm
    exact hret _ _ _ _ dX6_bitAt_39 hP hS
  · have hm := if_f hc hm
    refine lv_iload_n hx hb dX6_bitAt_9 rfl (lv_at hl 0 rfl) ?_
    refine lv_aload_n hx hb dX6_bitAt_10 rfl (lv_at hl 1 rfl) ?_
    obtain ⟨q, hq, -⟩ := WC_W hG hv0
    refine kg (v := .ref (wb v0)) hx hb hts hiX6_bitAt_X6 hown hK hP q hq rfl 0 (by decide) flX6_bitAt_9 rfl rfl dX6_bitAt_11 ?_
    obtain ⟨q, hq, -⟩ := WC_bits hG hv0
    refine va_alen (v := 3) hx hb hK hP q 1 hq rfl rfl dX6_bitAt_14 ?_
    refine lv_icmp_ge (tgt := 38) hx hb dX6_bitAt_15 (by decide) (fun hc => ?_) (fun hc => ?_)
    · have hm := if_t hc hm
      refine lv_iconst (v := 0) hx hb dX6_bitAt_38 (by decide) ?_
      obtain rfl := Option.some.inj hm
      exact hret _ _ _ _ dX6_bitAt_39 hP hS
    · have hm := if_f hc hm
      refine lv_aload_n hx hb dX6_bitAt_18 rfl (lv_at hl 1 rfl) ?_
      obtain ⟨q, hq, -⟩ := WC_W hG hv0
      refine kg (v := .ref (wb v0)) hx hb hts hiX6_bitAt_X6 hown hK hP q hq rfl 0 (by decide) flX6_bitAt_9 rfl rfl dX6_bitAt_19 ?_
      refine lv_iload_n hx hb dX6_bitAt_22 rfl (lv_at hl 0 rfl) ?_
      obtain ⟨hi, hm⟩ := ga_some hm
      obtain ⟨q, hq, -⟩ := WC_bits hG hv0
      refine k_lald hx hb hK hP q 1 hq rfl rfl hi dX6_bitAt_23 ?_
      refine lv_bipush (v := 63) hx hb dX6_bitAt_24 (by decide) ?_
      refine lv_iload_n hx hb dX6_bitAt_26 rfl (lv_at hl 2 rfl) ?_
      refine lv_bipush (v := 63) hx hb dX6_bitAt_27 (by decide) ?_
      refine lv_iand hx hb dX6_bitAt_29 ?_
      refine lv_isub hx hb dX6_bitAt_30 ?_
      refine lv_lushr hx hb dX6_bitAt_31 rfl ?_
      refine lv_l2i hx hb dX6_bitAt_32 rfl ?_
      refine lv_iconst (v := 1) hx hb dX6_bitAt_33 (by decide) ?_
      refine lv_iand hx hb dX6_bitAt_34 ?_
      refine lv_goto (tgt := 39) hx hb dX6_bitAt_35 (by decide) ?_
      obtain rfl := Option.some.inj hm
      exact hret _ _ _ _ dX6_bitAt_39 hP hS
theorem hdX5_step : yX5_step.cls = RX5 ∧ yX5_step.cls ≠ "java/lang/invoke/MethodHandle" ∧ yX5_step.cls ≠ "java/lang/invoke/VarHandle" ∧ (parseMethodDescriptor yX5_step.desc).map (fun d => d.parameters.length) = some 1 := by decide +kernel
theorem hiX5_step_X5 : ∀ w ∈ u_ws RX5 TX5 7, w ∈ wsX5_step := by decide +kernel
theorem flX5_step_34 : Cond.fieldLink RX5 34 "BlindPages$Tree" "lastLeft" "I" ∈ wsX5_step := by decide +kernel
theorem flX5_step_22 : Cond.fieldLink RX5 22 "BlindPages$Tree" "to" "I" ∈ wsX5_step := by decide +kernel
theorem flX5_step_19 : Cond.fieldLink RX5 19 "BlindPages$Tree" "from" "I" ∈ wsX5_step := by decide +kernel
theorem flX5_step_25 : Cond.fieldLink RX5 25 "BlindPages$Tree" "above" "I" ∈ wsX5_step := by decide +kernel
def C5_step (c_lastLeft : Int32) (c_from c_to c_above : Int32) (v1 : Int32) : Option (Int32 × Int32 × Int32) := if v1 = 0 then (some ((c_lastLeft + 1), c_to, (c_above + 1))) else (some (c_from, c_lastLeft, (c_above + 1)))
set_option maxRecDepth 100000 in
set_option maxHeartbeats 4000000 in
theorem c_X5_step {l : Launch} {D : va_G} {cI cJ cB cL cS cW : ClassId} {a wb sw se : Nat → Nat} {LW LS LK : List Nat} {c_bytes c_heads c_firsts c_levelOf c_aboveOf c_partings c_signs c_count c_pages c_levels c_most c_page c_known c_guess c_diff c_pieces c_place : Nat → Int32} {c_bits : Nat → Nat → Int64} {c_words : Nat → Nat → Nat} {c_entries : Nat → Nat → Int32} {c_bads c_noes c_fulls c_length c_next c_kept c_base c_from c_to c_above c_bit c_lastLeft : Int32} {v1 : Int32} {o_from : Int32} {o_to : Int32} {o_above : Int32} (hG : kG a LW LS LK) (hm : C5_step c_lastLeft c_from c_to c_above v1 = some (o_from, o_to, o_above)) : k_MV l yX5_step wsX5_step { frames := 0, cells := 0, slots := 0, locals := 0 } D (kT cI cJ cB cL cS cW) [.ref (a 8), .int v1] (WC a wb sw se LW LS LK cI cJ cB cL cS cW c_bytes c_heads c_firsts c_levelOf c_aboveOf c_partings c_signs c_count c_pages c_levels c_most c_page c_known c_guess c_diff c_pieces c_place c_bits c_words c_entries c_bads c_noes c_fulls c_length c_next c_kept c_base c_from c_to c_above c_bit c_lastLeft) (WC a wb sw se LW LS LK cI cJ cB cL cS cW c_bytes c_heads c_firsts c_levelOf c_aboveOf c_partings c_signs c_count c_pages c_levels c_most c_page c_known c_guess c_diff c_pieces c_place c_bits c_words c_entries c_bads c_noes c_fulls c_length c_next c_kept c_base o_from o_to o_above c_bit c_lastLeft) := by
  refine k_ofV (cc := cX5_step) (maxL := 2) (own := RX5) (by decide) rfl rfl (Nat.le_of_ble_eq_true rfl) ?_
  intro p e s m args below meth c A Q ls C hP hD hl hret
  have hD : va_D A (WC0 a wb sw se LW LS LK cI cJ cB cL cS cW) := WCD hD
  have hS : va_S A s.heap s.heap [] := va_S.rf
  have hl : lv_has ls 2 [(0, .ref (a 8)), (1, .int v1)] := hl
  obtain ⟨hx, hb, hml, hr, hown, hts, hlocks, hK, hA, hN⟩ := id C
  rw [C5_step] at hm
  refine lv_iload_n hx hb dX5_step_0 rfl (lv_at hl 1 rfl) ?_
  refine lv_if_eq (tgt := 15) hx hb dX5_step_1 (by decide) (fun hc => ?_) (fun hc => ?_)
  · have hm := if_t hc hm
    refine lv_aload_n hx hb dX5_step_15 rfl (lv_at hl 0 rfl) ?_
    refine lv_aload_n hx hb dX5_step_16 rfl (lv_at hl 0 rfl) ?_
    refine kg (v := .int c_lastLeft) hx hb hts hiX5_step_X5 hown hK hP 8 rfl rfl 6 (by decide) flX5_step_34 rfl rfl dX5_step_17 ?_
    refine lv_iconst (v := 1) hx hb dX5_step_20 (by decide) ?_
    refine lv_iadd hx hb dX5_step_21 ?_
    refine kp hx hb hts hiX5_step_X5 tyX5 tyX5_ok nmX5 hown hK hP (WCD hD) hS 8 rfl rfl 2 (by decide) flX5_step_19 rfl rfl rfl (Nat.le_of_ble_eq_true rfl) dX5_step_22 (fun H locs hP hS => ?_)
    have hP : va_P D vwCl (WC a wb sw se LW LS LK cI cJ cB cL cS cW c_bytes c_heads c_firsts c_levelOf c_aboveOf c_partings c_signs c_count c_pages c_levels c_most c_page c_known c_guess c_diff c_pieces c_place c_bits c_words c_entries c_bads c_noes c_fulls c_length c_next c_kept c_base (c_lastLeft + 1) c_to c_above c_bit c_lastLeft) H := hP
    refine lv_aload_n hx hb dX5_step_25 rfl (lv_at hl 0 rfl) ?_
    refine lv_dup hx hb dX5_step_26 rfl ?_
    refine kg (v := .int c_above) hx hb hts hiX5_step_X5 hown hK hP 8 rfl rfl 4 (by decide) flX5_step_25 rfl rfl dX5_step_27 ?_
    refine lv_iconst (v := 1) hx hb dX5_step_30 (by decide) ?_
    refine lv_iadd hx hb dX5_step_31 ?_
    refine kp hx hb hts hiX5_step_X5 tyX5 tyX5_ok nmX5 hown hK hP (WCD hD) hS 8 rfl rfl 4 (by decide) flX5_step_25 rfl rfl rfl (Nat.le_of_ble_eq_true rfl) dX5_step_32 (fun H locs hP hS => ?_)
    have hP : va_P D vwCl (WC a wb sw se LW LS LK cI cJ cB cL cS cW c_bytes c_heads c_firsts c_levelOf c_aboveOf c_partings c_signs c_count c_pages c_levels c_most c_page c_known c_guess c_diff c_pieces c_place c_bits c_words c_entries c_bads c_noes c_fulls c_length c_next c_kept c_base (c_lastLeft + 1) c_to (c_above + 1) c_bit c_lastLeft) H := hP
    simp only [Option.some.injEq, Prod.mk.injEq] at hm
    obtain ⟨rfl, rfl, rfl⟩ := hm
    exact hret _ _ _ _ dX5_step_35 hP hS
  · have hm := if_f hc hm
    refine lv_aload_n hx hb dX5_step_4 rfl (lv_at hl 0 rfl) ?_
    refine lv_aload_n hx hb dX5_step_5 rfl (lv_at hl 0 rfl) ?_
    refine kg (v := .int c_lastLeft) hx hb hts hiX5_step_X5 hown hK hP 8 rfl rfl 6 (by decide) flX5_step_34 rfl rfl dX5_step_6 ?_
    refine kp hx hb hts hiX5_step_X5 tyX5 tyX5_ok nmX5 hown hK hP (WCD hD) hS 8 rfl rfl 3 (by decide) flX5_step_22 rfl rfl rfl (Nat.le_of_ble_eq_true rfl) dX5_step_9 (fun H locs hP hS => ?_)
    have hP : va_P D vwCl (WC a wb sw se LW LS LK cI cJ cB cL cS cW c_bytes c_heads c_firsts c_levelOf c_aboveOf c_partings c_signs c_count c_pages c_levels c_most c_page c_known c_guess c_diff c_pieces c_place c_bits c_words c_entries c_bads c_noes c_fulls c_length c_next c_kept c_base c_from c_lastLeft c_above c_bit c_lastLeft) H := hP
    refine lv_goto (tgt := 25) hx hb dX5_step_12 (by decide) ?_
    refine lv_aload_n hx hb dX5_step_25 rfl (lv_at hl 0 rfl) ?_
    refine lv_dup hx hb dX5_step_26 rfl ?_
    refine kg (v := .int c_above) hx hb hts hiX5_step_X5 hown hK hP 8 rfl rfl 4 (by decide) flX5_step_25 rfl rfl dX5_step_27 ?_
    refine lv_iconst (v := 1) hx hb dX5_step_30 (by decide) ?_
    refine lv_iadd hx hb dX5_step_31 ?_
    refine kp hx hb hts hiX5_step_X5 tyX5 tyX5_ok nmX5 hown hK hP (WCD hD) hS 8 rfl rfl 4 (by decide) flX5_step_25 rfl rfl rfl (Nat.le_of_ble_eq_true rfl) dX5_step_32 (fun H locs hP hS => ?_)
    have hP : va_P D vwCl (WC a wb sw se LW LS LK cI cJ cB cL cS cW c_bytes c_heads c_firsts c_levelOf c_aboveOf c_partings c_signs c_count c_pages c_levels c_most c_page c_known c_guess c_diff c_pieces c_place c_bits c_words c_entries c_bads c_noes c_fulls c_length c_next c_kept c_base c_from c_lastLeft (c_above + 1) c_bit c_lastLeft) H := hP
    simp only [Option.some.injEq, Prod.mk.injEq] at hm
    obtain ⟨rfl, rfl, rfl⟩ := hm
    exact hret _ _ _ _ dX5_step_35 hP hS
theorem hdX5_descend : yX5_descend.cls = RX5 ∧ yX5_descend.cls ≠ "java/lang/invoke/MethodHandle" ∧ yX5_descend.cls ≠ "java/lang/invoke/VarHandle" ∧ (parseMethodDescriptor yX5_descend.desc).map (fun d => d.parameters.length) = some 2 := by decide +kernel
theorem hiX5_descend_X5 : ∀ w ∈ u_ws RX5 TX5 7, w ∈ wsX5_descend := by decide +kernel
theorem flX5_descend_19 : Cond.fieldLink RX5 19 "BlindPages$Tree" "from" "I" ∈ wsX5_descend := by decide +kernel
theorem flX5_descend_22 : Cond.fieldLink RX5 22 "BlindPages$Tree" "to" "I" ∈ wsX5_descend := by decide +kernel
theorem flX5_descend_31 : Cond.fieldLink RX5 31 "BlindPages$Tree" "bit" "I" ∈ wsX5_descend := by decide +kernel
def C5_descend_J44 (c_partings : Nat → Int32) (c_bits : Nat → Nat → Int64) (c_base : Int32) (v1 : Nat) (v2 : Int32) (k2 : Int32 → Int32 → Int32 → Int32 → Int32 → Int32 → Option (Int32 × Int32 × Int32 × Int32 × Int32)) (k57 : Int32 → Int32 → Int32 → Int32 → Int32 → Option (Int32 × Int32 × Int32 × Int32 × Int32)) (c_from : Int32) (c_to : Int32) (c_above : Int32) (c_bit : Int32) (c_lastLeft : Int32) (v3 : Int32) (t1 : Int32) : Option (Int32 × Int32 × Int32 × Int32 × Int32) := bd3 (C5_step c_lastLeft c_from c_to c_above t1) fun c_from_44 c_to_44 c_above_44 => bd2 (C5_findFork c_partings c_base c_from_44 c_to_44 c_bit c_lastLeft) fun c_bit_48 c_lastLeft_48 => k2 c_from_44 c_to_44 c_above_44 c_bit_48 c_lastLeft_48 (v3 + 1)
def C5_descend_L2 (c_partings : Nat → Int32) (c_bits : Nat → Nat → Int64) (c_base : Int32) (v1 : Nat) (v2 : Int32) (k57 : Int32 → Int32 → Int32 → Int32 → Int32 → Option (Int32 × Int32 × Int32 × Int32 × Int32)) : Nat → Int32 → Int32 → Int32 → Int32 → Int32 → Int32 → Option (Int32 × Int32 × Int32 × Int32 × Int32)
  | 0, _, _, _, _, _, _ => none
  | n + 1, c_from, c_to, c_above, c_bit, c_lastLeft, v3 => if 8 ≤ v3 then (k57 c_from c_to c_above c_bit c_lastLeft) else (if c_to ≤ c_from then (k57 c_from c_to c_above c_bit c_lastLeft) else (if v2 ≤ c_bit then (k57 c_from c_to c_above c_bit c_lastLeft) else (bd1 (C6_bitAt c_bits v1 c_bit) fun r33 => if r33 = 0 then (C5_descend_J44 c_partings c_bits c_base v1 v2 (C5_descend_L2 c_partings c_bits c_base v1 v2 k57 n) k57 c_from c_to c_above c_bit c_lastLeft v3 1) else (C5_descend_J44 c_partings c_bits c_base v1 v2 (C5_descend_L2 c_partings c_bits c_base v1 v2 k57 n) k57 c_from c_to c_above c_bit c_lastLeft v3 0))))
def C5_descend (c_partings : Nat → Int32) (c_bits : Nat → Nat → Int64) (c_base : Int32) (c_from c_to c_above c_bit c_lastLeft : Int32) (v1 : Nat) (v2 : Int32) : Option (Int32 × Int32 × Int32 × Int32 × Int32) := C5_descend_L2 c_partings c_bits c_base v1 v2 (fun c_from c_to c_above c_bit c_lastLeft => some (c_from, c_to, c_above, c_bit, c_lastLeft)) FU c_from c_to c_above c_bit c_lastLeft 0
set_option maxRecDepth 100000 in
set_option maxHeartbeats 4000000 in
theorem t_C5_descend_J44 {p : Program} {l : Launch} {e : Env} {s : State} {m : MethodId} {args : Array Value} {below : List Frame} {meth : Method} {c : Code} {Q : State → Prop} {A : Nat → Prop} {D : va_G} {cI cJ cB cL cS cW : ClassId} {a wb sw se : Nat → Nat} {LW LS LK : List Nat} {c_bytes c_heads c_firsts c_levelOf c_aboveOf c_partings c_signs c_count c_pages c_levels c_most c_page c_known c_guess c_diff c_pieces c_place : Nat → Int32} {c_bits : Nat → Nat → Int64} {c_words : Nat → Nat → Nat} {c_entries : Nat → Nat → Int32} {c_bads c_noes c_fulls c_length c_next c_kept c_base : Int32} {v1 : Nat} {v2 : Int32} {o_from : Int32} {o_to : Int32} {o_above : Int32} {o_bit : Int32} {o_lastLeft : Int32} (C : k_C p s m args meth c cX5_descend 4 none RX5 wsX5_descend D (kT cI cJ cB cL cS cW) A) (hD : va_D A (WC0 a wb sw se LW LS LK cI cJ cB cL cS cW)) (hG : kG a LW LS LK) (hv1 : v1 ∈ LW) (hret : ∀ (H : Heap) (locs : List Loc) (pc : Nat) (ls : Array Slot), decode cX5_descend pc = .ok (.return_, 1) → va_P D vwCl (WC a wb sw se LW LS LK cI cJ cB cL cS cW c_bytes c_heads c_firsts c_levelOf c_aboveOf c_partings c_signs c_count c_pages c_levels c_most c_page c_known c_guess c_diff c_pieces c_place c_bits c_words c_entries c_bads c_noes c_fulls c_length c_next c_kept c_base o_from o_to o_above o_bit o_lastLeft) H → va_S A s.heap H locs → W p l e { frames := 1, cells := 0, slots := 0, locals := 22 } s m args below meth c H locs 0 0 Q (F0 m pc ls [])) {k2 : Int32 → Int32 → Int32 → Int32 → Int32 → Int32 → Option (Int32 × Int32 × Int32 × Int32 × Int32)} (hk2 : ∀ (c_from : Int32) (c_to : Int32) (c_above : Int32) (c_bit : Int32) (c_lastLeft : Int32) (v3 : Int32) (H : Heap) (locs : List Loc) (ls : Array Slot), va_P D vwCl (WC a wb sw se LW LS LK cI cJ cB cL cS cW c_bytes c_heads c_firsts c_levelOf c_aboveOf c_partings c_signs c_count c_pages c_levels c_most c_page c_known c_guess c_diff c_pieces c_place c_bits c_words c_entries c_bads c_noes c_fulls c_length c_next c_kept c_base c_from c_to c_above c_bit c_lastLeft) H → va_S A s.heap H locs → lv_has ls 4 [(0, .ref (a 8)), (1, .ref v1), (2, .int v2), (3, .int v3)] → k2 c_from c_to c_above c_bit c_lastLeft v3 = some (o_from, o_to, o_above, o_bit, o_lastLeft) → W p l e { frames := 1, cells := 0, slots := 0, locals := 22 } s m args below meth c H locs 0 0 Q (F0 m 2 ls [])) {k57 : Int32 → Int32 → Int32 → Int32 → Int32 → Option (Int32 × Int32 × Int32 × Int32 × Int32)} (hk57 : ∀ (c_from : Int32) (c_to : Int32) (c_above : Int32) (c_bit : Int32) (c_lastLeft : Int32) (H : Heap) (locs : List Loc) (ls : Array Slot), va_P D vwCl (WC a wb sw se LW LS LK cI cJ cB cL cS cW c_bytes c_heads c_firsts c_levelOf c_aboveOf c_partings c_signs c_count c_pages c_levels c_most c_page c_known c_guess c_diff c_pieces c_place c_bits c_words c_entries c_bads c_noes c_fulls c_length c_next c_kept c_base c_from c_to c_above c_bit c_lastLeft) H → va_S A s.heap H locs → lv_has ls 4 [] → k57 c_from c_to c_above c_bit c_lastLeft = some (o_from, o_to, o_above, o_bit, o_lastLeft) → W p l e { frames := 1, cells := 0, slots := 0, locals := 22 } s m args below meth c H locs 0 0 Q (F0 m 57 ls [])) : ∀ (c_from : Int32) (c_to : Int32) (c_above : Int32) (c_bit : Int32) (c_lastLeft : Int32) (v3 : Int32) (t1 : Int32) (H : Heap) (locs : List Loc) (ls : Array Slot), va_P D vwCl (WC a wb sw se LW LS LK cI cJ cB cL cS cW c_bytes c_heads c_firsts c_levelOf c_aboveOf c_partings c_signs c_count c_pages c_levels c_most c_page c_known c_guess c_diff c_pieces c_place c_bits c_words c_entries c_bads c_noes c_fulls c_length c_next c_kept c_base c_from c_to c_above c_bit c_lastLeft) H → va_S A s.heap H locs → lv_has ls 4 [(0, .ref (a 8)), (1, .ref v1), (2, .int v2), (3, .int v3)] → C5_descend_J44 c_partings c_bits c_base v1 v2 k2 k57 c_from c_to c_above c_bit c_lastLeft v3 t1 = some (o_from, o_to, o_above, o_bit, o_lastLeft) → W p l e { frames := 1, cells := 0, slots := 0, locals := 22 } s m args below meth c H locs 0 0 Q (F0 m 44 ls [.int t1, .ref (a 8)]) := by
  obtain ⟨hx, hb, hml, hr, hown, hts, hlocks, hK, hA, hN⟩ := id C
  intro c_from c_to c_above c_bit c_lastLeft v3 t1 H locs ls hP hS hl hm
  rw [C5_descend_J44] at hm
  obtain ⟨c_from_44, c_to_44, c_above_44, hq0, hm⟩ := bd3_some hm
  refine k_callVV (As := [.int t1]) (rest := []) ⟨hx, hb, hml, hown, hts⟩ hK hA hN (c_X5_step hG hq0) (cwV 1 hts gX5_descend_X5_step rfl rfl rfl hdX5_step ⟨Nat.le_of_ble_eq_true rfl, Nat.le_of_ble_eq_true rfl⟩) hP (WCD hD) hS 8 5 rfl rfl rfl hl.1 rfl rfl (Nat.le_of_ble_eq_true rfl) ⟨Nat.zero_le _, Nat.zero_le _⟩ dX5_descend_44 (fun H locs hP hS => ?_)
  refine lv_aload_n hx hb dX5_descend_47 rfl (lv_at hl 0 rfl) ?_
  obtain ⟨c_bit_48, c_lastLeft_48, hq0, hm⟩ := bd2_some hm
  refine k_callVV (As := []) (rest := []) ⟨hx, hb, hml, hown, hts⟩ hK hA hN (c_X5_findFork hG hq0) (cwV 0 hts gX5_descend_X5_findFork rfl rfl rfl hdX5_findFork ⟨Nat.le_of_ble_eq_true rfl, Nat.le_of_ble_eq_true rfl⟩) hP (WCD hD) hS 8 5 rfl rfl rfl hl.1 rfl rfl (Nat.le_of_ble_eq_true rfl) ⟨Nat.zero_le _, Nat.zero_le _⟩ dX5_descend_48 (fun H locs hP hS => ?_)
  refine lv_iinc (v := (v3 + 1)) (lv' := [(3, .int (v3 + 1)), (0, .ref (a 8)), (1, .ref v1), (2, .int v2)]) hx hb dX5_descend_51 hl (k := 3) rfl rfl (by decide) rfl (fun ls hl => ?_)
  refine lv_goto (tgt := 2) hx hb dX5_descend_54 (by decide) ?_
  exact hk2 _ _ _ _ _ _ _ _ _ hP hS (lv_sub hl [1, 2, 3, 0] rfl) hm
set_option maxRecDepth 100000 in
set_option maxHeartbeats 4000000 in
theorem t_C5_descend_L2 {p : Program} {l : Launch} {e : Env} {s : State} {m : MethodId} {args : Array Value} {below : List Frame} {meth : Method} {c : Code} {Q : State → Prop} {A : Nat → Prop} {D : va_G} {cI cJ cB cL cS cW : ClassId} {a wb sw se : Nat → Nat} {LW LS LK : List Nat} {c_bytes c_heads c_firsts c_levelOf c_aboveOf c_partings c_signs c_count c_pages c_levels c_most c_page c_known c_guess c_diff c_pieces c_place : Nat → Int32} {c_bits : Nat → Nat → Int64} {c_words : Nat → Nat → Nat} {c_entries : Nat → Nat → Int32} {c_bads c_noes c_fulls c_length c_next c_kept c_base : Int32} {v1 : Nat} {v2 : Int32} {o_from : Int32} {o_to : Int32} {o_above : Int32} {o_bit : Int32} {o_lastLeft : Int32} (C : k_C p s m args meth c cX5_descend 4 none RX5 wsX5_descend D (kT cI cJ cB cL cS cW) A) (hD : va_D A (WC0 a wb sw se LW LS LK cI cJ cB cL cS cW)) (hG : kG a LW LS LK) (hv1 : v1 ∈ LW) (hret : ∀ (H : Heap) (locs : List Loc) (pc : Nat) (ls : Array Slot), decode cX5_descend pc = .ok (.return_, 1) → va_P D vwCl (WC a wb sw se LW LS LK cI cJ cB cL cS cW c_bytes c_heads c_firsts c_levelOf c_aboveOf c_partings c_signs c_count c_pages c_levels c_most c_page c_known c_guess c_diff c_pieces c_place c_bits c_words c_entries c_bads c_noes c_fulls c_length c_next c_kept c_base o_from o_to o_above o_bit o_lastLeft) H → va_S A s.heap H locs → W p l e { frames := 1, cells := 0, slots := 0, locals := 22 } s m args below meth c H locs 0 0 Q (F0 m pc ls [])) {k57 : Int32 → Int32 → Int32 → Int32 → Int32 → Option (Int32 × Int32 × Int32 × Int32 × Int32)} (hk57 : ∀ (c_from : Int32) (c_to : Int32) (c_above : Int32) (c_bit : Int32) (c_lastLeft : Int32) (H : Heap) (locs : List Loc) (ls : Array Slot), va_P D vwCl (WC a wb sw se LW LS LK cI cJ cB cL cS cW c_bytes c_heads c_firsts c_levelOf c_aboveOf c_partings c_signs c_count c_pages c_levels c_most c_page c_known c_guess c_diff c_pieces c_place c_bits c_words c_entries c_bads c_noes c_fulls c_length c_next c_kept c_base c_from c_to c_above c_bit c_lastLeft) H → va_S A s.heap H locs → lv_has ls 4 [] → k57 c_from c_to c_above c_bit c_lastLeft = some (o_from, o_to, o_above, o_bit, o_lastLeft) → W p l e { frames := 1, cells := 0, slots := 0, locals := 22 } s m args below meth c H locs 0 0 Q (F0 m 57 ls [])) : ∀ n : Nat, ∀ (c_from : Int32) (c_to : Int32) (c_above : Int32) (c_bit : Int32) (c_lastLeft : Int32) (v3 : Int32) (H : Heap) (locs : List Loc) (ls : Array Slot), va_P D vwCl (WC a wb sw se LW LS LK cI cJ cB cL cS cW c_bytes c_heads c_firsts c_levelOf c_aboveOf c_partings c_signs c_count c_pages c_levels c_most c_page c_known c_guess c_diff c_pieces c_place c_bits c_words c_entries c_bads c_noes c_fulls c_length c_next c_kept c_base c_from c_to c_above c_bit c_lastLeft) H → va_S A s.heap H locs → lv_has ls 4 [(0, .ref (a 8)), (1, .ref v1), (2, .int v2), (3, .int v3)] → (C5_descend_L2 c_partings c_bits c_base v1 v2 k57 n) c_from c_to c_above c_bit c_lastLeft v3 = some (o_from, o_to, o_above, o_bit, o_lastLeft) → W p l e { frames := 1, cells := 0, slots := 0, locals := 22 } s m args below meth c H locs 0 0 Q (F0 m 2 ls []) := by
  obtain ⟨hx, hb, hml, hr, hown, hts, hlocks, hK, hA, hN⟩ := id C
  intro n
  induction n with
  | zero =>
    intro c_from c_to c_above c_bit c_lastLeft v3 H locs ls hP hS hl hm
    cases hm
  | succ n ih =>
    intro c_from c_to c_above c_bit c_lastLeft v3 H locs ls hP hS hl hm
    rw [C5_descend_L2] at hm
    refine lv_iload_n hx hb dX5_descend_2 rfl (lv_at hl 3 rfl) ?_
    refine lv_bipush (v := 8) hx hb dX5_descend_3 (by decide) ?_
    refine lv_icmp_ge (tgt := 57) hx hb dX5_descend_5 (by decide) (fun hc => ?_) (fun hc => ?_)
    · have hm := if_t hc hm
      exact hk57 _ _ _ _ _ _ _ _ hP hS (lv_sub hl [] rfl) hm
    · have hm := if_f hc hm
      refine lv_aload_n hx hb dX5_descend_8 rfl (lv_at hl 0 rfl) ?_
      refine kg (v := .int c_from) hx hb hts hiX5_descend_X5 hown hK hP 8 rfl rfl 2 (by decide) flX5_descend_19 rfl rfl dX5_descend_9 ?_
      refine lv_aload_n hx hb dX5_descend_12 rfl (lv_at hl 0 rfl) ?_
      refine kg (v := .int c_to) hx hb hts hiX5_descend_X5 hown hK hP 8 rfl rfl 3 (by decide) flX5_descend_22 rfl rfl dX5_descend_13 ?_
      refine lv_icmp_ge (tgt := 57) hx hb dX5_descend_16 (by decide) (fun hc => ?_) (fun hc => ?_)
      · have hm := if_t hc hm
        exact hk57 _ _ _ _ _ _ _ _ hP hS (lv_sub hl [] rfl) hm
      · have hm := if_f hc hm
        refine lv_aload_n hx hb dX5_descend_19 rfl (lv_at hl 0 rfl) ?_
        refine kg (v := .int c_bit) hx hb hts hiX5_descend_X5 hown hK hP 8 rfl rfl 5 (by decide) flX5_descend_31 rfl rfl dX5_descend_20 ?_
        refine lv_iload_n hx hb dX5_descend_23 rfl (lv_at hl 2 rfl) ?_
        refine lv_icmp_ge (tgt := 57) hx hb dX5_descend_24 (by decide) (fun hc => ?_) (fun hc => ?_)
        · have hm := if_t hc hm
          exact hk57 _ _ _ _ _ _ _ _ hP hS (lv_sub hl [] rfl) hm
        · have hm := if_f hc hm
          refine lv_aload_n hx hb dX5_descend_27 rfl (lv_at hl 0 rfl) ?_
          refine lv_aload_n hx hb dX5_descend_28 rfl (lv_at hl 1 rfl) ?_
          refine lv_aload_n hx hb dX5_descend_29 rfl (lv_at hl 0 rfl) ?_
          refine kg (v := .int c_bit) hx hb hts hiX5_descend_X5 hown hK hP 8 rfl rfl 5 (by decide) flX5_descend_31 rfl rfl dX5_descend_30 ?_
          obtain ⟨r33, hq0, hm⟩ := bd1_some hm
          obtain ⟨q, hq, -⟩ := WC_W hG hv1
          refine k_callVI (As := [.int c_bit]) (rest := [.ref (a 8)]) ⟨hx, hb, hml, hown, hts⟩ hK hA hN (c_X6_bitAt hG hv1 hq0) (cwV 1 hts gX5_descend_X6_bitAt rfl rfl rfl hdX6_bitAt ⟨Nat.le_of_ble_eq_true rfl, Nat.le_of_ble_eq_true rfl⟩) hP (WCD hD) hS q 6 hq rfl rfl hl.1 rfl rfl (Nat.le_of_ble_eq_true rfl) ⟨Nat.zero_le _, Nat.zero_le _⟩ dX5_descend_33 (fun H locs hP hS => ?_)
          refine lv_if_ne (tgt := 43) hx hb dX5_descend_36 (by decide) (fun hc => ?_) (fun hc => ?_)
          · have hm := if_f hc hm
            refine lv_iconst (v := 0) hx hb dX5_descend_43 (by decide) ?_
            exact t_C5_descend_J44 C hD hG hv1 hret ih hk57 _ _ _ _ _ _ _ _ _ _ hP hS (lv_sub hl [0, 1, 2, 3] rfl) hm
          · have hm := if_t hc hm
            refine lv_iconst (v := 1) hx hb dX5_descend_39 (by decide) ?_
            refine lv_goto (tgt := 44) hx hb dX5_descend_40 (by decide) ?_
            exact t_C5_descend_J44 C hD hG hv1 hret ih hk57 _ _ _ _ _ _ _ _ _ _ hP hS (lv_sub hl [0, 1, 2, 3] rfl) hm
set_option maxRecDepth 100000 in
set_option maxHeartbeats 4000000 in
theorem c_X5_descend {l : Launch} {D : va_G} {cI cJ cB cL cS cW : ClassId} {a wb sw se : Nat → Nat} {LW LS LK : List Nat} {c_bytes c_heads c_firsts c_levelOf c_aboveOf c_partings c_signs c_count c_pages c_levels c_most c_page c_known c_guess c_diff c_pieces c_place : Nat → Int32} {c_bits : Nat → Nat → Int64} {c_words : Nat → Nat → Nat} {c_entries : Nat → Nat → Int32} {c_bads c_noes c_fulls c_length c_next c_kept c_base c_from c_to c_above c_bit c_lastLeft : Int32} {v1 : Nat} {v2 : Int32} {o_from : Int32} {o_to : Int32} {o_above : Int32} {o_bit : Int32} {o_lastLeft : Int32} (hG : kG a LW LS LK) (hv1 : v1 ∈ LW) (hm : C5_descend c_partings c_bits c_base c_from c_to c_above c_bit c_lastLeft v1 v2 = some (o_from, o_to, o_above, o_bit, o_lastLeft)) : k_MV l yX5_descend wsX5_descend { frames := 1, cells := 0, slots := 0, locals := 22 } D (kT cI cJ cB cL cS cW) [.ref (a 8), .ref v1, .int v2] (WC a wb sw se LW LS LK cI cJ cB cL cS cW c_bytes c_heads c_firsts c_levelOf c_aboveOf c_partings c_signs c_count c_pages c_levels c_most c_page c_known c_guess c_diff c_pieces c_place c_bits c_words c_entries c_bads c_noes c_fulls c_length c_next c_kept c_base c_from c_to c_above c_bit c_lastLeft) (WC a wb sw se LW LS LK cI cJ cB cL cS cW c_bytes c_heads c_firsts c_levelOf c_aboveOf c_partings c_signs c_count c_pages c_levels c_most c_page c_known c_guess c_diff c_pieces c_place c_bits c_words c_entries c_bads c_noes c_fulls c_length c_next c_kept c_base o_from o_to o_above o_bit o_lastLeft) := by
  refine k_ofV (cc := cX5_descend) (maxL := 4) (own := RX5) (by decide) rfl rfl (Nat.le_of_ble_eq_true rfl) ?_
  intro p e s m args below meth c A Q ls C hP hD hl hret
  have hD : va_D A (WC0 a wb sw se LW LS LK cI cJ cB cL cS cW) := WCD hD
  have hS : va_S A s.heap s.heap [] := va_S.rf
  have hl : lv_has ls 4 [(0, .ref (a 8)), (1, .ref v1), (2, .int v2)] := hl
  obtain ⟨hx, hb, hml, hr, hown, hts, hlocks, hK, hA, hN⟩ := id C
  rw [C5_descend] at hm
  refine lv_iconst (v := 0) hx hb dX5_descend_0 (by decide) ?_
  refine lv_istore_n (lv' := [(3, .int 0), (0, .ref (a 8)), (1, .ref v1), (2, .int v2)]) hx hb dX5_descend_1 rfl hl (by decide) rfl (fun ls hl => ?_)
  refine t_C5_descend_L2 C hD hG hv1 hret ?_ FU _ _ _ _ _ _ _ _ _ hP hS (lv_sub hl [1, 2, 3, 0] rfl) hm
  · intro c_from c_to c_above c_bit c_lastLeft H locs ls hP hS hl hm
    try dsimp only at hm
    simp only [Option.some.injEq, Prod.mk.injEq] at hm
    obtain ⟨rfl, rfl, rfl, rfl, rfl⟩ := hm
    exact hret _ _ _ _ dX5_descend_57 hP hS
theorem hdX0_headOf : yX0_headOf.cls = RX0 ∧ yX0_headOf.cls ≠ "java/lang/invoke/MethodHandle" ∧ yX0_headOf.cls ≠ "java/lang/invoke/VarHandle" ∧ (parseMethodDescriptor yX0_headOf.desc).map (fun d => d.parameters.length) = some 1 := by decide +kernel
theorem hiX0_headOf_X0 : ∀ w ∈ u_ws RX0 TX0 7, w ∈ wsX0_headOf := by decide +kernel
theorem flX0_headOf_18 : Cond.fieldLink RX0 18 "BlindPages$Index" "heads" "[I" ∈ wsX0_headOf := by decide +kernel
def C0_headOf (c_heads : Nat → Int32) (v1 : Int32) : Option (Int32) := if v1 < 0 then (some 0) else (if 96 ≤ v1 then (some 0) else (ga v1 96 (some (c_heads v1.toNatClampNeg))))
set_option maxRecDepth 100000 in
set_option maxHeartbeats 4000000 in
theorem c_X0_headOf {l : Launch} {D : va_G} {cI cJ cB cL cS cW : ClassId} {a wb sw se : Nat → Nat} {LW LS LK : List Nat} {c_bytes c_heads c_firsts c_levelOf c_aboveOf c_partings c_signs c_count c_pages c_levels c_most c_page c_known c_guess c_diff c_pieces c_place : Nat → Int32} {c_bits : Nat → Nat → Int64} {c_words : Nat → Nat → Nat} {c_entries : Nat → Nat → Int32} {c_bads c_noes c_fulls c_length c_next c_kept c_base c_from c_to c_above c_bit c_lastLeft : Int32} {v1 : Int32} {r : Int32} (hG : kG a LW LS LK) (hm : C0_headOf c_heads v1 = some r) : k_MI l yX0_headOf wsX0_headOf { frames := 0, cells := 0, slots := 0, locals := 0 } D (kT cI cJ cB cL cS cW) [.ref (a 3), .int v1] (WC a wb sw se LW LS LK cI cJ cB cL cS cW c_bytes c_heads c_firsts c_levelOf c_aboveOf c_partings c_signs c_count c_pages c_levels c_most c_page c_known c_guess c_diff c_pieces c_place c_bits c_words c_entries c_bads c_noes c_fulls c_length c_next c_kept c_base c_from c_to c_above c_bit c_lastLeft) r (WC a wb sw se LW LS LK cI cJ cB cL cS cW c_bytes c_heads c_firsts c_levelOf c_aboveOf c_partings c_signs c_count c_pages c_levels c_most c_page c_known c_guess c_diff c_pieces c_place c_bits c_words c_entries c_bads c_noes c_fulls c_length c_next c_kept c_base c_from c_to c_above c_bit c_lastLeft) := by
  refine k_ofI (cc := cX0_headOf) (maxL := 2) (own := RX0) (by decide) rfl rfl (Nat.le_of_ble_eq_true rfl) ?_
  intro p e s m args below meth c A Q ls C hP hD hl hret
  have hD : va_D A (WC0 a wb sw se LW LS LK cI cJ cB cL cS cW) := WCD hD
  have hS : va_S A s.heap s.heap [] := va_S.rf
  have hl : lv_has ls 2 [(0, .ref (a 3)), (1, .int v1)] := hl
  obtain ⟨hx, hb, hml, hr, hown, hts, hlocks, hK, hA, hN⟩ := id C
  rw [C0_headOf] at hm
  refine lv_iload_n hx hb dX0_headOf_0 rfl (lv_at hl 1 rfl) ?_
  refine lv_if_lt (tgt := 22) hx hb dX0_headOf_1 (by decide) (fun hc => ?_) (fun hc => ?_)
  · have hm := if_t hc hm
    refine lv_iconst (v := 0) hx hb dX0_headOf_22 (by decide) ?_
    obtain rfl := Option.some.inj hm
    exact hret _ _ _ _ dX0_headOf_23 hP hS
  · have hm := if_f hc hm
    refine lv_iload_n hx hb dX0_headOf_4 rfl (lv_at hl 1 rfl) ?_
    refine lv_aload_n hx hb dX0_headOf_5 rfl (lv_at hl 0 rfl) ?_
    refine kg (v := .ref (a 4)) hx hb hts hiX0_headOf_X0 hown hK hP 3 rfl rfl 1 (by decide) flX0_headOf_18 rfl rfl dX0_headOf_6 ?_
    refine va_alen (v := 96) hx hb hK hP 4 0 rfl rfl rfl dX0_headOf_9 ?_
    refine lv_icmp_ge (tgt := 22) hx hb dX0_headOf_10 (by decide) (fun hc => ?_) (fun hc => ?_)
    · have hm := if_t hc hm
      refine lv_iconst (v := 0) hx hb dX0_headOf_22 (by decide) ?_
      obtain rfl := Option.some.inj hm
      exact hret _ _ _ _ dX0_headOf_23 hP hS
    · have hm := if_f hc hm
      refine lv_aload_n hx hb dX0_headOf_13 rfl (lv_at hl 0 rfl) ?_
      refine kg (v := .ref (a 4)) hx hb hts hiX0_headOf_X0 hown hK hP 3 rfl rfl 1 (by decide) flX0_headOf_18 rfl rfl dX0_headOf_14 ?_
      refine lv_iload_n hx hb dX0_headOf_17 rfl (lv_at hl 1 rfl) ?_
      obtain ⟨hi, hm⟩ := ga_some hm
      refine k_iald hx hb hK hP 4 0 rfl rfl rfl hi dX0_headOf_18 ?_
      refine lv_goto (tgt := 23) hx hb dX0_headOf_19 (by decide) ?_
      obtain rfl := Option.some.inj hm
      exact hret _ _ _ _ dX0_headOf_23 hP hS
theorem hdX3_wordAt : yX3_wordAt.cls = RX3 ∧ yX3_wordAt.cls ≠ "java/lang/invoke/MethodHandle" ∧ yX3_wordAt.cls ≠ "java/lang/invoke/VarHandle" ∧ (parseMethodDescriptor yX3_wordAt.desc).map (fun d => d.parameters.length) = some 1 := by decide +kernel
theorem hiX3_wordAt_X3 : ∀ w ∈ u_ws RX3 TX3 6, w ∈ wsX3_wordAt := by decide +kernel
theorem flX3_wordAt_11 : Cond.fieldLink RX3 11 "BlindPages$State" "words" "[LBlindPages$Word;" ∈ wsX3_wordAt := by decide +kernel
def C3_wordAt (LW : List Nat) (c_words : Nat → Nat → Nat) (v0 : Nat) (v1 : Int32) : Option (Nat) := if v1 < 0 then (gm LW (c_words v0 0) (some (c_words v0 0))) else (if 48 ≤ v1 then (gm LW (c_words v0 0) (some (c_words v0 0))) else (ga v1 48 (gm LW (c_words v0 v1.toNatClampNeg) (some (c_words v0 v1.toNatClampNeg)))))
set_option maxRecDepth 100000 in
set_option maxHeartbeats 4000000 in
theorem c_X3_wordAt {l : Launch} {D : va_G} {cI cJ cB cL cS cW : ClassId} {a wb sw se : Nat → Nat} {LW LS LK : List Nat} {c_bytes c_heads c_firsts c_levelOf c_aboveOf c_partings c_signs c_count c_pages c_levels c_most c_page c_known c_guess c_diff c_pieces c_place : Nat → Int32} {c_bits : Nat → Nat → Int64} {c_words : Nat → Nat → Nat} {c_entries : Nat → Nat → Int32} {c_bads c_noes c_fulls c_length c_next c_kept c_base c_from c_to c_above c_bit c_lastLeft : Int32} {v0 : Nat} {v1 : Int32} {r : Nat} (hG : kG a LW LS LK) (hv0 : v0 ∈ LS) (hm : C3_wordAt LW c_words v0 v1 = some r) : k_MA l yX3_wordAt wsX3_wordAt { frames := 0, cells := 0, slots := 0, locals := 0 } D (kT cI cJ cB cL cS cW) [.ref v0, .int v1] (WC a wb sw se LW LS LK cI cJ cB cL cS cW c_bytes c_heads c_firsts c_levelOf c_aboveOf c_partings c_signs c_count c_pages c_levels c_most c_page c_known c_guess c_diff c_pieces c_place c_bits c_words c_entries c_bads c_noes c_fulls c_length c_next c_kept c_base c_from c_to c_above c_bit c_lastLeft) r (WC a wb sw se LW LS LK cI cJ cB cL cS cW c_bytes c_heads c_firsts c_levelOf c_aboveOf c_partings c_signs c_count c_pages c_levels c_most c_page c_known c_guess c_diff c_pieces c_place c_bits c_words c_entries c_bads c_noes c_fulls c_length c_next c_kept c_base c_from c_to c_above c_bit c_lastLeft) := by
  refine k_ofA (cc := cX3_wordAt) (maxL := 2) (own := RX3) (by decide) rfl rfl (Nat.le_of_ble_eq_true rfl) ?_
  intro p e s m args below meth c A Q ls C hP hD hl hret
  have hD : va_D A (WC0 a wb sw se LW LS LK cI cJ cB cL cS cW) := WCD hD
  have hS : va_S A s.heap s.heap [] := va_S.rf
  have hl : lv_has ls 2 [(0, .ref v0), (1, .int v1)] := hl
  obtain ⟨hx, hb, hml, hr, hown, hts, hlocks, hK, hA, hN⟩ := id C
  rw [C3_wordAt] at hm
  refine lv_aload_n hx hb dX3_wordAt_0 rfl (lv_at hl 0 rfl) ?_
  obtain ⟨q, hq, -⟩ := WC_S hG hv0
  refine kg (v := .ref (sw v0)) hx hb hts hiX3_wordAt_X3 hown hK hP q hq rfl 0 (by decide) flX3_wordAt_11 rfl rfl dX3_wordAt_1 ?_
  refine lv_iload_n hx hb dX3_wordAt_4 rfl (lv_at hl 1 rfl) ?_
  refine lv_if_lt (tgt := 21) hx hb dX3_wordAt_5 (by decide) (fun hc => ?_) (fun hc => ?_)
  · have hm := if_t hc hm
    refine lv_iconst (v := 0) hx hb dX3_wordAt_21 (by decide) ?_
    obtain ⟨hw22, hm⟩ := gm_some hm
    obtain ⟨q, hq, -⟩ := WC_words hG hv0
    refine k_aald (j := 0) hx hb hK hP q 5 hq rfl rfl (vp_lit (by decide)) dX3_wordAt_22 ?_
    obtain rfl := Option.some.inj hm
    exact hret _ _ _ _ dX3_wordAt_23 hP hS
  · have hm := if_f hc hm
    refine lv_iload_n hx hb dX3_wordAt_8 rfl (lv_at hl 1 rfl) ?_
    refine lv_aload_n hx hb dX3_wordAt_9 rfl (lv_at hl 0 rfl) ?_
    obtain ⟨q, hq, -⟩ := WC_S hG hv0
    refine kg (v := .ref (sw v0)) hx hb hts hiX3_wordAt_X3 hown hK hP q hq rfl 0 (by decide) flX3_wordAt_11 rfl rfl dX3_wordAt_10 ?_
    obtain ⟨q, hq, -⟩ := WC_words hG hv0
    refine va_alen (v := 48) hx hb hK hP q 5 hq rfl rfl dX3_wordAt_13 ?_
    refine lv_icmp_ge (tgt := 21) hx hb dX3_wordAt_14 (by decide) (fun hc => ?_) (fun hc => ?_)
    · have hm := if_t hc hm
      refine lv_iconst (v := 0) hx hb dX3_wordAt_21 (by decide) ?_
      obtain ⟨hw22, hm⟩ := gm_some hm
      obtain ⟨q, hq, -⟩ := WC_words hG hv0
      refine k_aald (j := 0) hx hb hK hP q 5 hq rfl rfl (vp_lit (by decide)) dX3_wordAt_22 ?_
      obtain rfl := Option.some.inj hm
      exact hret _ _ _ _ dX3_wordAt_23 hP hS
    · have hm := if_f hc hm
      refine lv_iload_n hx hb dX3_wordAt_17 rfl (lv_at hl 1 rfl) ?_
      refine lv_goto (tgt := 22) hx hb dX3_wordAt_18 (by decide) ?_
      obtain ⟨hi, hm⟩ := ga_some hm
      obtain ⟨hw22, hm⟩ := gm_some hm
      obtain ⟨q, hq, -⟩ := WC_words hG hv0
      refine k_aald hx hb hK hP q 5 hq rfl rfl hi dX3_wordAt_22 ?_
      obtain rfl := Option.some.inj hm
      exact hret _ _ _ _ dX3_wordAt_23 hP hS
theorem hdX0_headWord : yX0_headWord.cls = RX0 ∧ yX0_headWord.cls ≠ "java/lang/invoke/MethodHandle" ∧ yX0_headWord.cls ≠ "java/lang/invoke/VarHandle" ∧ (parseMethodDescriptor yX0_headWord.desc).map (fun d => d.parameters.length) = some 1 := by decide +kernel
theorem hiX0_headWord_X0 : ∀ w ∈ u_ws RX0 TX0 7, w ∈ wsX0_headWord := by decide +kernel
theorem flX0_headWord_12 : Cond.fieldLink RX0 12 "BlindPages$Index" "now" "LBlindPages$State;" ∈ wsX0_headWord := by decide +kernel
def C0_headWord (a : Nat → Nat) (LW : List Nat) (c_heads : Nat → Int32) (c_words : Nat → Nat → Nat) (v1 : Int32) : Option (Nat) := bd1 (C0_headOf c_heads v1) fun r6 => bd1 (C3_wordAt LW c_words (a 14) r6) fun r9 => gm LW r9 (some r9)
set_option maxRecDepth 100000 in
set_option maxHeartbeats 4000000 in
theorem c_X0_headWord {l : Launch} {D : va_G} {cI cJ cB cL cS cW : ClassId} {a wb sw se : Nat → Nat} {LW LS LK : List Nat} {c_bytes c_heads c_firsts c_levelOf c_aboveOf c_partings c_signs c_count c_pages c_levels c_most c_page c_known c_guess c_diff c_pieces c_place : Nat → Int32} {c_bits : Nat → Nat → Int64} {c_words : Nat → Nat → Nat} {c_entries : Nat → Nat → Int32} {c_bads c_noes c_fulls c_length c_next c_kept c_base c_from c_to c_above c_bit c_lastLeft : Int32} {v1 : Int32} {r : Nat} (hG : kG a LW LS LK) (hm : C0_headWord a LW c_heads c_words v1 = some r) : k_MA l yX0_headWord wsX0_headWord { frames := 1, cells := 0, slots := 0, locals := 21 } D (kT cI cJ cB cL cS cW) [.ref (a 3), .int v1] (WC a wb sw se LW LS LK cI cJ cB cL cS cW c_bytes c_heads c_firsts c_levelOf c_aboveOf c_partings c_signs c_count c_pages c_levels c_most c_page c_known c_guess c_diff c_pieces c_place c_bits c_words c_entries c_bads c_noes c_fulls c_length c_next c_kept c_base c_from c_to c_above c_bit c_lastLeft) r (WC a wb sw se LW LS LK cI cJ cB cL cS cW c_bytes c_heads c_firsts c_levelOf c_aboveOf c_partings c_signs c_count c_pages c_levels c_most c_page c_known c_guess c_diff c_pieces c_place c_bits c_words c_entries c_bads c_noes c_fulls c_length c_next c_kept c_base c_from c_to c_above c_bit c_lastLeft) := by
  refine k_ofA (cc := cX0_headWord) (maxL := 2) (own := RX0) (by decide) rfl rfl (Nat.le_of_ble_eq_true rfl) ?_
  intro p e s m args below meth c A Q ls C hP hD hl hret
  have hD : va_D A (WC0 a wb sw se LW LS LK cI cJ cB cL cS cW) := WCD hD
  have hS : va_S A s.heap s.heap [] := va_S.rf
  have hl : lv_has ls 2 [(0, .ref (a 3)), (1, .int v1)] := hl
  obtain ⟨hx, hb, hml, hr, hown, hts, hlocks, hK, hA, hN⟩ := id C
  rw [C0_headWord] at hm
  refine lv_aload_n hx hb dX0_headWord_0 rfl (lv_at hl 0 rfl) ?_
  refine kg (v := .ref (a 14)) hx hb hts hiX0_headWord_X0 hown hK hP 3 rfl rfl 0 (by decide) flX0_headWord_12 rfl rfl dX0_headWord_1 ?_
  refine lv_aload_n hx hb dX0_headWord_4 rfl (lv_at hl 0 rfl) ?_
  refine lv_iload_n hx hb dX0_headWord_5 rfl (lv_at hl 1 rfl) ?_
  obtain ⟨r6, hq0, hm⟩ := bd1_some hm
  refine k_callVI (As := [.int v1]) (rest := [.ref (a 14)]) ⟨hx, hb, hml, hown, hts⟩ hK hA hN (c_X0_headOf hG hq0) (cwV 1 hts gX0_headWord_X0_headOf rfl rfl rfl hdX0_headOf ⟨Nat.le_of_ble_eq_true rfl, Nat.le_of_ble_eq_true rfl⟩) hP (WCD hD) hS 3 0 rfl rfl rfl hl.1 rfl rfl (Nat.le_of_ble_eq_true rfl) ⟨Nat.zero_le _, Nat.zero_le _⟩ dX0_headWord_6 (fun H locs hP hS => ?_)
  obtain ⟨r9, hq0, hm⟩ := bd1_some hm
  obtain ⟨hw9, hm⟩ := gm_some hm
  obtain ⟨q, hq, -⟩ := WC_S hG hG.2.2.2.2.1
  refine k_callVA (As := [.int r6]) (rest := []) ⟨hx, hb, hml, hown, hts⟩ hK hA hN (c_X3_wordAt hG hG.2.2.2.2.1 hq0) (cwV 1 hts gX0_headWord_X3_wordAt rfl rfl rfl hdX3_wordAt ⟨Nat.le_of_ble_eq_true rfl, Nat.le_of_ble_eq_true rfl⟩) hP (WCD hD) hS q 3 hq rfl rfl hl.1 rfl rfl (Nat.le_of_ble_eq_true rfl) ⟨Nat.zero_le _, Nat.zero_le _⟩ dX0_headWord_9 (fun H locs hP hS => ?_)
  obtain rfl := Option.some.inj hm
  exact hret _ _ _ _ dX0_headWord_12 hP hS
theorem hdJ6_numberOfLeadingZeros_0f7a4 : yJ6_numberOfLeadingZeros_0f7a4.cls ≠ "java/lang/invoke/MethodHandle" ∧ yJ6_numberOfLeadingZeros_0f7a4.cls ≠ "java/lang/invoke/VarHandle" ∧ (parseMethodDescriptor yJ6_numberOfLeadingZeros_0f7a4.desc).map (fun d => d.parameters.length) = some 1 := by decide +kernel
def J6_numberOfLeadingZeros_0f7a4_J61 (v0 : Int32) (v1 : Int32) : Option (Int32) := if v0 < 4 then (some (v1 - (v0.toUInt32 >>> ((1 : Int32).toUInt32 &&& Int32.toUInt32 31)).toInt32)) else (some ((v1 + (-2)) - (((v0.toUInt32 >>> ((2 : Int32).toUInt32 &&& Int32.toUInt32 31)).toInt32).toUInt32 >>> ((1 : Int32).toUInt32 &&& Int32.toUInt32 31)).toInt32))
def J6_numberOfLeadingZeros_0f7a4_J48 (v0 : Int32) (v1 : Int32) : Option (Int32) := if v0 < 16 then (J6_numberOfLeadingZeros_0f7a4_J61 v0 v1) else (J6_numberOfLeadingZeros_0f7a4_J61 ((v0.toUInt32 >>> ((4 : Int32).toUInt32 &&& Int32.toUInt32 31)).toInt32) (v1 + (-4)))
def J6_numberOfLeadingZeros_0f7a4_J33 (v0 : Int32) (v1 : Int32) : Option (Int32) := if v0 < 256 then (J6_numberOfLeadingZeros_0f7a4_J48 v0 v1) else (J6_numberOfLeadingZeros_0f7a4_J48 ((v0.toUInt32 >>> ((8 : Int32).toUInt32 &&& Int32.toUInt32 31)).toInt32) (v1 + (-8)))
def J6_numberOfLeadingZeros_0f7a4 (v0 : Int32) : Option (Int32) := if 0 < v0 then (if v0 < 65536 then (J6_numberOfLeadingZeros_0f7a4_J33 v0 31) else (J6_numberOfLeadingZeros_0f7a4_J33 ((v0.toUInt32 >>> ((16 : Int32).toUInt32 &&& Int32.toUInt32 31)).toInt32) (31 + (-16)))) else (if v0 = 0 then (some 32) else (some 0))
set_option maxRecDepth 100000 in
set_option maxHeartbeats 4000000 in
theorem t_J6_numberOfLeadingZeros_0f7a4_J61 {p : Program} {l : Launch} {e : Env} {s : State} {m : MethodId} {args : Array Value} {below : List Frame} {meth : Method} {c : Code} {Q : State → Prop} {A : Nat → Prop} {D : va_G} {cI cJ cB cL cS cW : ClassId} {a wb sw se : Nat → Nat} {LW LS LK : List Nat} {c_bytes c_heads c_firsts c_levelOf c_aboveOf c_partings c_signs c_count c_pages c_levels c_most c_page c_known c_guess c_diff c_pieces c_place : Nat → Int32} {c_bits : Nat → Nat → Int64} {c_words : Nat → Nat → Nat} {c_entries : Nat → Nat → Int32} {c_bads c_noes c_fulls c_length c_next c_kept c_base c_from c_to c_above c_bit c_lastLeft : Int32} {r : Int32} (C : k_C p s m args meth c cJ6_numberOfLeadingZeros_0f7a4 2 (some .int) RJ6 wsJ6_numberOfLeadingZeros_0f7a4 D (kT cI cJ cB cL cS cW) A) (hD : va_D A (WC0 a wb sw se LW LS LK cI cJ cB cL cS cW)) (hG : kG a LW LS LK) (hret : ∀ (H : Heap) (locs : List Loc) (pc : Nat) (ls : Array Slot), decode cJ6_numberOfLeadingZeros_0f7a4 pc = .ok (.ireturn, 1) → va_P D vwCl (WC a wb sw se LW LS LK cI cJ cB cL cS cW c_bytes c_heads c_firsts c_levelOf c_aboveOf c_partings c_signs c_count c_pages c_levels c_most c_page c_known c_guess c_diff c_pieces c_place c_bits c_words c_entries c_bads c_noes c_fulls c_length c_next c_kept c_base c_from c_to c_above c_bit c_lastLeft) H → va_S A s.heap H locs → W p l e { frames := 0, cells := 0, slots := 0, locals := 0 } s m args below meth c H locs 0 0 Q (F0 m pc ls [.int r])) : ∀ (v0 : Int32) (v1 : Int32) (H : Heap) (locs : List Loc) (ls : Array Slot), va_P D vwCl (WC a wb sw se LW LS LK cI cJ cB cL cS cW c_bytes c_heads c_firsts c_levelOf c_aboveOf c_partings c_signs c_count c_pages c_levels c_most c_page c_known c_guess c_diff c_pieces c_place c_bits c_words c_entries c_bads c_noes c_fulls c_length c_next c_kept c_base c_from c_to c_above c_bit c_lastLeft) H → va_S A s.heap H locs → lv_has ls 2 [(0, .int v0), (1, .int v1)] → J6_numberOfLeadingZeros_0f7a4_J61 v0 v1 = some r → W p l e { frames := 0, cells := 0, slots := 0, locals := 0 } s m args below meth c H locs 0 0 Q (F0 m 61 ls []) := by
  obtain ⟨hx, hb, hml, hr, hown, hts, hlocks, hK, hA, hN⟩ := id C
  intro v0 v1 H locs ls hP hS hl hm
  rw [J6_numberOfLeadingZeros_0f7a4_J61] at hm
  refine lv_iload_n hx hb dJ6_numberOfLeadingZeros_0f7a4_61 rfl (lv_at hl 0 rfl) ?_
  refine lv_iconst (v := 4) hx hb dJ6_numberOfLeadingZeros_0f7a4_62 (by decide) ?_
  refine lv_icmp_lt (tgt := 73) hx hb dJ6_numberOfLeadingZeros_0f7a4_63 (by decide) (fun hc => ?_) (fun hc => ?_)
  · have hm := if_t hc hm
    refine lv_iload_n hx hb dJ6_numberOfLeadingZeros_0f7a4_73 rfl (lv_at hl 1 rfl) ?_
    refine lv_iload_n hx hb dJ6_numberOfLeadingZeros_0f7a4_74 rfl (lv_at hl 0 rfl) ?_
    refine lv_iconst (v := 1) hx hb dJ6_numberOfLeadingZeros_0f7a4_75 (by decide) ?_
    refine lv_iushr hx hb dJ6_numberOfLeadingZeros_0f7a4_76 rfl ?_
    refine lv_isub hx hb dJ6_numberOfLeadingZeros_0f7a4_77 ?_
    obtain rfl := Option.some.inj hm
    exact hret _ _ _ _ dJ6_numberOfLeadingZeros_0f7a4_78 hP hS
  · have hm := if_f hc hm
    refine lv_iinc (v := (v1 + (-2))) (lv' := [(1, .int (v1 + (-2))), (0, .int v0)]) hx hb dJ6_numberOfLeadingZeros_0f7a4_66 hl (k := 1) rfl rfl (by decide) rfl (fun ls hl => ?_)
    refine lv_iload_n hx hb dJ6_numberOfLeadingZeros_0f7a4_69 rfl (lv_at hl 1 rfl) ?_
    refine lv_iconst (v := 2) hx hb dJ6_numberOfLeadingZeros_0f7a4_70 (by decide) ?_
    refine lv_iushr hx hb dJ6_numberOfLeadingZeros_0f7a4_71 rfl ?_
    refine lv_istore_n (lv' := [(0, .int ((v0.toUInt32 >>> ((2 : Int32).toUInt32 &&& Int32.toUInt32 31)).toInt32)), (1, .int (v1 + (-2)))]) hx hb dJ6_numberOfLeadingZeros_0f7a4_72 rfl hl (by decide) rfl (fun ls hl => ?_)
    refine lv_iload_n hx hb dJ6_numberOfLeadingZeros_0f7a4_73 rfl (lv_at hl 1 rfl) ?_
    refine lv_iload_n hx hb dJ6_numberOfLeadingZeros_0f7a4_74 rfl (lv_at hl 0 rfl) ?_
    refine lv_iconst (v := 1) hx hb dJ6_numberOfLeadingZeros_0f7a4_75 (by decide) ?_
    refine lv_iushr hx hb dJ6_numberOfLeadingZeros_0f7a4_76 rfl ?_
    refine lv_isub hx hb dJ6_numberOfLeadingZeros_0f7a4_77 ?_
    obtain rfl := Option.some.inj hm
    exact hret _ _ _ _ dJ6_numberOfLeadingZeros_0f7a4_78 hP hS
set_option maxRecDepth 100000 in
set_option maxHeartbeats 4000000 in
theorem t_J6_numberOfLeadingZeros_0f7a4_J48 {p : Program} {l : Launch} {e : Env} {s : State} {m : MethodId} {args : Array Value} {below : List Frame} {meth : Method} {c : Code} {Q : State → Prop} {A : Nat → Prop} {D : va_G} {cI cJ cB cL cS cW : ClassId} {a wb sw se : Nat → Nat} {LW LS LK : List Nat} {c_bytes c_heads c_firsts c_levelOf c_aboveOf c_partings c_signs c_count c_pages c_levels c_most c_page c_known c_guess c_diff c_pieces c_place : Nat → Int32} {c_bits : Nat → Nat → Int64} {c_words : Nat → Nat → Nat} {c_entries : Nat → Nat → Int32} {c_bads c_noes c_fulls c_length c_next c_kept c_base c_from c_to c_above c_bit c_lastLeft : Int32} {r : Int32} (C : k_C p s m args meth c cJ6_numberOfLeadingZeros_0f7a4 2 (some .int) RJ6 wsJ6_numberOfLeadingZeros_0f7a4 D (kT cI cJ cB cL cS cW) A) (hD : va_D A (WC0 a wb sw se LW LS LK cI cJ cB cL cS cW)) (hG : kG a LW LS LK) (hret : ∀ (H : Heap) (locs : List Loc) (pc : Nat) (ls : Array Slot), decode cJ6_numberOfLeadingZeros_0f7a4 pc = .ok (.ireturn, 1) → va_P D vwCl (WC a wb sw se LW LS LK cI cJ cB cL cS cW c_bytes c_heads c_firsts c_levelOf c_aboveOf c_partings c_signs c_count c_pages c_levels c_most c_page c_known c_guess c_diff c_pieces c_place c_bits c_words c_entries c_bads c_noes c_fulls c_length c_next c_kept c_base c_from c_to c_above c_bit c_lastLeft) H → va_S A s.heap H locs → W p l e { frames := 0, cells := 0, slots := 0, locals := 0 } s m args below meth c H locs 0 0 Q (F0 m pc ls [.int r])) : ∀ (v0 : Int32) (v1 : Int32) (H : Heap) (locs : List Loc) (ls : Array Slot), va_P D vwCl (WC a wb sw se LW LS LK cI cJ cB cL cS cW c_bytes c_heads c_firsts c_levelOf c_aboveOf c_partings c_signs c_count c_pages c_levels c_most c_page c_known c_guess c_diff c_pieces c_place c_bits c_words c_entries c_bads c_noes c_fulls c_length c_next c_kept c_base c_from c_to c_above c_bit c_lastLeft) H → va_S A s.heap H locs → lv_has ls 2 [(0, .int v0), (1, .int v1)] → J6_numberOfLeadingZeros_0f7a4_J48 v0 v1 = some r → W p l e { frames := 0, cells := 0, slots := 0, locals := 0 } s m args below meth c H locs 0 0 Q (F0 m 48 ls []) := by
  obtain ⟨hx, hb, hml, hr, hown, hts, hlocks, hK, hA, hN⟩ := id C
  intro v0 v1 H locs ls hP hS hl hm
  rw [J6_numberOfLeadingZeros_0f7a4_J48] at hm
  refine lv_iload_n hx hb dJ6_numberOfLeadingZeros_0f7a4_48 rfl (lv_at hl 0 rfl) ?_
  refine lv_bipush (v := 16) hx hb dJ6_numberOfLeadingZeros_0f7a4_49 (by decide) ?_
  refine lv_icmp_lt (tgt := 61) hx hb dJ6_numberOfLeadingZeros_0f7a4_51 (by decide) (fun hc => ?_) (fun hc => ?_)
  · have hm := if_t hc hm
    exact t_J6_numberOfLeadingZeros_0f7a4_J61 C hD hG hret _ _ _ _ _ hP hS (lv_sub hl [0, 1] rfl) hm
  · have hm := if_f hc hm
    refine lv_iinc (v := (v1 + (-4))) (lv' := [(1, .int (v1 + (-4))), (0, .int v0)]) hx hb dJ6_numberOfLeadingZeros_0f7a4_54 hl (k := 1) rfl rfl (by decide) rfl (fun ls hl => ?_)
    refine lv_iload_n hx hb dJ6_numberOfLeadingZeros_0f7a4_57 rfl (lv_at hl 1 rfl) ?_
    refine lv_iconst (v := 4) hx hb dJ6_numberOfLeadingZeros_0f7a4_58 (by decide) ?_
    refine lv_iushr hx hb dJ6_numberOfLeadingZeros_0f7a4_59 rfl ?_
    refine lv_istore_n (lv' := [(0, .int ((v0.toUInt32 >>> ((4 : Int32).toUInt32 &&& Int32.toUInt32 31)).toInt32)), (1, .int (v1 + (-4)))]) hx hb dJ6_numberOfLeadingZeros_0f7a4_60 rfl hl (by decide) rfl (fun ls hl => ?_)
    exact t_J6_numberOfLeadingZeros_0f7a4_J61 C hD hG hret _ _ _ _ _ hP hS (lv_sub hl [0, 1] rfl) hm
set_option maxRecDepth 100000 in
set_option maxHeartbeats 4000000 in
theorem t_J6_numberOfLeadingZeros_0f7a4_J33 {p : Program} {l : Launch} {e : Env} {s : State} {m : MethodId} {args : Array Value} {below : List Frame} {meth : Method} {c : Code} {Q : State → Prop} {A : Nat → Prop} {D : va_G} {cI cJ cB cL cS cW : ClassId} {a wb sw se : Nat → Nat} {LW LS LK : List Nat} {c_bytes c_heads c_firsts c_levelOf c_aboveOf c_partings c_signs c_count c_pages c_levels c_most c_page c_known c_guess c_diff c_pieces c_place : Nat → Int32} {c_bits : Nat → Nat → Int64} {c_words : Nat → Nat → Nat} {c_entries : Nat → Nat → Int32} {c_bads c_noes c_fulls c_length c_next c_kept c_base c_from c_to c_above c_bit c_lastLeft : Int32} {r : Int32} (C : k_C p s m args meth c cJ6_numberOfLeadingZeros_0f7a4 2 (some .int) RJ6 wsJ6_numberOfLeadingZeros_0f7a4 D (kT cI cJ cB cL cS cW) A) (hD : va_D A (WC0 a wb sw se LW LS LK cI cJ cB cL cS cW)) (hG : kG a LW LS LK) (hret : ∀ (H : Heap) (locs : List Loc) (pc : Nat) (ls : Array Slot), decode cJ6_numberOfLeadingZeros_0f7a4 pc = .ok (.ireturn, 1) → va_P D vwCl (WC a wb sw se LW LS LK cI cJ cB cL cS cW c_bytes c_heads c_firsts c_levelOf c_aboveOf c_partings c_signs c_count c_pages c_levels c_most c_page c_known c_guess c_diff c_pieces c_place c_bits c_words c_entries c_bads c_noes c_fulls c_length c_next c_kept c_base c_from c_to c_above c_bit c_lastLeft) H → va_S A s.heap H locs → W p l e { frames := 0, cells := 0, slots := 0, locals := 0 } s m args below meth c H locs 0 0 Q (F0 m pc ls [.int r])) : ∀ (v0 : Int32) (v1 : Int32) (H : Heap) (locs : List Loc) (ls : Array Slot), va_P D vwCl (WC a wb sw se LW LS LK cI cJ cB cL cS cW c_bytes c_heads c_firsts c_levelOf c_aboveOf c_partings c_signs c_count c_pages c_levels c_most c_page c_known c_guess c_diff c_pieces c_place c_bits c_words c_entries c_bads c_noes c_fulls c_length c_next c_kept c_base c_from c_to c_above c_bit c_lastLeft) H → va_S A s.heap H locs → lv_has ls 2 [(0, .int v0), (1, .int v1)] → J6_numberOfLeadingZeros_0f7a4_J33 v0 v1 = some r → W p l e { frames := 0, cells := 0, slots := 0, locals := 0 } s m args below meth c H locs 0 0 Q (F0 m 33 ls []) := by
  obtain ⟨hx, hb, hml, hr, hown, hts, hlocks, hK, hA, hN⟩ := id C
  intro v0 v1 H locs ls hP hS hl hm
  rw [J6_numberOfLeadingZeros_0f7a4_J33] at hm
  refine lv_iload_n hx hb dJ6_numberOfLeadingZeros_0f7a4_33 rfl (lv_at hl 0 rfl) ?_
  refine lv_sipush (v := 256) hx hb dJ6_numberOfLeadingZeros_0f7a4_34 (by decide) ?_
  refine lv_icmp_lt (tgt := 48) hx hb dJ6_numberOfLeadingZeros_0f7a4_37 (by decide) (fun hc => ?_) (fun hc => ?_)
  · have hm := if_t hc hm
    exact t_J6_numberOfLeadingZeros_0f7a4_J48 C hD hG hret _ _ _ _ _ hP hS (lv_sub hl [0, 1] rfl) hm
  · have hm := if_f hc hm
    refine lv_iinc (v := (v1 + (-8))) (lv' := [(1, .int (v1 + (-8))), (0, .int v0)]) hx hb dJ6_numberOfLeadingZeros_0f7a4_40 hl (k := 1) rfl rfl (by decide) rfl (fun ls hl => ?_)
    refine lv_iload_n hx hb dJ6_numberOfLeadingZeros_0f7a4_43 rfl (lv_at hl 1 rfl) ?_
    refine lv_bipush (v := 8) hx hb dJ6_numberOfLeadingZeros_0f7a4_44 (by decide) ?_
    refine lv_iushr hx hb dJ6_numberOfLeadingZeros_0f7a4_46 rfl ?_
    refine lv_istore_n (lv' := [(0, .int ((v0.toUInt32 >>> ((8 : Int32).toUInt32 &&& Int32.toUInt32 31)).toInt32)), (1, .int (v1 + (-8)))]) hx hb dJ6_numberOfLeadingZeros_0f7a4_47 rfl hl (by decide) rfl (fun ls hl => ?_)
    exact t_J6_numberOfLeadingZeros_0f7a4_J48 C hD hG hret _ _ _ _ _ hP hS (lv_sub hl [0, 1] rfl) hm
set_option maxRecDepth 100000 in
set_option maxHeartbeats 4000000 in
theorem c_J6_numberOfLeadingZeros_0f7a4 {l : Launch} {D : va_G} {cI cJ cB cL cS cW : ClassId} {a wb sw se : Nat → Nat} {LW LS LK : List Nat} {c_bytes c_heads c_firsts c_levelOf c_aboveOf c_partings c_signs c_count c_pages c_levels c_most c_page c_known c_guess c_diff c_pieces c_place : Nat → Int32} {c_bits : Nat → Nat → Int64} {c_words : Nat → Nat → Nat} {c_entries : Nat → Nat → Int32} {c_bads c_noes c_fulls c_length c_next c_kept c_base c_from c_to c_above c_bit c_lastLeft : Int32} {v0 : Int32} {r : Int32} (hG : kG a LW LS LK) (hm : J6_numberOfLeadingZeros_0f7a4 v0 = some r) : k_MI l yJ6_numberOfLeadingZeros_0f7a4 wsJ6_numberOfLeadingZeros_0f7a4 { frames := 0, cells := 0, slots := 0, locals := 0 } D (kT cI cJ cB cL cS cW) [.int v0] (WC a wb sw se LW LS LK cI cJ cB cL cS cW c_bytes c_heads c_firsts c_levelOf c_aboveOf c_partings c_signs c_count c_pages c_levels c_most c_page c_known c_guess c_diff c_pieces c_place c_bits c_words c_entries c_bads c_noes c_fulls c_length c_next c_kept c_base c_from c_to c_above c_bit c_lastLeft) r (WC a wb sw se LW LS LK cI cJ cB cL cS cW c_bytes c_heads c_firsts c_levelOf c_aboveOf c_partings c_signs c_count c_pages c_levels c_most c_page c_known c_guess c_diff c_pieces c_place c_bits c_words c_entries c_bads c_noes c_fulls c_length c_next c_kept c_base c_from c_to c_above c_bit c_lastLeft) := by
  refine k_ofI (cc := cJ6_numberOfLeadingZeros_0f7a4) (maxL := 2) (own := RJ6) (by decide) rfl rfl (Nat.le_of_ble_eq_true rfl) ?_
  intro p e s m args below meth c A Q ls C hP hD hl hret
  have hD : va_D A (WC0 a wb sw se LW LS LK cI cJ cB cL cS cW) := WCD hD
  have hS : va_S A s.heap s.heap [] := va_S.rf
  have hl : lv_has ls 2 [(0, .int v0)] := hl
  obtain ⟨hx, hb, hml, hr, hown, hts, hlocks, hK, hA, hN⟩ := id C
  rw [J6_numberOfLeadingZeros_0f7a4] at hm
  refine lv_iload_n hx hb dJ6_numberOfLeadingZeros_0f7a4_0 rfl (lv_at hl 0 rfl) ?_
  refine lv_if_gt (tgt := 15) hx hb dJ6_numberOfLeadingZeros_0f7a4_1 (by decide) (fun hc => ?_) (fun hc => ?_)
  · have hm := if_t hc hm
    refine lv_bipush (v := 31) hx hb dJ6_numberOfLeadingZeros_0f7a4_15 (by decide) ?_
    refine lv_istore_n (lv' := [(1, .int 31), (0, .int v0)]) hx hb dJ6_numberOfLeadingZeros_0f7a4_17 rfl hl (by decide) rfl (fun ls hl => ?_)
    refine lv_iload_n hx hb dJ6_numberOfLeadingZeros_0f7a4_18 rfl (lv_at hl 1 rfl) ?_
    refine lv_ldcw (v := 65536) hx hb hown (hts (.constant RJ6 264 65536) (by decide +kernel)) dJ6_numberOfLeadingZeros_0f7a4_19 ?_
    refine lv_icmp_lt (tgt := 33) hx hb dJ6_numberOfLeadingZeros_0f7a4_22 (by decide) (fun hc => ?_) (fun hc => ?_)
    · have hm := if_t hc hm
      exact t_J6_numberOfLeadingZeros_0f7a4_J33 C hD hG hret _ _ _ _ _ hP hS (lv_sub hl [1, 0] rfl) hm
    · have hm := if_f hc hm
      refine lv_iinc (v := (31 + (-16))) (lv' := [(1, .int (31 + (-16))), (0, .int v0)]) hx hb dJ6_numberOfLeadingZeros_0f7a4_25 hl (k := 0) rfl rfl (by decide) rfl (fun ls hl => ?_)
      refine lv_iload_n hx hb dJ6_numberOfLeadingZeros_0f7a4_28 rfl (lv_at hl 1 rfl) ?_
      refine lv_bipush (v := 16) hx hb dJ6_numberOfLeadingZeros_0f7a4_29 (by decide) ?_
      refine lv_iushr hx hb dJ6_numberOfLeadingZeros_0f7a4_31 rfl ?_
      refine lv_istore_n (lv' := [(0, .int ((v0.toUInt32 >>> ((16 : Int32).toUInt32 &&& Int32.toUInt32 31)).toInt32)), (1, .int (31 + (-16)))]) hx hb dJ6_numberOfLeadingZeros_0f7a4_32 rfl hl (by decide) rfl (fun ls hl => ?_)
      exact t_J6_numberOfLeadingZeros_0f7a4_J33 C hD hG hret _ _ _ _ _ hP hS (lv_sub hl [0, 1] rfl) hm
  · have hm := if_f hc hm
    refine lv_iload_n hx hb dJ6_numberOfLeadingZeros_0f7a4_4 rfl (lv_at hl 0 rfl) ?_
    refine lv_if_ne (tgt := 13) hx hb dJ6_numberOfLeadingZeros_0f7a4_5 (by decide) (fun hc => ?_) (fun hc => ?_)
    · have hm := if_f hc hm
      refine lv_iconst (v := 0) hx hb dJ6_numberOfLeadingZeros_0f7a4_13 (by decide) ?_
      obtain rfl := Option.some.inj hm
      exact hret _ _ _ _ dJ6_numberOfLeadingZeros_0f7a4_14 hP hS
    · have hm := if_t hc hm
      refine lv_bipush (v := 32) hx hb dJ6_numberOfLeadingZeros_0f7a4_8 (by decide) ?_
      refine lv_goto (tgt := 14) hx hb dJ6_numberOfLeadingZeros_0f7a4_10 (by decide) ?_
      obtain rfl := Option.some.inj hm
      exact hret _ _ _ _ dJ6_numberOfLeadingZeros_0f7a4_14 hP hS
theorem hdJ13_numberOfLeadingZeros_95d88 : yJ13_numberOfLeadingZeros_95d88.cls ≠ "java/lang/invoke/MethodHandle" ∧ yJ13_numberOfLeadingZeros_95d88.cls ≠ "java/lang/invoke/VarHandle" ∧ (parseMethodDescriptor yJ13_numberOfLeadingZeros_95d88.desc).map (fun d => d.parameters.length) = some 1 := by decide +kernel
def J13_numberOfLeadingZeros_95d88 (v0 : Int64) : Option (Int32) := if ((v0.toUInt64 >>> ((32 : Int32).toInt64.toUInt64 &&& Int64.toUInt64 63)).toInt64).toInt32 = 0 then (bd1 (J6_numberOfLeadingZeros_0f7a4 v0.toInt32) fun r14 => some (32 + r14)) else (bd1 (J6_numberOfLeadingZeros_0f7a4 (((v0.toUInt64 >>> ((32 : Int32).toInt64.toUInt64 &&& Int64.toUInt64 63)).toInt64).toInt32)) fun r22 => some r22)
set_option maxRecDepth 100000 in
set_option maxHeartbeats 4000000 in
theorem c_J13_numberOfLeadingZeros_95d88 {l : Launch} {D : va_G} {cI cJ cB cL cS cW : ClassId} {a wb sw se : Nat → Nat} {LW LS LK : List Nat} {c_bytes c_heads c_firsts c_levelOf c_aboveOf c_partings c_signs c_count c_pages c_levels c_most c_page c_known c_guess c_diff c_pieces c_place : Nat → Int32} {c_bits : Nat → Nat → Int64} {c_words : Nat → Nat → Nat} {c_entries : Nat → Nat → Int32} {c_bads c_noes c_fulls c_length c_next c_kept c_base c_from c_to c_above c_bit c_lastLeft : Int32} {v0 : Int64} {r : Int32} (hG : kG a LW LS LK) (hm : J13_numberOfLeadingZeros_95d88 v0 = some r) : k_MI l yJ13_numberOfLeadingZeros_95d88 wsJ13_numberOfLeadingZeros_95d88 { frames := 1, cells := 0, slots := 0, locals := 21 } D (kT cI cJ cB cL cS cW) [.long v0] (WC a wb sw se LW LS LK cI cJ cB cL cS cW c_bytes c_heads c_firsts c_levelOf c_aboveOf c_partings c_signs c_count c_pages c_levels c_most c_page c_known c_guess c_diff c_pieces c_place c_bits c_words c_entries c_bads c_noes c_fulls c_length c_next c_kept c_base c_from c_to c_above c_bit c_lastLeft) r (WC a wb sw se LW LS LK cI cJ cB cL cS cW c_bytes c_heads c_firsts c_levelOf c_aboveOf c_partings c_signs c_count c_pages c_levels c_most c_page c_known c_guess c_diff c_pieces c_place c_bits c_words c_entries c_bads c_noes c_fulls c_length c_next c_kept c_base c_from c_to c_above c_bit c_lastLeft) := by
  refine k_ofI (cc := cJ13_numberOfLeadingZeros_95d88) (maxL := 3) (own := RJ13) (by decide) rfl rfl (Nat.le_of_ble_eq_true rfl) ?_
  intro p e s m args below meth c A Q ls C hP hD hl hret
  have hD : va_D A (WC0 a wb sw se LW LS LK cI cJ cB cL cS cW) := WCD hD
  have hS : va_S A s.heap s.heap [] := va_S.rf
  have hl : lv_has ls 3 [(0, .long v0)] := hl
  obtain ⟨hx, hb, hml, hr, hown, hts, hlocks, hK, hA, hN⟩ := id C
  rw [J13_numberOfLeadingZeros_95d88] at hm
  refine lv_lload_n hx hb dJ13_numberOfLeadingZeros_95d88_0 rfl (lv_at hl 0 rfl) ?_
  refine lv_bipush (v := 32) hx hb dJ13_numberOfLeadingZeros_95d88_1 (by decide) ?_
  refine lv_lushr hx hb dJ13_numberOfLeadingZeros_95d88_3 rfl ?_
  refine lv_l2i hx hb dJ13_numberOfLeadingZeros_95d88_4 rfl ?_
  refine lv_istore_n (lv' := [(2, .int (((v0.toUInt64 >>> ((32 : Int32).toInt64.toUInt64 &&& Int64.toUInt64 63)).toInt64).toInt32)), (0, .long v0)]) hx hb dJ13_numberOfLeadingZeros_95d88_5 rfl hl (by decide) rfl (fun ls hl => ?_)
  refine lv_iload_n hx hb dJ13_numberOfLeadingZeros_95d88_6 rfl (lv_at hl 0 rfl) ?_
  refine lv_if_ne (tgt := 21) hx hb dJ13_numberOfLeadingZeros_95d88_7 (by decide) (fun hc => ?_) (fun hc => ?_)
  · have hm := if_f hc hm
    refine lv_iload_n hx hb dJ13_numberOfLeadingZeros_95d88_21 rfl (lv_at hl 0 rfl) ?_
    obtain ⟨r22, hq0, hm⟩ := bd1_some hm
    refine k_callSI (As := [.int (((v0.toUInt64 >>> ((32 : Int32).toInt64.toUInt64 &&& Int64.toUInt64 63)).toInt64).toInt32)]) (rest := []) ⟨hx, hb, hml, hown, hts⟩ hK hA hN (c_J6_numberOfLeadingZeros_0f7a4 hG hq0) (va_cwS 1 hts gJ13_numberOfLeadingZeros_95d88_J6_numberOfLeadingZeros_0f7a4 rfl rfl rfl hdJ6_numberOfLeadingZeros_0f7a4 ⟨Nat.le_of_ble_eq_true rfl, Nat.le_of_ble_eq_true rfl⟩) hP (WCD hD) hS hl.1 rfl rfl (Nat.le_of_ble_eq_true rfl) ⟨Nat.zero_le _, Nat.zero_le _⟩ dJ13_numberOfLeadingZeros_95d88_22 (fun H locs hP hS => ?_)
    obtain rfl := Option.some.inj hm
    exact hret _ _ _ _ dJ13_numberOfLeadingZeros_95d88_25 hP hS
  · have hm := if_t hc hm
    refine lv_bipush (v := 32) hx hb dJ13_numberOfLeadingZeros_95d88_10 (by decide) ?_
    refine lv_lload_n hx hb dJ13_numberOfLeadingZeros_95d88_12 rfl (lv_at hl 1 rfl) ?_
    refine lv_l2i hx hb dJ13_numberOfLeadingZeros_95d88_13 rfl ?_
    obtain ⟨r14, hq0, hm⟩ := bd1_some hm
    refine k_callSI (As := [.int v0.toInt32]) (rest := [.int 32]) ⟨hx, hb, hml, hown, hts⟩ hK hA hN (c_J6_numberOfLeadingZeros_0f7a4 hG hq0) (va_cwS 1 hts gJ13_numberOfLeadingZeros_95d88_J6_numberOfLeadingZeros_0f7a4 rfl rfl rfl hdJ6_numberOfLeadingZeros_0f7a4 ⟨Nat.le_of_ble_eq_true rfl, Nat.le_of_ble_eq_true rfl⟩) hP (WCD hD) hS hl.1 rfl rfl (Nat.le_of_ble_eq_true rfl) ⟨Nat.zero_le _, Nat.zero_le _⟩ dJ13_numberOfLeadingZeros_95d88_14 (fun H locs hP hS => ?_)
    refine lv_iadd hx hb dJ13_numberOfLeadingZeros_95d88_17 ?_
    refine lv_goto (tgt := 25) hx hb dJ13_numberOfLeadingZeros_95d88_18 (by decide) ?_
    obtain rfl := Option.some.inj hm
    exact hret _ _ _ _ dJ13_numberOfLeadingZeros_95d88_25 hP hS
