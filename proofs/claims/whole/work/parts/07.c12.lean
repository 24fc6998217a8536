theorem hdX0_pageFact : yX0_pageFact.cls = RX0 ∧ yX0_pageFact.cls ≠ "java/lang/invoke/MethodHandle" ∧ yX0_pageFact.cls ≠ "java/lang/invoke/VarHandle" ∧ (parseMethodDescriptor yX0_pageFact.desc).map (fun d => d.parameters.length) = some 2 := by decide +kernel
theorem hiX0_pageFact_X0 : ∀ w ∈ u_ws RX0 TX0 7, w ∈ wsX0_pageFact := by decide +kernel
theorem flX0_pageFact_12 : Cond.fieldLink RX0 12 "BlindPages$Index" "now" "LBlindPages$State;" ∈ wsX0_pageFact := by decide +kernel
theorem flX0_pageFact_28 : Cond.fieldLink RX0 28 "BlindPages$Index" "aboveOf" "[I" ∈ wsX0_pageFact := by decide +kernel
def C0_pageFact (a : Nat → Nat) (LW : List Nat) (c_heads c_firsts c_levelOf c_aboveOf c_partings c_signs c_count c_pages : Nat → Int32) (c_words : Nat → Nat → Nat) (c_entries : Nat → Nat → Int32) (c_base c_from c_to c_above c_bit c_lastLeft : Int32) (v1 : Int32) (v2 : Int32) : Option (Int32 × Int32 × Int32 × Int32 × Int32 × Int32 × Int32) := if v2 = 0 then (bd1 (C0_levelAt c_levelOf v1) fun r42 => some (r42, c_base, c_from, c_to, c_above, c_bit, c_lastLeft)) else if v2 = 1 then (bd1 (C3_entriesOf c_pages c_entries (a 14) v1) fun r51 => some (r51, c_base, c_from, c_to, c_above, c_bit, c_lastLeft)) else if v2 = 2 then (bd1 (C0_endOf a c_heads c_levelOf c_count c_pages v1) fun r57 => bd1 (C0_headOf c_heads v1) fun r62 => some ((r57 - r62), c_base, c_from, c_to, c_above, c_bit, c_lastLeft)) else if v2 = 3 then (bd1 (C0_headOf c_heads v1) fun r69 => some (r69, c_base, c_from, c_to, c_above, c_bit, c_lastLeft)) else if v2 = 4 then (if v1 < 0 then (some ((-1), c_base, c_from, c_to, c_above, c_bit, c_lastLeft)) else (if 48 ≤ v1 then (some ((-1), c_base, c_from, c_to, c_above, c_bit, c_lastLeft)) else (ga v1 48 (some ((c_aboveOf v1.toNatClampNeg), c_base, c_from, c_to, c_above, c_bit, c_lastLeft))))) else if v2 = 5 then (bd7 (C0_heightOf a c_firsts c_partings c_pages c_entries c_base c_from c_to c_above c_bit c_lastLeft v1) fun r99 c_base_99 c_from_99 c_to_99 c_above_99 c_bit_99 c_lastLeft_99 => some (r99, c_base_99, c_from_99, c_to_99, c_above_99, c_bit_99, c_lastLeft_99)) else (bd1 (C0_weightOf a LW c_heads c_firsts c_levelOf c_signs c_count c_pages c_words v1) fun r105 => some (r105, c_base, c_from, c_to, c_above, c_bit, c_lastLeft))
set_option maxRecDepth 100000 in
set_option maxHeartbeats 4000000 in
theorem c_X0_pageFact {l : Launch} {D : va_G} {cI cJ cB cL cS cW : ClassId} {a wb sw se : Nat → Nat} {LW LS LK : List Nat} {c_bytes c_heads c_firsts c_levelOf c_aboveOf c_partings c_signs c_count c_pages c_levels c_most c_page c_known c_guess c_diff c_pieces c_place : Nat → Int32} {c_bits : Nat → Nat → Int64} {c_words : Nat → Nat → Nat} {c_entries : Nat → Nat → Int32} {c_bads c_noes c_fulls c_length c_next c_kept c_base c_from c_to c_above c_bit c_lastLeft : Int32} {v1 : Int32} {v2 : Int32} {r : Int32} {o_base : Int32} {o_from : Int32} {o_to : Int32} {o_above : Int32} {o_bit : Int32} {o_lastLeft : Int32} (hG : kG a LW LS LK) (hm : C0_pageFact a LW c_heads c_firsts c_levelOf c_aboveOf c_partings c_signs c_count c_pages c_words c_entries c_base c_from c_to c_above c_bit c_lastLeft v1 v2 = some (r, o_base, o_from, o_to, o_above, o_bit, o_lastLeft)) : k_MI l yX0_pageFact wsX0_pageFact { frames := 3, cells := 0, slots := 0, locals := 70 } D (kT cI cJ cB cL cS cW) [.ref (a 3), .int v1, .int v2] (WC a wb sw se LW LS LK cI cJ cB cL cS cW c_bytes c_heads c_firsts c_levelOf c_aboveOf c_partings c_signs c_count c_pages c_levels c_most c_page c_known c_guess c_diff c_pieces c_place c_bits c_words c_entries c_bads c_noes c_fulls c_length c_next c_kept c_base c_from c_to c_above c_bit c_lastLeft) r (WC a wb sw se LW LS LK cI cJ cB cL cS cW c_bytes c_heads c_firsts c_levelOf c_aboveOf c_partings c_signs c_count c_pages c_levels c_most c_page c_known c_guess c_diff c_pieces c_place c_bits c_words c_entries c_bads c_noes c_fulls c_length c_next c_kept o_base o_from o_to o_above o_bit o_lastLeft) := by
  refine k_ofI (cc := cX0_pageFact) (maxL := 3) (own := RX0) (by decide) rfl rfl (Nat.le_of_ble_eq_true rfl) ?_
  intro p e s m args below meth c A Q ls C hP hD hl hret
  have hD : va_D A (WC0 a wb sw se LW LS LK cI cJ cB cL cS cW) := WCD hD
  have hS : va_S A s.heap s.heap [] := va_S.rf
  have hl : lv_has ls 3 [(0, .ref (a 3)), (1, .int v1), (2, .int v2)] := hl
  obtain ⟨hx, hb, hml, hr, hown, hts, hlocks, hK, hA, hN⟩ := id C
  rw [C0_pageFact] at hm
  refine lv_iload_n hx hb dX0_pageFact_0 rfl (lv_at hl 2 rfl) ?_
  by_cases hc0 : v2 = 0
  · have hm := if_t hc0 hm
    refine lv_tableIn (tgt := 40) (off := 39) hx hb dX0_pageFact_1 (by rw [hc0]; decide) (by rw [hc0]; decide) (by rw [hc0]; rfl) (by decide) ?_
    refine lv_aload_n hx hb dX0_pageFact_40 rfl (lv_at hl 0 rfl) ?_
    refine lv_iload_n hx hb dX0_pageFact_41 rfl (lv_at hl 1 rfl) ?_
    obtain ⟨r42, hq0, hm⟩ := bd1_some hm
    refine k_callVI (As := [.int v1]) (rest := []) ⟨hx, hb, hml, hown, hts⟩ hK hA hN (c_X0_levelAt hG hq0) (cwV 1 hts gX0_pageFact_X0_levelAt rfl rfl rfl hdX0_levelAt ⟨Nat.le_of_ble_eq_true rfl, Nat.le_of_ble_eq_true rfl⟩) hP (WCD hD) hS 3 0 rfl rfl rfl hl.1 rfl rfl (Nat.le_of_ble_eq_true rfl) ⟨Nat.zero_le _, Nat.zero_le _⟩ dX0_pageFact_42 (fun H locs hP hS => ?_)
    simp only [Option.some.injEq, Prod.mk.injEq] at hm
    obtain ⟨rfl, rfl, rfl, rfl, rfl, rfl, rfl⟩ := hm
    exact hret _ _ _ _ dX0_pageFact_45 hP hS
  have hm := if_f hc0 hm
  by_cases hc1 : v2 = 1
  · have hm := if_t hc1 hm
    refine lv_tableIn (tgt := 46) (off := 45) hx hb dX0_pageFact_1 (by rw [hc1]; decide) (by rw [hc1]; decide) (by rw [hc1]; rfl) (by decide) ?_
    refine lv_aload_n hx hb dX0_pageFact_46 rfl (lv_at hl 0 rfl) ?_
    refine kg (v := .ref (a 14)) hx hb hts hiX0_pageFact_X0 hown hK hP 3 rfl rfl 0 (by decide) flX0_pageFact_12 rfl rfl dX0_pageFact_47 ?_
    refine lv_iload_n hx hb dX0_pageFact_50 rfl (lv_at hl 1 rfl) ?_
    obtain ⟨r51, hq0, hm⟩ := bd1_some hm
    obtain ⟨q, hq, -⟩ := WC_S hG hG.2.2.2.2.1
    refine k_callVI (As := [.int v1]) (rest := []) ⟨hx, hb, hml, hown, hts⟩ hK hA hN (c_X3_entriesOf hG hG.2.2.2.2.1 hq0) (cwV 1 hts gX0_pageFact_X3_entriesOf rfl rfl rfl hdX3_entriesOf ⟨Nat.le_of_ble_eq_true rfl, Nat.le_of_ble_eq_true rfl⟩) hP (WCD hD) hS q 3 hq rfl rfl hl.1 rfl rfl (Nat.le_of_ble_eq_true rfl) ⟨Nat.zero_le _, Nat.zero_le _⟩ dX0_pageFact_51 (fun H locs hP hS => ?_)
    simp only [Option.some.injEq, Prod.mk.injEq] at hm
    obtain ⟨rfl, rfl, rfl, rfl, rfl, rfl, rfl⟩ := hm
    exact hret _ _ _ _ dX0_pageFact_54 hP hS
  have hm := if_f hc1 hm
  by_cases hc2 : v2 = 2
  · have hm := if_t hc2 hm
    refine lv_tableIn (tgt := 55) (off := 54) hx hb dX0_pageFact_1 (by rw [hc2]; decide) (by rw [hc2]; decide) (by rw [hc2]; rfl) (by decide) ?_
    refine lv_aload_n hx hb dX0_pageFact_55 rfl (lv_at hl 0 rfl) ?_
    refine lv_iload_n hx hb dX0_pageFact_56 rfl (lv_at hl 1 rfl) ?_
    obtain ⟨r57, hq0, hm⟩ := bd1_some hm
    refine k_callVI (As := [.int v1]) (rest := []) ⟨hx, hb, hml, hown, hts⟩ hK hA hN (c_X0_endOf hG hq0) (cwV 1 hts gX0_pageFact_X0_endOf rfl rfl rfl hdX0_endOf ⟨Nat.le_of_ble_eq_true rfl, Nat.le_of_ble_eq_true rfl⟩) hP (WCD hD) hS 3 0 rfl rfl rfl hl.1 rfl rfl (Nat.le_of_ble_eq_true rfl) ⟨Nat.zero_le _, Nat.zero_le _⟩ dX0_pageFact_57 (fun H locs hP hS => ?_)
    refine lv_aload_n hx hb dX0_pageFact_60 rfl (lv_at hl 0 rfl) ?_
    refine lv_iload_n hx hb dX0_pageFact_61 rfl (lv_at hl 1 rfl) ?_
    obtain ⟨r62, hq0, hm⟩ := bd1_some hm
    refine k_callVI (As := [.int v1]) (rest := [.int r57]) ⟨hx, hb, hml, hown, hts⟩ hK hA hN (c_X0_headOf hG hq0) (cwV 1 hts gX0_pageFact_X0_headOf rfl rfl rfl hdX0_headOf ⟨Nat.le_of_ble_eq_true rfl, Nat.le_of_ble_eq_true rfl⟩) hP (WCD hD) hS 3 0 rfl rfl rfl hl.1 rfl rfl (Nat.le_of_ble_eq_true rfl) ⟨Nat.zero_le _, Nat.zero_le _⟩ dX0_pageFact_62 (fun H locs hP hS => ?_)
    refine lv_isub hx hb dX0_pageFact_65 ?_
    simp only [Option.some.injEq, Prod.mk.injEq] at hm
    obtain ⟨rfl, rfl, rfl, rfl, rfl, rfl, rfl⟩ := hm
    exact hret _ _ _ _ dX0_pageFact_66 hP hS
  have hm := if_f hc2 hm
  by_cases hc3 : v2 = 3
  · have hm := if_t hc3 hm
    refine lv_tableIn (tgt := 67) (off := 66) hx hb dX0_pageFact_1 (by rw [hc3]; decide) (by rw [hc3]; decide) (by rw [hc3]; rfl) (by decide) ?_
    refine lv_aload_n hx hb dX0_pageFact_67 rfl (lv_at hl 0 rfl) ?_
    refine lv_iload_n hx hb dX0_pageFact_68 rfl (lv_at hl 1 rfl) ?_
    obtain ⟨r69, hq0, hm⟩ := bd1_some hm
    refine k_callVI (As := [.int v1]) (rest := []) ⟨hx, hb, hml, hown, hts⟩ hK hA hN (c_X0_headOf hG hq0) (cwV 1 hts gX0_pageFact_X0_headOf rfl rfl rfl hdX0_headOf ⟨Nat.le_of_ble_eq_true rfl, Nat.le_of_ble_eq_true rfl⟩) hP (WCD hD) hS 3 0 rfl rfl rfl hl.1 rfl rfl (Nat.le_of_ble_eq_true rfl) ⟨Nat.zero_le _, Nat.zero_le _⟩ dX0_pageFact_69 (fun H locs hP hS => ?_)
    simp only [Option.some.injEq, Prod.mk.injEq] at hm
    obtain ⟨rfl, rfl, rfl, rfl, rfl, rfl, rfl⟩ := hm
    exact hret _ _ _ _ dX0_pageFact_72 hP hS
  have hm := if_f hc3 hm
  by_cases hc4 : v2 = 4
  · have hm := if_t hc4 hm
    refine lv_tableIn (tgt := 73) (off := 72) hx hb dX0_pageFact_1 (by rw [hc4]; decide) (by rw [hc4]; decide) (by rw [hc4]; rfl) (by decide) ?_
    refine lv_iload_n hx hb dX0_pageFact_73 rfl (lv_at hl 1 rfl) ?_
    refine lv_if_lt (tgt := 95) hx hb dX0_pageFact_74 (by decide) (fun hc => ?_) (fun hc => ?_)
    · have hm := if_t hc hm
      refine lv_iconst (v := (-1)) hx hb dX0_pageFact_95 (by decide) ?_
      simp only [Option.some.injEq, Prod.mk.injEq] at hm
      obtain ⟨rfl, rfl, rfl, rfl, rfl, rfl, rfl⟩ := hm
      exact hret _ _ _ _ dX0_pageFact_96 hP hS
    · have hm := if_f hc hm
      refine lv_iload_n hx hb dX0_pageFact_77 rfl (lv_at hl 1 rfl) ?_
      refine lv_aload_n hx hb dX0_pageFact_78 rfl (lv_at hl 0 rfl) ?_
      refine kg (v := .ref (a 7)) hx hb hts hiX0_pageFact_X0 hown hK hP 3 rfl rfl 4 (by decide) flX0_pageFact_28 rfl rfl dX0_pageFact_79 ?_
      refine va_alen (v := 48) hx hb hK hP 7 0 rfl rfl rfl dX0_pageFact_82 ?_
      refine lv_icmp_ge (tgt := 95) hx hb dX0_pageFact_83 (by decide) (fun hc => ?_) (fun hc => ?_)
      · have hm := if_t hc hm
        refine lv_iconst (v := (-1)) hx hb dX0_pageFact_95 (by decide) ?_
        simp only [Option.some.injEq, Prod.mk.injEq] at hm
        obtain ⟨rfl, rfl, rfl, rfl, rfl, rfl, rfl⟩ := hm
        exact hret _ _ _ _ dX0_pageFact_96 hP hS
      · have hm := if_f hc hm
        refine lv_aload_n hx hb dX0_pageFact_86 rfl (lv_at hl 0 rfl) ?_
        refine kg (v := .ref (a 7)) hx hb hts hiX0_pageFact_X0 hown hK hP 3 rfl rfl 4 (by decide) flX0_pageFact_28 rfl rfl dX0_pageFact_87 ?_
        refine lv_iload_n hx hb dX0_pageFact_90 rfl (lv_at hl 1 rfl) ?_
        obtain ⟨hi, hm⟩ := ga_some hm
        refine k_iald hx hb hK hP 7 0 rfl rfl rfl hi dX0_pageFact_91 ?_
        refine lv_goto (tgt := 96) hx hb dX0_pageFact_92 (by decide) ?_
        simp only [Option.some.injEq, Prod.mk.injEq] at hm
        obtain ⟨rfl, rfl, rfl, rfl, rfl, rfl, rfl⟩ := hm
        exact hret _ _ _ _ dX0_pageFact_96 hP hS
  have hm := if_f hc4 hm
  by_cases hc5 : v2 = 5
  · have hm := if_t hc5 hm
    refine lv_tableIn (tgt := 97) (off := 96) hx hb dX0_pageFact_1 (by rw [hc5]; decide) (by rw [hc5]; decide) (by rw [hc5]; rfl) (by decide) ?_
    refine lv_aload_n hx hb dX0_pageFact_97 rfl (lv_at hl 0 rfl) ?_
    refine lv_iload_n hx hb dX0_pageFact_98 rfl (lv_at hl 1 rfl) ?_
    obtain ⟨r99, c_base_99, c_from_99, c_to_99, c_above_99, c_bit_99, c_lastLeft_99, hq0, hm⟩ := bd7_some hm
    refine k_callVI (As := [.int v1]) (rest := []) ⟨hx, hb, hml, hown, hts⟩ hK hA hN (c_X0_heightOf hG hq0) (cwV 1 hts gX0_pageFact_X0_heightOf rfl rfl rfl hdX0_heightOf ⟨Nat.le_of_ble_eq_true rfl, Nat.le_of_ble_eq_true rfl⟩) hP (WCD hD) hS 3 0 rfl rfl rfl hl.1 rfl rfl (Nat.le_of_ble_eq_true rfl) ⟨Nat.zero_le _, Nat.zero_le _⟩ dX0_pageFact_99 (fun H locs hP hS => ?_)
    simp only [Option.some.injEq, Prod.mk.injEq] at hm
    obtain ⟨rfl, rfl, rfl, rfl, rfl, rfl, rfl⟩ := hm
    exact hret _ _ _ _ dX0_pageFact_102 hP hS
  have hm := if_f hc5 hm
  refine lv_tableOut (tgt := 103) hx hb dX0_pageFact_1 (sw_out0_5 hc0 hc1 hc2 hc3 hc4 hc5) (by decide) ?_
  refine lv_aload_n hx hb dX0_pageFact_103 rfl (lv_at hl 0 rfl) ?_
  refine lv_iload_n hx hb dX0_pageFact_104 rfl (lv_at hl 1 rfl) ?_
  obtain ⟨r105, hq0, hm⟩ := bd1_some hm
  refine k_callVI (As := [.int v1]) (rest := []) ⟨hx, hb, hml, hown, hts⟩ hK hA hN (c_X0_weightOf hG hq0) (cwV 1 hts gX0_pageFact_X0_weightOf rfl rfl rfl hdX0_weightOf ⟨Nat.le_of_ble_eq_true rfl, Nat.le_of_ble_eq_true rfl⟩) hP (WCD hD) hS 3 0 rfl rfl rfl hl.1 rfl rfl (Nat.le_of_ble_eq_true rfl) ⟨Nat.zero_le _, Nat.zero_le _⟩ dX0_pageFact_105 (fun H locs hP hS => ?_)
  simp only [Option.some.injEq, Prod.mk.injEq] at hm
  obtain ⟨rfl, rfl, rfl, rfl, rfl, rfl, rfl⟩ := hm
  exact hret _ _ _ _ dX0_pageFact_108 hP hS
theorem hdX7_page : yX7_page.cls = RX7 ∧ yX7_page.cls ≠ "java/lang/invoke/MethodHandle" ∧ yX7_page.cls ≠ "java/lang/invoke/VarHandle" ∧ (parseMethodDescriptor yX7_page.desc).map (fun d => d.parameters.length) = some 2 := by decide +kernel
theorem hiX7_page_X7 : ∀ w ∈ u_ws RX7 TX7 8, w ∈ wsX7_page := by decide +kernel
theorem flX7_page_26 : Cond.fieldLink RX7 26 "BlindPages" "index" "LBlindPages$Index;" ∈ wsX7_page := by decide +kernel
def C7_page_J21 (a : Nat → Nat) (LW : List Nat) (c_heads c_firsts c_levelOf c_aboveOf c_partings c_signs c_count c_pages : Nat → Int32) (c_words : Nat → Nat → Nat) (c_entries : Nat → Nat → Int32) (v1 : Int32) (v2 : Int32) (c_bads : Int32) (c_noes : Int32) (c_fulls : Int32) (c_base : Int32) (c_from : Int32) (c_to : Int32) (c_above : Int32) (c_bit : Int32) (c_lastLeft : Int32) : Option (Int32 × Int32 × Int32 × Int32 × Int32 × Int32 × Int32 × Int32 × Int32 × Int32) := bd4 (C7_refuse c_bads c_noes c_fulls (-2)) fun r24 c_bads_24 c_noes_24 c_fulls_24 => some (r24, c_bads_24, c_noes_24, c_fulls_24, c_base, c_from, c_to, c_above, c_bit, c_lastLeft)
def C7_page (a : Nat → Nat) (LW : List Nat) (c_heads c_firsts c_levelOf c_aboveOf c_partings c_signs c_count c_pages : Nat → Int32) (c_words : Nat → Nat → Nat) (c_entries : Nat → Nat → Int32) (c_bads c_noes c_fulls c_base c_from c_to c_above c_bit c_lastLeft : Int32) (v1 : Int32) (v2 : Int32) : Option (Int32 × Int32 × Int32 × Int32 × Int32 × Int32 × Int32 × Int32 × Int32 × Int32) := if v2 < 0 then (C7_page_J21 a LW c_heads c_firsts c_levelOf c_aboveOf c_partings c_signs c_count c_pages c_words c_entries v1 v2 c_bads c_noes c_fulls c_base c_from c_to c_above c_bit c_lastLeft) else (if 6 < v2 then (C7_page_J21 a LW c_heads c_firsts c_levelOf c_aboveOf c_partings c_signs c_count c_pages c_words c_entries v1 v2 c_bads c_noes c_fulls c_base c_from c_to c_above c_bit c_lastLeft) else (bd1 (C0_hasPage a c_pages v1) fun r15 => if r15 = 0 then (C7_page_J21 a LW c_heads c_firsts c_levelOf c_aboveOf c_partings c_signs c_count c_pages c_words c_entries v1 v2 c_bads c_noes c_fulls c_base c_from c_to c_above c_bit c_lastLeft) else (bd7 (C0_pageFact a LW c_heads c_firsts c_levelOf c_aboveOf c_partings c_signs c_count c_pages c_words c_entries c_base c_from c_to c_above c_bit c_lastLeft v1 v2) fun r34 c_base_34 c_from_34 c_to_34 c_above_34 c_bit_34 c_lastLeft_34 => some (r34, c_bads, c_noes, c_fulls, c_base_34, c_from_34, c_to_34, c_above_34, c_bit_34, c_lastLeft_34))))
set_option maxRecDepth 100000 in
set_option maxHeartbeats 4000000 in
theorem t_C7_page_J21 {p : Program} {l : Launch} {e : Env} {s : State} {m : MethodId} {args : Array Value} {below : List Frame} {meth : Method} {c : Code} {Q : State → Prop} {A : Nat → Prop} {D : va_G} {cI cJ cB cL cS cW : ClassId} {a wb sw se : Nat → Nat} {LW LS LK : List Nat} {c_bytes c_heads c_firsts c_levelOf c_aboveOf c_partings c_signs c_count c_pages c_levels c_most c_page c_known c_guess c_diff c_pieces c_place : Nat → Int32} {c_bits : Nat → Nat → Int64} {c_words : Nat → Nat → Nat} {c_entries : Nat → Nat → Int32} {c_length c_next c_kept : Int32} {v1 : Int32} {v2 : Int32} {r : Int32} {o_bads : Int32} {o_noes : Int32} {o_fulls : Int32} {o_base : Int32} {o_from : Int32} {o_to : Int32} {o_above : Int32} {o_bit : Int32} {o_lastLeft : Int32} (C : k_C p s m args meth c cX7_page 3 (some .int) RX7 wsX7_page D (kT cI cJ cB cL cS cW) A) (hD : va_D A (WC0 a wb sw se LW LS LK cI cJ cB cL cS cW)) (hG : kG a LW LS LK) (hret : ∀ (H : Heap) (locs : List Loc) (pc : Nat) (ls : Array Slot), decode cX7_page pc = .ok (.ireturn, 1) → va_P D vwCl (WC a wb sw se LW LS LK cI cJ cB cL cS cW c_bytes c_heads c_firsts c_levelOf c_aboveOf c_partings c_signs c_count c_pages c_levels c_most c_page c_known c_guess c_diff c_pieces c_place c_bits c_words c_entries o_bads o_noes o_fulls c_length c_next c_kept o_base o_from o_to o_above o_bit o_lastLeft) H → va_S A s.heap H locs → W p l e { frames := 4, cells := 0, slots := 0, locals := 92 } s m args below meth c H locs 0 0 Q (F0 m pc ls [.int r])) : ∀ (c_bads : Int32) (c_noes : Int32) (c_fulls : Int32) (c_base : Int32) (c_from : Int32) (c_to : Int32) (c_above : Int32) (c_bit : Int32) (c_lastLeft : Int32) (H : Heap) (locs : List Loc) (ls : Array Slot), va_P D vwCl (WC a wb sw se LW LS LK cI cJ cB cL cS cW c_bytes c_heads c_firsts c_levelOf c_aboveOf c_partings c_signs c_count c_pages c_levels c_most c_page c_known c_guess c_diff c_pieces c_place c_bits c_words c_entries c_bads c_noes c_fulls c_length c_next c_kept c_base c_from c_to c_above c_bit c_lastLeft) H → va_S A s.heap H locs → lv_has ls 3 [(0, .ref (a 0))] → C7_page_J21 a LW c_heads c_firsts c_levelOf c_aboveOf c_partings c_signs c_count c_pages c_words c_entries v1 v2 c_bads c_noes c_fulls c_base c_from c_to c_above c_bit c_lastLeft = some (r, o_bads, o_noes, o_fulls, o_base, o_from, o_to, o_above, o_bit, o_lastLeft) → W p l e { frames := 4, cells := 0, slots := 0, locals := 92 } s m args below meth c H locs 0 0 Q (F0 m 21 ls []) := by
  obtain ⟨hx, hb, hml, hr, hown, hts, hlocks, hK, hA, hN⟩ := id C
  intro c_bads c_noes c_fulls c_base c_from c_to c_above c_bit c_lastLeft H locs ls hP hS hl hm
  rw [C7_page_J21] at hm
  refine lv_aload_n hx hb dX7_page_21 rfl (lv_at hl 0 rfl) ?_
  refine lv_bipush (v := (-2)) hx hb dX7_page_22 (by decide) ?_
  obtain ⟨r24, c_bads_24, c_noes_24, c_fulls_24, hq0, hm⟩ := bd4_some hm
  refine k_callVI (As := [.int (-2)]) (rest := []) ⟨hx, hb, hml, hown, hts⟩ hK hA hN (c_X7_refuse hG hq0) (cwV 1 hts gX7_page_X7_refuse rfl rfl rfl hdX7_refuse ⟨Nat.le_of_ble_eq_true rfl, Nat.le_of_ble_eq_true rfl⟩) hP (WCD hD) hS 0 7 rfl rfl rfl hl.1 rfl rfl (Nat.le_of_ble_eq_true rfl) ⟨Nat.zero_le _, Nat.zero_le _⟩ dX7_page_24 (fun H locs hP hS => ?_)
  simp only [Option.some.injEq, Prod.mk.injEq] at hm
  obtain ⟨rfl, rfl, rfl, rfl, rfl, rfl, rfl, rfl, rfl, rfl⟩ := hm
  exact hret _ _ _ _ dX7_page_27 hP hS
set_option maxRecDepth 100000 in
set_option maxHeartbeats 4000000 in
theorem c_X7_page {l : Launch} {D : va_G} {cI cJ cB cL cS cW : ClassId} {a wb sw se : Nat → Nat} {LW LS LK : List Nat} {c_bytes c_heads c_firsts c_levelOf c_aboveOf c_partings c_signs c_count c_pages c_levels c_most c_page c_known c_guess c_diff c_pieces c_place : Nat → Int32} {c_bits : Nat → Nat → Int64} {c_words : Nat → Nat → Nat} {c_entries : Nat → Nat → Int32} {c_bads c_noes c_fulls c_length c_next c_kept c_base c_from c_to c_above c_bit c_lastLeft : Int32} {v1 : Int32} {v2 : Int32} {r : Int32} {o_bads : Int32} {o_noes : Int32} {o_fulls : Int32} {o_base : Int32} {o_from : Int32} {o_to : Int32} {o_above : Int32} {o_bit : Int32} {o_lastLeft : Int32} (hG : kG a LW LS LK) (hm : C7_page a LW c_heads c_firsts c_levelOf c_aboveOf c_partings c_signs c_count c_pages c_words c_entries c_bads c_noes c_fulls c_base c_from c_to c_above c_bit c_lastLeft v1 v2 = some (r, o_bads, o_noes, o_fulls, o_base, o_from, o_to, o_above, o_bit, o_lastLeft)) : k_MI l yX7_page wsX7_page { frames := 4, cells := 0, slots := 0, locals := 92 } D (kT cI cJ cB cL cS cW) [.ref (a 0), .int v1, .int v2] (WC a wb sw se LW LS LK cI cJ cB cL cS cW c_bytes c_heads c_firsts c_levelOf c_aboveOf c_partings c_signs c_count c_pages c_levels c_most c_page c_known c_guess c_diff c_pieces c_place c_bits c_words c_entries c_bads c_noes c_fulls c_length c_next c_kept c_base c_from c_to c_above c_bit c_lastLeft) r (WC a wb sw se LW LS LK cI cJ cB cL cS cW c_bytes c_heads c_firsts c_levelOf c_aboveOf c_partings c_signs c_count c_pages c_levels c_most c_page c_known c_guess c_diff c_pieces c_place c_bits c_words c_entries o_bads o_noes o_fulls c_length c_next c_kept o_base o_from o_to o_above o_bit o_lastLeft) := by
  refine k_ofI (cc := cX7_page) (maxL := 3) (own := RX7) (by decide) rfl rfl (Nat.le_of_ble_eq_true rfl) ?_
  intro p e s m args below meth c A Q ls C hP hD hl hret
  have hD : va_D A (WC0 a wb sw se LW LS LK cI cJ cB cL cS cW) := WCD hD
  have hS : va_S A s.heap s.heap [] := va_S.rf
  have hl : lv_has ls 3 [(0, .ref (a 0)), (1, .int v1), (2, .int v2)] := hl
  obtain ⟨hx, hb, hml, hr, hown, hts, hlocks, hK, hA, hN⟩ := id C
  rw [C7_page] at hm
  refine lv_iload_n hx hb dX7_page_0 rfl (lv_at hl 2 rfl) ?_
  refine lv_if_lt (tgt := 21) hx hb dX7_page_1 (by decide) (fun hc => ?_) (fun hc => ?_)
  · have hm := if_t hc hm
    exact t_C7_page_J21 C hD hG hret _ _ _ _ _ _ _ _ _ _ _ _ hP hS (lv_sub hl [0] rfl) hm
  · have hm := if_f hc hm
    refine lv_iload_n hx hb dX7_page_4 rfl (lv_at hl 2 rfl) ?_
    refine lv_bipush (v := 6) hx hb dX7_page_5 (by decide) ?_
    refine lv_icmp_gt (tgt := 21) hx hb dX7_page_7 (by decide) (fun hc => ?_) (fun hc => ?_)
    · have hm := if_t hc hm
      exact t_C7_page_J21 C hD hG hret _ _ _ _ _ _ _ _ _ _ _ _ hP hS (lv_sub hl [0] rfl) hm
    · have hm := if_f hc hm
      refine lv_aload_n hx hb dX7_page_10 rfl (lv_at hl 0 rfl) ?_
      refine kg (v := .ref (a 3)) hx hb hts hiX7_page_X7 hown hK hP 0 rfl rfl 2 (by decide) flX7_page_26 rfl rfl dX7_page_11 ?_
      refine lv_iload_n hx hb dX7_page_14 rfl (lv_at hl 1 rfl) ?_
      obtain ⟨r15, hq0, hm⟩ := bd1_some hm
      refine k_callVI (As := [.int v1]) (rest := []) ⟨hx, hb, hml, hown, hts⟩ hK hA hN (c_X0_hasPage hG hq0) (cwV 1 hts gX7_page_X0_hasPage rfl rfl rfl hdX0_hasPage ⟨Nat.le_of_ble_eq_true rfl, Nat.le_of_ble_eq_true rfl⟩) hP (WCD hD) hS 3 0 rfl rfl rfl hl.1 rfl rfl (Nat.le_of_ble_eq_true rfl) ⟨Nat.zero_le _, Nat.zero_le _⟩ dX7_page_15 (fun H locs hP hS => ?_)
      refine lv_if_ne (tgt := 28) hx hb dX7_page_18 (by decide) (fun hc => ?_) (fun hc => ?_)
      · have hm := if_f hc hm
        refine lv_aload_n hx hb dX7_page_28 rfl (lv_at hl 0 rfl) ?_
        refine kg (v := .ref (a 3)) hx hb hts hiX7_page_X7 hown hK hP 0 rfl rfl 2 (by decide) flX7_page_26 rfl rfl dX7_page_29 ?_
        refine lv_iload_n hx hb dX7_page_32 rfl (lv_at hl 1 rfl) ?_
        refine lv_iload_n hx hb dX7_page_33 rfl (lv_at hl 2 rfl) ?_
        obtain ⟨r34, c_base_34, c_from_34, c_to_34, c_above_34, c_bit_34, c_lastLeft_34, hq0, hm⟩ := bd7_some hm
        refine k_callVI (As := [.int v1, .int v2]) (rest := []) ⟨hx, hb, hml, hown, hts⟩ hK hA hN (c_X0_pageFact hG hq0) (cwV 2 hts gX7_page_X0_pageFact rfl rfl rfl hdX0_pageFact ⟨Nat.le_of_ble_eq_true rfl, Nat.le_of_ble_eq_true rfl⟩) hP (WCD hD) hS 3 0 rfl rfl rfl hl.1 rfl rfl (Nat.le_of_ble_eq_true rfl) ⟨Nat.zero_le _, Nat.zero_le _⟩ dX7_page_34 (fun H locs hP hS => ?_)
        simp only [Option.some.injEq, Prod.mk.injEq] at hm
        obtain ⟨rfl, rfl, rfl, rfl, rfl, rfl, rfl, rfl, rfl, rfl⟩ := hm
        exact hret _ _ _ _ dX7_page_37 hP hS
      · have hm := if_t hc hm
        exact t_C7_page_J21 C hD hG hret _ _ _ _ _ _ _ _ _ _ _ _ hP hS (lv_sub hl [0] rfl) hm
theorem hdX0_forkFact : yX0_forkFact.cls = RX0 ∧ yX0_forkFact.cls ≠ "java/lang/invoke/MethodHandle" ∧ yX0_forkFact.cls ≠ "java/lang/invoke/VarHandle" ∧ (parseMethodDescriptor yX0_forkFact.desc).map (fun d => d.parameters.length) = some 3 := by decide +kernel
theorem hiX0_forkFact_X0 : ∀ w ∈ u_ws RX0 TX0 7, w ∈ wsX0_forkFact := by decide +kernel
theorem hiX0_forkFact_X5 : ∀ w ∈ u_ws RX5 TX5 7, w ∈ wsX0_forkFact := by decide +kernel
theorem flX0_forkFact_34 : Cond.fieldLink RX0 34 "BlindPages$Index" "tree" "LBlindPages$Tree;" ∈ wsX0_forkFact := by decide +kernel
theorem flX0_forkFact_12 : Cond.fieldLink RX0 12 "BlindPages$Index" "now" "LBlindPages$State;" ∈ wsX0_forkFact := by decide +kernel
theorem flX0_forkFact_227 : Cond.fieldLink RX0 227 "BlindPages$Tree" "bit" "I" ∈ wsX0_forkFact := by decide +kernel
theorem flX0_forkFact_230 : Cond.fieldLink RX0 230 "BlindPages$Tree" "lastLeft" "I" ∈ wsX0_forkFact := by decide +kernel
theorem flX0_forkFact_101 : Cond.fieldLink RX0 101 "BlindPages$Tree" "from" "I" ∈ wsX0_forkFact := by decide +kernel
theorem flX0_forkFact_131 : Cond.fieldLink RX0 131 "BlindPages$Tree" "to" "I" ∈ wsX0_forkFact := by decide +kernel
theorem flX0_forkFact_224 : Cond.fieldLink RX0 224 "BlindPages$Tree" "above" "I" ∈ wsX0_forkFact := by decide +kernel
def C0_forkFact (a : Nat → Nat) (c_firsts c_partings c_pages : Nat → Int32) (c_entries : Nat → Nat → Int32) (c_base c_from c_to c_above c_bit c_lastLeft : Int32) (v1 : Int32) (v2 : Int32) (v3 : Int32) : Option (Int32 × Int32 × Int32 × Int32 × Int32 × Int32 × Int32) := bd1 (C0_firstOf c_firsts v1) fun r6 => bd1 (C3_entriesOf c_pages c_entries (a 14) v1) fun r14 => bd6 (C5_open c_partings c_base c_from c_to c_above c_bit c_lastLeft r6 r14) fun c_base_17 c_from_17 c_to_17 c_above_17 c_bit_17 c_lastLeft_17 => bd5 (C5_seek c_partings c_base_17 c_from_17 c_to_17 c_above_17 c_bit_17 c_lastLeft_17 v2) fun c_from_25 c_to_25 c_above_25 c_bit_25 c_lastLeft_25 => if v3 = 0 then (some (c_bit_25, c_base_17, c_from_25, c_to_25, c_above_25, c_bit_25, c_lastLeft_25)) else if v3 = 1 then (some (((c_lastLeft_25 - c_from_25) + 1), c_base_17, c_from_25, c_to_25, c_above_25, c_bit_25, c_lastLeft_25)) else if v3 = 2 then (some ((c_to_25 - c_lastLeft_25), c_base_17, c_from_25, c_to_25, c_above_25, c_bit_25, c_lastLeft_25)) else (some (c_above_25, c_base_17, c_from_25, c_to_25, c_above_25, c_bit_25, c_lastLeft_25))
set_option maxRecDepth 100000 in
set_option maxHeartbeats 4000000 in
theorem c_X0_forkFact {l : Launch} {D : va_G} {cI cJ cB cL cS cW : ClassId} {a wb sw se : Nat → Nat} {LW LS LK : List Nat} {c_bytes c_heads c_firsts c_levelOf c_aboveOf c_partings c_signs c_count c_pages c_levels c_most c_page c_known c_guess c_diff c_pieces c_place : Nat → Int32} {c_bits : Nat → Nat → Int64} {c_words : Nat → Nat → Nat} {c_entries : Nat → Nat → Int32} {c_bads c_noes c_fulls c_length c_next c_kept c_base c_from c_to c_above c_bit c_lastLeft : Int32} {v1 : Int32} {v2 : Int32} {v3 : Int32} {r : Int32} {o_base : Int32} {o_from : Int32} {o_to : Int32} {o_above : Int32} {o_bit : Int32} {o_lastLeft : Int32} (hG : kG a LW LS LK) (hm : C0_forkFact a c_firsts c_partings c_pages c_entries c_base c_from c_to c_above c_bit c_lastLeft v1 v2 v3 = some (r, o_base, o_from, o_to, o_above, o_bit, o_lastLeft)) : k_MI l yX0_forkFact wsX0_forkFact { frames := 2, cells := 0, slots := 0, locals := 47 } D (kT cI cJ cB cL cS cW) [.ref (a 3), .int v1, .int v2, .int v3] (WC a wb sw se LW LS LK cI cJ cB cL cS cW c_bytes c_heads c_firsts c_levelOf c_aboveOf c_partings c_signs c_count c_pages c_levels c_most c_page c_known c_guess c_diff c_pieces c_place c_bits c_words c_entries c_bads c_noes c_fulls c_length c_next c_kept c_base c_from c_to c_above c_bit c_lastLeft) r (WC a wb sw se LW LS LK cI cJ cB cL cS cW c_bytes c_heads c_firsts c_levelOf c_aboveOf c_partings c_signs c_count c_pages c_levels c_most c_page c_known c_guess c_diff c_pieces c_place c_bits c_words c_entries c_bads c_noes c_fulls c_length c_next c_kept o_base o_from o_to o_above o_bit o_lastLeft) := by
  refine k_ofI (cc := cX0_forkFact) (maxL := 4) (own := RX0) (by decide) rfl rfl (Nat.le_of_ble_eq_true rfl) ?_
  intro p e s m args below meth c A Q ls C hP hD hl hret
  have hD : va_D A (WC0 a wb sw se LW LS LK cI cJ cB cL cS cW) := WCD hD
  have hS : va_S A s.heap s.heap [] := va_S.rf
  have hl : lv_has ls 4 [(0, .ref (a 3)), (1, .int v1), (2, .int v2), (3, .int v3)] := hl
  obtain ⟨hx, hb, hml, hr, hown, hts, hlocks, hK, hA, hN⟩ := id C
  rw [C0_forkFact] at hm
  refine lv_aload_n hx hb dX0_forkFact_0 rfl (lv_at hl 0 rfl) ?_
  refine kg (v := .ref (a 8)) hx hb hts hiX0_forkFact_X0 hown hK hP 3 rfl rfl 5 (by decide) flX0_forkFact_34 rfl rfl dX0_forkFact_1 ?_
  refine lv_aload_n hx hb dX0_forkFact_4 rfl (lv_at hl 0 rfl) ?_
  refine lv_iload_n hx hb dX0_forkFact_5 rfl (lv_at hl 1 rfl) ?_
  obtain ⟨r6, hq0, hm⟩ := bd1_some hm
  refine k_callVI (As := [.int v1]) (rest := [.ref (a 8)]) ⟨hx, hb, hml, hown, hts⟩ hK hA hN (c_X0_firstOf hG hq0) (cwV 1 hts gX0_forkFact_X0_firstOf rfl rfl rfl hdX0_firstOf ⟨Nat.le_of_ble_eq_true rfl, Nat.le_of_ble_eq_true rfl⟩) hP (WCD hD) hS 3 0 rfl rfl rfl hl.1 rfl rfl (Nat.le_of_ble_eq_true rfl) ⟨Nat.zero_le _, Nat.zero_le _⟩ dX0_forkFact_6 (fun H locs hP hS => ?_)
  refine lv_aload_n hx hb dX0_forkFact_9 rfl (lv_at hl 0 rfl) ?_
  refine kg (v := .ref (a 14)) hx hb hts hiX0_forkFact_X0 hown hK hP 3 rfl rfl 0 (by decide) flX0_forkFact_12 rfl rfl dX0_forkFact_10 ?_
  refine lv_iload_n hx hb dX0_forkFact_13 rfl (lv_at hl 1 rfl) ?_
  obtain ⟨r14, hq0, hm⟩ := bd1_some hm
  obtain ⟨q, hq, -⟩ := WC_S hG hG.2.2.2.2.1
  refine k_callVI (As := [.int v1]) (rest := [.int r6, .ref (a 8)]) ⟨hx, hb, hml, hown, hts⟩ hK hA hN (c_X3_entriesOf hG hG.2.2.2.2.1 hq0) (cwV 1 hts gX0_forkFact_X3_entriesOf rfl rfl rfl hdX3_entriesOf ⟨Nat.le_of_ble_eq_true rfl, Nat.le_of_ble_eq_true rfl⟩) hP (WCD hD) hS q 3 hq rfl rfl hl.1 rfl rfl (Nat.le_of_ble_eq_true rfl) ⟨Nat.zero_le _, Nat.zero_le _⟩ dX0_forkFact_14 (fun H locs hP hS => ?_)
  obtain ⟨c_base_17, c_from_17, c_to_17, c_above_17, c_bit_17, c_lastLeft_17, hq0, hm⟩ := bd6_some hm
  refine k_callVV (As := [.int r6, .int r14]) (rest := []) ⟨hx, hb, hml, hown, hts⟩ hK hA hN (c_X5_open hG hq0) (cwV 2 hts gX0_forkFact_X5_open rfl rfl rfl hdX5_open ⟨Nat.le_of_ble_eq_true rfl, Nat.le_of_ble_eq_true rfl⟩) hP (WCD hD) hS 8 5 rfl rfl rfl hl.1 rfl rfl (Nat.le_of_ble_eq_true rfl) ⟨Nat.zero_le _, Nat.zero_le _⟩ dX0_forkFact_17 (fun H locs hP hS => ?_)
  refine lv_aload_n hx hb dX0_forkFact_20 rfl (lv_at hl 0 rfl) ?_
  refine kg (v := .ref (a 8)) hx hb hts hiX0_forkFact_X0 hown hK hP 3 rfl rfl 5 (by decide) flX0_forkFact_34 rfl rfl dX0_forkFact_21 ?_
  refine lv_iload_n hx hb dX0_forkFact_24 rfl (lv_at hl 2 rfl) ?_
  obtain ⟨c_from_25, c_to_25, c_above_25, c_bit_25, c_lastLeft_25, hq0, hm⟩ := bd5_some hm
  refine k_callVV (As := [.int v2]) (rest := []) ⟨hx, hb, hml, hown, hts⟩ hK hA hN (c_X5_seek hG hq0) (cwV 1 hts gX0_forkFact_X5_seek rfl rfl rfl hdX5_seek ⟨Nat.le_of_ble_eq_true rfl, Nat.le_of_ble_eq_true rfl⟩) hP (WCD hD) hS 8 5 rfl rfl rfl hl.1 rfl rfl (Nat.le_of_ble_eq_true rfl) ⟨Nat.zero_le _, Nat.zero_le _⟩ dX0_forkFact_25 (fun H locs hP hS => ?_)
  refine lv_iload_n hx hb dX0_forkFact_28 rfl (lv_at hl 3 rfl) ?_
  by_cases hc0 : v3 = 0
  · have hm := if_t hc0 hm
    refine lv_tableIn (tgt := 56) (off := 27) hx hb dX0_forkFact_29 (by rw [hc0]; decide) (by rw [hc0]; decide) (by rw [hc0]; rfl) (by decide) ?_
    refine lv_aload_n hx hb dX0_forkFact_56 rfl (lv_at hl 0 rfl) ?_
    refine kg (v := .ref (a 8)) hx hb hts hiX0_forkFact_X0 hown hK hP 3 rfl rfl 5 (by decide) flX0_forkFact_34 rfl rfl dX0_forkFact_57 ?_
    refine kg (v := .int c_bit_25) hx hb hts hiX0_forkFact_X5 hown hK hP 8 rfl rfl 5 (by decide) flX0_forkFact_227 rfl rfl dX0_forkFact_60 ?_
    simp only [Option.some.injEq, Prod.mk.injEq] at hm
    obtain ⟨rfl, rfl, rfl, rfl, rfl, rfl, rfl⟩ := hm
    exact hret _ _ _ _ dX0_forkFact_63 hP hS
  have hm := if_f hc0 hm
  by_cases hc1 : v3 = 1
  · have hm := if_t hc1 hm
    refine lv_tableIn (tgt := 64) (off := 35) hx hb dX0_forkFact_29 (by rw [hc1]; decide) (by rw [hc1]; decide) (by rw [hc1]; rfl) (by decide) ?_
    refine lv_aload_n hx hb dX0_forkFact_64 rfl (lv_at hl 0 rfl) ?_
    refine kg (v := .ref (a 8)) hx hb hts hiX0_forkFact_X0 hown hK hP 3 rfl rfl 5 (by decide) flX0_forkFact_34 rfl rfl dX0_forkFact_65 ?_
    refine kg (v := .int c_lastLeft_25) hx hb hts hiX0_forkFact_X5 hown hK hP 8 rfl rfl 6 (by decide) flX0_forkFact_230 rfl rfl dX0_forkFact_68 ?_
    refine lv_aload_n hx hb dX0_forkFact_71 rfl (lv_at hl 0 rfl) ?_
    refine kg (v := .ref (a 8)) hx hb hts hiX0_forkFact_X0 hown hK hP 3 rfl rfl 5 (by decide) flX0_forkFact_34 rfl rfl dX0_forkFact_72 ?_
    refine kg (v := .int c_from_25) hx hb hts hiX0_forkFact_X5 hown hK hP 8 rfl rfl 2 (by decide) flX0_forkFact_101 rfl rfl dX0_forkFact_75 ?_
    refine lv_isub hx hb dX0_forkFact_78 ?_
    refine lv_iconst (v := 1) hx hb dX0_forkFact_79 (by decide) ?_
    refine lv_iadd hx hb dX0_forkFact_80 ?_
    simp only [Option.some.injEq, Prod.mk.injEq] at hm
    obtain ⟨rfl, rfl, rfl, rfl, rfl, rfl, rfl⟩ := hm
    exact hret _ _ _ _ dX0_forkFact_81 hP hS
  have hm := if_f hc1 hm
  by_cases hc2 : v3 = 2
  · have hm := if_t hc2 hm
    refine lv_tableIn (tgt := 82) (off := 53) hx hb dX0_forkFact_29 (by rw [hc2]; decide) (by rw [hc2]; decide) (by rw [hc2]; rfl) (by decide) ?_
    refine lv_aload_n hx hb dX0_forkFact_82 rfl (lv_at hl 0 rfl) ?_
    refine kg (v := .ref (a 8)) hx hb hts hiX0_forkFact_X0 hown hK hP 3 rfl rfl 5 (by decide) flX0_forkFact_34 rfl rfl dX0_forkFact_83 ?_
    refine kg (v := .int c_to_25) hx hb hts hiX0_forkFact_X5 hown hK hP 8 rfl rfl 3 (by decide) flX0_forkFact_131 rfl rfl dX0_forkFact_86 ?_
    refine lv_aload_n hx hb dX0_forkFact_89 rfl (lv_at hl 0 rfl) ?_
    refine kg (v := .ref (a 8)) hx hb hts hiX0_forkFact_X0 hown hK hP 3 rfl rfl 5 (by decide) flX0_forkFact_34 rfl rfl dX0_forkFact_90 ?_
    refine kg (v := .int c_lastLeft_25) hx hb hts hiX0_forkFact_X5 hown hK hP 8 rfl rfl 6 (by decide) flX0_forkFact_230 rfl rfl dX0_forkFact_93 ?_
    refine lv_isub hx hb dX0_forkFact_96 ?_
    simp only [Option.some.injEq, Prod.mk.injEq] at hm
    obtain ⟨rfl, rfl, rfl, rfl, rfl, rfl, rfl⟩ := hm
    exact hret _ _ _ _ dX0_forkFact_97 hP hS
  have hm := if_f hc2 hm
  refine lv_tableOut (tgt := 98) hx hb dX0_forkFact_29 (sw_out0_2 hc0 hc1 hc2) (by decide) ?_
  refine lv_aload_n hx hb dX0_forkFact_98 rfl (lv_at hl 0 rfl) ?_
  refine kg (v := .ref (a 8)) hx hb hts hiX0_forkFact_X0 hown hK hP 3 rfl rfl 5 (by decide) flX0_forkFact_34 rfl rfl dX0_forkFact_99 ?_
  refine kg (v := .int c_above_25) hx hb hts hiX0_forkFact_X5 hown hK hP 8 rfl rfl 4 (by decide) flX0_forkFact_224 rfl rfl dX0_forkFact_102 ?_
  simp only [Option.some.injEq, Prod.mk.injEq] at hm
  obtain ⟨rfl, rfl, rfl, rfl, rfl, rfl, rfl⟩ := hm
  exact hret _ _ _ _ dX0_forkFact_105 hP hS
theorem hdX7_fork : yX7_fork.cls = RX7 ∧ yX7_fork.cls ≠ "java/lang/invoke/MethodHandle" ∧ yX7_fork.cls ≠ "java/lang/invoke/VarHandle" ∧ (parseMethodDescriptor yX7_fork.desc).map (fun d => d.parameters.length) = some 3 := by decide +kernel
theorem hiX7_fork_X7 : ∀ w ∈ u_ws RX7 TX7 8, w ∈ wsX7_fork := by decide +kernel
theorem hiX7_fork_X0 : ∀ w ∈ u_ws RX0 TX0 7, w ∈ wsX7_fork := by decide +kernel
theorem flX7_fork_26 : Cond.fieldLink RX7 26 "BlindPages" "index" "LBlindPages$Index;" ∈ wsX7_fork := by decide +kernel
theorem flX7_fork_68 : Cond.fieldLink RX7 68 "BlindPages$Index" "now" "LBlindPages$State;" ∈ wsX7_fork := by decide +kernel
def C7_fork_J20 (a : Nat → Nat) (c_firsts c_partings c_pages : Nat → Int32) (c_entries : Nat → Nat → Int32) (v1 : Int32) (v2 : Int32) (v3 : Int32) (c_bads : Int32) (c_noes : Int32) (c_fulls : Int32) (c_base : Int32) (c_from : Int32) (c_to : Int32) (c_above : Int32) (c_bit : Int32) (c_lastLeft : Int32) : Option (Int32 × Int32 × Int32 × Int32 × Int32 × Int32 × Int32 × Int32 × Int32 × Int32) := bd4 (C7_refuse c_bads c_noes c_fulls (-2)) fun r23 c_bads_23 c_noes_23 c_fulls_23 => some (r23, c_bads_23, c_noes_23, c_fulls_23, c_base, c_from, c_to, c_above, c_bit, c_lastLeft)
def C7_fork_J48 (a : Nat → Nat) (c_firsts c_partings c_pages : Nat → Int32) (c_entries : Nat → Nat → Int32) (v1 : Int32) (v2 : Int32) (v3 : Int32) (c_bads : Int32) (c_noes : Int32) (c_fulls : Int32) (c_base : Int32) (c_from : Int32) (c_to : Int32) (c_above : Int32) (c_bit : Int32) (c_lastLeft : Int32) : Option (Int32 × Int32 × Int32 × Int32 × Int32 × Int32 × Int32 × Int32 × Int32 × Int32) := bd4 (C7_refuse c_bads c_noes c_fulls (-2)) fun r51 c_bads_51 c_noes_51 c_fulls_51 => some (r51, c_bads_51, c_noes_51, c_fulls_51, c_base, c_from, c_to, c_above, c_bit, c_lastLeft)
def C7_fork (a : Nat → Nat) (c_firsts c_partings c_pages : Nat → Int32) (c_entries : Nat → Nat → Int32) (c_bads c_noes c_fulls c_base c_from c_to c_above c_bit c_lastLeft : Int32) (v1 : Int32) (v2 : Int32) (v3 : Int32) : Option (Int32 × Int32 × Int32 × Int32 × Int32 × Int32 × Int32 × Int32 × Int32 × Int32) := if v3 < 0 then (C7_fork_J20 a c_firsts c_partings c_pages c_entries v1 v2 v3 c_bads c_noes c_fulls c_base c_from c_to c_above c_bit c_lastLeft) else (if 3 < v3 then (C7_fork_J20 a c_firsts c_partings c_pages c_entries v1 v2 v3 c_bads c_noes c_fulls c_base c_from c_to c_above c_bit c_lastLeft) else (bd1 (C0_hasPage a c_pages v1) fun r14 => if r14 = 0 then (C7_fork_J20 a c_firsts c_partings c_pages c_entries v1 v2 v3 c_bads c_noes c_fulls c_base c_from c_to c_above c_bit c_lastLeft) else (if v2 < 0 then (C7_fork_J48 a c_firsts c_partings c_pages c_entries v1 v2 v3 c_bads c_noes c_fulls c_base c_from c_to c_above c_bit c_lastLeft) else (bd1 (C3_entriesOf c_pages c_entries (a 14) v1) fun r40 => if v2 < (r40 - 1) then (bd7 (C0_forkFact a c_firsts c_partings c_pages c_entries c_base c_from c_to c_above c_bit c_lastLeft v1 v2 v3) fun r62 c_base_62 c_from_62 c_to_62 c_above_62 c_bit_62 c_lastLeft_62 => some (r62, c_bads, c_noes, c_fulls, c_base_62, c_from_62, c_to_62, c_above_62, c_bit_62, c_lastLeft_62)) else (C7_fork_J48 a c_firsts c_partings c_pages c_entries v1 v2 v3 c_bads c_noes c_fulls c_base c_from c_to c_above c_bit c_lastLeft)))))
set_option maxRecDepth 100000 in
set_option maxHeartbeats 4000000 in
theorem t_C7_fork_J20 {p : Program} {l : Launch} {e : Env} {s : State} {m : MethodId} {args : Array Value} {below : List Frame} {meth : Method} {c : Code} {Q : State → Prop} {A : Nat → Prop} {D : va_G} {cI cJ cB cL cS cW : ClassId} {a wb sw se : Nat → Nat} {LW LS LK : List Nat} {c_bytes c_heads c_firsts c_levelOf c_aboveOf c_partings c_signs c_count c_pages c_levels c_most c_page c_known c_guess c_diff c_pieces c_place : Nat → Int32} {c_bits : Nat → Nat → Int64} {c_words : Nat → Nat → Nat} {c_entries : Nat → Nat → Int32} {c_length c_next c_kept : Int32} {v1 : Int32} {v2 : Int32} {v3 : Int32} {r : Int32} {o_bads : Int32} {o_noes : Int32} {o_fulls : Int32} {o_base : Int32} {o_from : Int32} {o_to : Int32} {o_above : Int32} {o_bit : Int32} {o_lastLeft : Int32} (C : k_C p s m args meth c cX7_fork 4 (some .int) RX7 wsX7_fork D (kT cI cJ cB cL cS cW) A) (hD : va_D A (WC0 a wb sw se LW LS LK cI cJ cB cL cS cW)) (hG : kG a LW LS LK) (hret : ∀ (H : Heap) (locs : List Loc) (pc : Nat) (ls : Array Slot), decode cX7_fork pc = .ok (.ireturn, 1) → va_P D vwCl (WC a wb sw se LW LS LK cI cJ cB cL cS cW c_bytes c_heads c_firsts c_levelOf c_aboveOf c_partings c_signs c_count c_pages c_levels c_most c_page c_known c_guess c_diff c_pieces c_place c_bits c_words c_entries o_bads o_noes o_fulls c_length c_next c_kept o_base o_from o_to o_above o_bit o_lastLeft) H → va_S A s.heap H locs → W p l e { frames := 3, cells := 0, slots := 0, locals := 70 } s m args below meth c H locs 0 0 Q (F0 m pc ls [.int r])) : ∀ (c_bads : Int32) (c_noes : Int32) (c_fulls : Int32) (c_base : Int32) (c_from : Int32) (c_to : Int32) (c_above : Int32) (c_bit : Int32) (c_lastLeft : Int32) (H : Heap) (locs : List Loc) (ls : Array Slot), va_P D vwCl (WC a wb sw se LW LS LK cI cJ cB cL cS cW c_bytes c_heads c_firsts c_levelOf c_aboveOf c_partings c_signs c_count c_pages c_levels c_most c_page c_known c_guess c_diff c_pieces c_place c_bits c_words c_entries c_bads c_noes c_fulls c_length c_next c_kept c_base c_from c_to c_above c_bit c_lastLeft) H → va_S A s.heap H locs → lv_has ls 4 [(0, .ref (a 0))] → C7_fork_J20 a c_firsts c_partings c_pages c_entries v1 v2 v3 c_bads c_noes c_fulls c_base c_from c_to c_above c_bit c_lastLeft = some (r, o_bads, o_noes, o_fulls, o_base, o_from, o_to, o_above, o_bit, o_lastLeft) → W p l e { frames := 3, cells := 0, slots := 0, locals := 70 } s m args below meth c H locs 0 0 Q (F0 m 20 ls []) := by
  obtain ⟨hx, hb, hml, hr, hown, hts, hlocks, hK, hA, hN⟩ := id C
  intro c_bads c_noes c_fulls c_base c_from c_to c_above c_bit c_lastLeft H locs ls hP hS hl hm
  rw [C7_fork_J20] at hm
  refine lv_aload_n hx hb dX7_fork_20 rfl (lv_at hl 0 rfl) ?_
  refine lv_bipush (v := (-2)) hx hb dX7_fork_21 (by decide) ?_
  obtain ⟨r23, c_bads_23, c_noes_23, c_fulls_23, hq0, hm⟩ := bd4_some hm
  refine k_callVI (As := [.int (-2)]) (rest := []) ⟨hx, hb, hml, hown, hts⟩ hK hA hN (c_X7_refuse hG hq0) (cwV 1 hts gX7_fork_X7_refuse rfl rfl rfl hdX7_refuse ⟨Nat.le_of_ble_eq_true rfl, Nat.le_of_ble_eq_true rfl⟩) hP (WCD hD) hS 0 7 rfl rfl rfl hl.1 rfl rfl (Nat.le_of_ble_eq_true rfl) ⟨Nat.zero_le _, Nat.zero_le _⟩ dX7_fork_23 (fun H locs hP hS => ?_)
  simp only [Option.some.injEq, Prod.mk.injEq] at hm
  obtain ⟨rfl, rfl, rfl, rfl, rfl, rfl, rfl, rfl, rfl, rfl⟩ := hm
  exact hret _ _ _ _ dX7_fork_26 hP hS
set_option maxRecDepth 100000 in
set_option maxHeartbeats 4000000 in
theorem t_C7_fork_J48 {p : Program} {l : Launch} {e : Env} {s : State} {m : MethodId} {args : Array Value} {below : List Frame} {meth : Method} {c : Code} {Q : State → Prop} {A : Nat → Prop} {D : va_G} {cI cJ cB cL cS cW : ClassId} {a wb sw se : Nat → Nat} {LW LS LK : List Nat} {c_bytes c_heads c_firsts c_levelOf c_aboveOf c_partings c_signs c_count c_pages c_levels c_most c_page c_known c_guess c_diff c_pieces c_place : Nat → Int32} {c_bits : Nat → Nat → Int64} {c_words : Nat → Nat → Nat} {c_entries : Nat → Nat → Int32} {c_length c_next c_kept : Int32} {v1 : Int32} {v2 : Int32} {v3 : Int32} {r : Int32} {o_bads : Int32} {o_noes : Int32} {o_fulls : Int32} {o_base : Int32} {o_from : Int32} {o_to : Int32} {o_above : Int32} {o_bit : Int32} {o_lastLeft : Int32} (C : k_C p s m args meth c cX7_fork 4 (some .int) RX7 wsX7_fork D (kT cI cJ cB cL cS cW) A) (hD : va_D A (WC0 a wb sw se LW LS LK cI cJ cB cL cS cW)) (hG : kG a LW LS LK) (hret : ∀ (H : Heap) (locs : List Loc) (pc : Nat) (ls : Array Slot), decode cX7_fork pc = .ok (.ireturn, 1) → va_P D vwCl (WC a wb sw se LW LS LK cI cJ cB cL cS cW c_bytes c_heads c_firsts c_levelOf c_aboveOf c_partings c_signs c_count c_pages c_levels c_most c_page c_known c_guess c_diff c_pieces c_place c_bits c_words c_entries o_bads o_noes o_fulls c_length c_next c_kept o_base o_from o_to o_above o_bit o_lastLeft) H → va_S A s.heap H locs → W p l e { frames := 3, cells := 0, slots := 0, locals := 70 } s m args below meth c H locs 0 0 Q (F0 m pc ls [.int r])) : ∀ (c_bads : Int32) (c_noes : Int32) (c_fulls : Int32) (c_base : Int32) (c_from : Int32) (c_to : Int32) (c_above : Int32) (c_bit : Int32) (c_lastLeft : Int32) (H : Heap) (locs : List Loc) (ls : Array Slot), va_P D vwCl (WC a wb sw se LW LS LK cI cJ cB cL cS cW c_bytes c_heads c_firsts c_levelOf c_aboveOf c_partings c_signs c_count c_pages c_levels c_most c_page c_known c_guess c_diff c_pieces c_place c_bits c_words c_entries c_bads c_noes c_fulls c_length c_next c_kept c_base c_from c_to c_above c_bit c_lastLeft) H → va_S A s.heap H locs → lv_has ls 4 [(0, .ref (a 0))] → C7_fork_J48 a c_firsts c_partings c_pages c_entries v1 v2 v3 c_bads c_noes c_fulls c_base c_from c_to c_above c_bit c_lastLeft = some (r, o_bads, o_noes, o_fulls, o_base, o_from, o_to, o_above, o_bit, o_lastLeft) → W p l e { frames := 3, cells := 0, slots := 0, locals := 70 } s m args below meth c H locs 0 0 Q (F0 m 48 ls []) := by
  obtain ⟨hx, hb, hml, hr, hown, hts, hlocks, hK, hA, hN⟩ := id C
  intro c_bads c_noes c_fulls c_base c_from c_to c_above c_bit c_lastLeft H locs ls hP hS hl hm
  rw [C7_fork_J48] at hm
  refine lv_aload_n hx hb dX7_fork_48 rfl (lv_at hl 0 rfl) ?_
  refine lv_bipush (v := (-2)) hx hb dX7_fork_49 (by decide) ?_
  obtain ⟨r51, c_bads_51, c_noes_51, c_fulls_51, hq0, hm⟩ := bd4_some hm
  refine k_callVI (As := [.int (-2)]) (rest := []) ⟨hx, hb, hml, hown, hts⟩ hK hA hN (c_X7_refuse hG hq0) (cwV 1 hts gX7_fork_X7_refuse rfl rfl rfl hdX7_refuse ⟨Nat.le_of_ble_eq_true rfl, Nat.le_of_ble_eq_true rfl⟩) hP (WCD hD) hS 0 7 rfl rfl rfl hl.1 rfl rfl (Nat.le_of_ble_eq_true rfl) ⟨Nat.zero_le _, Nat.zero_le _⟩ dX7_fork_51 (fun H locs hP hS => ?_)
  simp only [Option.some.injEq, Prod.mk.injEq] at hm
  obtain ⟨rfl, rfl, rfl, rfl, rfl, rfl, rfl, rfl, rfl, rfl⟩ := hm
  exact hret _ _ _ _ dX7_fork_54 hP hS
set_option maxRecDepth 100000 in
set_option maxHeartbeats 4000000 in
theorem c_X7_fork {l : Launch} {D : va_G} {cI cJ cB cL cS cW : ClassId} {a wb sw se : Nat → Nat} {LW LS LK : List Nat} {c_bytes c_heads c_firsts c_levelOf c_aboveOf c_partings c_signs c_count c_pages c_levels c_most c_page c_known c_guess c_diff c_pieces c_place : Nat → Int32} {c_bits : Nat → Nat → Int64} {c_words : Nat → Nat → Nat} {c_entries : Nat → Nat → Int32} {c_bads c_noes c_fulls c_length c_next c_kept c_base c_from c_to c_above c_bit c_lastLeft : Int32} {v1 : Int32} {v2 : Int32} {v3 : Int32} {r : Int32} {o_bads : Int32} {o_noes : Int32} {o_fulls : Int32} {o_base : Int32} {o_from : Int32} {o_to : Int32} {o_above : Int32} {o_bit : Int32} {o_lastLeft : Int32} (hG : kG a LW LS LK) (hm : C7_fork a c_firsts c_partings c_pages c_entries c_bads c_noes c_fulls c_base c_from c_to c_above c_bit c_lastLeft v1 v2 v3 = some (r, o_bads, o_noes, o_fulls, o_base, o_from, o_to, o_above, o_bit, o_lastLeft)) : k_MI l yX7_fork wsX7_fork { frames := 3, cells := 0, slots := 0, locals := 70 } D (kT cI cJ cB cL cS cW) [.ref (a 0), .int v1, .int v2, .int v3] (WC a wb sw se LW LS LK cI cJ cB cL cS cW c_bytes c_heads c_firsts c_levelOf c_aboveOf c_partings c_signs c_count c_pages c_levels c_most c_page c_known c_guess c_diff c_pieces c_place c_bits c_words c_entries c_bads c_noes c_fulls c_length c_next c_kept c_base c_from c_to c_above c_bit c_lastLeft) r (WC a wb sw se LW LS LK cI cJ cB cL cS cW c_bytes c_heads c_firsts c_levelOf c_aboveOf c_partings c_signs c_count c_pages c_levels c_most c_page c_known c_guess c_diff c_pieces c_place c_bits c_words c_entries o_bads o_noes o_fulls c_length c_next c_kept o_base o_from o_to o_above o_bit o_lastLeft) := by
  refine k_ofI (cc := cX7_fork) (maxL := 4) (own := RX7) (by decide) rfl rfl (Nat.le_of_ble_eq_true rfl) ?_
  intro p e s m args below meth c A Q ls C hP hD hl hret
  have hD : va_D A (WC0 a wb sw se LW LS LK cI cJ cB cL cS cW) := WCD hD
  have hS : va_S A s.heap s.heap [] := va_S.rf
  have hl : lv_has ls 4 [(0, .ref (a 0)), (1, .int v1), (2, .int v2), (3, .int v3)] := hl
  obtain ⟨hx, hb, hml, hr, hown, hts, hlocks, hK, hA, hN⟩ := id C
  rw [C7_fork] at hm
  refine lv_iload_n hx hb dX7_fork_0 rfl (lv_at hl 3 rfl) ?_
  refine lv_if_lt (tgt := 20) hx hb dX7_fork_1 (by decide) (fun hc => ?_) (fun hc => ?_)
  · have hm := if_t hc hm
    exact t_C7_fork_J20 C hD hG hret _ _ _ _ _ _ _ _ _ _ _ _ hP hS (lv_sub hl [0] rfl) hm
  · have hm := if_f hc hm
    refine lv_iload_n hx hb dX7_fork_4 rfl (lv_at hl 3 rfl) ?_
    refine lv_iconst (v := 3) hx hb dX7_fork_5 (by decide) ?_
    refine lv_icmp_gt (tgt := 20) hx hb dX7_fork_6 (by decide) (fun hc => ?_) (fun hc => ?_)
    · have hm := if_t hc hm
      exact t_C7_fork_J20 C hD hG hret _ _ _ _ _ _ _ _ _ _ _ _ hP hS (lv_sub hl [0] rfl) hm
    · have hm := if_f hc hm
      refine lv_aload_n hx hb dX7_fork_9 rfl (lv_at hl 0 rfl) ?_
      refine kg (v := .ref (a 3)) hx hb hts hiX7_fork_X7 hown hK hP 0 rfl rfl 2 (by decide) flX7_fork_26 rfl rfl dX7_fork_10 ?_
      refine lv_iload_n hx hb dX7_fork_13 rfl (lv_at hl 1 rfl) ?_
      obtain ⟨r14, hq0, hm⟩ := bd1_some hm
      refine k_callVI (As := [.int v1]) (rest := []) ⟨hx, hb, hml, hown, hts⟩ hK hA hN (c_X0_hasPage hG hq0) (cwV 1 hts gX7_fork_X0_hasPage rfl rfl rfl hdX0_hasPage ⟨Nat.le_of_ble_eq_true rfl, Nat.le_of_ble_eq_true rfl⟩) hP (WCD hD) hS 3 0 rfl rfl rfl hl.1 rfl rfl (Nat.le_of_ble_eq_true rfl) ⟨Nat.zero_le _, Nat.zero_le _⟩ dX7_fork_14 (fun H locs hP hS => ?_)
      refine lv_if_ne (tgt := 27) hx hb dX7_fork_17 (by decide) (fun hc => ?_) (fun hc => ?_)
      · have hm := if_f hc hm
        refine lv_iload_n hx hb dX7_fork_27 rfl (lv_at hl 2 rfl) ?_
        refine lv_if_lt (tgt := 48) hx hb dX7_fork_28 (by decide) (fun hc => ?_) (fun hc => ?_)
        · have hm := if_t hc hm
          exact t_C7_fork_J48 C hD hG hret _ _ _ _ _ _ _ _ _ _ _ _ hP hS (lv_sub hl [0] rfl) hm
        · have hm := if_f hc hm
          refine lv_iload_n hx hb dX7_fork_31 rfl (lv_at hl 2 rfl) ?_
          refine lv_aload_n hx hb dX7_fork_32 rfl (lv_at hl 0 rfl) ?_
          refine kg (v := .ref (a 3)) hx hb hts hiX7_fork_X7 hown hK hP 0 rfl rfl 2 (by decide) flX7_fork_26 rfl rfl dX7_fork_33 ?_
          refine kg (v := .ref (a 14)) hx hb hts hiX7_fork_X0 hown hK hP 3 rfl rfl 0 (by decide) flX7_fork_68 rfl rfl dX7_fork_36 ?_
          refine lv_iload_n hx hb dX7_fork_39 rfl (lv_at hl 1 rfl) ?_
          obtain ⟨r40, hq0, hm⟩ := bd1_some hm
          obtain ⟨q, hq, -⟩ := WC_S hG hG.2.2.2.2.1
          refine k_callVI (As := [.int v1]) (rest := [.int v2]) ⟨hx, hb, hml, hown, hts⟩ hK hA hN (c_X3_entriesOf hG hG.2.2.2.2.1 hq0) (cwV 1 hts gX7_fork_X3_entriesOf rfl rfl rfl hdX3_entriesOf ⟨Nat.le_of_ble_eq_true rfl, Nat.le_of_ble_eq_true rfl⟩) hP (WCD hD) hS q 3 hq rfl rfl hl.1 rfl rfl (Nat.le_of_ble_eq_true rfl) ⟨Nat.zero_le _, Nat.zero_le _⟩ dX7_fork_40 (fun H locs hP hS => ?_)
          refine lv_iconst (v := 1) hx hb dX7_fork_43 (by decide) ?_
          refine lv_isub hx hb dX7_fork_44 ?_
          refine lv_icmp_lt (tgt := 55) hx hb dX7_fork_45 (by decide) (fun hc => ?_) (fun hc => ?_)
          · have hm := if_t hc hm
            refine lv_aload_n hx hb dX7_fork_55 rfl (lv_at hl 0 rfl) ?_
            refine kg (v := .ref (a 3)) hx hb hts hiX7_fork_X7 hown hK hP 0 rfl rfl 2 (by decide) flX7_fork_26 rfl rfl dX7_fork_56 ?_
            refine lv_iload_n hx hb dX7_fork_59 rfl (lv_at hl 1 rfl) ?_
            refine lv_iload_n hx hb dX7_fork_60 rfl (lv_at hl 2 rfl) ?_
            refine lv_iload_n hx hb dX7_fork_61 rfl (lv_at hl 3 rfl) ?_
            obtain ⟨r62, c_base_62, c_from_62, c_to_62, c_above_62, c_bit_62, c_lastLeft_62, hq0, hm⟩ := bd7_some hm
            refine k_callVI (As := [.int v1, .int v2, .int v3]) (rest := []) ⟨hx, hb, hml, hown, hts⟩ hK hA hN (c_X0_forkFact hG hq0) (cwV 3 hts gX7_fork_X0_forkFact rfl rfl rfl hdX0_forkFact ⟨Nat.le_of_ble_eq_true rfl, Nat.le_of_ble_eq_true rfl⟩) hP (WCD hD) hS 3 0 rfl rfl rfl hl.1 rfl rfl (Nat.le_of_ble_eq_true rfl) ⟨Nat.zero_le _, Nat.zero_le _⟩ dX7_fork_62 (fun H locs hP hS => ?_)
            simp only [Option.some.injEq, Prod.mk.injEq] at hm
            obtain ⟨rfl, rfl, rfl, rfl, rfl, rfl, rfl, rfl, rfl, rfl⟩ := hm
            exact hret _ _ _ _ dX7_fork_65 hP hS
          · have hm := if_f hc hm
            exact t_C7_fork_J48 C hD hG hret _ _ _ _ _ _ _ _ _ _ _ _ hP hS (lv_sub hl [0] rfl) hm
      · have hm := if_t hc hm
        exact t_C7_fork_J20 C hD hG hret _ _ _ _ _ _ _ _ _ _ _ _ hP hS (lv_sub hl [0] rfl) hm
theorem hdX0_costOfWords : yX0_costOfWords.cls = RX0 ∧ yX0_costOfWords.cls ≠ "java/lang/invoke/MethodHandle" ∧ yX0_costOfWords.cls ≠ "java/lang/invoke/VarHandle" ∧ (parseMethodDescriptor yX0_costOfWords.desc).map (fun d => d.parameters.length) = some 1 := by decide +kernel
theorem hiX0_costOfWords_X0 : ∀ w ∈ u_ws RX0 TX0 7, w ∈ wsX0_costOfWords := by decide +kernel
theorem hiX0_costOfWords_X3 : ∀ w ∈ u_ws RX3 TX3 6, w ∈ wsX0_costOfWords := by decide +kernel
theorem flX0_costOfWords_12 : Cond.fieldLink RX0 12 "BlindPages$Index" "now" "LBlindPages$State;" ∈ wsX0_costOfWords := by decide +kernel
theorem flX0_costOfWords_63 : Cond.fieldLink RX0 63 "BlindPages$State" "count" "I" ∈ wsX0_costOfWords := by decide +kernel
def C0_costOfWords_L4 (a : Nat → Nat) (LW LK : List Nat) (c_heads c_firsts c_partings c_signs c_count c_pages c_levels : Nat → Int32) (c_bits : Nat → Nat → Int64) (c_words : Nat → Nat → Nat) (c_entries : Nat → Nat → Int32) (v1 : Int32) (k55 : (Nat → Int32) → (Nat → Int32) → (Nat → Int32) → (Nat → Int32) → (Nat → Int32) → (Nat → Int32) → Int32 → Int32 → Int32 → Int32 → Int32 → Int32 → Int32 → Option (Int32 × (Nat → Int32) × (Nat → Int32) × (Nat → Int32) × (Nat → Int32) × (Nat → Int32) × (Nat → Int32) × Int32 × Int32 × Int32 × Int32 × Int32 × Int32)) : Nat → (Nat → Int32) → (Nat → Int32) → (Nat → Int32) → (Nat → Int32) → (Nat → Int32) → (Nat → Int32) → Int32 → Int32 → Int32 → Int32 → Int32 → Int32 → Int32 → Int32 → Option (Int32 × (Nat → Int32) × (Nat → Int32) × (Nat → Int32) × (Nat → Int32) × (Nat → Int32) × (Nat → Int32) × Int32 × Int32 × Int32 × Int32 × Int32 × Int32)
  | 0, _, _, _, _, _, _, _, _, _, _, _, _, _, _ => none
  | n + 1, c_page, c_known, c_guess, c_diff, c_pieces, c_place, c_base, c_from, c_to, c_above, c_bit, c_lastLeft, v2, v3 => if (c_count (a 14)) ≤ v3 then (k55 c_page c_known c_guess c_diff c_pieces c_place c_base c_from c_to c_above c_bit c_lastLeft v2) else (bd1 (C3_wordAt LW c_words (a 14) v3) fun r21 => gm LW r21 (bd12 (C0_walk a LW LK c_heads c_firsts c_partings c_signs c_pages c_levels c_bits c_words c_entries c_page c_known c_guess c_diff c_pieces c_place c_base c_from c_to c_above c_bit c_lastLeft r21) fun c_page_24 c_known_24 c_guess_24 c_diff_24 c_pieces_24 c_place_24 c_base_24 c_from_24 c_to_24 c_above_24 c_bit_24 c_lastLeft_24 => if v1 = 0 then (bd1 (C0_cost a LK c_levels c_pieces_24) fun r42 => C0_costOfWords_L4 a LW LK c_heads c_firsts c_partings c_signs c_count c_pages c_levels c_bits c_words c_entries v1 k55 n c_page_24 c_known_24 c_guess_24 c_diff_24 c_pieces_24 c_place_24 c_base_24 c_from_24 c_to_24 c_above_24 c_bit_24 c_lastLeft_24 (if v2 < r42 then r42 else v2) (v3 + 1)) else (bd1 (C0_cost a LK c_levels c_pieces_24) fun r33 => C0_costOfWords_L4 a LW LK c_heads c_firsts c_partings c_signs c_count c_pages c_levels c_bits c_words c_entries v1 k55 n c_page_24 c_known_24 c_guess_24 c_diff_24 c_pieces_24 c_place_24 c_base_24 c_from_24 c_to_24 c_above_24 c_bit_24 c_lastLeft_24 (v2 + r33) (v3 + 1))))
def C0_costOfWords (a : Nat → Nat) (LW LK : List Nat) (c_heads c_firsts c_partings c_signs c_count c_pages c_levels : Nat → Int32) (c_bits : Nat → Nat → Int64) (c_words : Nat → Nat → Nat) (c_entries : Nat → Nat → Int32) (c_page c_known c_guess c_diff c_pieces c_place : Nat → Int32) (c_base c_from c_to c_above c_bit c_lastLeft : Int32) (v1 : Int32) : Option (Int32 × (Nat → Int32) × (Nat → Int32) × (Nat → Int32) × (Nat → Int32) × (Nat → Int32) × (Nat → Int32) × Int32 × Int32 × Int32 × Int32 × Int32 × Int32) := C0_costOfWords_L4 a LW LK c_heads c_firsts c_partings c_signs c_count c_pages c_levels c_bits c_words c_entries v1 (fun c_page c_known c_guess c_diff c_pieces c_place c_base c_from c_to c_above c_bit c_lastLeft v2 => some (v2, c_page, c_known, c_guess, c_diff, c_pieces, c_place, c_base, c_from, c_to, c_above, c_bit, c_lastLeft)) FU c_page c_known c_guess c_diff c_pieces c_place c_base c_from c_to c_above c_bit c_lastLeft 0 0
set_option maxRecDepth 100000 in
set_option maxHeartbeats 4000000 in
theorem t_C0_costOfWords_L4 {p : Program} {l : Launch} {e : Env} {s : State} {m : MethodId} {args : Array Value} {below : List Frame} {meth : Method} {c : Code} {Q : State → Prop} {A : Nat → Prop} {D : va_G} {cI cJ cB cL cS cW : ClassId} {a wb sw se : Nat → Nat} {LW LS LK : List Nat} {c_bytes c_heads c_firsts c_levelOf c_aboveOf c_partings c_signs c_count c_pages c_levels c_most : Nat → Int32} {c_bits : Nat → Nat → Int64} {c_words : Nat → Nat → Nat} {c_entries : Nat → Nat → Int32} {c_bads c_noes c_fulls c_length c_next c_kept : Int32} {v1 : Int32} {r : Int32} {o_page : Nat → Int32} {o_known : Nat → Int32} {o_guess : Nat → Int32} {o_diff : Nat → Int32} {o_pieces : Nat → Int32} {o_place : Nat → Int32} {o_base : Int32} {o_from : Int32} {o_to : Int32} {o_above : Int32} {o_bit : Int32} {o_lastLeft : Int32} (C : k_C p s m args meth c cX0_costOfWords 4 (some .int) RX0 wsX0_costOfWords D (kT cI cJ cB cL cS cW) A) (hD : va_D A (WC0 a wb sw se LW LS LK cI cJ cB cL cS cW)) (hG : kG a LW LS LK) (hret : ∀ (H : Heap) (locs : List Loc) (pc : Nat) (ls : Array Slot), decode cX0_costOfWords pc = .ok (.ireturn, 1) → va_P D vwCl (WC a wb sw se LW LS LK cI cJ cB cL cS cW c_bytes c_heads c_firsts c_levelOf c_aboveOf c_partings c_signs c_count c_pages c_levels c_most o_page o_known o_guess o_diff o_pieces o_place c_bits c_words c_entries c_bads c_noes c_fulls c_length c_next c_kept o_base o_from o_to o_above o_bit o_lastLeft) H → va_S A s.heap H locs → W p l e { frames := 5, cells := 0, slots := 0, locals := 119 } s m args below meth c H locs 0 0 Q (F0 m pc ls [.int r])) {k55 : (Nat → Int32) → (Nat → Int32) → (Nat → Int32) → (Nat → Int32) → (Nat → Int32) → (Nat → Int32) → Int32 → Int32 → Int32 → Int32 → Int32 → Int32 → Int32 → Option (Int32 × (Nat → Int32) × (Nat → Int32) × (Nat → Int32) × (Nat → Int32) × (Nat → Int32) × (Nat → Int32) × Int32 × Int32 × Int32 × Int32 × Int32 × Int32)} (hk55 : ∀ (c_page : (Nat → Int32)) (c_known : (Nat → Int32)) (c_guess : (Nat → Int32)) (c_diff : (Nat → Int32)) (c_pieces : (Nat → Int32)) (c_place : (Nat → Int32)) (c_base : Int32) (c_from : Int32) (c_to : Int32) (c_above : Int32) (c_bit : Int32) (c_lastLeft : Int32) (v2 : Int32) (H : Heap) (locs : List Loc) (ls : Array Slot), va_P D vwCl (WC a wb sw se LW LS LK cI cJ cB cL cS cW c_bytes c_heads c_firsts c_levelOf c_aboveOf c_partings c_signs c_count c_pages c_levels c_most c_page c_known c_guess c_diff c_pieces c_place c_bits c_words c_entries c_bads c_noes c_fulls c_length c_next c_kept c_base c_from c_to c_above c_bit c_lastLeft) H → va_S A s.heap H locs → lv_has ls 4 [(2, .int v2)] → k55 c_page c_known c_guess c_diff c_pieces c_place c_base c_from c_to c_above c_bit c_lastLeft v2 = some (r, o_page, o_known, o_guess, o_diff, o_pieces, o_place, o_base, o_from, o_to, o_above, o_bit, o_lastLeft) → W p l e { frames := 5, cells := 0, slots := 0, locals := 119 } s m args below meth c H locs 0 0 Q (F0 m 55 ls [])) : ∀ n : Nat, ∀ (c_page : (Nat → Int32)) (c_known : (Nat → Int32)) (c_guess : (Nat → Int32)) (c_diff : (Nat → Int32)) (c_pieces : (Nat → Int32)) (c_place : (Nat → Int32)) (c_base : Int32) (c_from : Int32) (c_to : Int32) (c_above : Int32) (c_bit : Int32) (c_lastLeft : Int32) (v2 : Int32) (v3 : Int32) (H : Heap) (locs : List Loc) (ls : Array Slot), va_P D vwCl (WC a wb sw se LW LS LK cI cJ cB cL cS cW c_bytes c_heads c_firsts c_levelOf c_aboveOf c_partings c_signs c_count c_pages c_levels c_most c_page c_known c_guess c_diff c_pieces c_place c_bits c_words c_entries c_bads c_noes c_fulls c_length c_next c_kept c_base c_from c_to c_above c_bit c_lastLeft) H → va_S A s.heap H locs → lv_has ls 4 [(0, .ref (a 3)), (1, .int v1), (2, .int v2), (3, .int v3)] → (C0_costOfWords_L4 a LW LK c_heads c_firsts c_partings c_signs c_count c_pages c_levels c_bits c_words c_entries v1 k55 n) c_page c_known c_guess c_diff c_pieces c_place c_base c_from c_to c_above c_bit c_lastLeft v2 v3 = some (r, o_page, o_known, o_guess, o_diff, o_pieces, o_place, o_base, o_from, o_to, o_above, o_bit, o_lastLeft) → W p l e { frames := 5, cells := 0, slots := 0, locals := 119 } s m args below meth c H locs 0 0 Q (F0 m 4 ls []) := by
  obtain ⟨hx, hb, hml, hr, hown, hts, hlocks, hK, hA, hN⟩ := id C
  intro n
  induction n with
  | zero =>
    intro c_page c_known c_guess c_diff c_pieces c_place c_base c_from c_to c_above c_bit c_lastLeft v2 v3 H locs ls hP hS hl hm
    cases hm
  | succ n ih =>
    intro c_page c_known c_guess c_diff c_pieces c_place c_base c_from c_to c_above c_bit c_lastLeft v2 v3 H locs ls hP hS hl hm
    rw [C0_costOfWords_L4] at hm
    refine lv_iload_n hx hb dX0_costOfWords_4 rfl (lv_at hl 3 rfl) ?_
    refine lv_aload_n hx hb dX0_costOfWords_5 rfl (lv_at hl 0 rfl) ?_
    refine kg (v := .ref (a 14)) hx hb hts hiX0_costOfWords_X0 hown hK hP 3 rfl rfl 0 (by decide) flX0_costOfWords_12 rfl rfl dX0_costOfWords_6 ?_
    obtain ⟨q, hq, -⟩ := WC_S hG hG.2.2.2.2.1
    refine kg (v := .int (c_count (a 14))) hx hb hts hiX0_costOfWords_X3 hown hK hP q hq rfl 2 (by decide) flX0_costOfWords_63 rfl rfl dX0_costOfWords_9 ?_
    refine lv_icmp_ge (tgt := 55) hx hb dX0_costOfWords_12 (by decide) (fun hc => ?_) (fun hc => ?_)
    · have hm := if_t hc hm
      exact hk55 _ _ _ _ _ _ _ _ _ _ _ _ _ _ _ _ hP hS (lv_sub hl [2] rfl) hm
    · have hm := if_f hc hm
      refine lv_aload_n hx hb dX0_costOfWords_15 rfl (lv_at hl 0 rfl) ?_
      refine lv_aload_n hx hb dX0_costOfWords_16 rfl (lv_at hl 0 rfl) ?_
      refine kg (v := .ref (a 14)) hx hb hts hiX0_costOfWords_X0 hown hK hP 3 rfl rfl 0 (by decide) flX0_costOfWords_12 rfl rfl dX0_costOfWords_17 ?_
      refine lv_iload_n hx hb dX0_costOfWords_20 rfl (lv_at hl 3 rfl) ?_
      obtain ⟨r21, hq0, hm⟩ := bd1_some hm
      obtain ⟨hw21, hm⟩ := gm_some hm
      obtain ⟨q, hq, -⟩ := WC_S hG hG.2.2.2.2.1
      refine k_callVA (As := [.int v3]) (rest := [.ref (a 3)]) ⟨hx, hb, hml, hown, hts⟩ hK hA hN (c_X3_wordAt hG hG.2.2.2.2.1 hq0) (cwV 1 hts gX0_costOfWords_X3_wordAt rfl rfl rfl hdX3_wordAt ⟨Nat.le_of_ble_eq_true rfl, Nat.le_of_ble_eq_true rfl⟩) hP (WCD hD) hS q 3 hq rfl rfl hl.1 rfl rfl (Nat.le_of_ble_eq_true rfl) ⟨Nat.zero_le _, Nat.zero_le _⟩ dX0_costOfWords_21 (fun H locs hP hS => ?_)
      obtain ⟨c_page_24, c_known_24, c_guess_24, c_diff_24, c_pieces_24, c_place_24, c_base_24, c_from_24, c_to_24, c_above_24, c_bit_24, c_lastLeft_24, hq0, hm⟩ := bd12_some hm
      refine k_callVV (As := [.ref r21]) (rest := []) ⟨hx, hb, hml, hown, hts⟩ hK hA hN (c_X0_walk hG hw21 hq0) (cwV 1 hts gX0_costOfWords_X0_walk rfl rfl rfl hdX0_walk ⟨Nat.le_of_ble_eq_true rfl, Nat.le_of_ble_eq_true rfl⟩) hP (WCD hD) hS 3 0 rfl rfl rfl hl.1 rfl rfl (Nat.le_of_ble_eq_true rfl) ⟨Nat.zero_le _, Nat.zero_le _⟩ dX0_costOfWords_24 (fun H locs hP hS => ?_)
      refine lv_iload_n hx hb dX0_costOfWords_27 rfl (lv_at hl 1 rfl) ?_
      refine lv_if_eq (tgt := 40) hx hb dX0_costOfWords_28 (by decide) (fun hc => ?_) (fun hc => ?_)
      · have hm := if_t hc hm
        refine lv_iload_n hx hb dX0_costOfWords_40 rfl (lv_at hl 2 rfl) ?_
        refine lv_aload_n hx hb dX0_costOfWords_41 rfl (lv_at hl 0 rfl) ?_
        obtain ⟨r42, hq0, hm⟩ := bd1_some hm
        refine k_callVI (As := []) (rest := [.int v2]) ⟨hx, hb, hml, hown, hts⟩ hK hA hN (c_X0_cost hG hq0) (cwV 0 hts gX0_costOfWords_X0_cost rfl rfl rfl hdX0_cost ⟨Nat.le_of_ble_eq_true rfl, Nat.le_of_ble_eq_true rfl⟩) hP (WCD hD) hS 3 0 rfl rfl rfl hl.1 rfl rfl (Nat.le_of_ble_eq_true rfl) ⟨Nat.zero_le _, Nat.zero_le _⟩ dX0_costOfWords_42 (fun H locs hP hS => ?_)
        refine va_mmax hx hb (by rw [hml]; exact hl.1.symm) hown (hts (.methodLink RX0 119 Lib.Math.max.name) (by decide +kernel)) (hts (.static Lib.Math.max.name) (by decide +kernel)) (hts (.initialized "java/lang/Math") (by decide +kernel)) (hts (.code Lib.Math.max.name Lib.Math.max.code 2 (some .int)) (by decide +kernel)) (Nat.le_of_ble_eq_true rfl) (Nat.le_of_ble_eq_true rfl) (Nat.zero_le _) (Nat.zero_le _) dX0_costOfWords_45 ?_
        refine lv_istore_n (lv' := [(2, .int (if v2 < r42 then r42 else v2)), (0, .ref (a 3)), (1, .int v1), (3, .int v3)]) hx hb dX0_costOfWords_48 rfl hl (by decide) rfl (fun ls hl => ?_)
        refine lv_iinc (v := (v3 + 1)) (lv' := [(3, .int (v3 + 1)), (2, .int (if v2 < r42 then r42 else v2)), (0, .ref (a 3)), (1, .int v1)]) hx hb dX0_costOfWords_49 hl (k := 3) rfl rfl (by decide) rfl (fun ls hl => ?_)
        refine lv_goto (tgt := 4) hx hb dX0_costOfWords_52 (by decide) ?_
        exact ih _ _ _ _ _ _ _ _ _ _ _ _ _ _ _ _ _ hP hS (lv_sub hl [2, 3, 1, 0] rfl) hm
      · have hm := if_f hc hm
        refine lv_iload_n hx hb dX0_costOfWords_31 rfl (lv_at hl 2 rfl) ?_
        refine lv_aload_n hx hb dX0_costOfWords_32 rfl (lv_at hl 0 rfl) ?_
        obtain ⟨r33, hq0, hm⟩ := bd1_some hm
        refine k_callVI (As := []) (rest := [.int v2]) ⟨hx, hb, hml, hown, hts⟩ hK hA hN (c_X0_cost hG hq0) (cwV 0 hts gX0_costOfWords_X0_cost rfl rfl rfl hdX0_cost ⟨Nat.le_of_ble_eq_true rfl, Nat.le_of_ble_eq_true rfl⟩) hP (WCD hD) hS 3 0 rfl rfl rfl hl.1 rfl rfl (Nat.le_of_ble_eq_true rfl) ⟨Nat.zero_le _, Nat.zero_le _⟩ dX0_costOfWords_33 (fun H locs hP hS => ?_)
        refine lv_iadd hx hb dX0_costOfWords_36 ?_
        refine lv_goto (tgt := 48) hx hb dX0_costOfWords_37 (by decide) ?_
        refine lv_istore_n (lv' := [(2, .int (v2 + r33)), (0, .ref (a 3)), (1, .int v1), (3, .int v3)]) hx hb dX0_costOfWords_48 rfl hl (by decide) rfl (fun ls hl => ?_)
        refine lv_iinc (v := (v3 + 1)) (lv' := [(3, .int (v3 + 1)), (2, .int (v2 + r33)), (0, .ref (a 3)), (1, .int v1)]) hx hb dX0_costOfWords_49 hl (k := 3) rfl rfl (by decide) rfl (fun ls hl => ?_)
        refine lv_goto (tgt := 4) hx hb dX0_costOfWords_52 (by decide) ?_
        exact ih _ _ _ _ _ _ _ _ _ _ _ _ _ _ _ _ _ hP hS (lv_sub hl [2, 3, 1, 0] rfl) hm
set_option maxRecDepth 100000 in
set_option maxHeartbeats 4000000 in
theorem c_X0_costOfWords {l : Launch} {D : va_G} {cI cJ cB cL cS cW : ClassId} {a wb sw se : Nat → Nat} {LW LS LK : List Nat} {c_bytes c_heads c_firsts c_levelOf c_aboveOf c_partings c_signs c_count c_pages c_levels c_most c_page c_known c_guess c_diff c_pieces c_place : Nat → Int32} {c_bits : Nat → Nat → Int64} {c_words : Nat → Nat → Nat} {c_entries : Nat → Nat → Int32} {c_bads c_noes c_fulls c_length c_next c_kept c_base c_from c_to c_above c_bit c_lastLeft : Int32} {v1 : Int32} {r : Int32} {o_page : Nat → Int32} {o_known : Nat → Int32} {o_guess : Nat → Int32} {o_diff : Nat → Int32} {o_pieces : Nat → Int32} {o_place : Nat → Int32} {o_base : Int32} {o_from : Int32} {o_to : Int32} {o_above : Int32} {o_bit : Int32} {o_lastLeft : Int32} (hG : kG a LW LS LK) (hm : C0_costOfWords a LW LK c_heads c_firsts c_partings c_signs c_count c_pages c_levels c_bits c_words c_entries c_page c_known c_guess c_diff c_pieces c_place c_base c_from c_to c_above c_bit c_lastLeft v1 = some (r, o_page, o_known, o_guess, o_diff, o_pieces, o_place, o_base, o_from, o_to, o_above, o_bit, o_lastLeft)) : k_MI l yX0_costOfWords wsX0_costOfWords { frames := 5, cells := 0, slots := 0, locals := 119 } D (kT cI cJ cB cL cS cW) [.ref (a 3), .int v1] (WC a wb sw se LW LS LK cI cJ cB cL cS cW c_bytes c_heads c_firsts c_levelOf c_aboveOf c_partings c_signs c_count c_pages c_levels c_most c_page c_known c_guess c_diff c_pieces c_place c_bits c_words c_entries c_bads c_noes c_fulls c_length c_next c_kept c_base c_from c_to c_above c_bit c_lastLeft) r (WC a wb sw se LW LS LK cI cJ cB cL cS cW c_bytes c_heads c_firsts c_levelOf c_aboveOf c_partings c_signs c_count c_pages c_levels c_most o_page o_known o_guess o_diff o_pieces o_place c_bits c_words c_entries c_bads c_noes c_fulls c_length c_next c_kept o_base o_from o_to o_above o_bit o_lastLeft) := by
  refine k_ofI (cc := cX0_costOfWords) (maxL := 4) (own := RX0) (by decide) rfl rfl (Nat.le_of_ble_eq_true rfl) ?_
  intro p e s m args below meth c A Q ls C hP hD hl hret
  have hD : va_D A (WC0 a wb sw se LW LS LK cI cJ cB cL cS cW) := WCD hD
  have hS : va_S A s.heap s.heap [] := va_S.rf
  have hl : lv_has ls 4 [(0, .ref (a 3)), (1, .int v1)] := hl
  obtain ⟨hx, hb, hml, hr, hown, hts, hlocks, hK, hA, hN⟩ := id C
  rw [C0_costOfWords] at hm
  refine lv_iconst (v := 0) hx hb dX0_costOfWords_0 (by decide) ?_
  refine lv_istore_n (lv' := [(2, .int 0), (0, .ref (a 3)), (1, .int v1)]) hx hb dX0_costOfWords_1 rfl hl (by decide) rfl (fun ls hl => ?_)
  refine lv_iconst (v := 0) hx hb dX0_costOfWords_2 (by decide) ?_
  refine lv_istore_n (lv' := [(3, .int 0), (2, .int 0), (0, .ref (a 3)), (1, .int v1)]) hx hb dX0_costOfWords_3 rfl hl (by decide) rfl (fun ls hl => ?_)
  refine t_C0_costOfWords_L4 C hD hG hret ?_ FU _ _ _ _ _ _ _ _ _ _ _ _ _ _ _ _ _ hP hS (lv_sub hl [2, 3, 1, 0] rfl) hm
  · intro c_page c_known c_guess c_diff c_pieces c_place c_base c_from c_to c_above c_bit c_lastLeft v2 H locs ls hP hS hl hm
    try dsimp only at hm
    refine lv_iload_n hx hb dX0_costOfWords_55 rfl (lv_at hl 0 rfl) ?_
    simp only [Option.some.injEq, Prod.mk.injEq] at hm
    obtain ⟨rfl, rfl, rfl, rfl, rfl, rfl, rfl, rfl, rfl, rfl, rfl, rfl, rfl⟩ := hm
    exact hret _ _ _ _ dX0_costOfWords_56 hP hS
theorem hdX0_fewestEntries : yX0_fewestEntries.cls = RX0 ∧ yX0_fewestEntries.cls ≠ "java/lang/invoke/MethodHandle" ∧ yX0_fewestEntries.cls ≠ "java/lang/invoke/VarHandle" ∧ (parseMethodDescriptor yX0_fewestEntries.desc).map (fun d => d.parameters.length) = some 0 := by decide +kernel
theorem hiX0_fewestEntries_X0 : ∀ w ∈ u_ws RX0 TX0 7, w ∈ wsX0_fewestEntries := by decide +kernel
theorem hiX0_fewestEntries_X3 : ∀ w ∈ u_ws RX3 TX3 6, w ∈ wsX0_fewestEntries := by decide +kernel
theorem flX0_fewestEntries_12 : Cond.fieldLink RX0 12 "BlindPages$Index" "now" "LBlindPages$State;" ∈ wsX0_fewestEntries := by decide +kernel
theorem flX0_fewestEntries_45 : Cond.fieldLink RX0 45 "BlindPages$State" "pages" "I" ∈ wsX0_fewestEntries := by decide +kernel
def C0_fewestEntries_L4 (a : Nat → Nat) (c_pages : Nat → Int32) (c_entries : Nat → Nat → Int32) (k42 : Int32 → Option (Int32)) : Nat → Int32 → Int32 → Option (Int32)
  | 0, _, _ => none
  | n + 1, v1, v2 => if (c_pages (a 14)) ≤ v2 then (k42 v1) else (bd1 (C3_entriesOf c_pages c_entries (a 14) v2) fun r20 => if v1 = (-1) then (C0_fewestEntries_L4 a c_pages c_entries k42 n r20 (v2 + 1)) else (if v1 ≤ r20 then (C0_fewestEntries_L4 a c_pages c_entries k42 n v1 (v2 + 1)) else (C0_fewestEntries_L4 a c_pages c_entries k42 n r20 (v2 + 1))))
def C0_fewestEntries (a : Nat → Nat) (c_pages : Nat → Int32) (c_entries : Nat → Nat → Int32) : Option (Int32) := C0_fewestEntries_L4 a c_pages c_entries (fun v1 => some v1) FU (-1) 1
set_option maxRecDepth 100000 in
set_option maxHeartbeats 4000000 in
theorem t_C0_fewestEntries_L4 {p : Program} {l : Launch} {e : Env} {s : State} {m : MethodId} {args : Array Value} {below : List Frame} {meth : Method} {c : Code} {Q : State → Prop} {A : Nat → Prop} {D : va_G} {cI cJ cB cL cS cW : ClassId} {a wb sw se : Nat → Nat} {LW LS LK : List Nat} {c_bytes c_heads c_firsts c_levelOf c_aboveOf c_partings c_signs c_count c_pages c_levels c_most c_page c_known c_guess c_diff c_pieces c_place : Nat → Int32} {c_bits : Nat → Nat → Int64} {c_words : Nat → Nat → Nat} {c_entries : Nat → Nat → Int32} {c_bads c_noes c_fulls c_length c_next c_kept c_base c_from c_to c_above c_bit c_lastLeft : Int32} {r : Int32} (C : k_C p s m args meth c cX0_fewestEntries 4 (some .int) RX0 wsX0_fewestEntries D (kT cI cJ cB cL cS cW) A) (hD : va_D A (WC0 a wb sw se LW LS LK cI cJ cB cL cS cW)) (hG : kG a LW LS LK) (hret : ∀ (H : Heap) (locs : List Loc) (pc : Nat) (ls : Array Slot), decode cX0_fewestEntries pc = .ok (.ireturn, 1) → va_P D vwCl (WC a wb sw se LW LS LK cI cJ cB cL cS cW c_bytes c_heads c_firsts c_levelOf c_aboveOf c_partings c_signs c_count c_pages c_levels c_most c_page c_known c_guess c_diff c_pieces c_place c_bits c_words c_entries c_bads c_noes c_fulls c_length c_next c_kept c_base c_from c_to c_above c_bit c_lastLeft) H → va_S A s.heap H locs → W p l e { frames := 1, cells := 0, slots := 0, locals := 21 } s m args below meth c H locs 0 0 Q (F0 m pc ls [.int r])) {k42 : Int32 → Option (Int32)} (hk42 : ∀ (v1 : Int32) (H : Heap) (locs : List Loc) (ls : Array Slot), va_P D vwCl (WC a wb sw se LW LS LK cI cJ cB cL cS cW c_bytes c_heads c_firsts c_levelOf c_aboveOf c_partings c_signs c_count c_pages c_levels c_most c_page c_known c_guess c_diff c_pieces c_place c_bits c_words c_entries c_bads c_noes c_fulls c_length c_next c_kept c_base c_from c_to c_above c_bit c_lastLeft) H → va_S A s.heap H locs → lv_has ls 4 [(1, .int v1)] → k42 v1 = some r → W p l e { frames := 1, cells := 0, slots := 0, locals := 21 } s m args below meth c H locs 0 0 Q (F0 m 42 ls [])) : ∀ n : Nat, ∀ (v1 : Int32) (v2 : Int32) (H : Heap) (locs : List Loc) (ls : Array Slot), va_P D vwCl (WC a wb sw se LW LS LK cI cJ cB cL cS cW c_bytes c_heads c_firsts c_levelOf c_aboveOf c_partings c_signs c_count c_pages c_levels c_most c_page c_known c_guess c_diff c_pieces c_place c_bits c_words c_entries c_bads c_noes c_fulls c_length c_next c_kept c_base c_from c_to c_above c_bit c_lastLeft) H → va_S A s.heap H locs → lv_has ls 4 [(0, .ref (a 3)), (1, .int v1), (2, .int v2)] → (C0_fewestEntries_L4 a c_pages c_entries k42 n) v1 v2 = some r → W p l e { frames := 1, cells := 0, slots := 0, locals := 21 } s m args below meth c H locs 0 0 Q (F0 m 4 ls []) := by
  obtain ⟨hx, hb, hml, hr, hown, hts, hlocks, hK, hA, hN⟩ := id C
  intro n
  induction n with
  | zero =>
    intro v1 v2 H locs ls hP hS hl hm
    cases hm
  | succ n ih =>
    intro v1 v2 H locs ls hP hS hl hm
    rw [C0_fewestEntries_L4] at hm
    refine lv_iload_n hx hb dX0_fewestEntries_4 rfl (lv_at hl 2 rfl) ?_
    refine lv_aload_n hx hb dX0_fewestEntries_5 rfl (lv_at hl 0 rfl) ?_
    refine kg (v := .ref (a 14)) hx hb hts hiX0_fewestEntries_X0 hown hK hP 3 rfl rfl 0 (by decide) flX0_fewestEntries_12 rfl rfl dX0_fewestEntries_6 ?_
    obtain ⟨q, hq, -⟩ := WC_S hG hG.2.2.2.2.1
    refine kg (v := .int (c_pages (a 14))) hx hb hts hiX0_fewestEntries_X3 hown hK hP q hq rfl 3 (by decide) flX0_fewestEntries_45 rfl rfl dX0_fewestEntries_9 ?_
    refine lv_icmp_ge (tgt := 42) hx hb dX0_fewestEntries_12 (by decide) (fun hc => ?_) (fun hc => ?_)
    · have hm := if_t hc hm
      exact hk42 _ _ _ _ hP hS (lv_sub hl [1] rfl) hm
    · have hm := if_f hc hm
      refine lv_aload_n hx hb dX0_fewestEntries_15 rfl (lv_at hl 0 rfl) ?_
      refine kg (v := .ref (a 14)) hx hb hts hiX0_fewestEntries_X0 hown hK hP 3 rfl rfl 0 (by decide) flX0_fewestEntries_12 rfl rfl dX0_fewestEntries_16 ?_
      refine lv_iload_n hx hb dX0_fewestEntries_19 rfl (lv_at hl 2 rfl) ?_
      obtain ⟨r20, hq0, hm⟩ := bd1_some hm
      obtain ⟨q, hq, -⟩ := WC_S hG hG.2.2.2.2.1
      refine k_callVI (As := [.int v2]) (rest := []) ⟨hx, hb, hml, hown, hts⟩ hK hA hN (c_X3_entriesOf hG hG.2.2.2.2.1 hq0) (cwV 1 hts gX0_fewestEntries_X3_entriesOf rfl rfl rfl hdX3_entriesOf ⟨Nat.le_of_ble_eq_true rfl, Nat.le_of_ble_eq_true rfl⟩) hP (WCD hD) hS q 3 hq rfl rfl hl.1 rfl rfl (Nat.le_of_ble_eq_true rfl) ⟨Nat.zero_le _, Nat.zero_le _⟩ dX0_fewestEntries_20 (fun H locs hP hS => ?_)
      refine lv_istore_n (lv' := [(3, .int r20), (0, .ref (a 3)), (1, .int v1), (2, .int v2)]) hx hb dX0_fewestEntries_23 rfl hl (by decide) rfl (fun ls hl => ?_)
      refine lv_iload_n hx hb dX0_fewestEntries_24 rfl (lv_at hl 2 rfl) ?_
      refine lv_iconst (v := (-1)) hx hb dX0_fewestEntries_25 (by decide) ?_
      refine lv_icmp_eq (tgt := 34) hx hb dX0_fewestEntries_26 (by decide) (fun hc => ?_) (fun hc => ?_)
      · have hm := if_t hc hm
        refine lv_iload_n hx hb dX0_fewestEntries_34 rfl (lv_at hl 0 rfl) ?_
        refine lv_istore_n (lv' := [(1, .int r20), (3, .int r20), (0, .ref (a 3)), (2, .int v2)]) hx hb dX0_fewestEntries_35 rfl hl (by decide) rfl (fun ls hl => ?_)
        refine lv_iinc (v := (v2 + 1)) (lv' := [(2, .int (v2 + 1)), (1, .int r20), (3, .int r20), (0, .ref (a 3))]) hx hb dX0_fewestEntries_36 hl (k := 3) rfl rfl (by decide) rfl (fun ls hl => ?_)
        refine lv_goto (tgt := 4) hx hb dX0_fewestEntries_39 (by decide) ?_
        exact ih _ _ _ _ _ hP hS (lv_sub hl [3, 1, 0] rfl) hm
      · have hm := if_f hc hm
        refine lv_iload_n hx hb dX0_fewestEntries_29 rfl (lv_at hl 0 rfl) ?_
        refine lv_iload_n hx hb dX0_fewestEntries_30 rfl (lv_at hl 2 rfl) ?_
        refine lv_icmp_ge (tgt := 36) hx hb dX0_fewestEntries_31 (by decide) (fun hc => ?_) (fun hc => ?_)
        · have hm := if_t hc hm
          refine lv_iinc (v := (v2 + 1)) (lv' := [(2, .int (v2 + 1)), (3, .int r20), (0, .ref (a 3)), (1, .int v1)]) hx hb dX0_fewestEntries_36 hl (k := 3) rfl rfl (by decide) rfl (fun ls hl => ?_)
          refine lv_goto (tgt := 4) hx hb dX0_fewestEntries_39 (by decide) ?_
          exact ih _ _ _ _ _ hP hS (lv_sub hl [2, 3, 0] rfl) hm
        · have hm := if_f hc hm
          refine lv_iload_n hx hb dX0_fewestEntries_34 rfl (lv_at hl 0 rfl) ?_
          refine lv_istore_n (lv' := [(1, .int r20), (3, .int r20), (0, .ref (a 3)), (2, .int v2)]) hx hb dX0_fewestEntries_35 rfl hl (by decide) rfl (fun ls hl => ?_)
          refine lv_iinc (v := (v2 + 1)) (lv' := [(2, .int (v2 + 1)), (1, .int r20), (3, .int r20), (0, .ref (a 3))]) hx hb dX0_fewestEntries_36 hl (k := 3) rfl rfl (by decide) rfl (fun ls hl => ?_)
          refine lv_goto (tgt := 4) hx hb dX0_fewestEntries_39 (by decide) ?_
          exact ih _ _ _ _ _ hP hS (lv_sub hl [3, 1, 0] rfl) hm
set_option maxRecDepth 100000 in
set_option maxHeartbeats 4000000 in
theorem c_X0_fewestEntries {l : Launch} {D : va_G} {cI cJ cB cL cS cW : ClassId} {a wb sw se : Nat → Nat} {LW LS LK : List Nat} {c_bytes c_heads c_firsts c_levelOf c_aboveOf c_partings c_signs c_count c_pages c_levels c_most c_page c_known c_guess c_diff c_pieces c_place : Nat → Int32} {c_bits : Nat → Nat → Int64} {c_words : Nat → Nat → Nat} {c_entries : Nat → Nat → Int32} {c_bads c_noes c_fulls c_length c_next c_kept c_base c_from c_to c_above c_bit c_lastLeft : Int32} {r : Int32} (hG : kG a LW LS LK) (hm : C0_fewestEntries a c_pages c_entries = some r) : k_MI l yX0_fewestEntries wsX0_fewestEntries { frames := 1, cells := 0, slots := 0, locals := 21 } D (kT cI cJ cB cL cS cW) [.ref (a 3)] (WC a wb sw se LW LS LK cI cJ cB cL cS cW c_bytes c_heads c_firsts c_levelOf c_aboveOf c_partings c_signs c_count c_pages c_levels c_most c_page c_known c_guess c_diff c_pieces c_place c_bits c_words c_entries c_bads c_noes c_fulls c_length c_next c_kept c_base c_from c_to c_above c_bit c_lastLeft) r (WC a wb sw se LW LS LK cI cJ cB cL cS cW c_bytes c_heads c_firsts c_levelOf c_aboveOf c_partings c_signs c_count c_pages c_levels c_most c_page c_known c_guess c_diff c_pieces c_place c_bits c_words c_entries c_bads c_noes c_fulls c_length c_next c_kept c_base c_from c_to c_above c_bit c_lastLeft) := by
  refine k_ofI (cc := cX0_fewestEntries) (maxL := 4) (own := RX0) (by decide) rfl rfl (Nat.le_of_ble_eq_true rfl) ?_
  intro p e s m args below meth c A Q ls C hP hD hl hret
  have hD : va_D A (WC0 a wb sw se LW LS LK cI cJ cB cL cS cW) := WCD hD
  have hS : va_S A s.heap s.heap [] := va_S.rf
  have hl : lv_has ls 4 [(0, .ref (a 3))] := hl
  obtain ⟨hx, hb, hml, hr, hown, hts, hlocks, hK, hA, hN⟩ := id C
  rw [C0_fewestEntries] at hm
  refine lv_iconst (v := (-1)) hx hb dX0_fewestEntries_0 (by decide) ?_
  refine lv_istore_n (lv' := [(1, .int (-1)), (0, .ref (a 3))]) hx hb dX0_fewestEntries_1 rfl hl (by decide) rfl (fun ls hl => ?_)
  refine lv_iconst (v := 1) hx hb dX0_fewestEntries_2 (by decide) ?_
  refine lv_istore_n (lv' := [(2, .int 1), (1, .int (-1)), (0, .ref (a 3))]) hx hb dX0_fewestEntries_3 rfl hl (by decide) rfl (fun ls hl => ?_)
  refine t_C0_fewestEntries_L4 C hD hG hret ?_ FU _ _ _ _ _ hP hS (lv_sub hl [2, 1, 0] rfl) hm
  · intro v1 H locs ls hP hS hl hm
    try dsimp only at hm
    refine lv_iload_n hx hb dX0_fewestEntries_42 rfl (lv_at hl 0 rfl) ?_
    obtain rfl := Option.some.inj hm
    exact hret _ _ _ _ dX0_fewestEntries_43 hP hS
