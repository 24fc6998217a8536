theorem hdX0_wholeFact : yX0_wholeFact.cls = RX0 ∧ yX0_wholeFact.cls ≠ "java/lang/invoke/MethodHandle" ∧ yX0_wholeFact.cls ≠ "java/lang/invoke/VarHandle" ∧ (parseMethodDescriptor yX0_wholeFact.desc).map (fun d => d.parameters.length) = some 1 := by decide +kernel
theorem hiX0_wholeFact_X0 : ∀ w ∈ u_ws RX0 TX0 7, w ∈ wsX0_wholeFact := by decide +kernel
theorem hiX0_wholeFact_X3 : ∀ w ∈ u_ws RX3 TX3 6, w ∈ wsX0_wholeFact := by decide +kernel
theorem flX0_wholeFact_12 : Cond.fieldLink RX0 12 "BlindPages$Index" "now" "LBlindPages$State;" ∈ wsX0_wholeFact := by decide +kernel
theorem flX0_wholeFact_63 : Cond.fieldLink RX0 63 "BlindPages$State" "count" "I" ∈ wsX0_wholeFact := by decide +kernel
theorem flX0_wholeFact_45 : Cond.fieldLink RX0 45 "BlindPages$State" "pages" "I" ∈ wsX0_wholeFact := by decide +kernel
theorem flX0_wholeFact_134 : Cond.fieldLink RX0 134 "BlindPages$State" "levels" "I" ∈ wsX0_wholeFact := by decide +kernel
theorem flX0_wholeFact_179 : Cond.fieldLink RX0 179 "BlindPages$State" "most" "I" ∈ wsX0_wholeFact := by decide +kernel
def C0_wholeFact (a : Nat → Nat) (LW LK : List Nat) (c_heads c_firsts c_partings c_signs c_count c_pages c_levels c_most : Nat → Int32) (c_bits : Nat → Nat → Int64) (c_words : Nat → Nat → Nat) (c_entries : Nat → Nat → Int32) (c_page c_known c_guess c_diff c_pieces c_place : Nat → Int32) (c_base c_from c_to c_above c_bit c_lastLeft : Int32) (v1 : Int32) : Option (Int32 × (Nat → Int32) × (Nat → Int32) × (Nat → Int32) × (Nat → Int32) × (Nat → Int32) × (Nat → Int32) × Int32 × Int32 × Int32 × Int32 × Int32 × Int32) := if v1 = 0 then (some ((c_count (a 14)), c_page, c_known, c_guess, c_diff, c_pieces, c_place, c_base, c_from, c_to, c_above, c_bit, c_lastLeft)) else if v1 = 1 then (some ((c_pages (a 14)), c_page, c_known, c_guess, c_diff, c_pieces, c_place, c_base, c_from, c_to, c_above, c_bit, c_lastLeft)) else if v1 = 2 then (some ((c_levels (a 14)), c_page, c_known, c_guess, c_diff, c_pieces, c_place, c_base, c_from, c_to, c_above, c_bit, c_lastLeft)) else if v1 = 3 then (some ((c_most (a 14)), c_page, c_known, c_guess, c_diff, c_pieces, c_place, c_base, c_from, c_to, c_above, c_bit, c_lastLeft)) else if v1 = 4 then (bd13 (C0_costOfWords a LW LK c_heads c_firsts c_partings c_signs c_count c_pages c_levels c_bits c_words c_entries c_page c_known c_guess c_diff c_pieces c_place c_base c_from c_to c_above c_bit c_lastLeft 0) fun r74 c_page_74 c_known_74 c_guess_74 c_diff_74 c_pieces_74 c_place_74 c_base_74 c_from_74 c_to_74 c_above_74 c_bit_74 c_lastLeft_74 => some (r74, c_page_74, c_known_74, c_guess_74, c_diff_74, c_pieces_74, c_place_74, c_base_74, c_from_74, c_to_74, c_above_74, c_bit_74, c_lastLeft_74)) else if v1 = 5 then (bd13 (C0_costOfWords a LW LK c_heads c_firsts c_partings c_signs c_count c_pages c_levels c_bits c_words c_entries c_page c_known c_guess c_diff c_pieces c_place c_base c_from c_to c_above c_bit c_lastLeft 1) fun r80 c_page_80 c_known_80 c_guess_80 c_diff_80 c_pieces_80 c_place_80 c_base_80 c_from_80 c_to_80 c_above_80 c_bit_80 c_lastLeft_80 => some (r80, c_page_80, c_known_80, c_guess_80, c_diff_80, c_pieces_80, c_place_80, c_base_80, c_from_80, c_to_80, c_above_80, c_bit_80, c_lastLeft_80)) else (bd1 (C0_fewestEntries a c_pages c_entries) fun r85 => some (r85, c_page, c_known, c_guess, c_diff, c_pieces, c_place, c_base, c_from, c_to, c_above, c_bit, c_lastLeft))
set_option maxRecDepth 100000 in
set_option maxHeartbeats 4000000 in
theorem c_X0_wholeFact {l : Launch} {D : va_G} {cI cJ cB cL cS cW : ClassId} {a wb sw se : Nat → Nat} {LW LS LK : List Nat} {c_bytes c_heads c_firsts c_levelOf c_aboveOf c_partings c_signs c_count c_pages c_levels c_most c_page c_known c_guess c_diff c_pieces c_place : Nat → Int32} {c_bits : Nat → Nat → Int64} {c_words : Nat → Nat → Nat} {c_entries : Nat → Nat → Int32} {c_bads c_noes c_fulls c_length c_next c_kept c_base c_from c_to c_above c_bit c_lastLeft : Int32} {v1 : Int32} {r : Int32} {o_page : Nat → Int32} {o_known : Nat → Int32} {o_guess : Nat → Int32} {o_diff : Nat → Int32} {o_pieces : Nat → Int32} {o_place : Nat → Int32} {o_base : Int32} {o_from : Int32} {o_to : Int32} {o_above : Int32} {o_bit : Int32} {o_lastLeft : Int32} (hG : kG a LW LS LK) (hm : C0_wholeFact a LW LK c_heads c_firsts c_partings c_signs c_count c_pages c_levels c_most c_bits c_words c_entries c_page c_known c_guess c_diff c_pieces c_place c_base c_from c_to c_above c_bit c_lastLeft v1 = some (r, o_page, o_known, o_guess, o_diff, o_pieces, o_place, o_base, o_from, o_to, o_above, o_bit, o_lastLeft)) : k_MI l yX0_wholeFact wsX0_wholeFact { frames := 6, cells := 0, slots := 0, locals := 142 } D (kT cI cJ cB cL cS cW) [.ref (a 3), .int v1] (WC a wb sw se LW LS LK cI cJ cB cL cS cW c_bytes c_heads c_firsts c_levelOf c_aboveOf c_partings c_signs c_count c_pages c_levels c_most c_page c_known c_guess c_diff c_pieces c_place c_bits c_words c_entries c_bads c_noes c_fulls c_length c_next c_kept c_base c_from c_to c_above c_bit c_lastLeft) r (WC a wb sw se LW LS LK cI cJ cB cL cS cW c_bytes c_heads c_firsts c_levelOf c_aboveOf c_partings c_signs c_count c_pages c_levels c_most o_page o_known o_guess o_diff o_pieces o_place c_bits c_words c_entries c_bads c_noes c_fulls c_length c_next c_kept o_base o_from o_to o_above o_bit o_lastLeft) := by
  refine k_ofI (cc := cX0_wholeFact) (maxL := 2) (own := RX0) (by decide) rfl rfl (Nat.le_of_ble_eq_true rfl) ?_
  intro p e s m args below meth c A Q ls C hP hD hl hret
  have hD : va_D A (WC0 a wb sw se LW LS LK cI cJ cB cL cS cW) := WCD hD
  have hS : va_S A s.heap s.heap [] := va_S.rf
  have hl : lv_has ls 2 [(0, .ref (a 3)), (1, .int v1)] := hl
  obtain ⟨hx, hb, hml, hr, hown, hts, hlocks, hK, hA, hN⟩ := id C
  rw [C0_wholeFact] at hm
  refine lv_iload_n hx hb dX0_wholeFact_0 rfl (lv_at hl 1 rfl) ?_
  by_cases hc0 : v1 = 0
  · have hm := if_t hc0 hm
    refine lv_tableIn (tgt := 40) (off := 39) hx hb dX0_wholeFact_1 (by rw [hc0]; decide) (by rw [hc0]; decide) (by rw [hc0]; rfl) (by decide) ?_
    refine lv_aload_n hx hb dX0_wholeFact_40 rfl (lv_at hl 0 rfl) ?_
    refine kg (v := .ref (a 14)) hx hb hts hiX0_wholeFact_X0 hown hK hP 3 rfl rfl 0 (by decide) flX0_wholeFact_12 rfl rfl dX0_wholeFact_41 ?_
    obtain ⟨q, hq, -⟩ := WC_S hG hG.2.2.2.2.1
    refine kg (v := .int (c_count (a 14))) hx hb hts hiX0_wholeFact_X3 hown hK hP q hq rfl 2 (by decide) flX0_wholeFact_63 rfl rfl dX0_wholeFact_44 ?_
    simp only [Option.some.injEq, Prod.mk.injEq] at hm
    obtain ⟨rfl, rfl, rfl, rfl, rfl, rfl, rfl, rfl, rfl, rfl, rfl, rfl, rfl⟩ := hm
    exact hret _ _ _ _ dX0_wholeFact_47 hP hS
  have hm := if_f hc0 hm
  by_cases hc1 : v1 = 1
  · have hm := if_t hc1 hm
    refine lv_tableIn (tgt := 48) (off := 47) hx hb dX0_wholeFact_1 (by rw [hc1]; decide) (by rw [hc1]; decide) (by rw [hc1]; rfl) (by decide) ?_
    refine lv_aload_n hx hb dX0_wholeFact_48 rfl (lv_at hl 0 rfl) ?_
    refine kg (v := .ref (a 14)) hx hb hts hiX0_wholeFact_X0 hown hK hP 3 rfl rfl 0 (by decide) flX0_wholeFact_12 rfl rfl dX0_wholeFact_49 ?_
    obtain ⟨q, hq, -⟩ := WC_S hG hG.2.2.2.2.1
    refine kg (v := .int (c_pages (a 14))) hx hb hts hiX0_wholeFact_X3 hown hK hP q hq rfl 3 (by decide) flX0_wholeFact_45 rfl rfl dX0_wholeFact_52 ?_
    simp only [Option.some.injEq, Prod.mk.injEq] at hm
    obtain ⟨rfl, rfl, rfl, rfl, rfl, rfl, rfl, rfl, rfl, rfl, rfl, rfl, rfl⟩ := hm
    exact hret _ _ _ _ dX0_wholeFact_55 hP hS
  have hm := if_f hc1 hm
  by_cases hc2 : v1 = 2
  · have hm := if_t hc2 hm
    refine lv_tableIn (tgt := 56) (off := 55) hx hb dX0_wholeFact_1 (by rw [hc2]; decide) (by rw [hc2]; decide) (by rw [hc2]; rfl) (by decide) ?_
    refine lv_aload_n hx hb dX0_wholeFact_56 rfl (lv_at hl 0 rfl) ?_
    refine kg (v := .ref (a 14)) hx hb hts hiX0_wholeFact_X0 hown hK hP 3 rfl rfl 0 (by decide) flX0_wholeFact_12 rfl rfl dX0_wholeFact_57 ?_
    obtain ⟨q, hq, -⟩ := WC_S hG hG.2.2.2.2.1
    refine kg (v := .int (c_levels (a 14))) hx hb hts hiX0_wholeFact_X3 hown hK hP q hq rfl 4 (by decide) flX0_wholeFact_134 rfl rfl dX0_wholeFact_60 ?_
    simp only [Option.some.injEq, Prod.mk.injEq] at hm
    obtain ⟨rfl, rfl, rfl, rfl, rfl, rfl, rfl, rfl, rfl, rfl, rfl, rfl, rfl⟩ := hm
    exact hret _ _ _ _ dX0_wholeFact_63 hP hS
  have hm := if_f hc2 hm
  by_cases hc3 : v1 = 3
  · have hm := if_t hc3 hm
    refine lv_tableIn (tgt := 64) (off := 63) hx hb dX0_wholeFact_1 (by rw [hc3]; decide) (by rw [hc3]; decide) (by rw [hc3]; rfl) (by decide) ?_
    refine lv_aload_n hx hb dX0_wholeFact_64 rfl (lv_at hl 0 rfl) ?_
    refine kg (v := .ref (a 14)) hx hb hts hiX0_wholeFact_X0 hown hK hP 3 rfl rfl 0 (by decide) flX0_wholeFact_12 rfl rfl dX0_wholeFact_65 ?_
    obtain ⟨q, hq, -⟩ := WC_S hG hG.2.2.2.2.1
    refine kg (v := .int (c_most (a 14))) hx hb hts hiX0_wholeFact_X3 hown hK hP q hq rfl 5 (by decide) flX0_wholeFact_179 rfl rfl dX0_wholeFact_68 ?_
    simp only [Option.some.injEq, Prod.mk.injEq] at hm
    obtain ⟨rfl, rfl, rfl, rfl, rfl, rfl, rfl, rfl, rfl, rfl, rfl, rfl, rfl⟩ := hm
    exact hret _ _ _ _ dX0_wholeFact_71 hP hS
  have hm := if_f hc3 hm
  by_cases hc4 : v1 = 4
  · have hm := if_t hc4 hm
    refine lv_tableIn (tgt := 72) (off := 71) hx hb dX0_wholeFact_1 (by rw [hc4]; decide) (by rw [hc4]; decide) (by rw [hc4]; rfl) (by decide) ?_
    refine lv_aload_n hx hb dX0_wholeFact_72 rfl (lv_at hl 0 rfl) ?_
    refine lv_iconst (v := 0) hx hb dX0_wholeFact_73 (by decide) ?_
    obtain ⟨r74, c_page_74, c_known_74, c_guess_74, c_diff_74, c_pieces_74, c_place_74, c_base_74, c_from_74, c_to_74, c_above_74, c_bit_74, c_lastLeft_74, hq0, hm⟩ := bd13_some hm
    refine k_callVI (As := [.int 0]) (rest := []) ⟨hx, hb, hml, hown, hts⟩ hK hA hN (c_X0_costOfWords hG hq0) (cwV 1 hts gX0_wholeFact_X0_costOfWords rfl rfl rfl hdX0_costOfWords ⟨Nat.le_of_ble_eq_true rfl, Nat.le_of_ble_eq_true rfl⟩) hP (WCD hD) hS 3 0 rfl rfl rfl hl.1 rfl rfl (Nat.le_of_ble_eq_true rfl) ⟨Nat.zero_le _, Nat.zero_le _⟩ dX0_wholeFact_74 (fun H locs hP hS => ?_)
    simp only [Option.some.injEq, Prod.mk.injEq] at hm
    obtain ⟨rfl, rfl, rfl, rfl, rfl, rfl, rfl, rfl, rfl, rfl, rfl, rfl, rfl⟩ := hm
    exact hret _ _ _ _ dX0_wholeFact_77 hP hS
  have hm := if_f hc4 hm
  by_cases hc5 : v1 = 5
  · have hm := if_t hc5 hm
    refine lv_tableIn (tgt := 78) (off := 77) hx hb dX0_wholeFact_1 (by rw [hc5]; decide) (by rw [hc5]; decide) (by rw [hc5]; rfl) (by decide) ?_
    refine lv_aload_n hx hb dX0_wholeFact_78 rfl (lv_at hl 0 rfl) ?_
    refine lv_iconst (v := 1) hx hb dX0_wholeFact_79 (by decide) ?_
    obtain ⟨r80, c_page_80, c_known_80, c_guess_80, c_diff_80, c_pieces_80, c_place_80, c_base_80, c_from_80, c_to_80, c_above_80, c_bit_80, c_lastLeft_80, hq0, hm⟩ := bd13_some hm
    refine k_callVI (As := [.int 1]) (rest := []) ⟨hx, hb, hml, hown, hts⟩ hK hA hN (c_X0_costOfWords hG hq0) (cwV 1 hts gX0_wholeFact_X0_costOfWords rfl rfl rfl hdX0_costOfWords ⟨Nat.le_of_ble_eq_true rfl, Nat.le_of_ble_eq_true rfl⟩) hP (WCD hD) hS 3 0 rfl rfl rfl hl.1 rfl rfl (Nat.le_of_ble_eq_true rfl) ⟨Nat.zero_le _, Nat.zero_le _⟩ dX0_wholeFact_80 (fun H locs hP hS => ?_)
    simp only [Option.some.injEq, Prod.mk.injEq] at hm
    obtain ⟨rfl, rfl, rfl, rfl, rfl, rfl, rfl, rfl, rfl, rfl, rfl, rfl, rfl⟩ := hm
    exact hret _ _ _ _ dX0_wholeFact_83 hP hS
  have hm := if_f hc5 hm
  refine lv_tableOut (tgt := 84) hx hb dX0_wholeFact_1 (sw_out0_5 hc0 hc1 hc2 hc3 hc4 hc5) (by decide) ?_
  refine lv_aload_n hx hb dX0_wholeFact_84 rfl (lv_at hl 0 rfl) ?_
  obtain ⟨r85, hq0, hm⟩ := bd1_some hm
  refine k_callVI (As := []) (rest := []) ⟨hx, hb, hml, hown, hts⟩ hK hA hN (c_X0_fewestEntries hG hq0) (cwV 0 hts gX0_wholeFact_X0_fewestEntries rfl rfl rfl hdX0_fewestEntries ⟨Nat.le_of_ble_eq_true rfl, Nat.le_of_ble_eq_true rfl⟩) hP (WCD hD) hS 3 0 rfl rfl rfl hl.1 rfl rfl (Nat.le_of_ble_eq_true rfl) ⟨Nat.zero_le _, Nat.zero_le _⟩ dX0_wholeFact_85 (fun H locs hP hS => ?_)
  simp only [Option.some.injEq, Prod.mk.injEq] at hm
  obtain ⟨rfl, rfl, rfl, rfl, rfl, rfl, rfl, rfl, rfl, rfl, rfl, rfl, rfl⟩ := hm
  exact hret _ _ _ _ dX0_wholeFact_88 hP hS
theorem hdX7_all : yX7_all.cls = RX7 ∧ yX7_all.cls ≠ "java/lang/invoke/MethodHandle" ∧ yX7_all.cls ≠ "java/lang/invoke/VarHandle" ∧ (parseMethodDescriptor yX7_all.desc).map (fun d => d.parameters.length) = some 1 := by decide +kernel
theorem hiX7_all_X7 : ∀ w ∈ u_ws RX7 TX7 8, w ∈ wsX7_all := by decide +kernel
theorem flX7_all_26 : Cond.fieldLink RX7 26 "BlindPages" "index" "LBlindPages$Index;" ∈ wsX7_all := by decide +kernel
def C7_all_J10 (a : Nat → Nat) (LW LK : List Nat) (c_heads c_firsts c_partings c_signs c_count c_pages c_levels c_most : Nat → Int32) (c_bits : Nat → Nat → Int64) (c_words : Nat → Nat → Nat) (c_entries : Nat → Nat → Int32) (v1 : Int32) (c_page : (Nat → Int32)) (c_known : (Nat → Int32)) (c_guess : (Nat → Int32)) (c_diff : (Nat → Int32)) (c_pieces : (Nat → Int32)) (c_place : (Nat → Int32)) (c_bads : Int32) (c_noes : Int32) (c_fulls : Int32) (c_base : Int32) (c_from : Int32) (c_to : Int32) (c_above : Int32) (c_bit : Int32) (c_lastLeft : Int32) : Option (Int32 × (Nat → Int32) × (Nat → Int32) × (Nat → Int32) × (Nat → Int32) × (Nat → Int32) × (Nat → Int32) × Int32 × Int32 × Int32 × Int32 × Int32 × Int32 × Int32 × Int32 × Int32) := bd4 (C7_refuse c_bads c_noes c_fulls (-2)) fun r13 c_bads_13 c_noes_13 c_fulls_13 => some (r13, c_page, c_known, c_guess, c_diff, c_pieces, c_place, c_bads_13, c_noes_13, c_fulls_13, c_base, c_from, c_to, c_above, c_bit, c_lastLeft)
def C7_all (a : Nat → Nat) (LW LK : List Nat) (c_heads c_firsts c_partings c_signs c_count c_pages c_levels c_most : Nat → Int32) (c_bits : Nat → Nat → Int64) (c_words : Nat → Nat → Nat) (c_entries : Nat → Nat → Int32) (c_page c_known c_guess c_diff c_pieces c_place : Nat → Int32) (c_bads c_noes c_fulls c_base c_from c_to c_above c_bit c_lastLeft : Int32) (v1 : Int32) : Option (Int32 × (Nat → Int32) × (Nat → Int32) × (Nat → Int32) × (Nat → Int32) × (Nat → Int32) × (Nat → Int32) × Int32 × Int32 × Int32 × Int32 × Int32 × Int32 × Int32 × Int32 × Int32) := if v1 < 0 then (C7_all_J10 a LW LK c_heads c_firsts c_partings c_signs c_count c_pages c_levels c_most c_bits c_words c_entries v1 c_page c_known c_guess c_diff c_pieces c_place c_bads c_noes c_fulls c_base c_from c_to c_above c_bit c_lastLeft) else (if v1 ≤ 6 then (bd13 (C0_wholeFact a LW LK c_heads c_firsts c_partings c_signs c_count c_pages c_levels c_most c_bits c_words c_entries c_page c_known c_guess c_diff c_pieces c_place c_base c_from c_to c_above c_bit c_lastLeft v1) fun r22 c_page_22 c_known_22 c_guess_22 c_diff_22 c_pieces_22 c_place_22 c_base_22 c_from_22 c_to_22 c_above_22 c_bit_22 c_lastLeft_22 => some (r22, c_page_22, c_known_22, c_guess_22, c_diff_22, c_pieces_22, c_place_22, c_bads, c_noes, c_fulls, c_base_22, c_from_22, c_to_22, c_above_22, c_bit_22, c_lastLeft_22)) else (C7_all_J10 a LW LK c_heads c_firsts c_partings c_signs c_count c_pages c_levels c_most c_bits c_words c_entries v1 c_page c_known c_guess c_diff c_pieces c_place c_bads c_noes c_fulls c_base c_from c_to c_above c_bit c_lastLeft))
set_option maxRecDepth 100000 in
set_option maxHeartbeats 4000000 in
theorem t_C7_all_J10 {p : Program} {l : Launch} {e : Env} {s : State} {m : MethodId} {args : Array Value} {below : List Frame} {meth : Method} {c : Code} {Q : State → Prop} {A : Nat → Prop} {D : va_G} {cI cJ cB cL cS cW : ClassId} {a wb sw se : Nat → Nat} {LW LS LK : List Nat} {c_bytes c_heads c_firsts c_levelOf c_aboveOf c_partings c_signs c_count c_pages c_levels c_most : Nat → Int32} {c_bits : Nat → Nat → Int64} {c_words : Nat → Nat → Nat} {c_entries : Nat → Nat → Int32} {c_length c_next c_kept : Int32} {v1 : Int32} {r : Int32} {o_page : Nat → Int32} {o_known : Nat → Int32} {o_guess : Nat → Int32} {o_diff : Nat → Int32} {o_pieces : Nat → Int32} {o_place : Nat → Int32} {o_bads : Int32} {o_noes : Int32} {o_fulls : Int32} {o_base : Int32} {o_from : Int32} {o_to : Int32} {o_above : Int32} {o_bit : Int32} {o_lastLeft : Int32} (C : k_C p s m args meth c cX7_all 2 (some .int) RX7 wsX7_all D (kT cI cJ cB cL cS cW) A) (hD : va_D A (WC0 a wb sw se LW LS LK cI cJ cB cL cS cW)) (hG : kG a LW LS LK) (hret : ∀ (H : Heap) (locs : List Loc) (pc : Nat) (ls : Array Slot), decode cX7_all pc = .ok (.ireturn, 1) → va_P D vwCl (WC a wb sw se LW LS LK cI cJ cB cL cS cW c_bytes c_heads c_firsts c_levelOf c_aboveOf c_partings c_signs c_count c_pages c_levels c_most o_page o_known o_guess o_diff o_pieces o_place c_bits c_words c_entries o_bads o_noes o_fulls c_length c_next c_kept o_base o_from o_to o_above o_bit o_lastLeft) H → va_S A s.heap H locs → W p l e { frames := 7, cells := 0, slots := 0, locals := 163 } s m args below meth c H locs 0 0 Q (F0 m pc ls [.int r])) : ∀ (c_page : (Nat → Int32)) (c_known : (Nat → Int32)) (c_guess : (Nat → Int32)) (c_diff : (Nat → Int32)) (c_pieces : (Nat → Int32)) (c_place : (Nat → Int32)) (c_bads : Int32) (c_noes : Int32) (c_fulls : Int32) (c_base : Int32) (c_from : Int32) (c_to : Int32) (c_above : Int32) (c_bit : Int32) (c_lastLeft : Int32) (H : Heap) (locs : List Loc) (ls : Array Slot), va_P D vwCl (WC a wb sw se LW LS LK cI cJ cB cL cS cW c_bytes c_heads c_firsts c_levelOf c_aboveOf c_partings c_signs c_count c_pages c_levels c_most c_page c_known c_guess c_diff c_pieces c_place c_bits c_words c_entries c_bads c_noes c_fulls c_length c_next c_kept c_base c_from c_to c_above c_bit c_lastLeft) H → va_S A s.heap H locs → lv_has ls 2 [(0, .ref (a 0))] → C7_all_J10 a LW LK c_heads c_firsts c_partings c_signs c_count c_pages c_levels c_most c_bits c_words c_entries v1 c_page c_known c_guess c_diff c_pieces c_place c_bads c_noes c_fulls c_base c_from c_to c_above c_bit c_lastLeft = some (r, o_page, o_known, o_guess, o_diff, o_pieces, o_place, o_bads, o_noes, o_fulls, o_base, o_from, o_to, o_above, o_bit, o_lastLeft) → W p l e { frames := 7, cells := 0, slots := 0, locals := 163 } s m args below meth c H locs 0 0 Q (F0 m 10 ls []) := by
  obtain ⟨hx, hb, hml, hr, hown, hts, hlocks, hK, hA, hN⟩ := id C
  intro c_page c_known c_guess c_diff c_pieces c_place c_bads c_noes c_fulls c_base c_from c_to c_above c_bit c_lastLeft H locs ls hP hS hl hm
  rw [C7_all_J10] at hm
  refine lv_aload_n hx hb dX7_all_10 rfl (lv_at hl 0 rfl) ?_
  refine lv_bipush (v := (-2)) hx hb dX7_all_11 (by decide) ?_
  obtain ⟨r13, c_bads_13, c_noes_13, c_fulls_13, hq0, hm⟩ := bd4_some hm
  refine k_callVI (As := [.int (-2)]) (rest := []) ⟨hx, hb, hml, hown, hts⟩ hK hA hN (c_X7_refuse hG hq0) (cwV 1 hts gX7_all_X7_refuse rfl rfl rfl hdX7_refuse ⟨Nat.le_of_ble_eq_true rfl, Nat.le_of_ble_eq_true rfl⟩) hP (WCD hD) hS 0 7 rfl rfl rfl hl.1 rfl rfl (Nat.le_of_ble_eq_true rfl) ⟨Nat.zero_le _, Nat.zero_le _⟩ dX7_all_13 (fun H locs hP hS => ?_)
  simp only [Option.some.injEq, Prod.mk.injEq] at hm
  obtain ⟨rfl, rfl, rfl, rfl, rfl, rfl, rfl, rfl, rfl, rfl, rfl, rfl, rfl, rfl, rfl, rfl⟩ := hm
  exact hret _ _ _ _ dX7_all_16 hP hS
set_option maxRecDepth 100000 in
set_option maxHeartbeats 4000000 in
theorem c_X7_all {l : Launch} {D : va_G} {cI cJ cB cL cS cW : ClassId} {a wb sw se : Nat → Nat} {LW LS LK : List Nat} {c_bytes c_heads c_firsts c_levelOf c_aboveOf c_partings c_signs c_count c_pages c_levels c_most c_page c_known c_guess c_diff c_pieces c_place : Nat → Int32} {c_bits : Nat → Nat → Int64} {c_words : Nat → Nat → Nat} {c_entries : Nat → Nat → Int32} {c_bads c_noes c_fulls c_length c_next c_kept c_base c_from c_to c_above c_bit c_lastLeft : Int32} {v1 : Int32} {r : Int32} {o_page : Nat → Int32} {o_known : Nat → Int32} {o_guess : Nat → Int32} {o_diff : Nat → Int32} {o_pieces : Nat → Int32} {o_place : Nat → Int32} {o_bads : Int32} {o_noes : Int32} {o_fulls : Int32} {o_base : Int32} {o_from : Int32} {o_to : Int32} {o_above : Int32} {o_bit : Int32} {o_lastLeft : Int32} (hG : kG a LW LS LK) (hm : C7_all a LW LK c_heads c_firsts c_partings c_signs c_count c_pages c_levels c_most c_bits c_words c_entries c_page c_known c_guess c_diff c_pieces c_place c_bads c_noes c_fulls c_base c_from c_to c_above c_bit c_lastLeft v1 = some (r, o_page, o_known, o_guess, o_diff, o_pieces, o_place, o_bads, o_noes, o_fulls, o_base, o_from, o_to, o_above, o_bit, o_lastLeft)) : k_MI l yX7_all wsX7_all { frames := 7, cells := 0, slots := 0, locals := 163 } D (kT cI cJ cB cL cS cW) [.ref (a 0), .int v1] (WC a wb sw se LW LS LK cI cJ cB cL cS cW c_bytes c_heads c_firsts c_levelOf c_aboveOf c_partings c_signs c_count c_pages c_levels c_most c_page c_known c_guess c_diff c_pieces c_place c_bits c_words c_entries c_bads c_noes c_fulls c_length c_next c_kept c_base c_from c_to c_above c_bit c_lastLeft) r (WC a wb sw se LW LS LK cI cJ cB cL cS cW c_bytes c_heads c_firsts c_levelOf c_aboveOf c_partings c_signs c_count c_pages c_levels c_most o_page o_known o_guess o_diff o_pieces o_place c_bits c_words c_entries o_bads o_noes o_fulls c_length c_next c_kept o_base o_from o_to o_above o_bit o_lastLeft) := by
  refine k_ofI (cc := cX7_all) (maxL := 2) (own := RX7) (by decide) rfl rfl (Nat.le_of_ble_eq_true rfl) ?_
  intro p e s m args below meth c A Q ls C hP hD hl hret
  have hD : va_D A (WC0 a wb sw se LW LS LK cI cJ cB cL cS cW) := WCD hD
  have hS : va_S A s.heap s.heap [] := va_S.rf
  have hl : lv_has ls 2 [(0, .ref (a 0)), (1, .int v1)] := hl
  obtain ⟨hx, hb, hml, hr, hown, hts, hlocks, hK, hA, hN⟩ := id C
  rw [C7_all] at hm
  refine lv_iload_n hx hb dX7_all_0 rfl (lv_at hl 1 rfl) ?_
  refine lv_if_lt (tgt := 10) hx hb dX7_all_1 (by decide) (fun hc => ?_) (fun hc => ?_)
  · have hm := if_t hc hm
    exact t_C7_all_J10 C hD hG hret _ _ _ _ _ _ _ _ _ _ _ _ _ _ _ _ _ _ hP hS (lv_sub hl [0] rfl) hm
  · have hm := if_f hc hm
    refine lv_iload_n hx hb dX7_all_4 rfl (lv_at hl 1 rfl) ?_
    refine lv_bipush (v := 6) hx hb dX7_all_5 (by decide) ?_
    refine lv_icmp_le (tgt := 17) hx hb dX7_all_7 (by decide) (fun hc => ?_) (fun hc => ?_)
    · have hm := if_t hc hm
      refine lv_aload_n hx hb dX7_all_17 rfl (lv_at hl 0 rfl) ?_
      refine kg (v := .ref (a 3)) hx hb hts hiX7_all_X7 hown hK hP 0 rfl rfl 2 (by decide) flX7_all_26 rfl rfl dX7_all_18 ?_
      refine lv_iload_n hx hb dX7_all_21 rfl (lv_at hl 1 rfl) ?_
      obtain ⟨r22, c_page_22, c_known_22, c_guess_22, c_diff_22, c_pieces_22, c_place_22, c_base_22, c_from_22, c_to_22, c_above_22, c_bit_22, c_lastLeft_22, hq0, hm⟩ := bd13_some hm
      refine k_callVI (As := [.int v1]) (rest := []) ⟨hx, hb, hml, hown, hts⟩ hK hA hN (c_X0_wholeFact hG hq0) (cwV 1 hts gX7_all_X0_wholeFact rfl rfl rfl hdX0_wholeFact ⟨Nat.le_of_ble_eq_true rfl, Nat.le_of_ble_eq_true rfl⟩) hP (WCD hD) hS 3 0 rfl rfl rfl hl.1 rfl rfl (Nat.le_of_ble_eq_true rfl) ⟨Nat.zero_le _, Nat.zero_le _⟩ dX7_all_22 (fun H locs hP hS => ?_)
      simp only [Option.some.injEq, Prod.mk.injEq] at hm
      obtain ⟨rfl, rfl, rfl, rfl, rfl, rfl, rfl, rfl, rfl, rfl, rfl, rfl, rfl, rfl, rfl, rfl⟩ := hm
      exact hret _ _ _ _ dX7_all_25 hP hS
    · have hm := if_f hc hm
      exact t_C7_all_J10 C hD hG hret _ _ _ _ _ _ _ _ _ _ _ _ _ _ _ _ _ _ hP hS (lv_sub hl [0] rfl) hm
theorem hdX2_restore : yX2_restore.cls = RX2 ∧ yX2_restore.cls ≠ "java/lang/invoke/MethodHandle" ∧ yX2_restore.cls ≠ "java/lang/invoke/VarHandle" ∧ (parseMethodDescriptor yX2_restore.desc).map (fun d => d.parameters.length) = some 1 := by decide +kernel
theorem hiX2_restore_X2 : ∀ w ∈ u_ws RX2 TX2 3, w ∈ wsX2_restore := by decide +kernel
theorem flX2_restore_18 : Cond.fieldLink RX2 18 "BlindPages$Past" "next" "I" ∈ wsX2_restore := by decide +kernel
theorem flX2_restore_11 : Cond.fieldLink RX2 11 "BlindPages$Past" "states" "[LBlindPages$State;" ∈ wsX2_restore := by decide +kernel
theorem flX2_restore_26 : Cond.fieldLink RX2 26 "BlindPages$Past" "kept" "I" ∈ wsX2_restore := by decide +kernel
def C2_restore_J23 (a : Nat → Nat) (LW LS : List Nat) (c_words : Nat → Nat → Nat) (v1 : Nat) (c_signs : (Nat → Int32)) (c_count : (Nat → Int32)) (c_pages : (Nat → Int32)) (c_levels : (Nat → Int32)) (c_most : (Nat → Int32)) (c_bits : (Nat → Nat → Int64)) (c_entries : (Nat → Nat → Int32)) (c_next : Int32) (c_kept : Int32) (t0 : Int32) : Option ((Nat → Int32) × (Nat → Int32) × (Nat → Int32) × (Nat → Int32) × (Nat → Int32) × (Nat → Nat → Int64) × (Nat → Nat → Int32) × Int32 × Int32) := if c_kept < 1 then (some (c_signs, c_count, c_pages, c_levels, c_most, c_bits, c_entries, c_next, c_kept)) else (if t0 < 0 then (some (c_signs, c_count, c_pages, c_levels, c_most, c_bits, c_entries, c_next, c_kept)) else (if t0 < 6 then (ga t0 6 (gm LS (a (20 + t0.toNatClampNeg)) (bd7 (C3_copyFrom LW c_words c_signs c_count c_pages c_levels c_most c_bits c_entries v1 (a (20 + t0.toNatClampNeg))) fun c_signs_53 c_count_53 c_pages_53 c_levels_53 c_most_53 c_bits_53 c_entries_53 => some (c_signs_53, c_count_53, c_pages_53, c_levels_53, c_most_53, c_bits_53, c_entries_53, t0, (c_kept - 1))))) else (some (c_signs, c_count, c_pages, c_levels, c_most, c_bits, c_entries, c_next, c_kept))))
def C2_restore (a : Nat → Nat) (LW LS : List Nat) (c_words : Nat → Nat → Nat) (c_signs c_count c_pages c_levels c_most : Nat → Int32) (c_bits : Nat → Nat → Int64) (c_entries : Nat → Nat → Int32) (c_next c_kept : Int32) (v1 : Nat) : Option ((Nat → Int32) × (Nat → Int32) × (Nat → Int32) × (Nat → Int32) × (Nat → Int32) × (Nat → Nat → Int64) × (Nat → Nat → Int32) × Int32 × Int32) := if c_next ≤ 0 then (C2_restore_J23 a LW LS c_words v1 c_signs c_count c_pages c_levels c_most c_bits c_entries c_next c_kept (6 - 1)) else (C2_restore_J23 a LW LS c_words v1 c_signs c_count c_pages c_levels c_most c_bits c_entries c_next c_kept (c_next - 1))
set_option maxRecDepth 100000 in
set_option maxHeartbeats 4000000 in
theorem t_C2_restore_J23 {p : Program} {l : Launch} {e : Env} {s : State} {m : MethodId} {args : Array Value} {below : List Frame} {meth : Method} {c : Code} {Q : State → Prop} {A : Nat → Prop} {D : va_G} {cI cJ cB cL cS cW : ClassId} {a wb sw se : Nat → Nat} {LW LS LK : List Nat} {c_bytes c_heads c_firsts c_levelOf c_aboveOf c_partings c_page c_known c_guess c_diff c_pieces c_place : Nat → Int32} {c_words : Nat → Nat → Nat} {c_bads c_noes c_fulls c_length c_base c_from c_to c_above c_bit c_lastLeft : Int32} {v1 : Nat} {o_signs : Nat → Int32} {o_count : Nat → Int32} {o_pages : Nat → Int32} {o_levels : Nat → Int32} {o_most : Nat → Int32} {o_bits : Nat → Nat → Int64} {o_entries : Nat → Nat → Int32} {o_next : Int32} {o_kept : Int32} (C : k_C p s m args meth c cX2_restore 3 none RX2 wsX2_restore D (kT cI cJ cB cL cS cW) A) (hD : va_D A (WC0 a wb sw se LW LS LK cI cJ cB cL cS cW)) (hG : kG a LW LS LK) (hv1 : v1 ∈ LS) (hret : ∀ (H : Heap) (locs : List Loc) (pc : Nat) (ls : Array Slot), decode cX2_restore pc = .ok (.return_, 1) → va_P D vwCl (WC a wb sw se LW LS LK cI cJ cB cL cS cW c_bytes c_heads c_firsts c_levelOf c_aboveOf c_partings o_signs o_count o_pages o_levels o_most c_page c_known c_guess c_diff c_pieces c_place o_bits c_words o_entries c_bads c_noes c_fulls c_length o_next o_kept c_base c_from c_to c_above c_bit c_lastLeft) H → va_S A s.heap H locs → W p l e { frames := 2, cells := 0, slots := 0, locals := 44 } s m args below meth c H locs 0 0 Q (F0 m pc ls [])) : ∀ (c_signs : (Nat → Int32)) (c_count : (Nat → Int32)) (c_pages : (Nat → Int32)) (c_levels : (Nat → Int32)) (c_most : (Nat → Int32)) (c_bits : (Nat → Nat → Int64)) (c_entries : (Nat → Nat → Int32)) (c_next : Int32) (c_kept : Int32) (t0 : Int32) (H : Heap) (locs : List Loc) (ls : Array Slot), va_P D vwCl (WC a wb sw se LW LS LK cI cJ cB cL cS cW c_bytes c_heads c_firsts c_levelOf c_aboveOf c_partings c_signs c_count c_pages c_levels c_most c_page c_known c_guess c_diff c_pieces c_place c_bits c_words c_entries c_bads c_noes c_fulls c_length c_next c_kept c_base c_from c_to c_above c_bit c_lastLeft) H → va_S A s.heap H locs → lv_has ls 3 [(0, .ref (a 11)), (1, .ref v1)] → C2_restore_J23 a LW LS c_words v1 c_signs c_count c_pages c_levels c_most c_bits c_entries c_next c_kept t0 = some (o_signs, o_count, o_pages, o_levels, o_most, o_bits, o_entries, o_next, o_kept) → W p l e { frames := 2, cells := 0, slots := 0, locals := 44 } s m args below meth c H locs 0 0 Q (F0 m 23 ls [.int t0]) := by
  obtain ⟨hx, hb, hml, hr, hown, hts, hlocks, hK, hA, hN⟩ := id C
  intro c_signs c_count c_pages c_levels c_most c_bits c_entries c_next c_kept t0 H locs ls hP hS hl hm
  rw [C2_restore_J23] at hm
  refine lv_istore_n (lv' := [(2, .int t0), (0, .ref (a 11)), (1, .ref v1)]) hx hb dX2_restore_23 rfl hl (by decide) rfl (fun ls hl => ?_)
  refine lv_aload_n hx hb dX2_restore_24 rfl (lv_at hl 1 rfl) ?_
  refine kg (v := .int c_kept) hx hb hts hiX2_restore_X2 hown hK hP 11 rfl rfl 2 (by decide) flX2_restore_26 rfl rfl dX2_restore_25 ?_
  refine lv_iconst (v := 1) hx hb dX2_restore_28 (by decide) ?_
  refine lv_icmp_lt (tgt := 45) hx hb dX2_restore_29 (by decide) (fun hc => ?_) (fun hc => ?_)
  · have hm := if_t hc hm
    simp only [Option.some.injEq, Prod.mk.injEq] at hm
    obtain ⟨rfl, rfl, rfl, rfl, rfl, rfl, rfl, rfl, rfl⟩ := hm
    exact hret _ _ _ _ dX2_restore_45 hP hS
  · have hm := if_f hc hm
    refine lv_iload_n hx hb dX2_restore_32 rfl (lv_at hl 0 rfl) ?_
    refine lv_if_lt (tgt := 45) hx hb dX2_restore_33 (by decide) (fun hc => ?_) (fun hc => ?_)
    · have hm := if_t hc hm
      simp only [Option.some.injEq, Prod.mk.injEq] at hm
      obtain ⟨rfl, rfl, rfl, rfl, rfl, rfl, rfl, rfl, rfl⟩ := hm
      exact hret _ _ _ _ dX2_restore_45 hP hS
    · have hm := if_f hc hm
      refine lv_iload_n hx hb dX2_restore_36 rfl (lv_at hl 0 rfl) ?_
      refine lv_aload_n hx hb dX2_restore_37 rfl (lv_at hl 1 rfl) ?_
      refine kg (v := .ref (a 12)) hx hb hts hiX2_restore_X2 hown hK hP 11 rfl rfl 0 (by decide) flX2_restore_11 rfl rfl dX2_restore_38 ?_
      refine va_alen (v := 6) hx hb hK hP 12 4 rfl rfl rfl dX2_restore_41 ?_
      refine lv_icmp_lt (tgt := 46) hx hb dX2_restore_42 (by decide) (fun hc => ?_) (fun hc => ?_)
      · have hm := if_t hc hm
        refine lv_aload_n hx hb dX2_restore_46 rfl (lv_at hl 2 rfl) ?_
        refine lv_aload_n hx hb dX2_restore_47 rfl (lv_at hl 1 rfl) ?_
        refine kg (v := .ref (a 12)) hx hb hts hiX2_restore_X2 hown hK hP 11 rfl rfl 0 (by decide) flX2_restore_11 rfl rfl dX2_restore_48 ?_
        refine lv_iload_n hx hb dX2_restore_51 rfl (lv_at hl 0 rfl) ?_
        obtain ⟨hi, hm⟩ := ga_some hm
        obtain ⟨hw52, hm⟩ := gm_some hm
        refine k_aald (f := fun k => a (20 + k)) hx hb hK hP 12 4 rfl rfl rfl hi dX2_restore_52 ?_
        obtain ⟨c_signs_53, c_count_53, c_pages_53, c_levels_53, c_most_53, c_bits_53, c_entries_53, hq0, hm⟩ := bd7_some hm
        obtain ⟨q, hq, -⟩ := WC_S hG hv1
        refine k_callVV (As := [.ref (a (20 + t0.toNatClampNeg))]) (rest := []) ⟨hx, hb, hml, hown, hts⟩ hK hA hN (c_X3_copyFrom hG hv1 hw52 hq0) (cwV 1 hts gX2_restore_X3_copyFrom rfl rfl rfl hdX3_copyFrom ⟨Nat.le_of_ble_eq_true rfl, Nat.le_of_ble_eq_true rfl⟩) hP (WCD hD) hS q 3 hq rfl rfl hl.1 rfl rfl (Nat.le_of_ble_eq_true rfl) ⟨Nat.zero_le _, Nat.zero_le _⟩ dX2_restore_53 (fun H locs hP hS => ?_)
        refine lv_aload_n hx hb dX2_restore_56 rfl (lv_at hl 1 rfl) ?_
        refine lv_iload_n hx hb dX2_restore_57 rfl (lv_at hl 0 rfl) ?_
        refine kp hx hb hts hiX2_restore_X2 tyX2 tyX2_ok nmX2 hown hK hP (WCD hD) hS 11 rfl rfl 1 (by decide) flX2_restore_18 rfl rfl rfl (Nat.le_of_ble_eq_true rfl) dX2_restore_58 (fun H locs hP hS => ?_)
        have hP : va_P D vwCl (WC a wb sw se LW LS LK cI cJ cB cL cS cW c_bytes c_heads c_firsts c_levelOf c_aboveOf c_partings c_signs_53 c_count_53 c_pages_53 c_levels_53 c_most_53 c_page c_known c_guess c_diff c_pieces c_place c_bits_53 c_words c_entries_53 c_bads c_noes c_fulls c_length t0 c_kept c_base c_from c_to c_above c_bit c_lastLeft) H := hP
        refine lv_aload_n hx hb dX2_restore_61 rfl (lv_at hl 1 rfl) ?_
        refine lv_dup hx hb dX2_restore_62 rfl ?_
        refine kg (v := .int c_kept) hx hb hts hiX2_restore_X2 hown hK hP 11 rfl rfl 2 (by decide) flX2_restore_26 rfl rfl dX2_restore_63 ?_
        refine lv_iconst (v := 1) hx hb dX2_restore_66 (by decide) ?_
        refine lv_isub hx hb dX2_restore_67 ?_
        refine kp hx hb hts hiX2_restore_X2 tyX2 tyX2_ok nmX2 hown hK hP (WCD hD) hS 11 rfl rfl 2 (by decide) flX2_restore_26 rfl rfl rfl (Nat.le_of_ble_eq_true rfl) dX2_restore_68 (fun H locs hP hS => ?_)
        have hP : va_P D vwCl (WC a wb sw se LW LS LK cI cJ cB cL cS cW c_bytes c_heads c_firsts c_levelOf c_aboveOf c_partings c_signs_53 c_count_53 c_pages_53 c_levels_53 c_most_53 c_page c_known c_guess c_diff c_pieces c_place c_bits_53 c_words c_entries_53 c_bads c_noes c_fulls c_length t0 (c_kept - 1) c_base c_from c_to c_above c_bit c_lastLeft) H := hP
        simp only [Option.some.injEq, Prod.mk.injEq] at hm
        obtain ⟨rfl, rfl, rfl, rfl, rfl, rfl, rfl, rfl, rfl⟩ := hm
        exact hret _ _ _ _ dX2_restore_71 hP hS
      · have hm := if_f hc hm
        simp only [Option.some.injEq, Prod.mk.injEq] at hm
        obtain ⟨rfl, rfl, rfl, rfl, rfl, rfl, rfl, rfl, rfl⟩ := hm
        exact hret _ _ _ _ dX2_restore_45 hP hS
set_option maxRecDepth 100000 in
set_option maxHeartbeats 4000000 in
theorem c_X2_restore {l : Launch} {D : va_G} {cI cJ cB cL cS cW : ClassId} {a wb sw se : Nat → Nat} {LW LS LK : List Nat} {c_bytes c_heads c_firsts c_levelOf c_aboveOf c_partings c_signs c_count c_pages c_levels c_most c_page c_known c_guess c_diff c_pieces c_place : Nat → Int32} {c_bits : Nat → Nat → Int64} {c_words : Nat → Nat → Nat} {c_entries : Nat → Nat → Int32} {c_bads c_noes c_fulls c_length c_next c_kept c_base c_from c_to c_above c_bit c_lastLeft : Int32} {v1 : Nat} {o_signs : Nat → Int32} {o_count : Nat → Int32} {o_pages : Nat → Int32} {o_levels : Nat → Int32} {o_most : Nat → Int32} {o_bits : Nat → Nat → Int64} {o_entries : Nat → Nat → Int32} {o_next : Int32} {o_kept : Int32} (hG : kG a LW LS LK) (hv1 : v1 ∈ LS) (hm : C2_restore a LW LS c_words c_signs c_count c_pages c_levels c_most c_bits c_entries c_next c_kept v1 = some (o_signs, o_count, o_pages, o_levels, o_most, o_bits, o_entries, o_next, o_kept)) : k_MV l yX2_restore wsX2_restore { frames := 2, cells := 0, slots := 0, locals := 44 } D (kT cI cJ cB cL cS cW) [.ref (a 11), .ref v1] (WC a wb sw se LW LS LK cI cJ cB cL cS cW c_bytes c_heads c_firsts c_levelOf c_aboveOf c_partings c_signs c_count c_pages c_levels c_most c_page c_known c_guess c_diff c_pieces c_place c_bits c_words c_entries c_bads c_noes c_fulls c_length c_next c_kept c_base c_from c_to c_above c_bit c_lastLeft) (WC a wb sw se LW LS LK cI cJ cB cL cS cW c_bytes c_heads c_firsts c_levelOf c_aboveOf c_partings o_signs o_count o_pages o_levels o_most c_page c_known c_guess c_diff c_pieces c_place o_bits c_words o_entries c_bads c_noes c_fulls c_length o_next o_kept c_base c_from c_to c_above c_bit c_lastLeft) := by
  refine k_ofV (cc := cX2_restore) (maxL := 3) (own := RX2) (by decide) rfl rfl (Nat.le_of_ble_eq_true rfl) ?_
  intro p e s m args below meth c A Q ls C hP hD hl hret
  have hD : va_D A (WC0 a wb sw se LW LS LK cI cJ cB cL cS cW) := WCD hD
  have hS : va_S A s.heap s.heap [] := va_S.rf
  have hl : lv_has ls 3 [(0, .ref (a 11)), (1, .ref v1)] := hl
  obtain ⟨hx, hb, hml, hr, hown, hts, hlocks, hK, hA, hN⟩ := id C
  rw [C2_restore] at hm
  refine lv_aload_n hx hb dX2_restore_0 rfl (lv_at hl 0 rfl) ?_
  refine kg (v := .int c_next) hx hb hts hiX2_restore_X2 hown hK hP 11 rfl rfl 1 (by decide) flX2_restore_18 rfl rfl dX2_restore_1 ?_
  refine lv_if_le (tgt := 16) hx hb dX2_restore_4 (by decide) (fun hc => ?_) (fun hc => ?_)
  · have hm := if_t hc hm
    refine lv_aload_n hx hb dX2_restore_16 rfl (lv_at hl 0 rfl) ?_
    refine kg (v := .ref (a 12)) hx hb hts hiX2_restore_X2 hown hK hP 11 rfl rfl 0 (by decide) flX2_restore_11 rfl rfl dX2_restore_17 ?_
    refine va_alen (v := 6) hx hb hK hP 12 4 rfl rfl rfl dX2_restore_20 ?_
    refine lv_iconst (v := 1) hx hb dX2_restore_21 (by decide) ?_
    refine lv_isub hx hb dX2_restore_22 ?_
    exact t_C2_restore_J23 C hD hG hv1 hret _ _ _ _ _ _ _ _ _ _ _ _ _ hP hS (lv_sub hl [0, 1] rfl) hm
  · have hm := if_f hc hm
    refine lv_aload_n hx hb dX2_restore_7 rfl (lv_at hl 0 rfl) ?_
    refine kg (v := .int c_next) hx hb hts hiX2_restore_X2 hown hK hP 11 rfl rfl 1 (by decide) flX2_restore_18 rfl rfl dX2_restore_8 ?_
    refine lv_iconst (v := 1) hx hb dX2_restore_11 (by decide) ?_
    refine lv_isub hx hb dX2_restore_12 ?_
    refine lv_goto (tgt := 23) hx hb dX2_restore_13 (by decide) ?_
    exact t_C2_restore_J23 C hD hG hv1 hret _ _ _ _ _ _ _ _ _ _ _ _ _ hP hS (lv_sub hl [0, 1] rfl) hm
theorem hdX7_back : yX7_back.cls = RX7 ∧ yX7_back.cls ≠ "java/lang/invoke/MethodHandle" ∧ yX7_back.cls ≠ "java/lang/invoke/VarHandle" ∧ (parseMethodDescriptor yX7_back.desc).map (fun d => d.parameters.length) = some 0 := by decide +kernel
theorem hiX7_back_X7 : ∀ w ∈ u_ws RX7 TX7 8, w ∈ wsX7_back := by decide +kernel
theorem hiX7_back_X0 : ∀ w ∈ u_ws RX0 TX0 7, w ∈ wsX7_back := by decide +kernel
theorem hiX7_back_X2 : ∀ w ∈ u_ws RX2 TX2 3, w ∈ wsX7_back := by decide +kernel
theorem flX7_back_33 : Cond.fieldLink RX7 33 "BlindPages" "past" "LBlindPages$Past;" ∈ wsX7_back := by decide +kernel
theorem flX7_back_194 : Cond.fieldLink RX7 194 "BlindPages$Past" "kept" "I" ∈ wsX7_back := by decide +kernel
theorem flX7_back_26 : Cond.fieldLink RX7 26 "BlindPages" "index" "LBlindPages$Index;" ∈ wsX7_back := by decide +kernel
theorem flX7_back_68 : Cond.fieldLink RX7 68 "BlindPages$Index" "now" "LBlindPages$State;" ∈ wsX7_back := by decide +kernel
def C7_back (a : Nat → Nat) (LW LS : List Nat) (c_words : Nat → Nat → Nat) (c_heads c_firsts c_levelOf c_aboveOf c_partings c_signs c_count c_pages c_levels c_most : Nat → Int32) (c_bits : Nat → Nat → Int64) (c_entries : Nat → Nat → Int32) (c_bads c_noes c_fulls c_next c_kept : Int32) : Option (Int32 × (Nat → Int32) × (Nat → Int32) × (Nat → Int32) × (Nat → Int32) × (Nat → Int32) × (Nat → Int32) × (Nat → Int32) × (Nat → Int32) × (Nat → Int32) × (Nat → Int32) × (Nat → Nat → Int64) × (Nat → Nat → Int32) × Int32 × Int32 × Int32 × Int32 × Int32) := if c_kept = 0 then (bd4 (C7_refuse c_bads c_noes c_fulls (-3)) fun r13 c_bads_13 c_noes_13 c_fulls_13 => some (r13, c_heads, c_firsts, c_levelOf, c_aboveOf, c_partings, c_signs, c_count, c_pages, c_levels, c_most, c_bits, c_entries, c_bads_13, c_noes_13, c_fulls_13, c_next, c_kept)) else (bd9 (C2_restore a LW LS c_words c_signs c_count c_pages c_levels c_most c_bits c_entries c_next c_kept (a 14)) fun c_signs_28 c_count_28 c_pages_28 c_levels_28 c_most_28 c_bits_28 c_entries_28 c_next_28 c_kept_28 => bd5 (C0_settle a LW c_count_28 c_pages_28 c_bits_28 c_words c_entries_28 c_heads c_firsts c_levelOf c_aboveOf c_partings) fun c_heads_35 c_firsts_35 c_levelOf_35 c_aboveOf_35 c_partings_35 => some (c_kept_28, c_heads_35, c_firsts_35, c_levelOf_35, c_aboveOf_35, c_partings_35, c_signs_28, c_count_28, c_pages_28, c_levels_28, c_most_28, c_bits_28, c_entries_28, c_bads, c_noes, c_fulls, c_next_28, c_kept_28))
set_option maxRecDepth 100000 in
set_option maxHeartbeats 4000000 in
theorem c_X7_back {l : Launch} {D : va_G} {cI cJ cB cL cS cW : ClassId} {a wb sw se : Nat → Nat} {LW LS LK : List Nat} {c_bytes c_heads c_firsts c_levelOf c_aboveOf c_partings c_signs c_count c_pages c_levels c_most c_page c_known c_guess c_diff c_pieces c_place : Nat → Int32} {c_bits : Nat → Nat → Int64} {c_words : Nat → Nat → Nat} {c_entries : Nat → Nat → Int32} {c_bads c_noes c_fulls c_length c_next c_kept c_base c_from c_to c_above c_bit c_lastLeft : Int32} {r : Int32} {o_heads : Nat → Int32} {o_firsts : Nat → Int32} {o_levelOf : Nat → Int32} {o_aboveOf : Nat → Int32} {o_partings : Nat → Int32} {o_signs : Nat → Int32} {o_count : Nat → Int32} {o_pages : Nat → Int32} {o_levels : Nat → Int32} {o_most : Nat → Int32} {o_bits : Nat → Nat → Int64} {o_entries : Nat → Nat → Int32} {o_bads : Int32} {o_noes : Int32} {o_fulls : Int32} {o_next : Int32} {o_kept : Int32} (hG : kG a LW LS LK) (hm : C7_back a LW LS c_words c_heads c_firsts c_levelOf c_aboveOf c_partings c_signs c_count c_pages c_levels c_most c_bits c_entries c_bads c_noes c_fulls c_next c_kept = some (r, o_heads, o_firsts, o_levelOf, o_aboveOf, o_partings, o_signs, o_count, o_pages, o_levels, o_most, o_bits, o_entries, o_bads, o_noes, o_fulls, o_next, o_kept)) : k_MI l yX7_back wsX7_back { frames := 4, cells := 0, slots := 0, locals := 89 } D (kT cI cJ cB cL cS cW) [.ref (a 0)] (WC a wb sw se LW LS LK cI cJ cB cL cS cW c_bytes c_heads c_firsts c_levelOf c_aboveOf c_partings c_signs c_count c_pages c_levels c_most c_page c_known c_guess c_diff c_pieces c_place c_bits c_words c_entries c_bads c_noes c_fulls c_length c_next c_kept c_base c_from c_to c_above c_bit c_lastLeft) r (WC a wb sw se LW LS LK cI cJ cB cL cS cW c_bytes o_heads o_firsts o_levelOf o_aboveOf o_partings o_signs o_count o_pages o_levels o_most c_page c_known c_guess c_diff c_pieces c_place o_bits c_words o_entries o_bads o_noes o_fulls c_length o_next o_kept c_base c_from c_to c_above c_bit c_lastLeft) := by
  refine k_ofI (cc := cX7_back) (maxL := 1) (own := RX7) (by decide) rfl rfl (Nat.le_of_ble_eq_true rfl) ?_
  intro p e s m args below meth c A Q ls C hP hD hl hret
  have hD : va_D A (WC0 a wb sw se LW LS LK cI cJ cB cL cS cW) := WCD hD
  have hS : va_S A s.heap s.heap [] := va_S.rf
  have hl : lv_has ls 1 [(0, .ref (a 0))] := hl
  obtain ⟨hx, hb, hml, hr, hown, hts, hlocks, hK, hA, hN⟩ := id C
  rw [C7_back] at hm
  refine lv_aload_n hx hb dX7_back_0 rfl (lv_at hl 0 rfl) ?_
  refine kg (v := .ref (a 11)) hx hb hts hiX7_back_X7 hown hK hP 0 rfl rfl 3 (by decide) flX7_back_33 rfl rfl dX7_back_1 ?_
  refine kg (v := .int c_kept) hx hb hts hiX7_back_X2 hown hK hP 11 rfl rfl 2 (by decide) flX7_back_194 rfl rfl dX7_back_4 ?_
  refine lv_if_ne (tgt := 17) hx hb dX7_back_7 (by decide) (fun hc => ?_) (fun hc => ?_)
  · have hm := if_f hc hm
    refine lv_aload_n hx hb dX7_back_17 rfl (lv_at hl 0 rfl) ?_
    refine kg (v := .ref (a 11)) hx hb hts hiX7_back_X7 hown hK hP 0 rfl rfl 3 (by decide) flX7_back_33 rfl rfl dX7_back_18 ?_
    refine lv_aload_n hx hb dX7_back_21 rfl (lv_at hl 0 rfl) ?_
    refine kg (v := .ref (a 3)) hx hb hts hiX7_back_X7 hown hK hP 0 rfl rfl 2 (by decide) flX7_back_26 rfl rfl dX7_back_22 ?_
    refine kg (v := .ref (a 14)) hx hb hts hiX7_back_X0 hown hK hP 3 rfl rfl 0 (by decide) flX7_back_68 rfl rfl dX7_back_25 ?_
    obtain ⟨c_signs_28, c_count_28, c_pages_28, c_levels_28, c_most_28, c_bits_28, c_entries_28, c_next_28, c_kept_28, hq0, hm⟩ := bd9_some hm
    refine k_callVV (As := [.ref (a 14)]) (rest := []) ⟨hx, hb, hml, hown, hts⟩ hK hA hN (c_X2_restore hG hG.2.2.2.2.1 hq0) (cwV 1 hts gX7_back_X2_restore rfl rfl rfl hdX2_restore ⟨Nat.le_of_ble_eq_true rfl, Nat.le_of_ble_eq_true rfl⟩) hP (WCD hD) hS 11 2 rfl rfl rfl hl.1 rfl rfl (Nat.le_of_ble_eq_true rfl) ⟨Nat.zero_le _, Nat.zero_le _⟩ dX7_back_28 (fun H locs hP hS => ?_)
    refine lv_aload_n hx hb dX7_back_31 rfl (lv_at hl 0 rfl) ?_
    refine kg (v := .ref (a 3)) hx hb hts hiX7_back_X7 hown hK hP 0 rfl rfl 2 (by decide) flX7_back_26 rfl rfl dX7_back_32 ?_
    obtain ⟨c_heads_35, c_firsts_35, c_levelOf_35, c_aboveOf_35, c_partings_35, hq0, hm⟩ := bd5_some hm
    refine k_callVV (As := []) (rest := []) ⟨hx, hb, hml, hown, hts⟩ hK hA hN (c_X0_settle hG hq0) (cwV 0 hts gX7_back_X0_settle rfl rfl rfl hdX0_settle ⟨Nat.le_of_ble_eq_true rfl, Nat.le_of_ble_eq_true rfl⟩) hP (WCD hD) hS 3 0 rfl rfl rfl hl.1 rfl rfl (Nat.le_of_ble_eq_true rfl) ⟨Nat.zero_le _, Nat.zero_le _⟩ dX7_back_35 (fun H locs hP hS => ?_)
    refine lv_aload_n hx hb dX7_back_38 rfl (lv_at hl 0 rfl) ?_
    refine kg (v := .ref (a 11)) hx hb hts hiX7_back_X7 hown hK hP 0 rfl rfl 3 (by decide) flX7_back_33 rfl rfl dX7_back_39 ?_
    refine kg (v := .int c_kept_28) hx hb hts hiX7_back_X2 hown hK hP 11 rfl rfl 2 (by decide) flX7_back_194 rfl rfl dX7_back_42 ?_
    simp only [Option.some.injEq, Prod.mk.injEq] at hm
    obtain ⟨rfl, rfl, rfl, rfl, rfl, rfl, rfl, rfl, rfl, rfl, rfl, rfl, rfl, rfl, rfl, rfl, rfl, rfl⟩ := hm
    exact hret _ _ _ _ dX7_back_45 hP hS
  · have hm := if_t hc hm
    refine lv_aload_n hx hb dX7_back_10 rfl (lv_at hl 0 rfl) ?_
    refine lv_bipush (v := (-3)) hx hb dX7_back_11 (by decide) ?_
    obtain ⟨r13, c_bads_13, c_noes_13, c_fulls_13, hq0, hm⟩ := bd4_some hm
    refine k_callVI (As := [.int (-3)]) (rest := []) ⟨hx, hb, hml, hown, hts⟩ hK hA hN (c_X7_refuse hG hq0) (cwV 1 hts gX7_back_X7_refuse rfl rfl rfl hdX7_refuse ⟨Nat.le_of_ble_eq_true rfl, Nat.le_of_ble_eq_true rfl⟩) hP (WCD hD) hS 0 7 rfl rfl rfl hl.1 rfl rfl (Nat.le_of_ble_eq_true rfl) ⟨Nat.zero_le _, Nat.zero_le _⟩ dX7_back_13 (fun H locs hP hS => ?_)
    simp only [Option.some.injEq, Prod.mk.injEq] at hm
    obtain ⟨rfl, rfl, rfl, rfl, rfl, rfl, rfl, rfl, rfl, rfl, rfl, rfl, rfl, rfl, rfl, rfl, rfl, rfl⟩ := hm
    exact hret _ _ _ _ dX7_back_16 hP hS
theorem hdX7_ownFact : yX7_ownFact.cls = RX7 ∧ yX7_ownFact.cls ≠ "java/lang/invoke/MethodHandle" ∧ yX7_ownFact.cls ≠ "java/lang/invoke/VarHandle" ∧ (parseMethodDescriptor yX7_ownFact.desc).map (fun d => d.parameters.length) = some 1 := by decide +kernel
theorem hiX7_ownFact_X7 : ∀ w ∈ u_ws RX7 TX7 8, w ∈ wsX7_ownFact := by decide +kernel
theorem hiX7_ownFact_X2 : ∀ w ∈ u_ws RX2 TX2 3, w ∈ wsX7_ownFact := by decide +kernel
theorem hiX7_ownFact_X4 : ∀ w ∈ u_ws RX4 TX4 2, w ∈ wsX7_ownFact := by decide +kernel
theorem flX7_ownFact_211 : Cond.fieldLink RX7 211 "BlindPages" "bads" "I" ∈ wsX7_ownFact := by decide +kernel
theorem flX7_ownFact_214 : Cond.fieldLink RX7 214 "BlindPages" "noes" "I" ∈ wsX7_ownFact := by decide +kernel
theorem flX7_ownFact_217 : Cond.fieldLink RX7 217 "BlindPages" "fulls" "I" ∈ wsX7_ownFact := by decide +kernel
theorem flX7_ownFact_10 : Cond.fieldLink RX7 10 "BlindPages" "text" "LBlindPages$Text;" ∈ wsX7_ownFact := by decide +kernel
theorem flX7_ownFact_48 : Cond.fieldLink RX7 48 "BlindPages$Text" "length" "I" ∈ wsX7_ownFact := by decide +kernel
theorem flX7_ownFact_33 : Cond.fieldLink RX7 33 "BlindPages" "past" "LBlindPages$Past;" ∈ wsX7_ownFact := by decide +kernel
theorem flX7_ownFact_194 : Cond.fieldLink RX7 194 "BlindPages$Past" "kept" "I" ∈ wsX7_ownFact := by decide +kernel
def C7_ownFact (c_bads c_noes c_fulls c_length c_kept : Int32) (v1 : Int32) : Option (Int32) := if v1 = 0 then (some c_bads) else if v1 = 1 then (some c_noes) else if v1 = 2 then (some c_fulls) else if v1 = 3 then (some c_length) else (some c_kept)
set_option maxRecDepth 100000 in
set_option maxHeartbeats 4000000 in
theorem c_X7_ownFact {l : Launch} {D : va_G} {cI cJ cB cL cS cW : ClassId} {a wb sw se : Nat → Nat} {LW LS LK : List Nat} {c_bytes c_heads c_firsts c_levelOf c_aboveOf c_partings c_signs c_count c_pages c_levels c_most c_page c_known c_guess c_diff c_pieces c_place : Nat → Int32} {c_bits : Nat → Nat → Int64} {c_words : Nat → Nat → Nat} {c_entries : Nat → Nat → Int32} {c_bads c_noes c_fulls c_length c_next c_kept c_base c_from c_to c_above c_bit c_lastLeft : Int32} {v1 : Int32} {r : Int32} (hG : kG a LW LS LK) (hm : C7_ownFact c_bads c_noes c_fulls c_length c_kept v1 = some r) : k_MI l yX7_ownFact wsX7_ownFact { frames := 0, cells := 0, slots := 0, locals := 0 } D (kT cI cJ cB cL cS cW) [.ref (a 0), .int v1] (WC a wb sw se LW LS LK cI cJ cB cL cS cW c_bytes c_heads c_firsts c_levelOf c_aboveOf c_partings c_signs c_count c_pages c_levels c_most c_page c_known c_guess c_diff c_pieces c_place c_bits c_words c_entries c_bads c_noes c_fulls c_length c_next c_kept c_base c_from c_to c_above c_bit c_lastLeft) r (WC a wb sw se LW LS LK cI cJ cB cL cS cW c_bytes c_heads c_firsts c_levelOf c_aboveOf c_partings c_signs c_count c_pages c_levels c_most c_page c_known c_guess c_diff c_pieces c_place c_bits c_words c_entries c_bads c_noes c_fulls c_length c_next c_kept c_base c_from c_to c_above c_bit c_lastLeft) := by
  refine k_ofI (cc := cX7_ownFact) (maxL := 2) (own := RX7) (by decide) rfl rfl (Nat.le_of_ble_eq_true rfl) ?_
  intro p e s m args below meth c A Q ls C hP hD hl hret
  have hD : va_D A (WC0 a wb sw se LW LS LK cI cJ cB cL cS cW) := WCD hD
  have hS : va_S A s.heap s.heap [] := va_S.rf
  have hl : lv_has ls 2 [(0, .ref (a 0)), (1, .int v1)] := hl
  obtain ⟨hx, hb, hml, hr, hown, hts, hlocks, hK, hA, hN⟩ := id C
  rw [C7_ownFact] at hm
  refine lv_iload_n hx hb dX7_ownFact_0 rfl (lv_at hl 1 rfl) ?_
  by_cases hc0 : v1 = 0
  · have hm := if_t hc0 hm
    refine lv_tableIn (tgt := 32) (off := 31) hx hb dX7_ownFact_1 (by rw [hc0]; decide) (by rw [hc0]; decide) (by rw [hc0]; rfl) (by decide) ?_
    refine lv_aload_n hx hb dX7_ownFact_32 rfl (lv_at hl 0 rfl) ?_
    refine kg (v := .int c_bads) hx hb hts hiX7_ownFact_X7 hown hK hP 0 rfl rfl 5 (by decide) flX7_ownFact_211 rfl rfl dX7_ownFact_33 ?_
    obtain rfl := Option.some.inj hm
    exact hret _ _ _ _ dX7_ownFact_36 hP hS
  have hm := if_f hc0 hm
  by_cases hc1 : v1 = 1
  · have hm := if_t hc1 hm
    refine lv_tableIn (tgt := 37) (off := 36) hx hb dX7_ownFact_1 (by rw [hc1]; decide) (by rw [hc1]; decide) (by rw [hc1]; rfl) (by decide) ?_
    refine lv_aload_n hx hb dX7_ownFact_37 rfl (lv_at hl 0 rfl) ?_
    refine kg (v := .int c_noes) hx hb hts hiX7_ownFact_X7 hown hK hP 0 rfl rfl 6 (by decide) flX7_ownFact_214 rfl rfl dX7_ownFact_38 ?_
    obtain rfl := Option.some.inj hm
    exact hret _ _ _ _ dX7_ownFact_41 hP hS
  have hm := if_f hc1 hm
  by_cases hc2 : v1 = 2
  · have hm := if_t hc2 hm
    refine lv_tableIn (tgt := 42) (off := 41) hx hb dX7_ownFact_1 (by rw [hc2]; decide) (by rw [hc2]; decide) (by rw [hc2]; rfl) (by decide) ?_
    refine lv_aload_n hx hb dX7_ownFact_42 rfl (lv_at hl 0 rfl) ?_
    refine kg (v := .int c_fulls) hx hb hts hiX7_ownFact_X7 hown hK hP 0 rfl rfl 7 (by decide) flX7_ownFact_217 rfl rfl dX7_ownFact_43 ?_
    obtain rfl := Option.some.inj hm
    exact hret _ _ _ _ dX7_ownFact_46 hP hS
  have hm := if_f hc2 hm
  by_cases hc3 : v1 = 3
  · have hm := if_t hc3 hm
    refine lv_tableIn (tgt := 47) (off := 46) hx hb dX7_ownFact_1 (by rw [hc3]; decide) (by rw [hc3]; decide) (by rw [hc3]; rfl) (by decide) ?_
    refine lv_aload_n hx hb dX7_ownFact_47 rfl (lv_at hl 0 rfl) ?_
    refine kg (v := .ref (a 1)) hx hb hts hiX7_ownFact_X7 hown hK hP 0 rfl rfl 0 (by decide) flX7_ownFact_10 rfl rfl dX7_ownFact_48 ?_
    refine kg (v := .int c_length) hx hb hts hiX7_ownFact_X4 hown hK hP 1 rfl rfl 1 (by decide) flX7_ownFact_48 rfl rfl dX7_ownFact_51 ?_
    obtain rfl := Option.some.inj hm
    exact hret _ _ _ _ dX7_ownFact_54 hP hS
  have hm := if_f hc3 hm
  refine lv_tableOut (tgt := 55) hx hb dX7_ownFact_1 (sw_out0_3 hc0 hc1 hc2 hc3) (by decide) ?_
  refine lv_aload_n hx hb dX7_ownFact_55 rfl (lv_at hl 0 rfl) ?_
  refine kg (v := .ref (a 11)) hx hb hts hiX7_ownFact_X7 hown hK hP 0 rfl rfl 3 (by decide) flX7_ownFact_33 rfl rfl dX7_ownFact_56 ?_
  refine kg (v := .int c_kept) hx hb hts hiX7_ownFact_X2 hown hK hP 11 rfl rfl 2 (by decide) flX7_ownFact_194 rfl rfl dX7_ownFact_59 ?_
  obtain rfl := Option.some.inj hm
  exact hret _ _ _ _ dX7_ownFact_62 hP hS
theorem hdX7_told : yX7_told.cls = RX7 ∧ yX7_told.cls ≠ "java/lang/invoke/MethodHandle" ∧ yX7_told.cls ≠ "java/lang/invoke/VarHandle" ∧ (parseMethodDescriptor yX7_told.desc).map (fun d => d.parameters.length) = some 1 := by decide +kernel
def C7_told_J9 (c_length c_kept : Int32) (v1 : Int32) (c_bads : Int32) (c_noes : Int32) (c_fulls : Int32) : Option (Int32 × Int32 × Int32 × Int32) := bd4 (C7_refuse c_bads c_noes c_fulls (-2)) fun r12 c_bads_12 c_noes_12 c_fulls_12 => some (r12, c_bads_12, c_noes_12, c_fulls_12)
def C7_told (c_length c_kept : Int32) (c_bads c_noes c_fulls : Int32) (v1 : Int32) : Option (Int32 × Int32 × Int32 × Int32) := if v1 < 0 then (C7_told_J9 c_length c_kept v1 c_bads c_noes c_fulls) else (if v1 ≤ 4 then (bd1 (C7_ownFact c_bads c_noes c_fulls c_length c_kept v1) fun r18 => some (r18, c_bads, c_noes, c_fulls)) else (C7_told_J9 c_length c_kept v1 c_bads c_noes c_fulls))
set_option maxRecDepth 100000 in
set_option maxHeartbeats 4000000 in
theorem t_C7_told_J9 {p : Program} {l : Launch} {e : Env} {s : State} {m : MethodId} {args : Array Value} {below : List Frame} {meth : Method} {c : Code} {Q : State → Prop} {A : Nat → Prop} {D : va_G} {cI cJ cB cL cS cW : ClassId} {a wb sw se : Nat → Nat} {LW LS LK : List Nat} {c_bytes c_heads c_firsts c_levelOf c_aboveOf c_partings c_signs c_count c_pages c_levels c_most c_page c_known c_guess c_diff c_pieces c_place : Nat → Int32} {c_bits : Nat → Nat → Int64} {c_words : Nat → Nat → Nat} {c_entries : Nat → Nat → Int32} {c_length c_next c_kept c_base c_from c_to c_above c_bit c_lastLeft : Int32} {v1 : Int32} {r : Int32} {o_bads : Int32} {o_noes : Int32} {o_fulls : Int32} (C : k_C p s m args meth c cX7_told 2 (some .int) RX7 wsX7_told D (kT cI cJ cB cL cS cW) A) (hD : va_D A (WC0 a wb sw se LW LS LK cI cJ cB cL cS cW)) (hG : kG a LW LS LK) (hret : ∀ (H : Heap) (locs : List Loc) (pc : Nat) (ls : Array Slot), decode cX7_told pc = .ok (.ireturn, 1) → va_P D vwCl (WC a wb sw se LW LS LK cI cJ cB cL cS cW c_bytes c_heads c_firsts c_levelOf c_aboveOf c_partings c_signs c_count c_pages c_levels c_most c_page c_known c_guess c_diff c_pieces c_place c_bits c_words c_entries o_bads o_noes o_fulls c_length c_next c_kept c_base c_from c_to c_above c_bit c_lastLeft) H → va_S A s.heap H locs → W p l e { frames := 1, cells := 0, slots := 0, locals := 21 } s m args below meth c H locs 0 0 Q (F0 m pc ls [.int r])) : ∀ (c_bads : Int32) (c_noes : Int32) (c_fulls : Int32) (H : Heap) (locs : List Loc) (ls : Array Slot), va_P D vwCl (WC a wb sw se LW LS LK cI cJ cB cL cS cW c_bytes c_heads c_firsts c_levelOf c_aboveOf c_partings c_signs c_count c_pages c_levels c_most c_page c_known c_guess c_diff c_pieces c_place c_bits c_words c_entries c_bads c_noes c_fulls c_length c_next c_kept c_base c_from c_to c_above c_bit c_lastLeft) H → va_S A s.heap H locs → lv_has ls 2 [(0, .ref (a 0))] → C7_told_J9 c_length c_kept v1 c_bads c_noes c_fulls = some (r, o_bads, o_noes, o_fulls) → W p l e { frames := 1, cells := 0, slots := 0, locals := 21 } s m args below meth c H locs 0 0 Q (F0 m 9 ls []) := by
  obtain ⟨hx, hb, hml, hr, hown, hts, hlocks, hK, hA, hN⟩ := id C
  intro c_bads c_noes c_fulls H locs ls hP hS hl hm
  rw [C7_told_J9] at hm
  refine lv_aload_n hx hb dX7_told_9 rfl (lv_at hl 0 rfl) ?_
  refine lv_bipush (v := (-2)) hx hb dX7_told_10 (by decide) ?_
  obtain ⟨r12, c_bads_12, c_noes_12, c_fulls_12, hq0, hm⟩ := bd4_some hm
  refine k_callVI (As := [.int (-2)]) (rest := []) ⟨hx, hb, hml, hown, hts⟩ hK hA hN (c_X7_refuse hG hq0) (cwV 1 hts gX7_told_X7_refuse rfl rfl rfl hdX7_refuse ⟨Nat.le_of_ble_eq_true rfl, Nat.le_of_ble_eq_true rfl⟩) hP (WCD hD) hS 0 7 rfl rfl rfl hl.1 rfl rfl (Nat.le_of_ble_eq_true rfl) ⟨Nat.zero_le _, Nat.zero_le _⟩ dX7_told_12 (fun H locs hP hS => ?_)
  simp only [Option.some.injEq, Prod.mk.injEq] at hm
  obtain ⟨rfl, rfl, rfl, rfl⟩ := hm
  exact hret _ _ _ _ dX7_told_15 hP hS
set_option maxRecDepth 100000 in
set_option maxHeartbeats 4000000 in
theorem c_X7_told {l : Launch} {D : va_G} {cI cJ cB cL cS cW : ClassId} {a wb sw se : Nat → Nat} {LW LS LK : List Nat} {c_bytes c_heads c_firsts c_levelOf c_aboveOf c_partings c_signs c_count c_pages c_levels c_most c_page c_known c_guess c_diff c_pieces c_place : Nat → Int32} {c_bits : Nat → Nat → Int64} {c_words : Nat → Nat → Nat} {c_entries : Nat → Nat → Int32} {c_bads c_noes c_fulls c_length c_next c_kept c_base c_from c_to c_above c_bit c_lastLeft : Int32} {v1 : Int32} {r : Int32} {o_bads : Int32} {o_noes : Int32} {o_fulls : Int32} (hG : kG a LW LS LK) (hm : C7_told c_length c_kept c_bads c_noes c_fulls v1 = some (r, o_bads, o_noes, o_fulls)) : k_MI l yX7_told wsX7_told { frames := 1, cells := 0, slots := 0, locals := 21 } D (kT cI cJ cB cL cS cW) [.ref (a 0), .int v1] (WC a wb sw se LW LS LK cI cJ cB cL cS cW c_bytes c_heads c_firsts c_levelOf c_aboveOf c_partings c_signs c_count c_pages c_levels c_most c_page c_known c_guess c_diff c_pieces c_place c_bits c_words c_entries c_bads c_noes c_fulls c_length c_next c_kept c_base c_from c_to c_above c_bit c_lastLeft) r (WC a wb sw se LW LS LK cI cJ cB cL cS cW c_bytes c_heads c_firsts c_levelOf c_aboveOf c_partings c_signs c_count c_pages c_levels c_most c_page c_known c_guess c_diff c_pieces c_place c_bits c_words c_entries o_bads o_noes o_fulls c_length c_next c_kept c_base c_from c_to c_above c_bit c_lastLeft) := by
  refine k_ofI (cc := cX7_told) (maxL := 2) (own := RX7) (by decide) rfl rfl (Nat.le_of_ble_eq_true rfl) ?_
  intro p e s m args below meth c A Q ls C hP hD hl hret
  have hD : va_D A (WC0 a wb sw se LW LS LK cI cJ cB cL cS cW) := WCD hD
  have hS : va_S A s.heap s.heap [] := va_S.rf
  have hl : lv_has ls 2 [(0, .ref (a 0)), (1, .int v1)] := hl
  obtain ⟨hx, hb, hml, hr, hown, hts, hlocks, hK, hA, hN⟩ := id C
  rw [C7_told] at hm
  refine lv_iload_n hx hb dX7_told_0 rfl (lv_at hl 1 rfl) ?_
  refine lv_if_lt (tgt := 9) hx hb dX7_told_1 (by decide) (fun hc => ?_) (fun hc => ?_)
  · have hm := if_t hc hm
    exact t_C7_told_J9 C hD hG hret _ _ _ _ _ _ hP hS (lv_sub hl [0] rfl) hm
  · have hm := if_f hc hm
    refine lv_iload_n hx hb dX7_told_4 rfl (lv_at hl 1 rfl) ?_
    refine lv_iconst (v := 4) hx hb dX7_told_5 (by decide) ?_
    refine lv_icmp_le (tgt := 16) hx hb dX7_told_6 (by decide) (fun hc => ?_) (fun hc => ?_)
    · have hm := if_t hc hm
      refine lv_aload_n hx hb dX7_told_16 rfl (lv_at hl 0 rfl) ?_
      refine lv_iload_n hx hb dX7_told_17 rfl (lv_at hl 1 rfl) ?_
      obtain ⟨r18, hq0, hm⟩ := bd1_some hm
      refine k_callVI (As := [.int v1]) (rest := []) ⟨hx, hb, hml, hown, hts⟩ hK hA hN (c_X7_ownFact hG hq0) (cwV 1 hts gX7_told_X7_ownFact rfl rfl rfl hdX7_ownFact ⟨Nat.le_of_ble_eq_true rfl, Nat.le_of_ble_eq_true rfl⟩) hP (WCD hD) hS 0 7 rfl rfl rfl hl.1 rfl rfl (Nat.le_of_ble_eq_true rfl) ⟨Nat.zero_le _, Nat.zero_le _⟩ dX7_told_18 (fun H locs hP hS => ?_)
      simp only [Option.some.injEq, Prod.mk.injEq] at hm
      obtain ⟨rfl, rfl, rfl, rfl⟩ := hm
      exact hret _ _ _ _ dX7_told_21 hP hS
    · have hm := if_f hc hm
      exact t_C7_told_J9 C hD hG hret _ _ _ _ _ _ hP hS (lv_sub hl [0] rfl) hm
