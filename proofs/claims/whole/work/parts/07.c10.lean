theorem hdX7_looks : yX7_looks.cls = RX7 ∧ yX7_looks.cls ≠ "java/lang/invoke/MethodHandle" ∧ yX7_looks.cls ≠ "java/lang/invoke/VarHandle" ∧ (parseMethodDescriptor yX7_looks.desc).map (fun d => d.parameters.length) = some 2 := by decide +kernel
theorem hiX7_looks_X7 : ∀ w ∈ u_ws RX7 TX7 8, w ∈ wsX7_looks := by decide +kernel
theorem hiX7_looks_X1 : ∀ w ∈ u_ws RX1 TX1 6, w ∈ wsX7_looks := by decide +kernel
theorem flX7_looks_26 : Cond.fieldLink RX7 26 "BlindPages" "index" "LBlindPages$Index;" ∈ wsX7_looks := by decide +kernel
theorem flX7_looks_10 : Cond.fieldLink RX7 10 "BlindPages" "text" "LBlindPages$Text;" ∈ wsX7_looks := by decide +kernel
theorem flX7_looks_19 : Cond.fieldLink RX7 19 "BlindPages" "word" "LBlindPages$Word;" ∈ wsX7_looks := by decide +kernel
theorem flX7_looks_40 : Cond.fieldLink RX7 40 "BlindPages" "glance" "LBlindPages$Look;" ∈ wsX7_looks := by decide +kernel
theorem flX7_looks_140 : Cond.fieldLink RX7 140 "BlindPages$Look" "guess" "I" ∈ wsX7_looks := by decide +kernel
theorem flX7_looks_143 : Cond.fieldLink RX7 143 "BlindPages$Look" "diff" "I" ∈ wsX7_looks := by decide +kernel
theorem flX7_looks_146 : Cond.fieldLink RX7 146 "BlindPages$Look" "pieces" "I" ∈ wsX7_looks := by decide +kernel
theorem flX7_looks_149 : Cond.fieldLink RX7 149 "BlindPages$Look" "place" "I" ∈ wsX7_looks := by decide +kernel
def C7_looks_J20 (a : Nat → Nat) (LW : List Nat) (c_bytes c_heads c_firsts c_partings c_pages : Nat → Int32) (c_words : Nat → Nat → Nat) (c_entries : Nat → Nat → Int32) (c_length : Int32) (v1 : Int32) (v2 : Int32) (c_signs : (Nat → Int32)) (c_page : (Nat → Int32)) (c_known : (Nat → Int32)) (c_guess : (Nat → Int32)) (c_diff : (Nat → Int32)) (c_pieces : (Nat → Int32)) (c_place : (Nat → Int32)) (c_bits : (Nat → Nat → Int64)) (c_bads : Int32) (c_noes : Int32) (c_fulls : Int32) (c_base : Int32) (c_from : Int32) (c_to : Int32) (c_above : Int32) (c_bit : Int32) (c_lastLeft : Int32) : Option (Int32 × (Nat → Int32) × (Nat → Int32) × (Nat → Int32) × (Nat → Int32) × (Nat → Int32) × (Nat → Int32) × (Nat → Int32) × (Nat → Nat → Int64) × Int32 × Int32 × Int32 × Int32 × Int32 × Int32 × Int32 × Int32 × Int32) := bd4 (C7_refuse c_bads c_noes c_fulls (-2)) fun r23 c_bads_23 c_noes_23 c_fulls_23 => some (r23, c_signs, c_page, c_known, c_guess, c_diff, c_pieces, c_place, c_bits, c_bads_23, c_noes_23, c_fulls_23, c_base, c_from, c_to, c_above, c_bit, c_lastLeft)
def C7_looks (a : Nat → Nat) (LW : List Nat) (c_bytes c_heads c_firsts c_partings c_pages : Nat → Int32) (c_words : Nat → Nat → Nat) (c_entries : Nat → Nat → Int32) (c_length : Int32) (c_signs c_page c_known c_guess c_diff c_pieces c_place : Nat → Int32) (c_bits : Nat → Nat → Int64) (c_bads c_noes c_fulls c_base c_from c_to c_above c_bit c_lastLeft : Int32) (v1 : Int32) (v2 : Int32) : Option (Int32 × (Nat → Int32) × (Nat → Int32) × (Nat → Int32) × (Nat → Int32) × (Nat → Int32) × (Nat → Int32) × (Nat → Int32) × (Nat → Nat → Int64) × Int32 × Int32 × Int32 × Int32 × Int32 × Int32 × Int32 × Int32 × Int32) := if v2 < 0 then (C7_looks_J20 a LW c_bytes c_heads c_firsts c_partings c_pages c_words c_entries c_length v1 v2 c_signs c_page c_known c_guess c_diff c_pieces c_place c_bits c_bads c_noes c_fulls c_base c_from c_to c_above c_bit c_lastLeft) else (if 3 < v2 then (C7_looks_J20 a LW c_bytes c_heads c_firsts c_partings c_pages c_words c_entries c_length v1 v2 c_signs c_page c_known c_guess c_diff c_pieces c_place c_bits c_bads c_noes c_fulls c_base c_from c_to c_above c_bit c_lastLeft) else (bd1 (C0_hasPage a c_pages v1) fun r14 => if r14 = 0 then (C7_looks_J20 a LW c_bytes c_heads c_firsts c_partings c_pages c_words c_entries c_length v1 v2 c_signs c_page c_known c_guess c_diff c_pieces c_place c_bits c_bads c_noes c_fulls c_base c_from c_to c_above c_bit c_lastLeft) else (bd3 (C4_readWord c_bytes c_length c_signs c_bits (a 13)) fun r35 c_signs_35 c_bits_35 => if r35 = 0 then (bd4 (C7_refuse c_bads c_noes c_fulls (-3)) fun r44 c_bads_44 c_noes_44 c_fulls_44 => some (r44, c_signs_35, c_page, c_known, c_guess, c_diff, c_pieces, c_place, c_bits_35, c_bads_44, c_noes_44, c_fulls_44, c_base, c_from, c_to, c_above, c_bit, c_lastLeft)) else (bd12 (C0_lookAt a LW c_heads c_firsts c_partings c_signs_35 c_pages c_bits_35 c_words c_entries c_page c_known c_guess c_diff c_pieces c_place c_base c_from c_to c_above c_bit c_lastLeft (a 13) v1 0 (a 15)) fun c_page_62 c_known_62 c_guess_62 c_diff_62 c_pieces_62 c_place_62 c_base_62 c_from_62 c_to_62 c_above_62 c_bit_62 c_lastLeft_62 => if v2 = 0 then (some ((c_guess_62 (a 15)), c_signs_35, c_page_62, c_known_62, c_guess_62, c_diff_62, c_pieces_62, c_place_62, c_bits_35, c_bads, c_noes, c_fulls, c_base_62, c_from_62, c_to_62, c_above_62, c_bit_62, c_lastLeft_62)) else if v2 = 1 then (some ((c_diff_62 (a 15)), c_signs_35, c_page_62, c_known_62, c_guess_62, c_diff_62, c_pieces_62, c_place_62, c_bits_35, c_bads, c_noes, c_fulls, c_base_62, c_from_62, c_to_62, c_above_62, c_bit_62, c_lastLeft_62)) else if v2 = 2 then (some ((c_pieces_62 (a 15)), c_signs_35, c_page_62, c_known_62, c_guess_62, c_diff_62, c_pieces_62, c_place_62, c_bits_35, c_bads, c_noes, c_fulls, c_base_62, c_from_62, c_to_62, c_above_62, c_bit_62, c_lastLeft_62)) else (some ((c_place_62 (a 15)), c_signs_35, c_page_62, c_known_62, c_guess_62, c_diff_62, c_pieces_62, c_place_62, c_bits_35, c_bads, c_noes, c_fulls, c_base_62, c_from_62, c_to_62, c_above_62, c_bit_62, c_lastLeft_62))))))
set_option maxRecDepth 100000 in
set_option maxHeartbeats 4000000 in
theorem t_C7_looks_J20 {p : Program} {l : Launch} {e : Env} {s : State} {m : MethodId} {args : Array Value} {below : List Frame} {meth : Method} {c : Code} {Q : State → Prop} {A : Nat → Prop} {D : va_G} {cI cJ cB cL cS cW : ClassId} {a wb sw se : Nat → Nat} {LW LS LK : List Nat} {c_bytes c_heads c_firsts c_levelOf c_aboveOf c_partings c_count c_pages c_levels c_most : Nat → Int32} {c_words : Nat → Nat → Nat} {c_entries : Nat → Nat → Int32} {c_length c_next c_kept : Int32} {v1 : Int32} {v2 : Int32} {r : Int32} {o_signs : Nat → Int32} {o_page : Nat → Int32} {o_known : Nat → Int32} {o_guess : Nat → Int32} {o_diff : Nat → Int32} {o_pieces : Nat → Int32} {o_place : Nat → Int32} {o_bits : Nat → Nat → Int64} {o_bads : Int32} {o_noes : Int32} {o_fulls : Int32} {o_base : Int32} {o_from : Int32} {o_to : Int32} {o_above : Int32} {o_bit : Int32} {o_lastLeft : Int32} (C : k_C p s m args meth c cX7_looks 3 (some .int) RX7 wsX7_looks D (kT cI cJ cB cL cS cW) A) (hD : va_D A (WC0 a wb sw se LW LS LK cI cJ cB cL cS cW)) (hG : kG a LW LS LK) (hret : ∀ (H : Heap) (locs : List Loc) (pc : Nat) (ls : Array Slot), decode cX7_looks pc = .ok (.ireturn, 1) → va_P D vwCl (WC a wb sw se LW LS LK cI cJ cB cL cS cW c_bytes c_heads c_firsts c_levelOf c_aboveOf c_partings o_signs c_count c_pages c_levels c_most o_page o_known o_guess o_diff o_pieces o_place o_bits c_words c_entries o_bads o_noes o_fulls c_length c_next c_kept o_base o_from o_to o_above o_bit o_lastLeft) H → va_S A s.heap H locs → W p l e { frames := 4, cells := 0, slots := 0, locals := 94 } s m args below meth c H locs 0 0 Q (F0 m pc ls [.int r])) : ∀ (c_signs : (Nat → Int32)) (c_page : (Nat → Int32)) (c_known : (Nat → Int32)) (c_guess : (Nat → Int32)) (c_diff : (Nat → Int32)) (c_pieces : (Nat → Int32)) (c_place : (Nat → Int32)) (c_bits : (Nat → Nat → Int64)) (c_bads : Int32) (c_noes : Int32) (c_fulls : Int32) (c_base : Int32) (c_from : Int32) (c_to : Int32) (c_above : Int32) (c_bit : Int32) (c_lastLeft : Int32) (H : Heap) (locs : List Loc) (ls : Array Slot), va_P D vwCl (WC a wb sw se LW LS LK cI cJ cB cL cS cW c_bytes c_heads c_firsts c_levelOf c_aboveOf c_partings c_signs c_count c_pages c_levels c_most c_page c_known c_guess c_diff c_pieces c_place c_bits c_words c_entries c_bads c_noes c_fulls c_length c_next c_kept c_base c_from c_to c_above c_bit c_lastLeft) H → va_S A s.heap H locs → lv_has ls 3 [(0, .ref (a 0))] → C7_looks_J20 a LW c_bytes c_heads c_firsts c_partings c_pages c_words c_entries c_length v1 v2 c_signs c_page c_known c_guess c_diff c_pieces c_place c_bits c_bads c_noes c_fulls c_base c_from c_to c_above c_bit c_lastLeft = some (r, o_signs, o_page, o_known, o_guess, o_diff, o_pieces, o_place, o_bits, o_bads, o_noes, o_fulls, o_base, o_from, o_to, o_above, o_bit, o_lastLeft) → W p l e { frames := 4, cells := 0, slots := 0, locals := 94 } s m args below meth c H locs 0 0 Q (F0 m 20 ls []) := by
  obtain ⟨hx, hb, hml, hr, hown, hts, hlocks, hK, hA, hN⟩ := id C
  intro c_signs c_page c_known c_guess c_diff c_pieces c_place c_bits c_bads c_noes c_fulls c_base c_from c_to c_above c_bit c_lastLeft H locs ls hP hS hl hm
  rw [C7_looks_J20] at hm
  refine lv_aload_n hx hb dX7_looks_20 rfl (lv_at hl 0 rfl) ?_
  refine lv_bipush (v := (-2)) hx hb dX7_looks_21 (by decide) ?_
  obtain ⟨r23, c_bads_23, c_noes_23, c_fulls_23, hq0, hm⟩ := bd4_some hm
  refine k_callVI (As := [.int (-2)]) (rest := []) ⟨hx, hb, hml, hown, hts⟩ hK hA hN (c_X7_refuse hG hq0) (cwV 1 hts gX7_looks_X7_refuse rfl rfl rfl hdX7_refuse ⟨Nat.le_of_ble_eq_true rfl, Nat.le_of_ble_eq_true rfl⟩) hP (WCD hD) hS 0 7 rfl rfl rfl hl.1 rfl rfl (Nat.le_of_ble_eq_true rfl) ⟨Nat.zero_le _, Nat.zero_le _⟩ dX7_looks_23 (fun H locs hP hS => ?_)
  simp only [Option.some.injEq, Prod.mk.injEq] at hm
  obtain ⟨rfl, rfl, rfl, rfl, rfl, rfl, rfl, rfl, rfl, rfl, rfl, rfl, rfl, rfl, rfl, rfl, rfl, rfl⟩ := hm
  exact hret _ _ _ _ dX7_looks_26 hP hS
set_option maxRecDepth 100000 in
set_option maxHeartbeats 4000000 in
theorem c_X7_looks {l : Launch} {D : va_G} {cI cJ cB cL cS cW : ClassId} {a wb sw se : Nat → Nat} {LW LS LK : List Nat} {c_bytes c_heads c_firsts c_levelOf c_aboveOf c_partings c_signs c_count c_pages c_levels c_most c_page c_known c_guess c_diff c_pieces c_place : Nat → Int32} {c_bits : Nat → Nat → Int64} {c_words : Nat → Nat → Nat} {c_entries : Nat → Nat → Int32} {c_bads c_noes c_fulls c_length c_next c_kept c_base c_from c_to c_above c_bit c_lastLeft : Int32} {v1 : Int32} {v2 : Int32} {r : Int32} {o_signs : Nat → Int32} {o_page : Nat → Int32} {o_known : Nat → Int32} {o_guess : Nat → Int32} {o_diff : Nat → Int32} {o_pieces : Nat → Int32} {o_place : Nat → Int32} {o_bits : Nat → Nat → Int64} {o_bads : Int32} {o_noes : Int32} {o_fulls : Int32} {o_base : Int32} {o_from : Int32} {o_to : Int32} {o_above : Int32} {o_bit : Int32} {o_lastLeft : Int32} (hG : kG a LW LS LK) (hm : C7_looks a LW c_bytes c_heads c_firsts c_partings c_pages c_words c_entries c_length c_signs c_page c_known c_guess c_diff c_pieces c_place c_bits c_bads c_noes c_fulls c_base c_from c_to c_above c_bit c_lastLeft v1 v2 = some (r, o_signs, o_page, o_known, o_guess, o_diff, o_pieces, o_place, o_bits, o_bads, o_noes, o_fulls, o_base, o_from, o_to, o_above, o_bit, o_lastLeft)) : k_MI l yX7_looks wsX7_looks { frames := 4, cells := 0, slots := 0, locals := 94 } D (kT cI cJ cB cL cS cW) [.ref (a 0), .int v1, .int v2] (WC a wb sw se LW LS LK cI cJ cB cL cS cW c_bytes c_heads c_firsts c_levelOf c_aboveOf c_partings c_signs c_count c_pages c_levels c_most c_page c_known c_guess c_diff c_pieces c_place c_bits c_words c_entries c_bads c_noes c_fulls c_length c_next c_kept c_base c_from c_to c_above c_bit c_lastLeft) r (WC a wb sw se LW LS LK cI cJ cB cL cS cW c_bytes c_heads c_firsts c_levelOf c_aboveOf c_partings o_signs c_count c_pages c_levels c_most o_page o_known o_guess o_diff o_pieces o_place o_bits c_words c_entries o_bads o_noes o_fulls c_length c_next c_kept o_base o_from o_to o_above o_bit o_lastLeft) := by
  refine k_ofI (cc := cX7_looks) (maxL := 3) (own := RX7) (by decide) rfl rfl (Nat.le_of_ble_eq_true rfl) ?_
  intro p e s m args below meth c A Q ls C hP hD hl hret
  have hD : va_D A (WC0 a wb sw se LW LS LK cI cJ cB cL cS cW) := WCD hD
  have hS : va_S A s.heap s.heap [] := va_S.rf
  have hl : lv_has ls 3 [(0, .ref (a 0)), (1, .int v1), (2, .int v2)] := hl
  obtain ⟨hx, hb, hml, hr, hown, hts, hlocks, hK, hA, hN⟩ := id C
  rw [C7_looks] at hm
  refine lv_iload_n hx hb dX7_looks_0 rfl (lv_at hl 2 rfl) ?_
  refine lv_if_lt (tgt := 20) hx hb dX7_looks_1 (by decide) (fun hc => ?_) (fun hc => ?_)
  · have hm := if_t hc hm
    exact t_C7_looks_J20 C hD hG hret _ _ _ _ _ _ _ _ _ _ _ _ _ _ _ _ _ _ _ _ hP hS (lv_sub hl [0] rfl) hm
  · have hm := if_f hc hm
    refine lv_iload_n hx hb dX7_looks_4 rfl (lv_at hl 2 rfl) ?_
    refine lv_iconst (v := 3) hx hb dX7_looks_5 (by decide) ?_
    refine lv_icmp_gt (tgt := 20) hx hb dX7_looks_6 (by decide) (fun hc => ?_) (fun hc => ?_)
    · have hm := if_t hc hm
      exact t_C7_looks_J20 C hD hG hret _ _ _ _ _ _ _ _ _ _ _ _ _ _ _ _ _ _ _ _ hP hS (lv_sub hl [0] rfl) hm
    · have hm := if_f hc hm
      refine lv_aload_n hx hb dX7_looks_9 rfl (lv_at hl 0 rfl) ?_
      refine kg (v := .ref (a 3)) hx hb hts hiX7_looks_X7 hown hK hP 0 rfl rfl 2 (by decide) flX7_looks_26 rfl rfl dX7_looks_10 ?_
      refine lv_iload_n hx hb dX7_looks_13 rfl (lv_at hl 1 rfl) ?_
      obtain ⟨r14, hq0, hm⟩ := bd1_some hm
      refine k_callVI (As := [.int v1]) (rest := []) ⟨hx, hb, hml, hown, hts⟩ hK hA hN (c_X0_hasPage hG hq0) (cwV 1 hts gX7_looks_X0_hasPage rfl rfl rfl hdX0_hasPage ⟨Nat.le_of_ble_eq_true rfl, Nat.le_of_ble_eq_true rfl⟩) hP (WCD hD) hS 3 0 rfl rfl rfl hl.1 rfl rfl (Nat.le_of_ble_eq_true rfl) ⟨Nat.zero_le _, Nat.zero_le _⟩ dX7_looks_14 (fun H locs hP hS => ?_)
      refine lv_if_ne (tgt := 27) hx hb dX7_looks_17 (by decide) (fun hc => ?_) (fun hc => ?_)
      · have hm := if_f hc hm
        refine lv_aload_n hx hb dX7_looks_27 rfl (lv_at hl 0 rfl) ?_
        refine kg (v := .ref (a 1)) hx hb hts hiX7_looks_X7 hown hK hP 0 rfl rfl 0 (by decide) flX7_looks_10 rfl rfl dX7_looks_28 ?_
        refine lv_aload_n hx hb dX7_looks_31 rfl (lv_at hl 0 rfl) ?_
        refine kg (v := .ref (a 13)) hx hb hts hiX7_looks_X7 hown hK hP 0 rfl rfl 1 (by decide) flX7_looks_19 rfl rfl dX7_looks_32 ?_
        obtain ⟨r35, c_signs_35, c_bits_35, hq0, hm⟩ := bd3_some hm
        refine k_callVI (As := [.ref (a 13)]) (rest := []) ⟨hx, hb, hml, hown, hts⟩ hK hA hN (c_X4_readWord hG hG.2.2.2.1 hq0) (cwV 1 hts gX7_looks_X4_readWord rfl rfl rfl hdX4_readWord ⟨Nat.le_of_ble_eq_true rfl, Nat.le_of_ble_eq_true rfl⟩) hP (WCD hD) hS 1 4 rfl rfl rfl hl.1 rfl rfl (Nat.le_of_ble_eq_true rfl) ⟨Nat.zero_le _, Nat.zero_le _⟩ dX7_looks_35 (fun H locs hP hS => ?_)
        refine lv_if_ne (tgt := 48) hx hb dX7_looks_38 (by decide) (fun hc => ?_) (fun hc => ?_)
        · have hm := if_f hc hm
          refine lv_aload_n hx hb dX7_looks_48 rfl (lv_at hl 0 rfl) ?_
          refine kg (v := .ref (a 3)) hx hb hts hiX7_looks_X7 hown hK hP 0 rfl rfl 2 (by decide) flX7_looks_26 rfl rfl dX7_looks_49 ?_
          refine lv_aload_n hx hb dX7_looks_52 rfl (lv_at hl 0 rfl) ?_
          refine kg (v := .ref (a 13)) hx hb hts hiX7_looks_X7 hown hK hP 0 rfl rfl 1 (by decide) flX7_looks_19 rfl rfl dX7_looks_53 ?_
          refine lv_iload_n hx hb dX7_looks_56 rfl (lv_at hl 1 rfl) ?_
          refine lv_iconst (v := 0) hx hb dX7_looks_57 (by decide) ?_
          refine lv_aload_n hx hb dX7_looks_58 rfl (lv_at hl 0 rfl) ?_
          refine kg (v := .ref (a 15)) hx hb hts hiX7_looks_X7 hown hK hP 0 rfl rfl 4 (by decide) flX7_looks_40 rfl rfl dX7_looks_59 ?_
          obtain ⟨c_page_62, c_known_62, c_guess_62, c_diff_62, c_pieces_62, c_place_62, c_base_62, c_from_62, c_to_62, c_above_62, c_bit_62, c_lastLeft_62, hq0, hm⟩ := bd12_some hm
          refine k_callVV (As := [.ref (a 13), .int v1, .int 0, .ref (a 15)]) (rest := []) ⟨hx, hb, hml, hown, hts⟩ hK hA hN (c_X0_lookAt hG hG.2.2.2.1 hG.2.2.2.2.2 hq0) (cwV 4 hts gX7_looks_X0_lookAt rfl rfl rfl hdX0_lookAt ⟨Nat.le_of_ble_eq_true rfl, Nat.le_of_ble_eq_true rfl⟩) hP (WCD hD) hS 3 0 rfl rfl rfl hl.1 rfl rfl (Nat.le_of_ble_eq_true rfl) ⟨Nat.zero_le _, Nat.zero_le _⟩ dX7_looks_62 (fun H locs hP hS => ?_)
          refine lv_iload_n hx hb dX7_looks_65 rfl (lv_at hl 2 rfl) ?_
          by_cases hc0 : v2 = 0
          · have hm := if_t hc0 hm
            refine lv_tableIn (tgt := 92) (off := 26) hx hb dX7_looks_66 (by rw [hc0]; decide) (by rw [hc0]; decide) (by rw [hc0]; rfl) (by decide) ?_
            refine lv_aload_n hx hb dX7_looks_92 rfl (lv_at hl 0 rfl) ?_
            refine kg (v := .ref (a 15)) hx hb hts hiX7_looks_X7 hown hK hP 0 rfl rfl 4 (by decide) flX7_looks_40 rfl rfl dX7_looks_93 ?_
            obtain ⟨q, hq, -⟩ := WC_K hG hG.2.2.2.2.2
            refine kg (v := .int (c_guess_62 (a 15))) hx hb hts hiX7_looks_X1 hown hK hP q hq rfl 2 (by decide) flX7_looks_140 rfl rfl dX7_looks_96 ?_
            simp only [Option.some.injEq, Prod.mk.injEq] at hm
            obtain ⟨rfl, rfl, rfl, rfl, rfl, rfl, rfl, rfl, rfl, rfl, rfl, rfl, rfl, rfl, rfl, rfl, rfl, rfl⟩ := hm
            exact hret _ _ _ _ dX7_looks_99 hP hS
          have hm := if_f hc0 hm
          by_cases hc1 : v2 = 1
          · have hm := if_t hc1 hm
            refine lv_tableIn (tgt := 100) (off := 34) hx hb dX7_looks_66 (by rw [hc1]; decide) (by rw [hc1]; decide) (by rw [hc1]; rfl) (by decide) ?_
            refine lv_aload_n hx hb dX7_looks_100 rfl (lv_at hl 0 rfl) ?_
            refine kg (v := .ref (a 15)) hx hb hts hiX7_looks_X7 hown hK hP 0 rfl rfl 4 (by decide) flX7_looks_40 rfl rfl dX7_looks_101 ?_
            obtain ⟨q, hq, -⟩ := WC_K hG hG.2.2.2.2.2
            refine kg (v := .int (c_diff_62 (a 15))) hx hb hts hiX7_looks_X1 hown hK hP q hq rfl 3 (by decide) flX7_looks_143 rfl rfl dX7_looks_104 ?_
            simp only [Option.some.injEq, Prod.mk.injEq] at hm
            obtain ⟨rfl, rfl, rfl, rfl, rfl, rfl, rfl, rfl, rfl, rfl, rfl, rfl, rfl, rfl, rfl, rfl, rfl, rfl⟩ := hm
            exact hret _ _ _ _ dX7_looks_107 hP hS
          have hm := if_f hc1 hm
          by_cases hc2 : v2 = 2
          · have hm := if_t hc2 hm
            refine lv_tableIn (tgt := 108) (off := 42) hx hb dX7_looks_66 (by rw [hc2]; decide) (by rw [hc2]; decide) (by rw [hc2]; rfl) (by decide) ?_
            refine lv_aload_n hx hb dX7_looks_108 rfl (lv_at hl 0 rfl) ?_
            refine kg (v := .ref (a 15)) hx hb hts hiX7_looks_X7 hown hK hP 0 rfl rfl 4 (by decide) flX7_looks_40 rfl rfl dX7_looks_109 ?_
            obtain ⟨q, hq, -⟩ := WC_K hG hG.2.2.2.2.2
            refine kg (v := .int (c_pieces_62 (a 15))) hx hb hts hiX7_looks_X1 hown hK hP q hq rfl 4 (by decide) flX7_looks_146 rfl rfl dX7_looks_112 ?_
            simp only [Option.some.injEq, Prod.mk.injEq] at hm
            obtain ⟨rfl, rfl, rfl, rfl, rfl, rfl, rfl, rfl, rfl, rfl, rfl, rfl, rfl, rfl, rfl, rfl, rfl, rfl⟩ := hm
            exact hret _ _ _ _ dX7_looks_115 hP hS
          have hm := if_f hc2 hm
          refine lv_tableOut (tgt := 116) hx hb dX7_looks_66 (sw_out0_2 hc0 hc1 hc2) (by decide) ?_
          refine lv_aload_n hx hb dX7_looks_116 rfl (lv_at hl 0 rfl) ?_
          refine kg (v := .ref (a 15)) hx hb hts hiX7_looks_X7 hown hK hP 0 rfl rfl 4 (by decide) flX7_looks_40 rfl rfl dX7_looks_117 ?_
          obtain ⟨q, hq, -⟩ := WC_K hG hG.2.2.2.2.2
          refine kg (v := .int (c_place_62 (a 15))) hx hb hts hiX7_looks_X1 hown hK hP q hq rfl 5 (by decide) flX7_looks_149 rfl rfl dX7_looks_120 ?_
          simp only [Option.some.injEq, Prod.mk.injEq] at hm
          obtain ⟨rfl, rfl, rfl, rfl, rfl, rfl, rfl, rfl, rfl, rfl, rfl, rfl, rfl, rfl, rfl, rfl, rfl, rfl⟩ := hm
          exact hret _ _ _ _ dX7_looks_123 hP hS
        · have hm := if_t hc hm
          refine lv_aload_n hx hb dX7_looks_41 rfl (lv_at hl 0 rfl) ?_
          refine lv_bipush (v := (-3)) hx hb dX7_looks_42 (by decide) ?_
          obtain ⟨r44, c_bads_44, c_noes_44, c_fulls_44, hq0, hm⟩ := bd4_some hm
          refine k_callVI (As := [.int (-3)]) (rest := []) ⟨hx, hb, hml, hown, hts⟩ hK hA hN (c_X7_refuse hG hq0) (cwV 1 hts gX7_looks_X7_refuse rfl rfl rfl hdX7_refuse ⟨Nat.le_of_ble_eq_true rfl, Nat.le_of_ble_eq_true rfl⟩) hP (WCD hD) hS 0 7 rfl rfl rfl hl.1 rfl rfl (Nat.le_of_ble_eq_true rfl) ⟨Nat.zero_le _, Nat.zero_le _⟩ dX7_looks_44 (fun H locs hP hS => ?_)
          simp only [Option.some.injEq, Prod.mk.injEq] at hm
          obtain ⟨rfl, rfl, rfl, rfl, rfl, rfl, rfl, rfl, rfl, rfl, rfl, rfl, rfl, rfl, rfl, rfl, rfl, rfl⟩ := hm
          exact hret _ _ _ _ dX7_looks_47 hP hS
      · have hm := if_t hc hm
        exact t_C7_looks_J20 C hD hG hret _ _ _ _ _ _ _ _ _ _ _ _ _ _ _ _ _ _ _ _ hP hS (lv_sub hl [0] rfl) hm
theorem hdX3_beginning : yX3_beginning.cls = RX3 ∧ yX3_beginning.cls ≠ "java/lang/invoke/MethodHandle" ∧ yX3_beginning.cls ≠ "java/lang/invoke/VarHandle" ∧ (parseMethodDescriptor yX3_beginning.desc).map (fun d => d.parameters.length) = some 1 := by decide +kernel
theorem hiX3_beginning_X3 : ∀ w ∈ u_ws RX3 TX3 6, w ∈ wsX3_beginning := by decide +kernel
theorem hiX3_beginning_X6 : ∀ w ∈ u_ws RX6 TX6 2, w ∈ wsX3_beginning := by decide +kernel
theorem flX3_beginning_26 : Cond.fieldLink RX3 26 "BlindPages$State" "count" "I" ∈ wsX3_beginning := by decide +kernel
theorem flX3_beginning_58 : Cond.fieldLink RX3 58 "BlindPages$Word" "signs" "I" ∈ wsX3_beginning := by decide +kernel
def C3_beginning_L4 (LW : List Nat) (c_signs c_count : Nat → Int32) (c_bits : Nat → Nat → Int64) (c_words : Nat → Nat → Nat) (v0 : Nat) (v1 : Nat) (k50 : Int32 → Option (Int32)) : Nat → Int32 → Int32 → Option (Int32)
  | 0, _, _ => none
  | n + 1, v2, v3 => if (c_count v0) ≤ v3 then (k50 v2) else (bd1 (C3_wordAt LW c_words v0 v3) fun r15 => gm LW r15 (bd1 (C6_partingFrom c_bits v1 r15) fun r18 => if r18 = (-1) then (C3_beginning_L4 LW c_signs c_count c_bits c_words v0 v1 k50 n (v2 + 1) (v3 + 1)) else (if r18 < (8 * (c_signs v1)) then (C3_beginning_L4 LW c_signs c_count c_bits c_words v0 v1 k50 n v2 (v3 + 1)) else (C3_beginning_L4 LW c_signs c_count c_bits c_words v0 v1 k50 n (v2 + 1) (v3 + 1)))))
def C3_beginning (LW : List Nat) (c_signs c_count : Nat → Int32) (c_bits : Nat → Nat → Int64) (c_words : Nat → Nat → Nat) (v0 : Nat) (v1 : Nat) : Option (Int32) := C3_beginning_L4 LW c_signs c_count c_bits c_words v0 v1 (fun v2 => some v2) FU 0 0
set_option maxRecDepth 100000 in
set_option maxHeartbeats 4000000 in
theorem t_C3_beginning_L4 {p : Program} {l : Launch} {e : Env} {s : State} {m : MethodId} {args : Array Value} {below : List Frame} {meth : Method} {c : Code} {Q : State → Prop} {A : Nat → Prop} {D : va_G} {cI cJ cB cL cS cW : ClassId} {a wb sw se : Nat → Nat} {LW LS LK : List Nat} {c_bytes c_heads c_firsts c_levelOf c_aboveOf c_partings c_signs c_count c_pages c_levels c_most c_page c_known c_guess c_diff c_pieces c_place : Nat → Int32} {c_bits : Nat → Nat → Int64} {c_words : Nat → Nat → Nat} {c_entries : Nat → Nat → Int32} {c_bads c_noes c_fulls c_length c_next c_kept c_base c_from c_to c_above c_bit c_lastLeft : Int32} {v0 : Nat} {v1 : Nat} {r : Int32} (C : k_C p s m args meth c cX3_beginning 5 (some .int) RX3 wsX3_beginning D (kT cI cJ cB cL cS cW) A) (hD : va_D A (WC0 a wb sw se LW LS LK cI cJ cB cL cS cW)) (hG : kG a LW LS LK) (hv0 : v0 ∈ LS) (hv1 : v1 ∈ LW) (hret : ∀ (H : Heap) (locs : List Loc) (pc : Nat) (ls : Array Slot), decode cX3_beginning pc = .ok (.ireturn, 1) → va_P D vwCl (WC a wb sw se LW LS LK cI cJ cB cL cS cW c_bytes c_heads c_firsts c_levelOf c_aboveOf c_partings c_signs c_count c_pages c_levels c_most c_page c_known c_guess c_diff c_pieces c_place c_bits c_words c_entries c_bads c_noes c_fulls c_length c_next c_kept c_base c_from c_to c_above c_bit c_lastLeft) H → va_S A s.heap H locs → W p l e { frames := 3, cells := 0, slots := 0, locals := 67 } s m args below meth c H locs 0 0 Q (F0 m pc ls [.int r])) {k50 : Int32 → Option (Int32)} (hk50 : ∀ (v2 : Int32) (H : Heap) (locs : List Loc) (ls : Array Slot), va_P D vwCl (WC a wb sw se LW LS LK cI cJ cB cL cS cW c_bytes c_heads c_firsts c_levelOf c_aboveOf c_partings c_signs c_count c_pages c_levels c_most c_page c_known c_guess c_diff c_pieces c_place c_bits c_words c_entries c_bads c_noes c_fulls c_length c_next c_kept c_base c_from c_to c_above c_bit c_lastLeft) H → va_S A s.heap H locs → lv_has ls 5 [(2, .int v2)] → k50 v2 = some r → W p l e { frames := 3, cells := 0, slots := 0, locals := 67 } s m args below meth c H locs 0 0 Q (F0 m 50 ls [])) : ∀ n : Nat, ∀ (v2 : Int32) (v3 : Int32) (H : Heap) (locs : List Loc) (ls : Array Slot), va_P D vwCl (WC a wb sw se LW LS LK cI cJ cB cL cS cW c_bytes c_heads c_firsts c_levelOf c_aboveOf c_partings c_signs c_count c_pages c_levels c_most c_page c_known c_guess c_diff c_pieces c_place c_bits c_words c_entries c_bads c_noes c_fulls c_length c_next c_kept c_base c_from c_to c_above c_bit c_lastLeft) H → va_S A s.heap H locs → lv_has ls 5 [(0, .ref v0), (1, .ref v1), (2, .int v2), (3, .int v3)] → (C3_beginning_L4 LW c_signs c_count c_bits c_words v0 v1 k50 n) v2 v3 = some r → W p l e { frames := 3, cells := 0, slots := 0, locals := 67 } s m args below meth c H locs 0 0 Q (F0 m 4 ls []) := by
  obtain ⟨hx, hb, hml, hr, hown, hts, hlocks, hK, hA, hN⟩ := id C
  intro n
  induction n with
  | zero =>
    intro v2 v3 H locs ls hP hS hl hm
    cases hm
  | succ n ih =>
    intro v2 v3 H locs ls hP hS hl hm
    rw [C3_beginning_L4] at hm
    refine lv_iload_n hx hb dX3_beginning_4 rfl (lv_at hl 3 rfl) ?_
    refine lv_aload_n hx hb dX3_beginning_5 rfl (lv_at hl 0 rfl) ?_
    obtain ⟨q, hq, -⟩ := WC_S hG hv0
    refine kg (v := .int (c_count v0)) hx hb hts hiX3_beginning_X3 hown hK hP q hq rfl 2 (by decide) flX3_beginning_26 rfl rfl dX3_beginning_6 ?_
    refine lv_icmp_ge (tgt := 50) hx hb dX3_beginning_9 (by decide) (fun hc => ?_) (fun hc => ?_)
    · have hm := if_t hc hm
      exact hk50 _ _ _ _ hP hS (lv_sub hl [2] rfl) hm
    · have hm := if_f hc hm
      refine lv_aload_n hx hb dX3_beginning_12 rfl (lv_at hl 1 rfl) ?_
      refine lv_aload_n hx hb dX3_beginning_13 rfl (lv_at hl 0 rfl) ?_
      refine lv_iload_n hx hb dX3_beginning_14 rfl (lv_at hl 3 rfl) ?_
      obtain ⟨r15, hq0, hm⟩ := bd1_some hm
      obtain ⟨hw15, hm⟩ := gm_some hm
      obtain ⟨q, hq, -⟩ := WC_S hG hv0
      refine k_callVA (As := [.int v3]) (rest := [.ref v1]) ⟨hx, hb, hml, hown, hts⟩ hK hA hN (c_X3_wordAt hG hv0 hq0) (cwV 1 hts gX3_beginning_X3_wordAt rfl rfl rfl hdX3_wordAt ⟨Nat.le_of_ble_eq_true rfl, Nat.le_of_ble_eq_true rfl⟩) hP (WCD hD) hS q 3 hq rfl rfl hl.1 rfl rfl (Nat.le_of_ble_eq_true rfl) ⟨Nat.zero_le _, Nat.zero_le _⟩ dX3_beginning_15 (fun H locs hP hS => ?_)
      obtain ⟨r18, hq0, hm⟩ := bd1_some hm
      obtain ⟨q, hq, -⟩ := WC_W hG hv1
      refine k_callVI (As := [.ref r15]) (rest := []) ⟨hx, hb, hml, hown, hts⟩ hK hA hN (c_X6_partingFrom hG hv1 hw15 hq0) (cwV 1 hts gX3_beginning_X6_partingFrom rfl rfl rfl hdX6_partingFrom ⟨Nat.le_of_ble_eq_true rfl, Nat.le_of_ble_eq_true rfl⟩) hP (WCD hD) hS q 6 hq rfl rfl hl.1 rfl rfl (Nat.le_of_ble_eq_true rfl) ⟨Nat.zero_le _, Nat.zero_le _⟩ dX3_beginning_18 (fun H locs hP hS => ?_)
      refine lv_istore (lv' := [(4, .int r18), (0, .ref v0), (1, .ref v1), (2, .int v2), (3, .int v3)]) hx hb dX3_beginning_21 hl (by decide) rfl (fun ls hl => ?_)
      refine lv_iload hx hb dX3_beginning_23 (lv_at hl 0 rfl) ?_
      refine lv_iconst (v := (-1)) hx hb dX3_beginning_25 (by decide) ?_
      refine lv_icmp_eq (tgt := 41) hx hb dX3_beginning_26 (by decide) (fun hc => ?_) (fun hc => ?_)
      · have hm := if_t hc hm
        refine lv_iinc (v := (v2 + 1)) (lv' := [(2, .int (v2 + 1)), (4, .int r18), (0, .ref v0), (1, .ref v1), (3, .int v3)]) hx hb dX3_beginning_41 hl (k := 3) rfl rfl (by decide) rfl (fun ls hl => ?_)
        refine lv_iinc (v := (v3 + 1)) (lv' := [(3, .int (v3 + 1)), (2, .int (v2 + 1)), (4, .int r18), (0, .ref v0), (1, .ref v1)]) hx hb dX3_beginning_44 hl (k := 4) rfl rfl (by decide) rfl (fun ls hl => ?_)
        refine lv_goto (tgt := 4) hx hb dX3_beginning_47 (by decide) ?_
        exact ih _ _ _ _ _ hP hS (lv_sub hl [3, 4, 1, 0] rfl) hm
      · have hm := if_f hc hm
        refine lv_iload hx hb dX3_beginning_29 (lv_at hl 0 rfl) ?_
        refine lv_bipush (v := 8) hx hb dX3_beginning_31 (by decide) ?_
        refine lv_aload_n hx hb dX3_beginning_33 rfl (lv_at hl 2 rfl) ?_
        obtain ⟨q, hq, -⟩ := WC_W hG hv1
        refine kg (v := .int (c_signs v1)) hx hb hts hiX3_beginning_X6 hown hK hP q hq rfl 1 (by decide) flX3_beginning_58 rfl rfl dX3_beginning_34 ?_
        refine lv_imul hx hb dX3_beginning_37 ?_
        refine lv_icmp_lt (tgt := 44) hx hb dX3_beginning_38 (by decide) (fun hc => ?_) (fun hc => ?_)
        · have hm := if_t hc hm
          refine lv_iinc (v := (v3 + 1)) (lv' := [(3, .int (v3 + 1)), (4, .int r18), (0, .ref v0), (1, .ref v1), (2, .int v2)]) hx hb dX3_beginning_44 hl (k := 4) rfl rfl (by decide) rfl (fun ls hl => ?_)
          refine lv_goto (tgt := 4) hx hb dX3_beginning_47 (by decide) ?_
          exact ih _ _ _ _ _ hP hS (lv_sub hl [2, 3, 4, 0] rfl) hm
        · have hm := if_f hc hm
          refine lv_iinc (v := (v2 + 1)) (lv' := [(2, .int (v2 + 1)), (4, .int r18), (0, .ref v0), (1, .ref v1), (3, .int v3)]) hx hb dX3_beginning_41 hl (k := 3) rfl rfl (by decide) rfl (fun ls hl => ?_)
          refine lv_iinc (v := (v3 + 1)) (lv' := [(3, .int (v3 + 1)), (2, .int (v2 + 1)), (4, .int r18), (0, .ref v0), (1, .ref v1)]) hx hb dX3_beginning_44 hl (k := 4) rfl rfl (by decide) rfl (fun ls hl => ?_)
          refine lv_goto (tgt := 4) hx hb dX3_beginning_47 (by decide) ?_
          exact ih _ _ _ _ _ hP hS (lv_sub hl [3, 4, 1, 0] rfl) hm
set_option maxRecDepth 100000 in
set_option maxHeartbeats 4000000 in
theorem c_X3_beginning {l : Launch} {D : va_G} {cI cJ cB cL cS cW : ClassId} {a wb sw se : Nat → Nat} {LW LS LK : List Nat} {c_bytes c_heads c_firsts c_levelOf c_aboveOf c_partings c_signs c_count c_pages c_levels c_most c_page c_known c_guess c_diff c_pieces c_place : Nat → Int32} {c_bits : Nat → Nat → Int64} {c_words : Nat → Nat → Nat} {c_entries : Nat → Nat → Int32} {c_bads c_noes c_fulls c_length c_next c_kept c_base c_from c_to c_above c_bit c_lastLeft : Int32} {v0 : Nat} {v1 : Nat} {r : Int32} (hG : kG a LW LS LK) (hv0 : v0 ∈ LS) (hv1 : v1 ∈ LW) (hm : C3_beginning LW c_signs c_count c_bits c_words v0 v1 = some r) : k_MI l yX3_beginning wsX3_beginning { frames := 3, cells := 0, slots := 0, locals := 67 } D (kT cI cJ cB cL cS cW) [.ref v0, .ref v1] (WC a wb sw se LW LS LK cI cJ cB cL cS cW c_bytes c_heads c_firsts c_levelOf c_aboveOf c_partings c_signs c_count c_pages c_levels c_most c_page c_known c_guess c_diff c_pieces c_place c_bits c_words c_entries c_bads c_noes c_fulls c_length c_next c_kept c_base c_from c_to c_above c_bit c_lastLeft) r (WC a wb sw se LW LS LK cI cJ cB cL cS cW c_bytes c_heads c_firsts c_levelOf c_aboveOf c_partings c_signs c_count c_pages c_levels c_most c_page c_known c_guess c_diff c_pieces c_place c_bits c_words c_entries c_bads c_noes c_fulls c_length c_next c_kept c_base c_from c_to c_above c_bit c_lastLeft) := by
  refine k_ofI (cc := cX3_beginning) (maxL := 5) (own := RX3) (by decide) rfl rfl (Nat.le_of_ble_eq_true rfl) ?_
  intro p e s m args below meth c A Q ls C hP hD hl hret
  have hD : va_D A (WC0 a wb sw se LW LS LK cI cJ cB cL cS cW) := WCD hD
  have hS : va_S A s.heap s.heap [] := va_S.rf
  have hl : lv_has ls 5 [(0, .ref v0), (1, .ref v1)] := hl
  obtain ⟨hx, hb, hml, hr, hown, hts, hlocks, hK, hA, hN⟩ := id C
  rw [C3_beginning] at hm
  refine lv_iconst (v := 0) hx hb dX3_beginning_0 (by decide) ?_
  refine lv_istore_n (lv' := [(2, .int 0), (0, .ref v0), (1, .ref v1)]) hx hb dX3_beginning_1 rfl hl (by decide) rfl (fun ls hl => ?_)
  refine lv_iconst (v := 0) hx hb dX3_beginning_2 (by decide) ?_
  refine lv_istore_n (lv' := [(3, .int 0), (2, .int 0), (0, .ref v0), (1, .ref v1)]) hx hb dX3_beginning_3 rfl hl (by decide) rfl (fun ls hl => ?_)
  refine t_C3_beginning_L4 C hD hG hv0 hv1 hret ?_ FU _ _ _ _ _ hP hS (lv_sub hl [2, 3, 1, 0] rfl) hm
  · intro v2 H locs ls hP hS hl hm
    try dsimp only at hm
    refine lv_iload_n hx hb dX3_beginning_50 rfl (lv_at hl 0 rfl) ?_
    obtain rfl := Option.some.inj hm
    exact hret _ _ _ _ dX3_beginning_51 hP hS
theorem hdX7_aheadOfWord : yX7_aheadOfWord.cls = RX7 ∧ yX7_aheadOfWord.cls ≠ "java/lang/invoke/MethodHandle" ∧ yX7_aheadOfWord.cls ≠ "java/lang/invoke/VarHandle" ∧ (parseMethodDescriptor yX7_aheadOfWord.desc).map (fun d => d.parameters.length) = some 0 := by decide +kernel
theorem hiX7_aheadOfWord_X7 : ∀ w ∈ u_ws RX7 TX7 8, w ∈ wsX7_aheadOfWord := by decide +kernel
theorem flX7_aheadOfWord_26 : Cond.fieldLink RX7 26 "BlindPages" "index" "LBlindPages$Index;" ∈ wsX7_aheadOfWord := by decide +kernel
theorem flX7_aheadOfWord_19 : Cond.fieldLink RX7 19 "BlindPages" "word" "LBlindPages$Word;" ∈ wsX7_aheadOfWord := by decide +kernel
def C7_aheadOfWord (a : Nat → Nat) (LW LK : List Nat) (c_heads c_firsts c_partings c_signs c_pages c_levels : Nat → Int32) (c_bits : Nat → Nat → Int64) (c_words : Nat → Nat → Nat) (c_entries : Nat → Nat → Int32) (c_page c_known c_guess c_diff c_pieces c_place : Nat → Int32) (c_base c_from c_to c_above c_bit c_lastLeft : Int32) : Option (Int32 × (Nat → Int32) × (Nat → Int32) × (Nat → Int32) × (Nat → Int32) × (Nat → Int32) × (Nat → Int32) × Int32 × Int32 × Int32 × Int32 × Int32 × Int32) := bd12 (C0_walk a LW LK c_heads c_firsts c_partings c_signs c_pages c_levels c_bits c_words c_entries c_page c_known c_guess c_diff c_pieces c_place c_base c_from c_to c_above c_bit c_lastLeft (a 13)) fun c_page_8 c_known_8 c_guess_8 c_diff_8 c_pieces_8 c_place_8 c_base_8 c_from_8 c_to_8 c_above_8 c_bit_8 c_lastLeft_8 => bd1 (C0_isThere a LK c_pages c_diff_8) fun r15 => if r15 = 0 then (bd1 (C0_rank a LK c_heads c_pages c_page_8 c_place_8) fun r37 => some (r37, c_page_8, c_known_8, c_guess_8, c_diff_8, c_pieces_8, c_place_8, c_base_8, c_from_8, c_to_8, c_above_8, c_bit_8, c_lastLeft_8)) else (bd1 (C0_rank a LK c_heads c_pages c_page_8 c_place_8) fun r25 => some ((r25 - 1), c_page_8, c_known_8, c_guess_8, c_diff_8, c_pieces_8, c_place_8, c_base_8, c_from_8, c_to_8, c_above_8, c_bit_8, c_lastLeft_8))
set_option maxRecDepth 100000 in
set_option maxHeartbeats 4000000 in
theorem c_X7_aheadOfWord {l : Launch} {D : va_G} {cI cJ cB cL cS cW : ClassId} {a wb sw se : Nat → Nat} {LW LS LK : List Nat} {c_bytes c_heads c_firsts c_levelOf c_aboveOf c_partings c_signs c_count c_pages c_levels c_most c_page c_known c_guess c_diff c_pieces c_place : Nat → Int32} {c_bits : Nat → Nat → Int64} {c_words : Nat → Nat → Nat} {c_entries : Nat → Nat → Int32} {c_bads c_noes c_fulls c_length c_next c_kept c_base c_from c_to c_above c_bit c_lastLeft : Int32} {r : Int32} {o_page : Nat → Int32} {o_known : Nat → Int32} {o_guess : Nat → Int32} {o_diff : Nat → Int32} {o_pieces : Nat → Int32} {o_place : Nat → Int32} {o_base : Int32} {o_from : Int32} {o_to : Int32} {o_above : Int32} {o_bit : Int32} {o_lastLeft : Int32} (hG : kG a LW LS LK) (hm : C7_aheadOfWord a LW LK c_heads c_firsts c_partings c_signs c_pages c_levels c_bits c_words c_entries c_page c_known c_guess c_diff c_pieces c_place c_base c_from c_to c_above c_bit c_lastLeft = some (r, o_page, o_known, o_guess, o_diff, o_pieces, o_place, o_base, o_from, o_to, o_above, o_bit, o_lastLeft)) : k_MI l yX7_aheadOfWord wsX7_aheadOfWord { frames := 5, cells := 0, slots := 0, locals := 119 } D (kT cI cJ cB cL cS cW) [.ref (a 0)] (WC a wb sw se LW LS LK cI cJ cB cL cS cW c_bytes c_heads c_firsts c_levelOf c_aboveOf c_partings c_signs c_count c_pages c_levels c_most c_page c_known c_guess c_diff c_pieces c_place c_bits c_words c_entries c_bads c_noes c_fulls c_length c_next c_kept c_base c_from c_to c_above c_bit c_lastLeft) r (WC a wb sw se LW LS LK cI cJ cB cL cS cW c_bytes c_heads c_firsts c_levelOf c_aboveOf c_partings c_signs c_count c_pages c_levels c_most o_page o_known o_guess o_diff o_pieces o_place c_bits c_words c_entries c_bads c_noes c_fulls c_length c_next c_kept o_base o_from o_to o_above o_bit o_lastLeft) := by
  refine k_ofI (cc := cX7_aheadOfWord) (maxL := 1) (own := RX7) (by decide) rfl rfl (Nat.le_of_ble_eq_true rfl) ?_
  intro p e s m args below meth c A Q ls C hP hD hl hret
  have hD : va_D A (WC0 a wb sw se LW LS LK cI cJ cB cL cS cW) := WCD hD
  have hS : va_S A s.heap s.heap [] := va_S.rf
  have hl : lv_has ls 1 [(0, .ref (a 0))] := hl
  obtain ⟨hx, hb, hml, hr, hown, hts, hlocks, hK, hA, hN⟩ := id C
  rw [C7_aheadOfWord] at hm
  refine lv_aload_n hx hb dX7_aheadOfWord_0 rfl (lv_at hl 0 rfl) ?_
  refine kg (v := .ref (a 3)) hx hb hts hiX7_aheadOfWord_X7 hown hK hP 0 rfl rfl 2 (by decide) flX7_aheadOfWord_26 rfl rfl dX7_aheadOfWord_1 ?_
  refine lv_aload_n hx hb dX7_aheadOfWord_4 rfl (lv_at hl 0 rfl) ?_
  refine kg (v := .ref (a 13)) hx hb hts hiX7_aheadOfWord_X7 hown hK hP 0 rfl rfl 1 (by decide) flX7_aheadOfWord_19 rfl rfl dX7_aheadOfWord_5 ?_
  obtain ⟨c_page_8, c_known_8, c_guess_8, c_diff_8, c_pieces_8, c_place_8, c_base_8, c_from_8, c_to_8, c_above_8, c_bit_8, c_lastLeft_8, hq0, hm⟩ := bd12_some hm
  refine k_callVV (As := [.ref (a 13)]) (rest := []) ⟨hx, hb, hml, hown, hts⟩ hK hA hN (c_X0_walk hG hG.2.2.2.1 hq0) (cwV 1 hts gX7_aheadOfWord_X0_walk rfl rfl rfl hdX0_walk ⟨Nat.le_of_ble_eq_true rfl, Nat.le_of_ble_eq_true rfl⟩) hP (WCD hD) hS 3 0 rfl rfl rfl hl.1 rfl rfl (Nat.le_of_ble_eq_true rfl) ⟨Nat.zero_le _, Nat.zero_le _⟩ dX7_aheadOfWord_8 (fun H locs hP hS => ?_)
  refine lv_aload_n hx hb dX7_aheadOfWord_11 rfl (lv_at hl 0 rfl) ?_
  refine kg (v := .ref (a 3)) hx hb hts hiX7_aheadOfWord_X7 hown hK hP 0 rfl rfl 2 (by decide) flX7_aheadOfWord_26 rfl rfl dX7_aheadOfWord_12 ?_
  obtain ⟨r15, hq0, hm⟩ := bd1_some hm
  refine k_callVI (As := []) (rest := []) ⟨hx, hb, hml, hown, hts⟩ hK hA hN (c_X0_isThere hG hq0) (cwV 0 hts gX7_aheadOfWord_X0_isThere rfl rfl rfl hdX0_isThere ⟨Nat.le_of_ble_eq_true rfl, Nat.le_of_ble_eq_true rfl⟩) hP (WCD hD) hS 3 0 rfl rfl rfl hl.1 rfl rfl (Nat.le_of_ble_eq_true rfl) ⟨Nat.zero_le _, Nat.zero_le _⟩ dX7_aheadOfWord_15 (fun H locs hP hS => ?_)
  refine lv_if_eq (tgt := 33) hx hb dX7_aheadOfWord_18 (by decide) (fun hc => ?_) (fun hc => ?_)
  · have hm := if_t hc hm
    refine lv_aload_n hx hb dX7_aheadOfWord_33 rfl (lv_at hl 0 rfl) ?_
    refine kg (v := .ref (a 3)) hx hb hts hiX7_aheadOfWord_X7 hown hK hP 0 rfl rfl 2 (by decide) flX7_aheadOfWord_26 rfl rfl dX7_aheadOfWord_34 ?_
    obtain ⟨r37, hq0, hm⟩ := bd1_some hm
    refine k_callVI (As := []) (rest := []) ⟨hx, hb, hml, hown, hts⟩ hK hA hN (c_X0_rank hG hq0) (cwV 0 hts gX7_aheadOfWord_X0_rank rfl rfl rfl hdX0_rank ⟨Nat.le_of_ble_eq_true rfl, Nat.le_of_ble_eq_true rfl⟩) hP (WCD hD) hS 3 0 rfl rfl rfl hl.1 rfl rfl (Nat.le_of_ble_eq_true rfl) ⟨Nat.zero_le _, Nat.zero_le _⟩ dX7_aheadOfWord_37 (fun H locs hP hS => ?_)
    simp only [Option.some.injEq, Prod.mk.injEq] at hm
    obtain ⟨rfl, rfl, rfl, rfl, rfl, rfl, rfl, rfl, rfl, rfl, rfl, rfl, rfl⟩ := hm
    exact hret _ _ _ _ dX7_aheadOfWord_40 hP hS
  · have hm := if_f hc hm
    refine lv_aload_n hx hb dX7_aheadOfWord_21 rfl (lv_at hl 0 rfl) ?_
    refine kg (v := .ref (a 3)) hx hb hts hiX7_aheadOfWord_X7 hown hK hP 0 rfl rfl 2 (by decide) flX7_aheadOfWord_26 rfl rfl dX7_aheadOfWord_22 ?_
    obtain ⟨r25, hq0, hm⟩ := bd1_some hm
    refine k_callVI (As := []) (rest := []) ⟨hx, hb, hml, hown, hts⟩ hK hA hN (c_X0_rank hG hq0) (cwV 0 hts gX7_aheadOfWord_X0_rank rfl rfl rfl hdX0_rank ⟨Nat.le_of_ble_eq_true rfl, Nat.le_of_ble_eq_true rfl⟩) hP (WCD hD) hS 3 0 rfl rfl rfl hl.1 rfl rfl (Nat.le_of_ble_eq_true rfl) ⟨Nat.zero_le _, Nat.zero_le _⟩ dX7_aheadOfWord_25 (fun H locs hP hS => ?_)
    refine lv_iconst (v := 1) hx hb dX7_aheadOfWord_28 (by decide) ?_
    refine lv_isub hx hb dX7_aheadOfWord_29 ?_
    refine lv_goto (tgt := 40) hx hb dX7_aheadOfWord_30 (by decide) ?_
    simp only [Option.some.injEq, Prod.mk.injEq] at hm
    obtain ⟨rfl, rfl, rfl, rfl, rfl, rfl, rfl, rfl, rfl, rfl, rfl, rfl, rfl⟩ := hm
    exact hret _ _ _ _ dX7_aheadOfWord_40 hP hS
theorem hdX7_begins : yX7_begins.cls = RX7 ∧ yX7_begins.cls ≠ "java/lang/invoke/MethodHandle" ∧ yX7_begins.cls ≠ "java/lang/invoke/VarHandle" ∧ (parseMethodDescriptor yX7_begins.desc).map (fun d => d.parameters.length) = some 1 := by decide +kernel
theorem hiX7_begins_X7 : ∀ w ∈ u_ws RX7 TX7 8, w ∈ wsX7_begins := by decide +kernel
theorem hiX7_begins_X0 : ∀ w ∈ u_ws RX0 TX0 7, w ∈ wsX7_begins := by decide +kernel
theorem flX7_begins_10 : Cond.fieldLink RX7 10 "BlindPages" "text" "LBlindPages$Text;" ∈ wsX7_begins := by decide +kernel
theorem flX7_begins_19 : Cond.fieldLink RX7 19 "BlindPages" "word" "LBlindPages$Word;" ∈ wsX7_begins := by decide +kernel
theorem flX7_begins_26 : Cond.fieldLink RX7 26 "BlindPages" "index" "LBlindPages$Index;" ∈ wsX7_begins := by decide +kernel
theorem flX7_begins_68 : Cond.fieldLink RX7 68 "BlindPages$Index" "now" "LBlindPages$State;" ∈ wsX7_begins := by decide +kernel
def C7_begins_J9 (a : Nat → Nat) (LW LK : List Nat) (c_bytes c_heads c_firsts c_partings c_count c_pages c_levels : Nat → Int32) (c_words : Nat → Nat → Nat) (c_entries : Nat → Nat → Int32) (c_length : Int32) (v1 : Int32) (c_signs : (Nat → Int32)) (c_page : (Nat → Int32)) (c_known : (Nat → Int32)) (c_guess : (Nat → Int32)) (c_diff : (Nat → Int32)) (c_pieces : (Nat → Int32)) (c_place : (Nat → Int32)) (c_bits : (Nat → Nat → Int64)) (c_bads : Int32) (c_noes : Int32) (c_fulls : Int32) (c_base : Int32) (c_from : Int32) (c_to : Int32) (c_above : Int32) (c_bit : Int32) (c_lastLeft : Int32) : Option (Int32 × (Nat → Int32) × (Nat → Int32) × (Nat → Int32) × (Nat → Int32) × (Nat → Int32) × (Nat → Int32) × (Nat → Int32) × (Nat → Nat → Int64) × Int32 × Int32 × Int32 × Int32 × Int32 × Int32 × Int32 × Int32 × Int32) := bd4 (C7_refuse c_bads c_noes c_fulls (-2)) fun r12 c_bads_12 c_noes_12 c_fulls_12 => some (r12, c_signs, c_page, c_known, c_guess, c_diff, c_pieces, c_place, c_bits, c_bads_12, c_noes_12, c_fulls_12, c_base, c_from, c_to, c_above, c_bit, c_lastLeft)
def C7_begins (a : Nat → Nat) (LW LK : List Nat) (c_bytes c_heads c_firsts c_partings c_count c_pages c_levels : Nat → Int32) (c_words : Nat → Nat → Nat) (c_entries : Nat → Nat → Int32) (c_length : Int32) (c_signs c_page c_known c_guess c_diff c_pieces c_place : Nat → Int32) (c_bits : Nat → Nat → Int64) (c_bads c_noes c_fulls c_base c_from c_to c_above c_bit c_lastLeft : Int32) (v1 : Int32) : Option (Int32 × (Nat → Int32) × (Nat → Int32) × (Nat → Int32) × (Nat → Int32) × (Nat → Int32) × (Nat → Int32) × (Nat → Int32) × (Nat → Nat → Int64) × Int32 × Int32 × Int32 × Int32 × Int32 × Int32 × Int32 × Int32 × Int32) := if v1 < 0 then (C7_begins_J9 a LW LK c_bytes c_heads c_firsts c_partings c_count c_pages c_levels c_words c_entries c_length v1 c_signs c_page c_known c_guess c_diff c_pieces c_place c_bits c_bads c_noes c_fulls c_base c_from c_to c_above c_bit c_lastLeft) else (if v1 ≤ 1 then (bd3 (C4_readWord c_bytes c_length c_signs c_bits (a 13)) fun r24 c_signs_24 c_bits_24 => if r24 = 0 then (bd4 (C7_refuse c_bads c_noes c_fulls (-3)) fun r33 c_bads_33 c_noes_33 c_fulls_33 => some (r33, c_signs_24, c_page, c_known, c_guess, c_diff, c_pieces, c_place, c_bits_24, c_bads_33, c_noes_33, c_fulls_33, c_base, c_from, c_to, c_above, c_bit, c_lastLeft)) else (if v1 = 0 then (bd1 (C3_beginning LW c_signs_24 c_count c_bits_24 c_words (a 14) (a 13)) fun r52 => some (r52, c_signs_24, c_page, c_known, c_guess, c_diff, c_pieces, c_place, c_bits_24, c_bads, c_noes, c_fulls, c_base, c_from, c_to, c_above, c_bit, c_lastLeft)) else (bd13 (C7_aheadOfWord a LW LK c_heads c_firsts c_partings c_signs_24 c_pages c_levels c_bits_24 c_words c_entries c_page c_known c_guess c_diff c_pieces c_place c_base c_from c_to c_above c_bit c_lastLeft) fun r57 c_page_57 c_known_57 c_guess_57 c_diff_57 c_pieces_57 c_place_57 c_base_57 c_from_57 c_to_57 c_above_57 c_bit_57 c_lastLeft_57 => some (r57, c_signs_24, c_page_57, c_known_57, c_guess_57, c_diff_57, c_pieces_57, c_place_57, c_bits_24, c_bads, c_noes, c_fulls, c_base_57, c_from_57, c_to_57, c_above_57, c_bit_57, c_lastLeft_57)))) else (C7_begins_J9 a LW LK c_bytes c_heads c_firsts c_partings c_count c_pages c_levels c_words c_entries c_length v1 c_signs c_page c_known c_guess c_diff c_pieces c_place c_bits c_bads c_noes c_fulls c_base c_from c_to c_above c_bit c_lastLeft))
set_option maxRecDepth 100000 in
set_option maxHeartbeats 4000000 in
theorem t_C7_begins_J9 {p : Program} {l : Launch} {e : Env} {s : State} {m : MethodId} {args : Array Value} {below : List Frame} {meth : Method} {c : Code} {Q : State → Prop} {A : Nat → Prop} {D : va_G} {cI cJ cB cL cS cW : ClassId} {a wb sw se : Nat → Nat} {LW LS LK : List Nat} {c_bytes c_heads c_firsts c_levelOf c_aboveOf c_partings c_count c_pages c_levels c_most : Nat → Int32} {c_words : Nat → Nat → Nat} {c_entries : Nat → Nat → Int32} {c_length c_next c_kept : Int32} {v1 : Int32} {r : Int32} {o_signs : Nat → Int32} {o_page : Nat → Int32} {o_known : Nat → Int32} {o_guess : Nat → Int32} {o_diff : Nat → Int32} {o_pieces : Nat → Int32} {o_place : Nat → Int32} {o_bits : Nat → Nat → Int64} {o_bads : Int32} {o_noes : Int32} {o_fulls : Int32} {o_base : Int32} {o_from : Int32} {o_to : Int32} {o_above : Int32} {o_bit : Int32} {o_lastLeft : Int32} (C : k_C p s m args meth c cX7_begins 2 (some .int) RX7 wsX7_begins D (kT cI cJ cB cL cS cW) A) (hD : va_D A (WC0 a wb sw se LW LS LK cI cJ cB cL cS cW)) (hG : kG a LW LS LK) (hret : ∀ (H : Heap) (locs : List Loc) (pc : Nat) (ls : Array Slot), decode cX7_begins pc = .ok (.ireturn, 1) → va_P D vwCl (WC a wb sw se LW LS LK cI cJ cB cL cS cW c_bytes c_heads c_firsts c_levelOf c_aboveOf c_partings o_signs c_count c_pages c_levels c_most o_page o_known o_guess o_diff o_pieces o_place o_bits c_words c_entries o_bads o_noes o_fulls c_length c_next c_kept o_base o_from o_to o_above o_bit o_lastLeft) H → va_S A s.heap H locs → W p l e { frames := 6, cells := 0, slots := 0, locals := 139 } s m args below meth c H locs 0 0 Q (F0 m pc ls [.int r])) : ∀ (c_signs : (Nat → Int32)) (c_page : (Nat → Int32)) (c_known : (Nat → Int32)) (c_guess : (Nat → Int32)) (c_diff : (Nat → Int32)) (c_pieces : (Nat → Int32)) (c_place : (Nat → Int32)) (c_bits : (Nat → Nat → Int64)) (c_bads : Int32) (c_noes : Int32) (c_fulls : Int32) (c_base : Int32) (c_from : Int32) (c_to : Int32) (c_above : Int32) (c_bit : Int32) (c_lastLeft : Int32) (H : Heap) (locs : List Loc) (ls : Array Slot), va_P D vwCl (WC a wb sw se LW LS LK cI cJ cB cL cS cW c_bytes c_heads c_firsts c_levelOf c_aboveOf c_partings c_signs c_count c_pages c_levels c_most c_page c_known c_guess c_diff c_pieces c_place c_bits c_words c_entries c_bads c_noes c_fulls c_length c_next c_kept c_base c_from c_to c_above c_bit c_lastLeft) H → va_S A s.heap H locs → lv_has ls 2 [(0, .ref (a 0))] → C7_begins_J9 a LW LK c_bytes c_heads c_firsts c_partings c_count c_pages c_levels c_words c_entries c_length v1 c_signs c_page c_known c_guess c_diff c_pieces c_place c_bits c_bads c_noes c_fulls c_base c_from c_to c_above c_bit c_lastLeft = some (r, o_signs, o_page, o_known, o_guess, o_diff, o_pieces, o_place, o_bits, o_bads, o_noes, o_fulls, o_base, o_from, o_to, o_above, o_bit, o_lastLeft) → W p l e { frames := 6, cells := 0, slots := 0, locals := 139 } s m args below meth c H locs 0 0 Q (F0 m 9 ls []) := by
  obtain ⟨hx, hb, hml, hr, hown, hts, hlocks, hK, hA, hN⟩ := id C
  intro c_signs c_page c_known c_guess c_diff c_pieces c_place c_bits c_bads c_noes c_fulls c_base c_from c_to c_above c_bit c_lastLeft H locs ls hP hS hl hm
  rw [C7_begins_J9] at hm
  refine lv_aload_n hx hb dX7_begins_9 rfl (lv_at hl 0 rfl) ?_
  refine lv_bipush (v := (-2)) hx hb dX7_begins_10 (by decide) ?_
  obtain ⟨r12, c_bads_12, c_noes_12, c_fulls_12, hq0, hm⟩ := bd4_some hm
  refine k_callVI (As := [.int (-2)]) (rest := []) ⟨hx, hb, hml, hown, hts⟩ hK hA hN (c_X7_refuse hG hq0) (cwV 1 hts gX7_begins_X7_refuse rfl rfl rfl hdX7_refuse ⟨Nat.le_of_ble_eq_true rfl, Nat.le_of_ble_eq_true rfl⟩) hP (WCD hD) hS 0 7 rfl rfl rfl hl.1 rfl rfl (Nat.le_of_ble_eq_true rfl) ⟨Nat.zero_le _, Nat.zero_le _⟩ dX7_begins_12 (fun H locs hP hS => ?_)
  simp only [Option.some.injEq, Prod.mk.injEq] at hm
  obtain ⟨rfl, rfl, rfl, rfl, rfl, rfl, rfl, rfl, rfl, rfl, rfl, rfl, rfl, rfl, rfl, rfl, rfl, rfl⟩ := hm
  exact hret _ _ _ _ dX7_begins_15 hP hS
set_option maxRecDepth 100000 in
set_option maxHeartbeats 4000000 in
theorem c_X7_begins {l : Launch} {D : va_G} {cI cJ cB cL cS cW : ClassId} {a wb sw se : Nat → Nat} {LW LS LK : List Nat} {c_bytes c_heads c_firsts c_levelOf c_aboveOf c_partings c_signs c_count c_pages c_levels c_most c_page c_known c_guess c_diff c_pieces c_place : Nat → Int32} {c_bits : Nat → Nat → Int64} {c_words : Nat → Nat → Nat} {c_entries : Nat → Nat → Int32} {c_bads c_noes c_fulls c_length c_next c_kept c_base c_from c_to c_above c_bit c_lastLeft : Int32} {v1 : Int32} {r : Int32} {o_signs : Nat → Int32} {o_page : Nat → Int32} {o_known : Nat → Int32} {o_guess : Nat → Int32} {o_diff : Nat → Int32} {o_pieces : Nat → Int32} {o_place : Nat → Int32} {o_bits : Nat → Nat → Int64} {o_bads : Int32} {o_noes : Int32} {o_fulls : Int32} {o_base : Int32} {o_from : Int32} {o_to : Int32} {o_above : Int32} {o_bit : Int32} {o_lastLeft : Int32} (hG : kG a LW LS LK) (hm : C7_begins a LW LK c_bytes c_heads c_firsts c_partings c_count c_pages c_levels c_words c_entries c_length c_signs c_page c_known c_guess c_diff c_pieces c_place c_bits c_bads c_noes c_fulls c_base c_from c_to c_above c_bit c_lastLeft v1 = some (r, o_signs, o_page, o_known, o_guess, o_diff, o_pieces, o_place, o_bits, o_bads, o_noes, o_fulls, o_base, o_from, o_to, o_above, o_bit, o_lastLeft)) : k_MI l yX7_begins wsX7_begins { frames := 6, cells := 0, slots := 0, locals := 139 } D (kT cI cJ cB cL cS cW) [.ref (a 0), .int v1] (WC a wb sw se LW LS LK cI cJ cB cL cS cW c_bytes c_heads c_firsts c_levelOf c_aboveOf c_partings c_signs c_count c_pages c_levels c_most c_page c_known c_guess c_diff c_pieces c_place c_bits c_words c_entries c_bads c_noes c_fulls c_length c_next c_kept c_base c_from c_to c_above c_bit c_lastLeft) r (WC a wb sw se LW LS LK cI cJ cB cL cS cW c_bytes c_heads c_firsts c_levelOf c_aboveOf c_partings o_signs c_count c_pages c_levels c_most o_page o_known o_guess o_diff o_pieces o_place o_bits c_words c_entries o_bads o_noes o_fulls c_length c_next c_kept o_base o_from o_to o_above o_bit o_lastLeft) := by
  refine k_ofI (cc := cX7_begins) (maxL := 2) (own := RX7) (by decide) rfl rfl (Nat.le_of_ble_eq_true rfl) ?_
  intro p e s m args below meth c A Q ls C hP hD hl hret
  have hD : va_D A (WC0 a wb sw se LW LS LK cI cJ cB cL cS cW) := WCD hD
  have hS : va_S A s.heap s.heap [] := va_S.rf
  have hl : lv_has ls 2 [(0, .ref (a 0)), (1, .int v1)] := hl
  obtain ⟨hx, hb, hml, hr, hown, hts, hlocks, hK, hA, hN⟩ := id C
  rw [C7_begins] at hm
  refine lv_iload_n hx hb dX7_begins_0 rfl (lv_at hl 1 rfl) ?_
  refine lv_if_lt (tgt := 9) hx hb dX7_begins_1 (by decide) (fun hc => ?_) (fun hc => ?_)
  · have hm := if_t hc hm
    exact t_C7_begins_J9 C hD hG hret _ _ _ _ _ _ _ _ _ _ _ _ _ _ _ _ _ _ _ _ hP hS (lv_sub hl [0] rfl) hm
  · have hm := if_f hc hm
    refine lv_iload_n hx hb dX7_begins_4 rfl (lv_at hl 1 rfl) ?_
    refine lv_iconst (v := 1) hx hb dX7_begins_5 (by decide) ?_
    refine lv_icmp_le (tgt := 16) hx hb dX7_begins_6 (by decide) (fun hc => ?_) (fun hc => ?_)
    · have hm := if_t hc hm
      refine lv_aload_n hx hb dX7_begins_16 rfl (lv_at hl 0 rfl) ?_
      refine kg (v := .ref (a 1)) hx hb hts hiX7_begins_X7 hown hK hP 0 rfl rfl 0 (by decide) flX7_begins_10 rfl rfl dX7_begins_17 ?_
      refine lv_aload_n hx hb dX7_begins_20 rfl (lv_at hl 0 rfl) ?_
      refine kg (v := .ref (a 13)) hx hb hts hiX7_begins_X7 hown hK hP 0 rfl rfl 1 (by decide) flX7_begins_19 rfl rfl dX7_begins_21 ?_
      obtain ⟨r24, c_signs_24, c_bits_24, hq0, hm⟩ := bd3_some hm
      refine k_callVI (As := [.ref (a 13)]) (rest := []) ⟨hx, hb, hml, hown, hts⟩ hK hA hN (c_X4_readWord hG hG.2.2.2.1 hq0) (cwV 1 hts gX7_begins_X4_readWord rfl rfl rfl hdX4_readWord ⟨Nat.le_of_ble_eq_true rfl, Nat.le_of_ble_eq_true rfl⟩) hP (WCD hD) hS 1 4 rfl rfl rfl hl.1 rfl rfl (Nat.le_of_ble_eq_true rfl) ⟨Nat.zero_le _, Nat.zero_le _⟩ dX7_begins_24 (fun H locs hP hS => ?_)
      refine lv_if_ne (tgt := 37) hx hb dX7_begins_27 (by decide) (fun hc => ?_) (fun hc => ?_)
      · have hm := if_f hc hm
        refine lv_iload_n hx hb dX7_begins_37 rfl (lv_at hl 1 rfl) ?_
        refine lv_if_ne (tgt := 56) hx hb dX7_begins_38 (by decide) (fun hc => ?_) (fun hc => ?_)
        · have hm := if_f hc hm
          refine lv_aload_n hx hb dX7_begins_56 rfl (lv_at hl 0 rfl) ?_
          obtain ⟨r57, c_page_57, c_known_57, c_guess_57, c_diff_57, c_pieces_57, c_place_57, c_base_57, c_from_57, c_to_57, c_above_57, c_bit_57, c_lastLeft_57, hq0, hm⟩ := bd13_some hm
          refine k_callVI (As := []) (rest := []) ⟨hx, hb, hml, hown, hts⟩ hK hA hN (c_X7_aheadOfWord hG hq0) (cwV 0 hts gX7_begins_X7_aheadOfWord rfl rfl rfl hdX7_aheadOfWord ⟨Nat.le_of_ble_eq_true rfl, Nat.le_of_ble_eq_true rfl⟩) hP (WCD hD) hS 0 7 rfl rfl rfl hl.1 rfl rfl (Nat.le_of_ble_eq_true rfl) ⟨Nat.zero_le _, Nat.zero_le _⟩ dX7_begins_57 (fun H locs hP hS => ?_)
          simp only [Option.some.injEq, Prod.mk.injEq] at hm
          obtain ⟨rfl, rfl, rfl, rfl, rfl, rfl, rfl, rfl, rfl, rfl, rfl, rfl, rfl, rfl, rfl, rfl, rfl, rfl⟩ := hm
          exact hret _ _ _ _ dX7_begins_60 hP hS
        · have hm := if_t hc hm
          refine lv_aload_n hx hb dX7_begins_41 rfl (lv_at hl 0 rfl) ?_
          refine kg (v := .ref (a 3)) hx hb hts hiX7_begins_X7 hown hK hP 0 rfl rfl 2 (by decide) flX7_begins_26 rfl rfl dX7_begins_42 ?_
          refine kg (v := .ref (a 14)) hx hb hts hiX7_begins_X0 hown hK hP 3 rfl rfl 0 (by decide) flX7_begins_68 rfl rfl dX7_begins_45 ?_
          refine lv_aload_n hx hb dX7_begins_48 rfl (lv_at hl 0 rfl) ?_
          refine kg (v := .ref (a 13)) hx hb hts hiX7_begins_X7 hown hK hP 0 rfl rfl 1 (by decide) flX7_begins_19 rfl rfl dX7_begins_49 ?_
          obtain ⟨r52, hq0, hm⟩ := bd1_some hm
          obtain ⟨q, hq, -⟩ := WC_S hG hG.2.2.2.2.1
          refine k_callVI (As := [.ref (a 13)]) (rest := []) ⟨hx, hb, hml, hown, hts⟩ hK hA hN (c_X3_beginning hG hG.2.2.2.2.1 hG.2.2.2.1 hq0) (cwV 1 hts gX7_begins_X3_beginning rfl rfl rfl hdX3_beginning ⟨Nat.le_of_ble_eq_true rfl, Nat.le_of_ble_eq_true rfl⟩) hP (WCD hD) hS q 3 hq rfl rfl hl.1 rfl rfl (Nat.le_of_ble_eq_true rfl) ⟨Nat.zero_le _, Nat.zero_le _⟩ dX7_begins_52 (fun H locs hP hS => ?_)
          simp only [Option.some.injEq, Prod.mk.injEq] at hm
          obtain ⟨rfl, rfl, rfl, rfl, rfl, rfl, rfl, rfl, rfl, rfl, rfl, rfl, rfl, rfl, rfl, rfl, rfl, rfl⟩ := hm
          exact hret _ _ _ _ dX7_begins_55 hP hS
      · have hm := if_t hc hm
        refine lv_aload_n hx hb dX7_begins_30 rfl (lv_at hl 0 rfl) ?_
        refine lv_bipush (v := (-3)) hx hb dX7_begins_31 (by decide) ?_
        obtain ⟨r33, c_bads_33, c_noes_33, c_fulls_33, hq0, hm⟩ := bd4_some hm
        refine k_callVI (As := [.int (-3)]) (rest := []) ⟨hx, hb, hml, hown, hts⟩ hK hA hN (c_X7_refuse hG hq0) (cwV 1 hts gX7_begins_X7_refuse rfl rfl rfl hdX7_refuse ⟨Nat.le_of_ble_eq_true rfl, Nat.le_of_ble_eq_true rfl⟩) hP (WCD hD) hS 0 7 rfl rfl rfl hl.1 rfl rfl (Nat.le_of_ble_eq_true rfl) ⟨Nat.zero_le _, Nat.zero_le _⟩ dX7_begins_33 (fun H locs hP hS => ?_)
        simp only [Option.some.injEq, Prod.mk.injEq] at hm
        obtain ⟨rfl, rfl, rfl, rfl, rfl, rfl, rfl, rfl, rfl, rfl, rfl, rfl, rfl, rfl, rfl, rfl, rfl, rfl⟩ := hm
        exact hret _ _ _ _ dX7_begins_36 hP hS
    · have hm := if_f hc hm
      exact t_C7_begins_J9 C hD hG hret _ _ _ _ _ _ _ _ _ _ _ _ _ _ _ _ _ _ _ _ hP hS (lv_sub hl [0] rfl) hm
theorem hdX7_between : yX7_between.cls = RX7 ∧ yX7_between.cls ≠ "java/lang/invoke/MethodHandle" ∧ yX7_between.cls ≠ "java/lang/invoke/VarHandle" ∧ (parseMethodDescriptor yX7_between.desc).map (fun d => d.parameters.length) = some 1 := by decide +kernel
theorem hiX7_between_X7 : ∀ w ∈ u_ws RX7 TX7 8, w ∈ wsX7_between := by decide +kernel
theorem hiX7_between_X0 : ∀ w ∈ u_ws RX0 TX0 7, w ∈ wsX7_between := by decide +kernel
theorem hiX7_between_X3 : ∀ w ∈ u_ws RX3 TX3 6, w ∈ wsX7_between := by decide +kernel
theorem flX7_between_26 : Cond.fieldLink RX7 26 "BlindPages" "index" "LBlindPages$Index;" ∈ wsX7_between := by decide +kernel
theorem flX7_between_68 : Cond.fieldLink RX7 68 "BlindPages$Index" "now" "LBlindPages$State;" ∈ wsX7_between := by decide +kernel
theorem flX7_between_72 : Cond.fieldLink RX7 72 "BlindPages$State" "count" "I" ∈ wsX7_between := by decide +kernel
theorem flX7_between_10 : Cond.fieldLink RX7 10 "BlindPages" "text" "LBlindPages$Text;" ∈ wsX7_between := by decide +kernel
theorem flX7_between_19 : Cond.fieldLink RX7 19 "BlindPages" "word" "LBlindPages$Word;" ∈ wsX7_between := by decide +kernel
def C7_between_J18 (a : Nat → Nat) (LW LK : List Nat) (c_bytes c_heads c_firsts c_partings c_count c_pages c_levels : Nat → Int32) (c_words : Nat → Nat → Nat) (c_entries : Nat → Nat → Int32) (c_length : Int32) (v1 : Int32) (c_signs : (Nat → Int32)) (c_page : (Nat → Int32)) (c_known : (Nat → Int32)) (c_guess : (Nat → Int32)) (c_diff : (Nat → Int32)) (c_pieces : (Nat → Int32)) (c_place : (Nat → Int32)) (c_bits : (Nat → Nat → Int64)) (c_bads : Int32) (c_noes : Int32) (c_fulls : Int32) (c_base : Int32) (c_from : Int32) (c_to : Int32) (c_above : Int32) (c_bit : Int32) (c_lastLeft : Int32) : Option (Int32 × (Nat → Int32) × (Nat → Int32) × (Nat → Int32) × (Nat → Int32) × (Nat → Int32) × (Nat → Int32) × (Nat → Int32) × (Nat → Nat → Int64) × Int32 × Int32 × Int32 × Int32 × Int32 × Int32 × Int32 × Int32 × Int32) := bd4 (C7_refuse c_bads c_noes c_fulls (-2)) fun r21 c_bads_21 c_noes_21 c_fulls_21 => some (r21, c_signs, c_page, c_known, c_guess, c_diff, c_pieces, c_place, c_bits, c_bads_21, c_noes_21, c_fulls_21, c_base, c_from, c_to, c_above, c_bit, c_lastLeft)
def C7_between (a : Nat → Nat) (LW LK : List Nat) (c_bytes c_heads c_firsts c_partings c_count c_pages c_levels : Nat → Int32) (c_words : Nat → Nat → Nat) (c_entries : Nat → Nat → Int32) (c_length : Int32) (c_signs c_page c_known c_guess c_diff c_pieces c_place : Nat → Int32) (c_bits : Nat → Nat → Int64) (c_bads c_noes c_fulls c_base c_from c_to c_above c_bit c_lastLeft : Int32) (v1 : Int32) : Option (Int32 × (Nat → Int32) × (Nat → Int32) × (Nat → Int32) × (Nat → Int32) × (Nat → Int32) × (Nat → Int32) × (Nat → Int32) × (Nat → Nat → Int64) × Int32 × Int32 × Int32 × Int32 × Int32 × Int32 × Int32 × Int32 × Int32) := if v1 < 0 then (C7_between_J18 a LW LK c_bytes c_heads c_firsts c_partings c_count c_pages c_levels c_words c_entries c_length v1 c_signs c_page c_known c_guess c_diff c_pieces c_place c_bits c_bads c_noes c_fulls c_base c_from c_to c_above c_bit c_lastLeft) else (if v1 < (c_count (a 14)) then (bd3 (C4_readWord c_bytes c_length c_signs c_bits (a 13)) fun r33 c_signs_33 c_bits_33 => if r33 = 0 then (bd4 (C7_refuse c_bads c_noes c_fulls (-3)) fun r42 c_bads_42 c_noes_42 c_fulls_42 => some (r42, c_signs_33, c_page, c_known, c_guess, c_diff, c_pieces, c_place, c_bits_33, c_bads_42, c_noes_42, c_fulls_42, c_base, c_from, c_to, c_above, c_bit, c_lastLeft)) else (bd13 (C7_aheadOfWord a LW LK c_heads c_firsts c_partings c_signs_33 c_pages c_levels c_bits_33 c_words c_entries c_page c_known c_guess c_diff c_pieces c_place c_base c_from c_to c_above c_bit c_lastLeft) fun r47 c_page_47 c_known_47 c_guess_47 c_diff_47 c_pieces_47 c_place_47 c_base_47 c_from_47 c_to_47 c_above_47 c_bit_47 c_lastLeft_47 => if v1 < r47 then (bd1 (C0_rank a LK c_heads c_pages c_page_47 c_place_47) fun r66 => some ((r66 - v1), c_signs_33, c_page_47, c_known_47, c_guess_47, c_diff_47, c_pieces_47, c_place_47, c_bits_33, c_bads, c_noes, c_fulls, c_base_47, c_from_47, c_to_47, c_above_47, c_bit_47, c_lastLeft_47)) else (some (((v1 - r47) + 1), c_signs_33, c_page_47, c_known_47, c_guess_47, c_diff_47, c_pieces_47, c_place_47, c_bits_33, c_bads, c_noes, c_fulls, c_base_47, c_from_47, c_to_47, c_above_47, c_bit_47, c_lastLeft_47)))) else (C7_between_J18 a LW LK c_bytes c_heads c_firsts c_partings c_count c_pages c_levels c_words c_entries c_length v1 c_signs c_page c_known c_guess c_diff c_pieces c_place c_bits c_bads c_noes c_fulls c_base c_from c_to c_above c_bit c_lastLeft))
set_option maxRecDepth 100000 in
set_option maxHeartbeats 4000000 in
theorem t_C7_between_J18 {p : Program} {l : Launch} {e : Env} {s : State} {m : MethodId} {args : Array Value} {below : List Frame} {meth : Method} {c : Code} {Q : State → Prop} {A : Nat → Prop} {D : va_G} {cI cJ cB cL cS cW : ClassId} {a wb sw se : Nat → Nat} {LW LS LK : List Nat} {c_bytes c_heads c_firsts c_levelOf c_aboveOf c_partings c_count c_pages c_levels c_most : Nat → Int32} {c_words : Nat → Nat → Nat} {c_entries : Nat → Nat → Int32} {c_length c_next c_kept : Int32} {v1 : Int32} {r : Int32} {o_signs : Nat → Int32} {o_page : Nat → Int32} {o_known : Nat → Int32} {o_guess : Nat → Int32} {o_diff : Nat → Int32} {o_pieces : Nat → Int32} {o_place : Nat → Int32} {o_bits : Nat → Nat → Int64} {o_bads : Int32} {o_noes : Int32} {o_fulls : Int32} {o_base : Int32} {o_from : Int32} {o_to : Int32} {o_above : Int32} {o_bit : Int32} {o_lastLeft : Int32} (C : k_C p s m args meth c cX7_between 3 (some .int) RX7 wsX7_between D (kT cI cJ cB cL cS cW) A) (hD : va_D A (WC0 a wb sw se LW LS LK cI cJ cB cL cS cW)) (hG : kG a LW LS LK) (hret : ∀ (H : Heap) (locs : List Loc) (pc : Nat) (ls : Array Slot), decode cX7_between pc = .ok (.ireturn, 1) → va_P D vwCl (WC a wb sw se LW LS LK cI cJ cB cL cS cW c_bytes c_heads c_firsts c_levelOf c_aboveOf c_partings o_signs c_count c_pages c_levels c_most o_page o_known o_guess o_diff o_pieces o_place o_bits c_words c_entries o_bads o_noes o_fulls c_length c_next c_kept o_base o_from o_to o_above o_bit o_lastLeft) H → va_S A s.heap H locs → W p l e { frames := 6, cells := 0, slots := 0, locals := 139 } s m args below meth c H locs 0 0 Q (F0 m pc ls [.int r])) : ∀ (c_signs : (Nat → Int32)) (c_page : (Nat → Int32)) (c_known : (Nat → Int32)) (c_guess : (Nat → Int32)) (c_diff : (Nat → Int32)) (c_pieces : (Nat → Int32)) (c_place : (Nat → Int32)) (c_bits : (Nat → Nat → Int64)) (c_bads : Int32) (c_noes : Int32) (c_fulls : Int32) (c_base : Int32) (c_from : Int32) (c_to : Int32) (c_above : Int32) (c_bit : Int32) (c_lastLeft : Int32) (H : Heap) (locs : List Loc) (ls : Array Slot), va_P D vwCl (WC a wb sw se LW LS LK cI cJ cB cL cS cW c_bytes c_heads c_firsts c_levelOf c_aboveOf c_partings c_signs c_count c_pages c_levels c_most c_page c_known c_guess c_diff c_pieces c_place c_bits c_words c_entries c_bads c_noes c_fulls c_length c_next c_kept c_base c_from c_to c_above c_bit c_lastLeft) H → va_S A s.heap H locs → lv_has ls 3 [(0, .ref (a 0))] → C7_between_J18 a LW LK c_bytes c_heads c_firsts c_partings c_count c_pages c_levels c_words c_entries c_length v1 c_signs c_page c_known c_guess c_diff c_pieces c_place c_bits c_bads c_noes c_fulls c_base c_from c_to c_above c_bit c_lastLeft = some (r, o_signs, o_page, o_known, o_guess, o_diff, o_pieces, o_place, o_bits, o_bads, o_noes, o_fulls, o_base, o_from, o_to, o_above, o_bit, o_lastLeft) → W p l e { frames := 6, cells := 0, slots := 0, locals := 139 } s m args below meth c H locs 0 0 Q (F0 m 18 ls []) := by
  obtain ⟨hx, hb, hml, hr, hown, hts, hlocks, hK, hA, hN⟩ := id C
  intro c_signs c_page c_known c_guess c_diff c_pieces c_place c_bits c_bads c_noes c_fulls c_base c_from c_to c_above c_bit c_lastLeft H locs ls hP hS hl hm
  rw [C7_between_J18] at hm
  refine lv_aload_n hx hb dX7_between_18 rfl (lv_at hl 0 rfl) ?_
  refine lv_bipush (v := (-2)) hx hb dX7_between_19 (by decide) ?_
  obtain ⟨r21, c_bads_21, c_noes_21, c_fulls_21, hq0, hm⟩ := bd4_some hm
  refine k_callVI (As := [.int (-2)]) (rest := []) ⟨hx, hb, hml, hown, hts⟩ hK hA hN (c_X7_refuse hG hq0) (cwV 1 hts gX7_between_X7_refuse rfl rfl rfl hdX7_refuse ⟨Nat.le_of_ble_eq_true rfl, Nat.le_of_ble_eq_true rfl⟩) hP (WCD hD) hS 0 7 rfl rfl rfl hl.1 rfl rfl (Nat.le_of_ble_eq_true rfl) ⟨Nat.zero_le _, Nat.zero_le _⟩ dX7_between_21 (fun H locs hP hS => ?_)
  simp only [Option.some.injEq, Prod.mk.injEq] at hm
  obtain ⟨rfl, rfl, rfl, rfl, rfl, rfl, rfl, rfl, rfl, rfl, rfl, rfl, rfl, rfl, rfl, rfl, rfl, rfl⟩ := hm
  exact hret _ _ _ _ dX7_between_24 hP hS
set_option maxRecDepth 100000 in
set_option maxHeartbeats 4000000 in
theorem c_X7_between {l : Launch} {D : va_G} {cI cJ cB cL cS cW : ClassId} {a wb sw se : Nat → Nat} {LW LS LK : List Nat} {c_bytes c_heads c_firsts c_levelOf c_aboveOf c_partings c_signs c_count c_pages c_levels c_most c_page c_known c_guess c_diff c_pieces c_place : Nat → Int32} {c_bits : Nat → Nat → Int64} {c_words : Nat → Nat → Nat} {c_entries : Nat → Nat → Int32} {c_bads c_noes c_fulls c_length c_next c_kept c_base c_from c_to c_above c_bit c_lastLeft : Int32} {v1 : Int32} {r : Int32} {o_signs : Nat → Int32} {o_page : Nat → Int32} {o_known : Nat → Int32} {o_guess : Nat → Int32} {o_diff : Nat → Int32} {o_pieces : Nat → Int32} {o_place : Nat → Int32} {o_bits : Nat → Nat → Int64} {o_bads : Int32} {o_noes : Int32} {o_fulls : Int32} {o_base : Int32} {o_from : Int32} {o_to : Int32} {o_above : Int32} {o_bit : Int32} {o_lastLeft : Int32} (hG : kG a LW LS LK) (hm : C7_between a LW LK c_bytes c_heads c_firsts c_partings c_count c_pages c_levels c_words c_entries c_length c_signs c_page c_known c_guess c_diff c_pieces c_place c_bits c_bads c_noes c_fulls c_base c_from c_to c_above c_bit c_lastLeft v1 = some (r, o_signs, o_page, o_known, o_guess, o_diff, o_pieces, o_place, o_bits, o_bads, o_noes, o_fulls, o_base, o_from, o_to, o_above, o_bit, o_lastLeft)) : k_MI l yX7_between wsX7_between { frames := 6, cells := 0, slots := 0, locals := 139 } D (kT cI cJ cB cL cS cW) [.ref (a 0), .int v1] (WC a wb sw se LW LS LK cI cJ cB cL cS cW c_bytes c_heads c_firsts c_levelOf c_aboveOf c_partings c_signs c_count c_pages c_levels c_most c_page c_known c_guess c_diff c_pieces c_place c_bits c_words c_entries c_bads c_noes c_fulls c_length c_next c_kept c_base c_from c_to c_above c_bit c_lastLeft) r (WC a wb sw se LW LS LK cI cJ cB cL cS cW c_bytes c_heads c_firsts c_levelOf c_aboveOf c_partings o_signs c_count c_pages c_levels c_most o_page o_known o_guess o_diff o_pieces o_place o_bits c_words c_entries o_bads o_noes o_fulls c_length c_next c_kept o_base o_from o_to o_above o_bit o_lastLeft) := by
  refine k_ofI (cc := cX7_between) (maxL := 3) (own := RX7) (by decide) rfl rfl (Nat.le_of_ble_eq_true rfl) ?_
  intro p e s m args below meth c A Q ls C hP hD hl hret
  have hD : va_D A (WC0 a wb sw se LW LS LK cI cJ cB cL cS cW) := WCD hD
  have hS : va_S A s.heap s.heap [] := va_S.rf
  have hl : lv_has ls 3 [(0, .ref (a 0)), (1, .int v1)] := hl
  obtain ⟨hx, hb, hml, hr, hown, hts, hlocks, hK, hA, hN⟩ := id C
  rw [C7_between] at hm
  refine lv_iload_n hx hb dX7_between_0 rfl (lv_at hl 1 rfl) ?_
  refine lv_if_lt (tgt := 18) hx hb dX7_between_1 (by decide) (fun hc => ?_) (fun hc => ?_)
  · have hm := if_t hc hm
    exact t_C7_between_J18 C hD hG hret _ _ _ _ _ _ _ _ _ _ _ _ _ _ _ _ _ _ _ _ hP hS (lv_sub hl [0] rfl) hm
  · have hm := if_f hc hm
    refine lv_iload_n hx hb dX7_between_4 rfl (lv_at hl 1 rfl) ?_
    refine lv_aload_n hx hb dX7_between_5 rfl (lv_at hl 0 rfl) ?_
    refine kg (v := .ref (a 3)) hx hb hts hiX7_between_X7 hown hK hP 0 rfl rfl 2 (by decide) flX7_between_26 rfl rfl dX7_between_6 ?_
    refine kg (v := .ref (a 14)) hx hb hts hiX7_between_X0 hown hK hP 3 rfl rfl 0 (by decide) flX7_between_68 rfl rfl dX7_between_9 ?_
    obtain ⟨q, hq, -⟩ := WC_S hG hG.2.2.2.2.1
    refine kg (v := .int (c_count (a 14))) hx hb hts hiX7_between_X3 hown hK hP q hq rfl 2 (by decide) flX7_between_72 rfl rfl dX7_between_12 ?_
    refine lv_icmp_lt (tgt := 25) hx hb dX7_between_15 (by decide) (fun hc => ?_) (fun hc => ?_)
    · have hm := if_t hc hm
      refine lv_aload_n hx hb dX7_between_25 rfl (lv_at hl 0 rfl) ?_
      refine kg (v := .ref (a 1)) hx hb hts hiX7_between_X7 hown hK hP 0 rfl rfl 0 (by decide) flX7_between_10 rfl rfl dX7_between_26 ?_
      refine lv_aload_n hx hb dX7_between_29 rfl (lv_at hl 0 rfl) ?_
      refine kg (v := .ref (a 13)) hx hb hts hiX7_between_X7 hown hK hP 0 rfl rfl 1 (by decide) flX7_between_19 rfl rfl dX7_between_30 ?_
      obtain ⟨r33, c_signs_33, c_bits_33, hq0, hm⟩ := bd3_some hm
      refine k_callVI (As := [.ref (a 13)]) (rest := []) ⟨hx, hb, hml, hown, hts⟩ hK hA hN (c_X4_readWord hG hG.2.2.2.1 hq0) (cwV 1 hts gX7_between_X4_readWord rfl rfl rfl hdX4_readWord ⟨Nat.le_of_ble_eq_true rfl, Nat.le_of_ble_eq_true rfl⟩) hP (WCD hD) hS 1 4 rfl rfl rfl hl.1 rfl rfl (Nat.le_of_ble_eq_true rfl) ⟨Nat.zero_le _, Nat.zero_le _⟩ dX7_between_33 (fun H locs hP hS => ?_)
      refine lv_if_ne (tgt := 46) hx hb dX7_between_36 (by decide) (fun hc => ?_) (fun hc => ?_)
      · have hm := if_f hc hm
        refine lv_aload_n hx hb dX7_between_46 rfl (lv_at hl 0 rfl) ?_
        obtain ⟨r47, c_page_47, c_known_47, c_guess_47, c_diff_47, c_pieces_47, c_place_47, c_base_47, c_from_47, c_to_47, c_above_47, c_bit_47, c_lastLeft_47, hq0, hm⟩ := bd13_some hm
        refine k_callVI (As := []) (rest := []) ⟨hx, hb, hml, hown, hts⟩ hK hA hN (c_X7_aheadOfWord hG hq0) (cwV 0 hts gX7_between_X7_aheadOfWord rfl rfl rfl hdX7_aheadOfWord ⟨Nat.le_of_ble_eq_true rfl, Nat.le_of_ble_eq_true rfl⟩) hP (WCD hD) hS 0 7 rfl rfl rfl hl.1 rfl rfl (Nat.le_of_ble_eq_true rfl) ⟨Nat.zero_le _, Nat.zero_le _⟩ dX7_between_47 (fun H locs hP hS => ?_)
        refine lv_istore_n (lv' := [(2, .int r47), (0, .ref (a 0)), (1, .int v1)]) hx hb dX7_between_50 rfl hl (by decide) rfl (fun ls hl => ?_)
        refine lv_iload_n hx hb dX7_between_51 rfl (lv_at hl 0 rfl) ?_
        refine lv_iload_n hx hb dX7_between_52 rfl (lv_at hl 2 rfl) ?_
        refine lv_icmp_gt (tgt := 62) hx hb dX7_between_53 (by decide) (fun hc => ?_) (fun hc => ?_)
        · have hm := if_t hc hm
          refine lv_aload_n hx hb dX7_between_62 rfl (lv_at hl 1 rfl) ?_
          refine kg (v := .ref (a 3)) hx hb hts hiX7_between_X7 hown hK hP 0 rfl rfl 2 (by decide) flX7_between_26 rfl rfl dX7_between_63 ?_
          obtain ⟨r66, hq0, hm⟩ := bd1_some hm
          refine k_callVI (As := []) (rest := []) ⟨hx, hb, hml, hown, hts⟩ hK hA hN (c_X0_rank hG hq0) (cwV 0 hts gX7_between_X0_rank rfl rfl rfl hdX0_rank ⟨Nat.le_of_ble_eq_true rfl, Nat.le_of_ble_eq_true rfl⟩) hP (WCD hD) hS 3 0 rfl rfl rfl hl.1 rfl rfl (Nat.le_of_ble_eq_true rfl) ⟨Nat.zero_le _, Nat.zero_le _⟩ dX7_between_66 (fun H locs hP hS => ?_)
          refine lv_iload_n hx hb dX7_between_69 rfl (lv_at hl 2 rfl) ?_
          refine lv_isub hx hb dX7_between_70 ?_
          simp only [Option.some.injEq, Prod.mk.injEq] at hm
          obtain ⟨rfl, rfl, rfl, rfl, rfl, rfl, rfl, rfl, rfl, rfl, rfl, rfl, rfl, rfl, rfl, rfl, rfl, rfl⟩ := hm
          exact hret _ _ _ _ dX7_between_71 hP hS
        · have hm := if_f hc hm
          refine lv_iload_n hx hb dX7_between_56 rfl (lv_at hl 2 rfl) ?_
          refine lv_iload_n hx hb dX7_between_57 rfl (lv_at hl 0 rfl) ?_
          refine lv_isub hx hb dX7_between_58 ?_
          refine lv_iconst (v := 1) hx hb dX7_between_59 (by decide) ?_
          refine lv_iadd hx hb dX7_between_60 ?_
          simp only [Option.some.injEq, Prod.mk.injEq] at hm
          obtain ⟨rfl, rfl, rfl, rfl, rfl, rfl, rfl, rfl, rfl, rfl, rfl, rfl, rfl, rfl, rfl, rfl, rfl, rfl⟩ := hm
          exact hret _ _ _ _ dX7_between_61 hP hS
      · have hm := if_t hc hm
        refine lv_aload_n hx hb dX7_between_39 rfl (lv_at hl 0 rfl) ?_
        refine lv_bipush (v := (-3)) hx hb dX7_between_40 (by decide) ?_
        obtain ⟨r42, c_bads_42, c_noes_42, c_fulls_42, hq0, hm⟩ := bd4_some hm
        refine k_callVI (As := [.int (-3)]) (rest := []) ⟨hx, hb, hml, hown, hts⟩ hK hA hN (c_X7_refuse hG hq0) (cwV 1 hts gX7_between_X7_refuse rfl rfl rfl hdX7_refuse ⟨Nat.le_of_ble_eq_true rfl, Nat.le_of_ble_eq_true rfl⟩) hP (WCD hD) hS 0 7 rfl rfl rfl hl.1 rfl rfl (Nat.le_of_ble_eq_true rfl) ⟨Nat.zero_le _, Nat.zero_le _⟩ dX7_between_42 (fun H locs hP hS => ?_)
        simp only [Option.some.injEq, Prod.mk.injEq] at hm
        obtain ⟨rfl, rfl, rfl, rfl, rfl, rfl, rfl, rfl, rfl, rfl, rfl, rfl, rfl, rfl, rfl, rfl, rfl, rfl⟩ := hm
        exact hret _ _ _ _ dX7_between_45 hP hS
    · have hm := if_f hc hm
      exact t_C7_between_J18 C hD hG hret _ _ _ _ _ _ _ _ _ _ _ _ _ _ _ _ _ _ _ _ hP hS (lv_sub hl [0] rfl) hm
theorem hdX6_signAt : yX6_signAt.cls = RX6 ∧ yX6_signAt.cls ≠ "java/lang/invoke/MethodHandle" ∧ yX6_signAt.cls ≠ "java/lang/invoke/VarHandle" ∧ (parseMethodDescriptor yX6_signAt.desc).map (fun d => d.parameters.length) = some 1 := by decide +kernel
theorem hiX6_signAt_X6 : ∀ w ∈ u_ws RX6 TX6 2, w ∈ wsX6_signAt := by decide +kernel
theorem flX6_signAt_9 : Cond.fieldLink RX6 9 "BlindPages$Word" "bits" "[J" ∈ wsX6_signAt := by decide +kernel
def C6_signAt (c_bits : Nat → Nat → Int64) (v0 : Nat) (v1 : Int32) : Option (Int32) := if (v1 >>> ((3 : Int32) &&& 31)) < 0 then (some 0) else (if 3 ≤ (v1 >>> ((3 : Int32) &&& 31)) then (some 0) else (ga (v1 >>> ((3 : Int32) &&& 31)) 3 (some ((((c_bits v0 (v1 >>> ((3 : Int32) &&& 31)).toNatClampNeg).toUInt64 >>> ((56 - (8 * (v1 &&& 7))).toInt64.toUInt64 &&& Int64.toUInt64 63)).toInt64).toInt32 &&& 127))))
set_option maxRecDepth 100000 in
set_option maxHeartbeats 4000000 in
theorem c_X6_signAt {l : Launch} {D : va_G} {cI cJ cB cL cS cW : ClassId} {a wb sw se : Nat → Nat} {LW LS LK : List Nat} {c_bytes c_heads c_firsts c_levelOf c_aboveOf c_partings c_signs c_count c_pages c_levels c_most c_page c_known c_guess c_diff c_pieces c_place : Nat → Int32} {c_bits : Nat → Nat → Int64} {c_words : Nat → Nat → Nat} {c_entries : Nat → Nat → Int32} {c_bads c_noes c_fulls c_length c_next c_kept c_base c_from c_to c_above c_bit c_lastLeft : Int32} {v0 : Nat} {v1 : Int32} {r : Int32} (hG : kG a LW LS LK) (hv0 : v0 ∈ LW) (hm : C6_signAt c_bits v0 v1 = some r) : k_MI l yX6_signAt wsX6_signAt { frames := 0, cells := 0, slots := 0, locals := 0 } D (kT cI cJ cB cL cS cW) [.ref v0, .int v1] (WC a wb sw se LW LS LK cI cJ cB cL cS cW c_bytes c_heads c_firsts c_levelOf c_aboveOf c_partings c_signs c_count c_pages c_levels c_most c_page c_known c_guess c_diff c_pieces c_place c_bits c_words c_entries c_bads c_noes c_fulls c_length c_next c_kept c_base c_from c_to c_above c_bit c_lastLeft) r (WC a wb sw se LW LS LK cI cJ cB cL cS cW c_bytes c_heads c_firsts c_levelOf c_aboveOf c_partings c_signs c_count c_pages c_levels c_most c_page c_known c_guess c_diff c_pieces c_place c_bits c_words c_entries c_bads c_noes c_fulls c_length c_next c_kept c_base c_from c_to c_above c_bit c_lastLeft) := by
  refine k_ofI (cc := cX6_signAt) (maxL := 3) (own := RX6) (by decide) rfl rfl (Nat.le_of_ble_eq_true rfl) ?_
  intro p e s m args below meth c A Q ls C hP hD hl hret
  have hD : va_D A (WC0 a wb sw se LW LS LK cI cJ cB cL cS cW) := WCD hD
  have hS : va_S A s.heap s.heap [] := va_S.rf
  have hl : lv_has ls 3 [(0, .ref v0), (1, .int v1)] := hl
  obtain ⟨hx, hb, hml, hr, hown, hts, hlocks, hK, hA, hN⟩ := id C
  rw [C6_signAt] at hm
  refine lv_iload_n hx hb dX6_signAt_0 rfl (lv_at hl 1 rfl) ?_
  refine lv_iconst (v := 3) hx hb dX6_signAt_1 (by decide) ?_
  refine lv_ishr hx hb dX6_signAt_2 ?_
  refine lv_istore_n (lv' := [(2, .int (v1 >>> ((3 : Int32) &&& 31))), (0, .ref v0), (1, .int v1)]) hx hb dX6_signAt_3 rfl hl (by decide) rfl (fun ls hl => ?_)
  refine lv_iload_n hx hb dX6_signAt_4 rfl (lv_at hl 0 rfl) ?_
  refine lv_if_lt (tgt := 41) hx hb dX6_signAt_5 (by decide) (fun hc => ?_) (fun hc => ?_)
  · have hm := if_t hc hm
    refine lv_iconst (v := 0) hx hb dX6_signAt_41 (by decide) ?_
    obtain rfl := Option.some.inj hm
    exact hret _ _ _ _ dX6_signAt_42 hP hS
  · have hm := if_f hc hm
    refine lv_iload_n hx hb dX6_signAt_8 rfl (lv_at hl 0 rfl) ?_
    refine lv_aload_n hx hb dX6_signAt_9 rfl (lv_at hl 1 rfl) ?_
    obtain ⟨q, hq, -⟩ := WC_W hG hv0
    refine kg (v := .ref (wb v0)) hx hb hts hiX6_signAt_X6 hown hK hP q hq rfl 0 (by decide) flX6_signAt_9 rfl rfl dX6_signAt_10 ?_
    obtain ⟨q, hq, -⟩ := WC_bits hG hv0
    refine va_alen (v := 3) hx hb hK hP q 1 hq rfl rfl dX6_signAt_13 ?_
    refine lv_icmp_ge (tgt := 41) hx hb dX6_signAt_14 (by decide) (fun hc => ?_) (fun hc => ?_)
    · have hm := if_t hc hm
      refine lv_iconst (v := 0) hx hb dX6_signAt_41 (by decide) ?_
      obtain rfl := Option.some.inj hm
      exact hret _ _ _ _ dX6_signAt_42 hP hS
    · have hm := if_f hc hm
      refine lv_aload_n hx hb dX6_signAt_17 rfl (lv_at hl 1 rfl) ?_
      obtain ⟨q, hq, -⟩ := WC_W hG hv0
      refine kg (v := .ref (wb v0)) hx hb hts hiX6_signAt_X6 hown hK hP q hq rfl 0 (by decide) flX6_signAt_9 rfl rfl dX6_signAt_18 ?_
      refine lv_iload_n hx hb dX6_signAt_21 rfl (lv_at hl 0 rfl) ?_
      obtain ⟨hi, hm⟩ := ga_some hm
      obtain ⟨q, hq, -⟩ := WC_bits hG hv0
      refine k_lald hx hb hK hP q 1 hq rfl rfl hi dX6_signAt_22 ?_
      refine lv_bipush (v := 56) hx hb dX6_signAt_23 (by decide) ?_
      refine lv_bipush (v := 8) hx hb dX6_signAt_25 (by decide) ?_
      refine lv_iload_n hx hb dX6_signAt_27 rfl (lv_at hl 2 rfl) ?_
      refine lv_bipush (v := 7) hx hb dX6_signAt_28 (by decide) ?_
      refine lv_iand hx hb dX6_signAt_30 ?_
      refine lv_imul hx hb dX6_signAt_31 ?_
      refine lv_isub hx hb dX6_signAt_32 ?_
      refine lv_lushr hx hb dX6_signAt_33 rfl ?_
      refine lv_l2i hx hb dX6_signAt_34 rfl ?_
      refine lv_bipush (v := 127) hx hb dX6_signAt_35 (by decide) ?_
      refine lv_iand hx hb dX6_signAt_37 ?_
      refine lv_goto (tgt := 42) hx hb dX6_signAt_38 (by decide) ?_
      obtain rfl := Option.some.inj hm
      exact hret _ _ _ _ dX6_signAt_42 hP hS
theorem hdX7_sign : yX7_sign.cls = RX7 ∧ yX7_sign.cls ≠ "java/lang/invoke/MethodHandle" ∧ yX7_sign.cls ≠ "java/lang/invoke/VarHandle" ∧ (parseMethodDescriptor yX7_sign.desc).map (fun d => d.parameters.length) = some 2 := by decide +kernel
theorem hiX7_sign_X7 : ∀ w ∈ u_ws RX7 TX7 8, w ∈ wsX7_sign := by decide +kernel
theorem hiX7_sign_X0 : ∀ w ∈ u_ws RX0 TX0 7, w ∈ wsX7_sign := by decide +kernel
theorem hiX7_sign_X3 : ∀ w ∈ u_ws RX3 TX3 6, w ∈ wsX7_sign := by decide +kernel
theorem hiX7_sign_X6 : ∀ w ∈ u_ws RX6 TX6 2, w ∈ wsX7_sign := by decide +kernel
theorem flX7_sign_26 : Cond.fieldLink RX7 26 "BlindPages" "index" "LBlindPages$Index;" ∈ wsX7_sign := by decide +kernel
theorem flX7_sign_68 : Cond.fieldLink RX7 68 "BlindPages$Index" "now" "LBlindPages$State;" ∈ wsX7_sign := by decide +kernel
theorem flX7_sign_72 : Cond.fieldLink RX7 72 "BlindPages$State" "count" "I" ∈ wsX7_sign := by decide +kernel
theorem flX7_sign_171 : Cond.fieldLink RX7 171 "BlindPages$Word" "signs" "I" ∈ wsX7_sign := by decide +kernel
def C7_sign_J22 (a : Nat → Nat) (LW : List Nat) (c_signs c_count : Nat → Int32) (c_bits : Nat → Nat → Int64) (c_words : Nat → Nat → Nat) (v1 : Int32) (v2 : Int32) (c_bads : Int32) (c_noes : Int32) (c_fulls : Int32) : Option (Int32 × Int32 × Int32 × Int32) := bd4 (C7_refuse c_bads c_noes c_fulls (-2)) fun r25 c_bads_25 c_noes_25 c_fulls_25 => some (r25, c_bads_25, c_noes_25, c_fulls_25)
def C7_sign (a : Nat → Nat) (LW : List Nat) (c_signs c_count : Nat → Int32) (c_bits : Nat → Nat → Int64) (c_words : Nat → Nat → Nat) (c_bads c_noes c_fulls : Int32) (v1 : Int32) (v2 : Int32) : Option (Int32 × Int32 × Int32 × Int32) := if v1 < 0 then (C7_sign_J22 a LW c_signs c_count c_bits c_words v1 v2 c_bads c_noes c_fulls) else (if (c_count (a 14)) ≤ v1 then (C7_sign_J22 a LW c_signs c_count c_bits c_words v1 v2 c_bads c_noes c_fulls) else (if 0 ≤ v2 then (bd1 (C3_wordAt LW c_words (a 14) v1) fun r37 => gm LW r37 (if (c_signs r37) ≤ v2 then (some ((-1), c_bads, c_noes, c_fulls)) else (bd1 (C6_signAt c_bits r37 v2) fun r51 => some (r51, c_bads, c_noes, c_fulls)))) else (C7_sign_J22 a LW c_signs c_count c_bits c_words v1 v2 c_bads c_noes c_fulls)))
set_option maxRecDepth 100000 in
set_option maxHeartbeats 4000000 in
theorem t_C7_sign_J22 {p : Program} {l : Launch} {e : Env} {s : State} {m : MethodId} {args : Array Value} {below : List Frame} {meth : Method} {c : Code} {Q : State → Prop} {A : Nat → Prop} {D : va_G} {cI cJ cB cL cS cW : ClassId} {a wb sw se : Nat → Nat} {LW LS LK : List Nat} {c_bytes c_heads c_firsts c_levelOf c_aboveOf c_partings c_signs c_count c_pages c_levels c_most c_page c_known c_guess c_diff c_pieces c_place : Nat → Int32} {c_bits : Nat → Nat → Int64} {c_words : Nat → Nat → Nat} {c_entries : Nat → Nat → Int32} {c_length c_next c_kept c_base c_from c_to c_above c_bit c_lastLeft : Int32} {v1 : Int32} {v2 : Int32} {r : Int32} {o_bads : Int32} {o_noes : Int32} {o_fulls : Int32} (C : k_C p s m args meth c cX7_sign 4 (some .int) RX7 wsX7_sign D (kT cI cJ cB cL cS cW) A) (hD : va_D A (WC0 a wb sw se LW LS LK cI cJ cB cL cS cW)) (hG : kG a LW LS LK) (hret : ∀ (H : Heap) (locs : List Loc) (pc : Nat) (ls : Array Slot), decode cX7_sign pc = .ok (.ireturn, 1) → va_P D vwCl (WC a wb sw se LW LS LK cI cJ cB cL cS cW c_bytes c_heads c_firsts c_levelOf c_aboveOf c_partings c_signs c_count c_pages c_levels c_most c_page c_known c_guess c_diff c_pieces c_place c_bits c_words c_entries o_bads o_noes o_fulls c_length c_next c_kept c_base c_from c_to c_above c_bit c_lastLeft) H → va_S A s.heap H locs → W p l e { frames := 1, cells := 0, slots := 0, locals := 22 } s m args below meth c H locs 0 0 Q (F0 m pc ls [.int r])) : ∀ (c_bads : Int32) (c_noes : Int32) (c_fulls : Int32) (H : Heap) (locs : List Loc) (ls : Array Slot), va_P D vwCl (WC a wb sw se LW LS LK cI cJ cB cL cS cW c_bytes c_heads c_firsts c_levelOf c_aboveOf c_partings c_signs c_count c_pages c_levels c_most c_page c_known c_guess c_diff c_pieces c_place c_bits c_words c_entries c_bads c_noes c_fulls c_length c_next c_kept c_base c_from c_to c_above c_bit c_lastLeft) H → va_S A s.heap H locs → lv_has ls 4 [(0, .ref (a 0))] → C7_sign_J22 a LW c_signs c_count c_bits c_words v1 v2 c_bads c_noes c_fulls = some (r, o_bads, o_noes, o_fulls) → W p l e { frames := 1, cells := 0, slots := 0, locals := 22 } s m args below meth c H locs 0 0 Q (F0 m 22 ls []) := by
  obtain ⟨hx, hb, hml, hr, hown, hts, hlocks, hK, hA, hN⟩ := id C
  intro c_bads c_noes c_fulls H locs ls hP hS hl hm
  rw [C7_sign_J22] at hm
  refine lv_aload_n hx hb dX7_sign_22 rfl (lv_at hl 0 rfl) ?_
  refine lv_bipush (v := (-2)) hx hb dX7_sign_23 (by decide) ?_
  obtain ⟨r25, c_bads_25, c_noes_25, c_fulls_25, hq0, hm⟩ := bd4_some hm
  refine k_callVI (As := [.int (-2)]) (rest := []) ⟨hx, hb, hml, hown, hts⟩ hK hA hN (c_X7_refuse hG hq0) (cwV 1 hts gX7_sign_X7_refuse rfl rfl rfl hdX7_refuse ⟨Nat.le_of_ble_eq_true rfl, Nat.le_of_ble_eq_true rfl⟩) hP (WCD hD) hS 0 7 rfl rfl rfl hl.1 rfl rfl (Nat.le_of_ble_eq_true rfl) ⟨Nat.zero_le _, Nat.zero_le _⟩ dX7_sign_25 (fun H locs hP hS => ?_)
  simp only [Option.some.injEq, Prod.mk.injEq] at hm
  obtain ⟨rfl, rfl, rfl, rfl⟩ := hm
  exact hret _ _ _ _ dX7_sign_28 hP hS
set_option maxRecDepth 100000 in
set_option maxHeartbeats 4000000 in
theorem c_X7_sign {l : Launch} {D : va_G} {cI cJ cB cL cS cW : ClassId} {a wb sw se : Nat → Nat} {LW LS LK : List Nat} {c_bytes c_heads c_firsts c_levelOf c_aboveOf c_partings c_signs c_count c_pages c_levels c_most c_page c_known c_guess c_diff c_pieces c_place : Nat → Int32} {c_bits : Nat → Nat → Int64} {c_words : Nat → Nat → Nat} {c_entries : Nat → Nat → Int32} {c_bads c_noes c_fulls c_length c_next c_kept c_base c_from c_to c_above c_bit c_lastLeft : Int32} {v1 : Int32} {v2 : Int32} {r : Int32} {o_bads : Int32} {o_noes : Int32} {o_fulls : Int32} (hG : kG a LW LS LK) (hm : C7_sign a LW c_signs c_count c_bits c_words c_bads c_noes c_fulls v1 v2 = some (r, o_bads, o_noes, o_fulls)) : k_MI l yX7_sign wsX7_sign { frames := 1, cells := 0, slots := 0, locals := 22 } D (kT cI cJ cB cL cS cW) [.ref (a 0), .int v1, .int v2] (WC a wb sw se LW LS LK cI cJ cB cL cS cW c_bytes c_heads c_firsts c_levelOf c_aboveOf c_partings c_signs c_count c_pages c_levels c_most c_page c_known c_guess c_diff c_pieces c_place c_bits c_words c_entries c_bads c_noes c_fulls c_length c_next c_kept c_base c_from c_to c_above c_bit c_lastLeft) r (WC a wb sw se LW LS LK cI cJ cB cL cS cW c_bytes c_heads c_firsts c_levelOf c_aboveOf c_partings c_signs c_count c_pages c_levels c_most c_page c_known c_guess c_diff c_pieces c_place c_bits c_words c_entries o_bads o_noes o_fulls c_length c_next c_kept c_base c_from c_to c_above c_bit c_lastLeft) := by
  refine k_ofI (cc := cX7_sign) (maxL := 4) (own := RX7) (by decide) rfl rfl (Nat.le_of_ble_eq_true rfl) ?_
  intro p e s m args below meth c A Q ls C hP hD hl hret
  have hD : va_D A (WC0 a wb sw se LW LS LK cI cJ cB cL cS cW) := WCD hD
  have hS : va_S A s.heap s.heap [] := va_S.rf
  have hl : lv_has ls 4 [(0, .ref (a 0)), (1, .int v1), (2, .int v2)] := hl
  obtain ⟨hx, hb, hml, hr, hown, hts, hlocks, hK, hA, hN⟩ := id C
  rw [C7_sign] at hm
  refine lv_iload_n hx hb dX7_sign_0 rfl (lv_at hl 1 rfl) ?_
  refine lv_if_lt (tgt := 22) hx hb dX7_sign_1 (by decide) (fun hc => ?_) (fun hc => ?_)
  · have hm := if_t hc hm
    exact t_C7_sign_J22 C hD hG hret _ _ _ _ _ _ hP hS (lv_sub hl [0] rfl) hm
  · have hm := if_f hc hm
    refine lv_iload_n hx hb dX7_sign_4 rfl (lv_at hl 1 rfl) ?_
    refine lv_aload_n hx hb dX7_sign_5 rfl (lv_at hl 0 rfl) ?_
    refine kg (v := .ref (a 3)) hx hb hts hiX7_sign_X7 hown hK hP 0 rfl rfl 2 (by decide) flX7_sign_26 rfl rfl dX7_sign_6 ?_
    refine kg (v := .ref (a 14)) hx hb hts hiX7_sign_X0 hown hK hP 3 rfl rfl 0 (by decide) flX7_sign_68 rfl rfl dX7_sign_9 ?_
    obtain ⟨q, hq, -⟩ := WC_S hG hG.2.2.2.2.1
    refine kg (v := .int (c_count (a 14))) hx hb hts hiX7_sign_X3 hown hK hP q hq rfl 2 (by decide) flX7_sign_72 rfl rfl dX7_sign_12 ?_
    refine lv_icmp_ge (tgt := 22) hx hb dX7_sign_15 (by decide) (fun hc => ?_) (fun hc => ?_)
    · have hm := if_t hc hm
      exact t_C7_sign_J22 C hD hG hret _ _ _ _ _ _ hP hS (lv_sub hl [0] rfl) hm
    · have hm := if_f hc hm
      refine lv_iload_n hx hb dX7_sign_18 rfl (lv_at hl 2 rfl) ?_
      refine lv_if_ge (tgt := 29) hx hb dX7_sign_19 (by decide) (fun hc => ?_) (fun hc => ?_)
      · have hm := if_t hc hm
        refine lv_aload_n hx hb dX7_sign_29 rfl (lv_at hl 0 rfl) ?_
        refine kg (v := .ref (a 3)) hx hb hts hiX7_sign_X7 hown hK hP 0 rfl rfl 2 (by decide) flX7_sign_26 rfl rfl dX7_sign_30 ?_
        refine kg (v := .ref (a 14)) hx hb hts hiX7_sign_X0 hown hK hP 3 rfl rfl 0 (by decide) flX7_sign_68 rfl rfl dX7_sign_33 ?_
        refine lv_iload_n hx hb dX7_sign_36 rfl (lv_at hl 1 rfl) ?_
        obtain ⟨r37, hq0, hm⟩ := bd1_some hm
        obtain ⟨hw37, hm⟩ := gm_some hm
        obtain ⟨q, hq, -⟩ := WC_S hG hG.2.2.2.2.1
        refine k_callVA (As := [.int v1]) (rest := []) ⟨hx, hb, hml, hown, hts⟩ hK hA hN (c_X3_wordAt hG hG.2.2.2.2.1 hq0) (cwV 1 hts gX7_sign_X3_wordAt rfl rfl rfl hdX3_wordAt ⟨Nat.le_of_ble_eq_true rfl, Nat.le_of_ble_eq_true rfl⟩) hP (WCD hD) hS q 3 hq rfl rfl hl.1 rfl rfl (Nat.le_of_ble_eq_true rfl) ⟨Nat.zero_le _, Nat.zero_le _⟩ dX7_sign_37 (fun H locs hP hS => ?_)
        refine lv_astore_n (lv' := [(3, .ref r37), (0, .ref (a 0)), (1, .int v1), (2, .int v2)]) hx hb dX7_sign_40 rfl hl (by decide) rfl (fun ls hl => ?_)
        refine lv_iload_n hx hb dX7_sign_41 rfl (lv_at hl 3 rfl) ?_
        refine lv_aload_n hx hb dX7_sign_42 rfl (lv_at hl 0 rfl) ?_
        obtain ⟨q, hq, -⟩ := WC_W hG hw37
        refine kg (v := .int (c_signs r37)) hx hb hts hiX7_sign_X6 hown hK hP q hq rfl 1 (by decide) flX7_sign_171 rfl rfl dX7_sign_43 ?_
        refine lv_icmp_ge (tgt := 57) hx hb dX7_sign_46 (by decide) (fun hc => ?_) (fun hc => ?_)
        · have hm := if_t hc hm
          refine lv_iconst (v := (-1)) hx hb dX7_sign_57 (by decide) ?_
          simp only [Option.some.injEq, Prod.mk.injEq] at hm
          obtain ⟨rfl, rfl, rfl, rfl⟩ := hm
          exact hret _ _ _ _ dX7_sign_58 hP hS
        · have hm := if_f hc hm
          refine lv_aload_n hx hb dX7_sign_49 rfl (lv_at hl 0 rfl) ?_
          refine lv_iload_n hx hb dX7_sign_50 rfl (lv_at hl 3 rfl) ?_
          obtain ⟨r51, hq0, hm⟩ := bd1_some hm
          obtain ⟨q, hq, -⟩ := WC_W hG hw37
          refine k_callVI (As := [.int v2]) (rest := []) ⟨hx, hb, hml, hown, hts⟩ hK hA hN (c_X6_signAt hG hw37 hq0) (cwV 1 hts gX7_sign_X6_signAt rfl rfl rfl hdX6_signAt ⟨Nat.le_of_ble_eq_true rfl, Nat.le_of_ble_eq_true rfl⟩) hP (WCD hD) hS q 6 hq rfl rfl hl.1 rfl rfl (Nat.le_of_ble_eq_true rfl) ⟨Nat.zero_le _, Nat.zero_le _⟩ dX7_sign_51 (fun H locs hP hS => ?_)
          refine lv_goto (tgt := 58) hx hb dX7_sign_54 (by decide) ?_
          simp only [Option.some.injEq, Prod.mk.injEq] at hm
          obtain ⟨rfl, rfl, rfl, rfl⟩ := hm
          exact hret _ _ _ _ dX7_sign_58 hP hS
      · have hm := if_f hc hm
        exact t_C7_sign_J22 C hD hG hret _ _ _ _ _ _ hP hS (lv_sub hl [0] rfl) hm
