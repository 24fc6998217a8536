theorem hdX0_insert : yX0_insert.cls = RX0 ∧ yX0_insert.cls ≠ "java/lang/invoke/MethodHandle" ∧ yX0_insert.cls ≠ "java/lang/invoke/VarHandle" ∧ (parseMethodDescriptor yX0_insert.desc).map (fun d => d.parameters.length) = some 1 := by decide +kernel
theorem hiX0_insert_X0 : ∀ w ∈ u_ws RX0 TX0 7, w ∈ wsX0_insert := by decide +kernel
theorem hiX0_insert_X3 : ∀ w ∈ u_ws RX3 TX3 6, w ∈ wsX0_insert := by decide +kernel
theorem flX0_insert_12 : Cond.fieldLink RX0 12 "BlindPages$Index" "now" "LBlindPages$State;" ∈ wsX0_insert := by decide +kernel
theorem flX0_insert_45 : Cond.fieldLink RX0 45 "BlindPages$State" "pages" "I" ∈ wsX0_insert := by decide +kernel
theorem flX0_insert_134 : Cond.fieldLink RX0 134 "BlindPages$State" "levels" "I" ∈ wsX0_insert := by decide +kernel
def C0_insert_J46 (a : Nat → Nat) (LW LK : List Nat) (c_most c_page c_place : Nat → Int32) (v1 : Nat) (c_heads : (Nat → Int32)) (c_firsts : (Nat → Int32)) (c_levelOf : (Nat → Int32)) (c_aboveOf : (Nat → Int32)) (c_partings : (Nat → Int32)) (c_signs : (Nat → Int32)) (c_count : (Nat → Int32)) (c_pages : (Nat → Int32)) (c_levels : (Nat → Int32)) (c_bits : (Nat → Nat → Int64)) (c_words : (Nat → Nat → Nat)) (c_entries : (Nat → Nat → Int32)) : Option ((Nat → Int32) × (Nat → Int32) × (Nat → Int32) × (Nat → Int32) × (Nat → Int32) × (Nat → Int32) × (Nat → Int32) × (Nat → Int32) × (Nat → Int32) × (Nat → Nat → Int64) × (Nat → Nat → Nat) × (Nat → Nat → Int32)) := bd5 (C0_settle a LW c_count c_pages c_bits c_words c_entries c_heads c_firsts c_levelOf c_aboveOf c_partings) fun c_heads_47 c_firsts_47 c_levelOf_47 c_aboveOf_47 c_partings_47 => some (c_heads_47, c_firsts_47, c_levelOf_47, c_aboveOf_47, c_partings_47, c_signs, c_count, c_pages, c_levels, c_bits, c_words, c_entries)
def C0_insert (a : Nat → Nat) (LW LK : List Nat) (c_most c_page c_place : Nat → Int32) (c_heads c_firsts c_levelOf c_aboveOf c_partings c_signs c_count c_pages c_levels : Nat → Int32) (c_bits : Nat → Nat → Int64) (c_words : Nat → Nat → Nat) (c_entries : Nat → Nat → Int32) (v1 : Nat) : Option ((Nat → Int32) × (Nat → Int32) × (Nat → Int32) × (Nat → Int32) × (Nat → Int32) × (Nat → Int32) × (Nat → Int32) × (Nat → Int32) × (Nat → Int32) × (Nat → Nat → Int64) × (Nat → Nat → Nat) × (Nat → Nat → Int32)) := bd1 (C0_rank a LK c_heads c_pages c_page c_place) fun r5 => bd4 (C3_insertWord LW c_signs c_count c_bits c_words (a 14) r5 v1) fun c_signs_9 c_count_9 c_bits_9 c_words_9 => if (c_pages (a 14)) = 0 then (bd2 (C3_insertPage c_pages c_entries (a 14) 0 1) fun c_pages_28 c_entries_28 => C0_insert_J46 a LW LK c_most c_page c_place v1 c_heads c_firsts c_levelOf c_aboveOf c_partings c_signs_9 c_count_9 c_pages_28 (va_up c_levels (a 14) 1) c_bits_9 c_words_9 c_entries_28) else (bd3 (C0_growUpwards a LK c_most c_page c_pages c_levels c_entries) fun c_pages_43 c_levels_43 c_entries_43 => C0_insert_J46 a LW LK c_most c_page c_place v1 c_heads c_firsts c_levelOf c_aboveOf c_partings c_signs_9 c_count_9 c_pages_43 c_levels_43 c_bits_9 c_words_9 c_entries_43)
set_option maxRecDepth 100000 in
set_option maxHeartbeats 4000000 in
theorem t_C0_insert_J46 {p : Program} {l : Launch} {e : Env} {s : State} {m : MethodId} {args : Array Value} {below : List Frame} {meth : Method} {c : Code} {Q : State → Prop} {A : Nat → Prop} {D : va_G} {cI cJ cB cL cS cW : ClassId} {a wb sw se : Nat → Nat} {LW LS LK : List Nat} {c_bytes c_most c_page c_known c_guess c_diff c_pieces c_place : Nat → Int32} {c_bads c_noes c_fulls c_length c_next c_kept c_base c_from c_to c_above c_bit c_lastLeft : Int32} {v1 : Nat} {o_heads : Nat → Int32} {o_firsts : Nat → Int32} {o_levelOf : Nat → Int32} {o_aboveOf : Nat → Int32} {o_partings : Nat → Int32} {o_signs : Nat → Int32} {o_count : Nat → Int32} {o_pages : Nat → Int32} {o_levels : Nat → Int32} {o_bits : Nat → Nat → Int64} {o_words : Nat → Nat → Nat} {o_entries : Nat → Nat → Int32} (C : k_C p s m args meth c cX0_insert 2 none RX0 wsX0_insert D (kT cI cJ cB cL cS cW) A) (hD : va_D A (WC0 a wb sw se LW LS LK cI cJ cB cL cS cW)) (hG : kG a LW LS LK) (hv1 : v1 ∈ LW) (hret : ∀ (H : Heap) (locs : List Loc) (pc : Nat) (ls : Array Slot), decode cX0_insert pc = .ok (.return_, 1) → va_P D vwCl (WC a wb sw se LW LS LK cI cJ cB cL cS cW c_bytes o_heads o_firsts o_levelOf o_aboveOf o_partings o_signs o_count o_pages o_levels c_most c_page c_known c_guess c_diff c_pieces c_place o_bits o_words o_entries c_bads c_noes c_fulls c_length c_next c_kept c_base c_from c_to c_above c_bit c_lastLeft) H → va_S A s.heap H locs → W p l e { frames := 4, cells := 0, slots := 0, locals := 89 } s m args below meth c H locs 0 0 Q (F0 m pc ls [])) : ∀ (c_heads : (Nat → Int32)) (c_firsts : (Nat → Int32)) (c_levelOf : (Nat → Int32)) (c_aboveOf : (Nat → Int32)) (c_partings : (Nat → Int32)) (c_signs : (Nat → Int32)) (c_count : (Nat → Int32)) (c_pages : (Nat → Int32)) (c_levels : (Nat → Int32)) (c_bits : (Nat → Nat → Int64)) (c_words : (Nat → Nat → Nat)) (c_entries : (Nat → Nat → Int32)) (H : Heap) (locs : List Loc) (ls : Array Slot), va_P D vwCl (WC a wb sw se LW LS LK cI cJ cB cL cS cW c_bytes c_heads c_firsts c_levelOf c_aboveOf c_partings c_signs c_count c_pages c_levels c_most c_page c_known c_guess c_diff c_pieces c_place c_bits c_words c_entries c_bads c_noes c_fulls c_length c_next c_kept c_base c_from c_to c_above c_bit c_lastLeft) H → va_S A s.heap H locs → lv_has ls 2 [(0, .ref (a 3))] → C0_insert_J46 a LW LK c_most c_page c_place v1 c_heads c_firsts c_levelOf c_aboveOf c_partings c_signs c_count c_pages c_levels c_bits c_words c_entries = some (o_heads, o_firsts, o_levelOf, o_aboveOf, o_partings, o_signs, o_count, o_pages, o_levels, o_bits, o_words, o_entries) → W p l e { frames := 4, cells := 0, slots := 0, locals := 89 } s m args below meth c H locs 0 0 Q (F0 m 46 ls []) := by
  obtain ⟨hx, hb, hml, hr, hown, hts, hlocks, hK, hA, hN⟩ := id C
  intro c_heads c_firsts c_levelOf c_aboveOf c_partings c_signs c_count c_pages c_levels c_bits c_words c_entries H locs ls hP hS hl hm
  rw [C0_insert_J46] at hm
  refine lv_aload_n hx hb dX0_insert_46 rfl (lv_at hl 0 rfl) ?_
  obtain ⟨c_heads_47, c_firsts_47, c_levelOf_47, c_aboveOf_47, c_partings_47, hq0, hm⟩ := bd5_some hm
  refine k_callVV (As := []) (rest := []) ⟨hx, hb, hml, hown, hts⟩ hK hA hN (c_X0_settle hG hq0) (cwV 0 hts gX0_insert_X0_settle rfl rfl rfl hdX0_settle ⟨Nat.le_of_ble_eq_true rfl, Nat.le_of_ble_eq_true rfl⟩) hP (WCD hD) hS 3 0 rfl rfl rfl hl.1 rfl rfl (Nat.le_of_ble_eq_true rfl) ⟨Nat.zero_le _, Nat.zero_le _⟩ dX0_insert_47 (fun H locs hP hS => ?_)
  simp only [Option.some.injEq, Prod.mk.injEq] at hm
  obtain ⟨rfl, rfl, rfl, rfl, rfl, rfl, rfl, rfl, rfl, rfl, rfl, rfl⟩ := hm
  exact hret _ _ _ _ dX0_insert_50 hP hS
set_option maxRecDepth 100000 in
set_option maxHeartbeats 4000000 in
theorem c_X0_insert {l : Launch} {D : va_G} {cI cJ cB cL cS cW : ClassId} {a wb sw se : Nat → Nat} {LW LS LK : List Nat} {c_bytes c_heads c_firsts c_levelOf c_aboveOf c_partings c_signs c_count c_pages c_levels c_most c_page c_known c_guess c_diff c_pieces c_place : Nat → Int32} {c_bits : Nat → Nat → Int64} {c_words : Nat → Nat → Nat} {c_entries : Nat → Nat → Int32} {c_bads c_noes c_fulls c_length c_next c_kept c_base c_from c_to c_above c_bit c_lastLeft : Int32} {v1 : Nat} {o_heads : Nat → Int32} {o_firsts : Nat → Int32} {o_levelOf : Nat → Int32} {o_aboveOf : Nat → Int32} {o_partings : Nat → Int32} {o_signs : Nat → Int32} {o_count : Nat → Int32} {o_pages : Nat → Int32} {o_levels : Nat → Int32} {o_bits : Nat → Nat → Int64} {o_words : Nat → Nat → Nat} {o_entries : Nat → Nat → Int32} (hG : kG a LW LS LK) (hv1 : v1 ∈ LW) (hm : C0_insert a LW LK c_most c_page c_place c_heads c_firsts c_levelOf c_aboveOf c_partings c_signs c_count c_pages c_levels c_bits c_words c_entries v1 = some (o_heads, o_firsts, o_levelOf, o_aboveOf, o_partings, o_signs, o_count, o_pages, o_levels, o_bits, o_words, o_entries)) : k_MV l yX0_insert wsX0_insert { frames := 4, cells := 0, slots := 0, locals := 89 } D (kT cI cJ cB cL cS cW) [.ref (a 3), .ref v1] (WC a wb sw se LW LS LK cI cJ cB cL cS cW c_bytes c_heads c_firsts c_levelOf c_aboveOf c_partings c_signs c_count c_pages c_levels c_most c_page c_known c_guess c_diff c_pieces c_place c_bits c_words c_entries c_bads c_noes c_fulls c_length c_next c_kept c_base c_from c_to c_above c_bit c_lastLeft) (WC a wb sw se LW LS LK cI cJ cB cL cS cW c_bytes o_heads o_firsts o_levelOf o_aboveOf o_partings o_signs o_count o_pages o_levels c_most c_page c_known c_guess c_diff c_pieces c_place o_bits o_words o_entries c_bads c_noes c_fulls c_length c_next c_kept c_base c_from c_to c_above c_bit c_lastLeft) := by
  refine k_ofV (cc := cX0_insert) (maxL := 2) (own := RX0) (by decide) rfl rfl (Nat.le_of_ble_eq_true rfl) ?_
  intro p e s m args below meth c A Q ls C hP hD hl hret
  have hD : va_D A (WC0 a wb sw se LW LS LK cI cJ cB cL cS cW) := WCD hD
  have hS : va_S A s.heap s.heap [] := va_S.rf
  have hl : lv_has ls 2 [(0, .ref (a 3)), (1, .ref v1)] := hl
  obtain ⟨hx, hb, hml, hr, hown, hts, hlocks, hK, hA, hN⟩ := id C
  rw [C0_insert] at hm
  refine lv_aload_n hx hb dX0_insert_0 rfl (lv_at hl 0 rfl) ?_
  refine kg (v := .ref (a 14)) hx hb hts hiX0_insert_X0 hown hK hP 3 rfl rfl 0 (by decide) flX0_insert_12 rfl rfl dX0_insert_1 ?_
  refine lv_aload_n hx hb dX0_insert_4 rfl (lv_at hl 0 rfl) ?_
  obtain ⟨r5, hq0, hm⟩ := bd1_some hm
  refine k_callVI (As := []) (rest := [.ref (a 14)]) ⟨hx, hb, hml, hown, hts⟩ hK hA hN (c_X0_rank hG hq0) (cwV 0 hts gX0_insert_X0_rank rfl rfl rfl hdX0_rank ⟨Nat.le_of_ble_eq_true rfl, Nat.le_of_ble_eq_true rfl⟩) hP (WCD hD) hS 3 0 rfl rfl rfl hl.1 rfl rfl (Nat.le_of_ble_eq_true rfl) ⟨Nat.zero_le _, Nat.zero_le _⟩ dX0_insert_5 (fun H locs hP hS => ?_)
  refine lv_aload_n hx hb dX0_insert_8 rfl (lv_at hl 1 rfl) ?_
  obtain ⟨c_signs_9, c_count_9, c_bits_9, c_words_9, hq0, hm⟩ := bd4_some hm
  obtain ⟨q, hq, -⟩ := WC_S hG hG.2.2.2.2.1
  refine k_callVV (As := [.int r5, .ref v1]) (rest := []) ⟨hx, hb, hml, hown, hts⟩ hK hA hN (c_X3_insertWord hG hG.2.2.2.2.1 hv1 hq0) (cwV 2 hts gX0_insert_X3_insertWord rfl rfl rfl hdX3_insertWord ⟨Nat.le_of_ble_eq_true rfl, Nat.le_of_ble_eq_true rfl⟩) hP (WCD hD) hS q 3 hq rfl rfl hl.1 rfl rfl (Nat.le_of_ble_eq_true rfl) ⟨Nat.zero_le _, Nat.zero_le _⟩ dX0_insert_9 (fun H locs hP hS => ?_)
  refine lv_aload_n hx hb dX0_insert_12 rfl (lv_at hl 0 rfl) ?_
  refine kg (v := .ref (a 14)) hx hb hts hiX0_insert_X0 hown hK hP 3 rfl rfl 0 (by decide) flX0_insert_12 rfl rfl dX0_insert_13 ?_
  obtain ⟨q, hq, -⟩ := WC_S hG hG.2.2.2.2.1
  refine kg (v := .int (c_pages (a 14))) hx hb hts hiX0_insert_X3 hown hK hP q hq rfl 3 (by decide) flX0_insert_45 rfl rfl dX0_insert_16 ?_
  refine lv_if_ne (tgt := 42) hx hb dX0_insert_19 (by decide) (fun hc => ?_) (fun hc => ?_)
  · have hm := if_f hc hm
    refine lv_aload_n hx hb dX0_insert_42 rfl (lv_at hl 0 rfl) ?_
    obtain ⟨c_pages_43, c_levels_43, c_entries_43, hq0, hm⟩ := bd3_some hm
    refine k_callVV (As := []) (rest := []) ⟨hx, hb, hml, hown, hts⟩ hK hA hN (c_X0_growUpwards hG hq0) (cwV 0 hts gX0_insert_X0_growUpwards rfl rfl rfl hdX0_growUpwards ⟨Nat.le_of_ble_eq_true rfl, Nat.le_of_ble_eq_true rfl⟩) hP (WCD hD) hS 3 0 rfl rfl rfl hl.1 rfl rfl (Nat.le_of_ble_eq_true rfl) ⟨Nat.zero_le _, Nat.zero_le _⟩ dX0_insert_43 (fun H locs hP hS => ?_)
    exact t_C0_insert_J46 C hD hG hv1 hret _ _ _ _ _ _ _ _ _ _ _ _ _ _ _ hP hS (lv_sub hl [0] rfl) hm
  · have hm := if_t hc hm
    refine lv_aload_n hx hb dX0_insert_22 rfl (lv_at hl 0 rfl) ?_
    refine kg (v := .ref (a 14)) hx hb hts hiX0_insert_X0 hown hK hP 3 rfl rfl 0 (by decide) flX0_insert_12 rfl rfl dX0_insert_23 ?_
    refine lv_iconst (v := 0) hx hb dX0_insert_26 (by decide) ?_
    refine lv_iconst (v := 1) hx hb dX0_insert_27 (by decide) ?_
    obtain ⟨c_pages_28, c_entries_28, hq0, hm⟩ := bd2_some hm
    obtain ⟨q, hq, -⟩ := WC_S hG hG.2.2.2.2.1
    refine k_callVV (As := [.int 0, .int 1]) (rest := []) ⟨hx, hb, hml, hown, hts⟩ hK hA hN (c_X3_insertPage hG hG.2.2.2.2.1 hq0) (cwV 2 hts gX0_insert_X3_insertPage rfl rfl rfl hdX3_insertPage ⟨Nat.le_of_ble_eq_true rfl, Nat.le_of_ble_eq_true rfl⟩) hP (WCD hD) hS q 3 hq rfl rfl hl.1 rfl rfl (Nat.le_of_ble_eq_true rfl) ⟨Nat.zero_le _, Nat.zero_le _⟩ dX0_insert_28 (fun H locs hP hS => ?_)
    refine lv_aload_n hx hb dX0_insert_31 rfl (lv_at hl 0 rfl) ?_
    refine kg (v := .ref (a 14)) hx hb hts hiX0_insert_X0 hown hK hP 3 rfl rfl 0 (by decide) flX0_insert_12 rfl rfl dX0_insert_32 ?_
    refine lv_iconst (v := 1) hx hb dX0_insert_35 (by decide) ?_
    obtain ⟨q, hq, he⟩ := WC_S hG hG.2.2.2.2.1
    refine kp hx hb hts hiX0_insert_X3 tyX3 tyX3_ok nmX3 hown hK hP (WCD hD) hS q hq rfl 4 (by decide) flX0_insert_134 rfl rfl rfl (Nat.le_of_ble_eq_true rfl) dX0_insert_36 (fun H locs hP hS => ?_)
    have hP : va_P D vwCl (WC a wb sw se LW LS LK cI cJ cB cL cS cW c_bytes c_heads c_firsts c_levelOf c_aboveOf c_partings c_signs_9 c_count_9 c_pages_28 (va_up c_levels (a 14) 1) c_most c_page c_known c_guess c_diff c_pieces c_place c_bits_9 c_words_9 c_entries_28 c_bads c_noes c_fulls c_length c_next c_kept c_base c_from c_to c_above c_bit c_lastLeft) H := by rw [← he.2.2.1]; exact hP
    refine lv_goto (tgt := 46) hx hb dX0_insert_39 (by decide) ?_
    exact t_C0_insert_J46 C hD hG hv1 hret _ _ _ _ _ _ _ _ _ _ _ _ _ _ _ hP hS (lv_sub hl [0] rfl) hm
theorem hdX7_add : yX7_add.cls = RX7 ∧ yX7_add.cls ≠ "java/lang/invoke/MethodHandle" ∧ yX7_add.cls ≠ "java/lang/invoke/VarHandle" ∧ (parseMethodDescriptor yX7_add.desc).map (fun d => d.parameters.length) = some 0 := by decide +kernel
theorem hiX7_add_X7 : ∀ w ∈ u_ws RX7 TX7 8, w ∈ wsX7_add := by decide +kernel
theorem hiX7_add_X0 : ∀ w ∈ u_ws RX0 TX0 7, w ∈ wsX7_add := by decide +kernel
theorem hiX7_add_X3 : ∀ w ∈ u_ws RX3 TX3 6, w ∈ wsX7_add := by decide +kernel
theorem flX7_add_10 : Cond.fieldLink RX7 10 "BlindPages" "text" "LBlindPages$Text;" ∈ wsX7_add := by decide +kernel
theorem flX7_add_19 : Cond.fieldLink RX7 19 "BlindPages" "word" "LBlindPages$Word;" ∈ wsX7_add := by decide +kernel
theorem flX7_add_26 : Cond.fieldLink RX7 26 "BlindPages" "index" "LBlindPages$Index;" ∈ wsX7_add := by decide +kernel
theorem flX7_add_68 : Cond.fieldLink RX7 68 "BlindPages$Index" "now" "LBlindPages$State;" ∈ wsX7_add := by decide +kernel
theorem flX7_add_72 : Cond.fieldLink RX7 72 "BlindPages$State" "count" "I" ∈ wsX7_add := by decide +kernel
theorem flX7_add_33 : Cond.fieldLink RX7 33 "BlindPages" "past" "LBlindPages$Past;" ∈ wsX7_add := by decide +kernel
def C7_add (a : Nat → Nat) (LW LS LK : List Nat) (c_bytes : Nat → Int32) (c_length : Int32) (c_heads c_firsts c_levelOf c_aboveOf c_partings c_signs c_count c_pages c_levels c_most c_page c_known c_guess c_diff c_pieces c_place : Nat → Int32) (c_bits : Nat → Nat → Int64) (c_words : Nat → Nat → Nat) (c_entries : Nat → Nat → Int32) (c_bads c_noes c_fulls c_next c_kept c_base c_from c_to c_above c_bit c_lastLeft : Int32) : Option (Int32 × (Nat → Int32) × (Nat → Int32) × (Nat → Int32) × (Nat → Int32) × (Nat → Int32) × (Nat → Int32) × (Nat → Int32) × (Nat → Int32) × (Nat → Int32) × (Nat → Int32) × (Nat → Int32) × (Nat → Int32) × (Nat → Int32) × (Nat → Int32) × (Nat → Int32) × (Nat → Int32) × (Nat → Nat → Int64) × (Nat → Nat → Nat) × (Nat → Nat → Int32) × Int32 × Int32 × Int32 × Int32 × Int32 × Int32 × Int32 × Int32 × Int32 × Int32 × Int32) := bd3 (C4_readWord c_bytes c_length c_signs c_bits (a 13)) fun r8 c_signs_8 c_bits_8 => if r8 = 0 then (bd4 (C7_refuse c_bads c_noes c_fulls (-3)) fun r17 c_bads_17 c_noes_17 c_fulls_17 => some (r17, c_heads, c_firsts, c_levelOf, c_aboveOf, c_partings, c_signs_8, c_count, c_pages, c_levels, c_most, c_page, c_known, c_guess, c_diff, c_pieces, c_place, c_bits_8, c_words, c_entries, c_bads_17, c_noes_17, c_fulls_17, c_next, c_kept, c_base, c_from, c_to, c_above, c_bit, c_lastLeft)) else (bd12 (C0_walk a LW LK c_heads c_firsts c_partings c_signs_8 c_pages c_levels c_bits_8 c_words c_entries c_page c_known c_guess c_diff c_pieces c_place c_base c_from c_to c_above c_bit c_lastLeft (a 13)) fun c_page_29 c_known_29 c_guess_29 c_diff_29 c_pieces_29 c_place_29 c_base_29 c_from_29 c_to_29 c_above_29 c_bit_29 c_lastLeft_29 => bd1 (C0_isThere a LK c_pages c_diff_29) fun r36 => if r36 = 0 then (if (c_count (a 14)) < 48 then (bd1 (C0_rank a LK c_heads c_pages c_page_29 c_place_29) fun r75 => bd9 (C2_keep a LW LS c_words c_signs_8 c_count c_pages c_levels c_most c_bits_8 c_entries c_next c_kept (a 14)) fun c_signs_90 c_count_90 c_pages_90 c_levels_90 c_most_90 c_bits_90 c_entries_90 c_next_90 c_kept_90 => bd12 (C0_insert a LW LK c_most_90 c_page_29 c_place_29 c_heads c_firsts c_levelOf c_aboveOf c_partings c_signs_90 c_count_90 c_pages_90 c_levels_90 c_bits_90 c_words c_entries_90 (a 13)) fun c_heads_101 c_firsts_101 c_levelOf_101 c_aboveOf_101 c_partings_101 c_signs_101 c_count_101 c_pages_101 c_levels_101 c_bits_101 c_words_101 c_entries_101 => some (r75, c_heads_101, c_firsts_101, c_levelOf_101, c_aboveOf_101, c_partings_101, c_signs_101, c_count_101, c_pages_101, c_levels_101, c_most_90, c_page_29, c_known_29, c_guess_29, c_diff_29, c_pieces_29, c_place_29, c_bits_101, c_words_101, c_entries_101, c_bads, c_noes, c_fulls, c_next_90, c_kept_90, c_base_29, c_from_29, c_to_29, c_above_29, c_bit_29, c_lastLeft_29)) else (bd4 (C7_refuse c_bads c_noes c_fulls (-4)) fun r67 c_bads_67 c_noes_67 c_fulls_67 => some (r67, c_heads, c_firsts, c_levelOf, c_aboveOf, c_partings, c_signs_8, c_count, c_pages, c_levels, c_most, c_page_29, c_known_29, c_guess_29, c_diff_29, c_pieces_29, c_place_29, c_bits_8, c_words, c_entries, c_bads_67, c_noes_67, c_fulls_67, c_next, c_kept, c_base_29, c_from_29, c_to_29, c_above_29, c_bit_29, c_lastLeft_29))) else (bd4 (C7_refuse c_bads c_noes c_fulls (-3)) fun r45 c_bads_45 c_noes_45 c_fulls_45 => some (r45, c_heads, c_firsts, c_levelOf, c_aboveOf, c_partings, c_signs_8, c_count, c_pages, c_levels, c_most, c_page_29, c_known_29, c_guess_29, c_diff_29, c_pieces_29, c_place_29, c_bits_8, c_words, c_entries, c_bads_45, c_noes_45, c_fulls_45, c_next, c_kept, c_base_29, c_from_29, c_to_29, c_above_29, c_bit_29, c_lastLeft_29)))
set_option maxRecDepth 100000 in
set_option maxHeartbeats 4000000 in
theorem c_X7_add {l : Launch} {D : va_G} {cI cJ cB cL cS cW : ClassId} {a wb sw se : Nat → Nat} {LW LS LK : List Nat} {c_bytes c_heads c_firsts c_levelOf c_aboveOf c_partings c_signs c_count c_pages c_levels c_most c_page c_known c_guess c_diff c_pieces c_place : Nat → Int32} {c_bits : Nat → Nat → Int64} {c_words : Nat → Nat → Nat} {c_entries : Nat → Nat → Int32} {c_bads c_noes c_fulls c_length c_next c_kept c_base c_from c_to c_above c_bit c_lastLeft : Int32} {r : Int32} {o_heads : Nat → Int32} {o_firsts : Nat → Int32} {o_levelOf : Nat → Int32} {o_aboveOf : Nat → Int32} {o_partings : Nat → Int32} {o_signs : Nat → Int32} {o_count : Nat → Int32} {o_pages : Nat → Int32} {o_levels : Nat → Int32} {o_most : Nat → Int32} {o_page : Nat → Int32} {o_known : Nat → Int32} {o_guess : Nat → Int32} {o_diff : Nat → Int32} {o_pieces : Nat → Int32} {o_place : Nat → Int32} {o_bits : Nat → Nat → Int64} {o_words : Nat → Nat → Nat} {o_entries : Nat → Nat → Int32} {o_bads : Int32} {o_noes : Int32} {o_fulls : Int32} {o_next : Int32} {o_kept : Int32} {o_base : Int32} {o_from : Int32} {o_to : Int32} {o_above : Int32} {o_bit : Int32} {o_lastLeft : Int32} (hG : kG a LW LS LK) (hm : C7_add a LW LS LK c_bytes c_length c_heads c_firsts c_levelOf c_aboveOf c_partings c_signs c_count c_pages c_levels c_most c_page c_known c_guess c_diff c_pieces c_place c_bits c_words c_entries c_bads c_noes c_fulls c_next c_kept c_base c_from c_to c_above c_bit c_lastLeft = some (r, o_heads, o_firsts, o_levelOf, o_aboveOf, o_partings, o_signs, o_count, o_pages, o_levels, o_most, o_page, o_known, o_guess, o_diff, o_pieces, o_place, o_bits, o_words, o_entries, o_bads, o_noes, o_fulls, o_next, o_kept, o_base, o_from, o_to, o_above, o_bit, o_lastLeft)) : k_MI l yX7_add wsX7_add { frames := 5, cells := 0, slots := 0, locals := 119 } D (kT cI cJ cB cL cS cW) [.ref (a 0)] (WC a wb sw se LW LS LK cI cJ cB cL cS cW c_bytes c_heads c_firsts c_levelOf c_aboveOf c_partings c_signs c_count c_pages c_levels c_most c_page c_known c_guess c_diff c_pieces c_place c_bits c_words c_entries c_bads c_noes c_fulls c_length c_next c_kept c_base c_from c_to c_above c_bit c_lastLeft) r (WC a wb sw se LW LS LK cI cJ cB cL cS cW c_bytes o_heads o_firsts o_levelOf o_aboveOf o_partings o_signs o_count o_pages o_levels o_most o_page o_known o_guess o_diff o_pieces o_place o_bits o_words o_entries o_bads o_noes o_fulls c_length o_next o_kept o_base o_from o_to o_above o_bit o_lastLeft) := by
  refine k_ofI (cc := cX7_add) (maxL := 2) (own := RX7) (by decide) rfl rfl (Nat.le_of_ble_eq_true rfl) ?_
  intro p e s m args below meth c A Q ls C hP hD hl hret
  have hD : va_D A (WC0 a wb sw se LW LS LK cI cJ cB cL cS cW) := WCD hD
  have hS : va_S A s.heap s.heap [] := va_S.rf
  have hl : lv_has ls 2 [(0, .ref (a 0))] := hl
  obtain ⟨hx, hb, hml, hr, hown, hts, hlocks, hK, hA, hN⟩ := id C
  rw [C7_add] at hm
  refine lv_aload_n hx hb dX7_add_0 rfl (lv_at hl 0 rfl) ?_
  refine kg (v := .ref (a 1)) hx hb hts hiX7_add_X7 hown hK hP 0 rfl rfl 0 (by decide) flX7_add_10 rfl rfl dX7_add_1 ?_
  refine lv_aload_n hx hb dX7_add_4 rfl (lv_at hl 0 rfl) ?_
  refine kg (v := .ref (a 13)) hx hb hts hiX7_add_X7 hown hK hP 0 rfl rfl 1 (by decide) flX7_add_19 rfl rfl dX7_add_5 ?_
  obtain ⟨r8, c_signs_8, c_bits_8, hq0, hm⟩ := bd3_some hm
  refine k_callVI (As := [.ref (a 13)]) (rest := []) ⟨hx, hb, hml, hown, hts⟩ hK hA hN (c_X4_readWord hG hG.2.2.2.1 hq0) (cwV 1 hts gX7_add_X4_readWord rfl rfl rfl hdX4_readWord ⟨Nat.le_of_ble_eq_true rfl, Nat.le_of_ble_eq_true rfl⟩) hP (WCD hD) hS 1 4 rfl rfl rfl hl.1 rfl rfl (Nat.le_of_ble_eq_true rfl) ⟨Nat.zero_le _, Nat.zero_le _⟩ dX7_add_8 (fun H locs hP hS => ?_)
  refine lv_if_ne (tgt := 21) hx hb dX7_add_11 (by decide) (fun hc => ?_) (fun hc => ?_)
  · have hm := if_f hc hm
    refine lv_aload_n hx hb dX7_add_21 rfl (lv_at hl 0 rfl) ?_
    refine kg (v := .ref (a 3)) hx hb hts hiX7_add_X7 hown hK hP 0 rfl rfl 2 (by decide) flX7_add_26 rfl rfl dX7_add_22 ?_
    refine lv_aload_n hx hb dX7_add_25 rfl (lv_at hl 0 rfl) ?_
    refine kg (v := .ref (a 13)) hx hb hts hiX7_add_X7 hown hK hP 0 rfl rfl 1 (by decide) flX7_add_19 rfl rfl dX7_add_26 ?_
    obtain ⟨c_page_29, c_known_29, c_guess_29, c_diff_29, c_pieces_29, c_place_29, c_base_29, c_from_29, c_to_29, c_above_29, c_bit_29, c_lastLeft_29, hq0, hm⟩ := bd12_some hm
    refine k_callVV (As := [.ref (a 13)]) (rest := []) ⟨hx, hb, hml, hown, hts⟩ hK hA hN (c_X0_walk hG hG.2.2.2.1 hq0) (cwV 1 hts gX7_add_X0_walk rfl rfl rfl hdX0_walk ⟨Nat.le_of_ble_eq_true rfl, Nat.le_of_ble_eq_true rfl⟩) hP (WCD hD) hS 3 0 rfl rfl rfl hl.1 rfl rfl (Nat.le_of_ble_eq_true rfl) ⟨Nat.zero_le _, Nat.zero_le _⟩ dX7_add_29 (fun H locs hP hS => ?_)
    refine lv_aload_n hx hb dX7_add_32 rfl (lv_at hl 0 rfl) ?_
    refine kg (v := .ref (a 3)) hx hb hts hiX7_add_X7 hown hK hP 0 rfl rfl 2 (by decide) flX7_add_26 rfl rfl dX7_add_33 ?_
    obtain ⟨r36, hq0, hm⟩ := bd1_some hm
    refine k_callVI (As := []) (rest := []) ⟨hx, hb, hml, hown, hts⟩ hK hA hN (c_X0_isThere hG hq0) (cwV 0 hts gX7_add_X0_isThere rfl rfl rfl hdX0_isThere ⟨Nat.le_of_ble_eq_true rfl, Nat.le_of_ble_eq_true rfl⟩) hP (WCD hD) hS 3 0 rfl rfl rfl hl.1 rfl rfl (Nat.le_of_ble_eq_true rfl) ⟨Nat.zero_le _, Nat.zero_le _⟩ dX7_add_36 (fun H locs hP hS => ?_)
    refine lv_if_eq (tgt := 49) hx hb dX7_add_39 (by decide) (fun hc => ?_) (fun hc => ?_)
    · have hm := if_t hc hm
      refine lv_aload_n hx hb dX7_add_49 rfl (lv_at hl 0 rfl) ?_
      refine kg (v := .ref (a 3)) hx hb hts hiX7_add_X7 hown hK hP 0 rfl rfl 2 (by decide) flX7_add_26 rfl rfl dX7_add_50 ?_
      refine kg (v := .ref (a 14)) hx hb hts hiX7_add_X0 hown hK hP 3 rfl rfl 0 (by decide) flX7_add_68 rfl rfl dX7_add_53 ?_
      obtain ⟨q, hq, -⟩ := WC_S hG hG.2.2.2.2.1
      refine kg (v := .int (c_count (a 14))) hx hb hts hiX7_add_X3 hown hK hP q hq rfl 2 (by decide) flX7_add_72 rfl rfl dX7_add_56 ?_
      refine lv_bipush (v := 48) hx hb dX7_add_59 (by decide) ?_
      refine lv_icmp_lt (tgt := 71) hx hb dX7_add_61 (by decide) (fun hc => ?_) (fun hc => ?_)
      · have hm := if_t hc hm
        refine lv_aload_n hx hb dX7_add_71 rfl (lv_at hl 0 rfl) ?_
        refine kg (v := .ref (a 3)) hx hb hts hiX7_add_X7 hown hK hP 0 rfl rfl 2 (by decide) flX7_add_26 rfl rfl dX7_add_72 ?_
        obtain ⟨r75, hq0, hm⟩ := bd1_some hm
        refine k_callVI (As := []) (rest := []) ⟨hx, hb, hml, hown, hts⟩ hK hA hN (c_X0_rank hG hq0) (cwV 0 hts gX7_add_X0_rank rfl rfl rfl hdX0_rank ⟨Nat.le_of_ble_eq_true rfl, Nat.le_of_ble_eq_true rfl⟩) hP (WCD hD) hS 3 0 rfl rfl rfl hl.1 rfl rfl (Nat.le_of_ble_eq_true rfl) ⟨Nat.zero_le _, Nat.zero_le _⟩ dX7_add_75 (fun H locs hP hS => ?_)
        refine lv_istore_n (lv' := [(1, .int r75), (0, .ref (a 0))]) hx hb dX7_add_78 rfl hl (by decide) rfl (fun ls hl => ?_)
        refine lv_aload_n hx hb dX7_add_79 rfl (lv_at hl 1 rfl) ?_
        refine kg (v := .ref (a 11)) hx hb hts hiX7_add_X7 hown hK hP 0 rfl rfl 3 (by decide) flX7_add_33 rfl rfl dX7_add_80 ?_
        refine lv_aload_n hx hb dX7_add_83 rfl (lv_at hl 1 rfl) ?_
        refine kg (v := .ref (a 3)) hx hb hts hiX7_add_X7 hown hK hP 0 rfl rfl 2 (by decide) flX7_add_26 rfl rfl dX7_add_84 ?_
        refine kg (v := .ref (a 14)) hx hb hts hiX7_add_X0 hown hK hP 3 rfl rfl 0 (by decide) flX7_add_68 rfl rfl dX7_add_87 ?_
        obtain ⟨c_signs_90, c_count_90, c_pages_90, c_levels_90, c_most_90, c_bits_90, c_entries_90, c_next_90, c_kept_90, hq0, hm⟩ := bd9_some hm
        refine k_callVV (As := [.ref (a 14)]) (rest := []) ⟨hx, hb, hml, hown, hts⟩ hK hA hN (c_X2_keep hG hG.2.2.2.2.1 hq0) (cwV 1 hts gX7_add_X2_keep rfl rfl rfl hdX2_keep ⟨Nat.le_of_ble_eq_true rfl, Nat.le_of_ble_eq_true rfl⟩) hP (WCD hD) hS 11 2 rfl rfl rfl hl.1 rfl rfl (Nat.le_of_ble_eq_true rfl) ⟨Nat.zero_le _, Nat.zero_le _⟩ dX7_add_90 (fun H locs hP hS => ?_)
        refine lv_aload_n hx hb dX7_add_93 rfl (lv_at hl 1 rfl) ?_
        refine kg (v := .ref (a 3)) hx hb hts hiX7_add_X7 hown hK hP 0 rfl rfl 2 (by decide) flX7_add_26 rfl rfl dX7_add_94 ?_
        refine lv_aload_n hx hb dX7_add_97 rfl (lv_at hl 1 rfl) ?_
        refine kg (v := .ref (a 13)) hx hb hts hiX7_add_X7 hown hK hP 0 rfl rfl 1 (by decide) flX7_add_19 rfl rfl dX7_add_98 ?_
        obtain ⟨c_heads_101, c_firsts_101, c_levelOf_101, c_aboveOf_101, c_partings_101, c_signs_101, c_count_101, c_pages_101, c_levels_101, c_bits_101, c_words_101, c_entries_101, hq0, hm⟩ := bd12_some hm
        refine k_callVV (As := [.ref (a 13)]) (rest := []) ⟨hx, hb, hml, hown, hts⟩ hK hA hN (c_X0_insert hG hG.2.2.2.1 hq0) (cwV 1 hts gX7_add_X0_insert rfl rfl rfl hdX0_insert ⟨Nat.le_of_ble_eq_true rfl, Nat.le_of_ble_eq_true rfl⟩) hP (WCD hD) hS 3 0 rfl rfl rfl hl.1 rfl rfl (Nat.le_of_ble_eq_true rfl) ⟨Nat.zero_le _, Nat.zero_le _⟩ dX7_add_101 (fun H locs hP hS => ?_)
        refine lv_iload_n hx hb dX7_add_104 rfl (lv_at hl 0 rfl) ?_
        simp only [Option.some.injEq, Prod.mk.injEq] at hm
        obtain ⟨rfl, rfl, rfl, rfl, rfl, rfl, rfl, rfl, rfl, rfl, rfl, rfl, rfl, rfl, rfl, rfl, rfl, rfl, rfl, rfl, rfl, rfl, rfl, rfl, rfl, rfl, rfl, rfl, rfl, rfl, rfl⟩ := hm
        exact hret _ _ _ _ dX7_add_105 hP hS
      · have hm := if_f hc hm
        refine lv_aload_n hx hb dX7_add_64 rfl (lv_at hl 0 rfl) ?_
        refine lv_bipush (v := (-4)) hx hb dX7_add_65 (by decide) ?_
        obtain ⟨r67, c_bads_67, c_noes_67, c_fulls_67, hq0, hm⟩ := bd4_some hm
        refine k_callVI (As := [.int (-4)]) (rest := []) ⟨hx, hb, hml, hown, hts⟩ hK hA hN (c_X7_refuse hG hq0) (cwV 1 hts gX7_add_X7_refuse rfl rfl rfl hdX7_refuse ⟨Nat.le_of_ble_eq_true rfl, Nat.le_of_ble_eq_true rfl⟩) hP (WCD hD) hS 0 7 rfl rfl rfl hl.1 rfl rfl (Nat.le_of_ble_eq_true rfl) ⟨Nat.zero_le _, Nat.zero_le _⟩ dX7_add_67 (fun H locs hP hS => ?_)
        simp only [Option.some.injEq, Prod.mk.injEq] at hm
        obtain ⟨rfl, rfl, rfl, rfl, rfl, rfl, rfl, rfl, rfl, rfl, rfl, rfl, rfl, rfl, rfl, rfl, rfl, rfl, rfl, rfl, rfl, rfl, rfl, rfl, rfl, rfl, rfl, rfl, rfl, rfl, rfl⟩ := hm
        exact hret _ _ _ _ dX7_add_70 hP hS
    · have hm := if_f hc hm
      refine lv_aload_n hx hb dX7_add_42 rfl (lv_at hl 0 rfl) ?_
      refine lv_bipush (v := (-3)) hx hb dX7_add_43 (by decide) ?_
      obtain ⟨r45, c_bads_45, c_noes_45, c_fulls_45, hq0, hm⟩ := bd4_some hm
      refine k_callVI (As := [.int (-3)]) (rest := []) ⟨hx, hb, hml, hown, hts⟩ hK hA hN (c_X7_refuse hG hq0) (cwV 1 hts gX7_add_X7_refuse rfl rfl rfl hdX7_refuse ⟨Nat.le_of_ble_eq_true rfl, Nat.le_of_ble_eq_true rfl⟩) hP (WCD hD) hS 0 7 rfl rfl rfl hl.1 rfl rfl (Nat.le_of_ble_eq_true rfl) ⟨Nat.zero_le _, Nat.zero_le _⟩ dX7_add_45 (fun H locs hP hS => ?_)
      simp only [Option.some.injEq, Prod.mk.injEq] at hm
      obtain ⟨rfl, rfl, rfl, rfl, rfl, rfl, rfl, rfl, rfl, rfl, rfl, rfl, rfl, rfl, rfl, rfl, rfl, rfl, rfl, rfl, rfl, rfl, rfl, rfl, rfl, rfl, rfl, rfl, rfl, rfl, rfl⟩ := hm
      exact hret _ _ _ _ dX7_add_48 hP hS
  · have hm := if_t hc hm
    refine lv_aload_n hx hb dX7_add_14 rfl (lv_at hl 0 rfl) ?_
    refine lv_bipush (v := (-3)) hx hb dX7_add_15 (by decide) ?_
    obtain ⟨r17, c_bads_17, c_noes_17, c_fulls_17, hq0, hm⟩ := bd4_some hm
    refine k_callVI (As := [.int (-3)]) (rest := []) ⟨hx, hb, hml, hown, hts⟩ hK hA hN (c_X7_refuse hG hq0) (cwV 1 hts gX7_add_X7_refuse rfl rfl rfl hdX7_refuse ⟨Nat.le_of_ble_eq_true rfl, Nat.le_of_ble_eq_true rfl⟩) hP (WCD hD) hS 0 7 rfl rfl rfl hl.1 rfl rfl (Nat.le_of_ble_eq_true rfl) ⟨Nat.zero_le _, Nat.zero_le _⟩ dX7_add_17 (fun H locs hP hS => ?_)
    simp only [Option.some.injEq, Prod.mk.injEq] at hm
    obtain ⟨rfl, rfl, rfl, rfl, rfl, rfl, rfl, rfl, rfl, rfl, rfl, rfl, rfl, rfl, rfl, rfl, rfl, rfl, rfl, rfl, rfl, rfl, rfl, rfl, rfl, rfl, rfl, rfl, rfl, rfl, rfl⟩ := hm
    exact hret _ _ _ _ dX7_add_20 hP hS
theorem hdX3_removeWord : yX3_removeWord.cls = RX3 ∧ yX3_removeWord.cls ≠ "java/lang/invoke/MethodHandle" ∧ yX3_removeWord.cls ≠ "java/lang/invoke/VarHandle" ∧ (parseMethodDescriptor yX3_removeWord.desc).map (fun d => d.parameters.length) = some 1 := by decide +kernel
theorem hiX3_removeWord_X3 : ∀ w ∈ u_ws RX3 TX3 6, w ∈ wsX3_removeWord := by decide +kernel
theorem flX3_removeWord_26 : Cond.fieldLink RX3 26 "BlindPages$State" "count" "I" ∈ wsX3_removeWord := by decide +kernel
theorem flX3_removeWord_11 : Cond.fieldLink RX3 11 "BlindPages$State" "words" "[LBlindPages$Word;" ∈ wsX3_removeWord := by decide +kernel
def C3_removeWord_L34 (LW : List Nat) (v0 : Nat) (v1 : Int32) (k64 : (Nat → Int32) → (Nat → Nat → Nat) → Nat → Option ((Nat → Int32) × (Nat → Nat → Nat))) : Nat → (Nat → Int32) → (Nat → Nat → Nat) → Nat → Int32 → Option ((Nat → Int32) × (Nat → Nat → Nat))
  | 0, _, _, _, _ => none
  | n + 1, c_count, c_words, v2, v3 => if ((c_count v0) - 1) ≤ v3 then (k64 c_count c_words v2) else (ga (v3 + 1) 48 (gm LW (c_words v0 (v3 + 1).toNatClampNeg) (ga v3 48 (C3_removeWord_L34 LW v0 v1 k64 n c_count (va_up c_words v0 (va_up (c_words v0) v3.toNatClampNeg (c_words v0 (v3 + 1).toNatClampNeg))) v2 (v3 + 1)))))
def C3_removeWord (LW : List Nat) (c_count : Nat → Int32) (c_words : Nat → Nat → Nat) (v0 : Nat) (v1 : Int32) : Option ((Nat → Int32) × (Nat → Nat → Nat)) := if v1 < 0 then (some (c_count, c_words)) else (if (c_count v0) ≤ v1 then (some (c_count, c_words)) else (if (c_count v0) ≤ 48 then (ga v1 48 (gm LW (c_words v0 v1.toNatClampNeg) (C3_removeWord_L34 LW v0 v1 (fun c_count c_words v2 => ga ((c_count v0) - 1) 48 (some ((va_up c_count v0 ((c_count v0) - 1)), (va_up c_words v0 (va_up (c_words v0) ((c_count v0) - 1).toNatClampNeg v2))))) FU c_count c_words (c_words v0 v1.toNatClampNeg) v1))) else (some (c_count, c_words))))
set_option maxRecDepth 100000 in
set_option maxHeartbeats 4000000 in
theorem t_C3_removeWord_L34 {p : Program} {l : Launch} {e : Env} {s : State} {m : MethodId} {args : Array Value} {below : List Frame} {meth : Method} {c : Code} {Q : State → Prop} {A : Nat → Prop} {D : va_G} {cI cJ cB cL cS cW : ClassId} {a wb sw se : Nat → Nat} {LW LS LK : List Nat} {c_bytes c_heads c_firsts c_levelOf c_aboveOf c_partings c_signs c_pages c_levels c_most c_page c_known c_guess c_diff c_pieces c_place : Nat → Int32} {c_bits : Nat → Nat → Int64} {c_entries : Nat → Nat → Int32} {c_bads c_noes c_fulls c_length c_next c_kept c_base c_from c_to c_above c_bit c_lastLeft : Int32} {v0 : Nat} {v1 : Int32} {o_count : Nat → Int32} {o_words : Nat → Nat → Nat} (C : k_C p s m args meth c cX3_removeWord 4 none RX3 wsX3_removeWord D (kT cI cJ cB cL cS cW) A) (hD : va_D A (WC0 a wb sw se LW LS LK cI cJ cB cL cS cW)) (hG : kG a LW LS LK) (hv0 : v0 ∈ LS) (hret : ∀ (H : Heap) (locs : List Loc) (pc : Nat) (ls : Array Slot), decode cX3_removeWord pc = .ok (.return_, 1) → va_P D vwCl (WC a wb sw se LW LS LK cI cJ cB cL cS cW c_bytes c_heads c_firsts c_levelOf c_aboveOf c_partings c_signs o_count c_pages c_levels c_most c_page c_known c_guess c_diff c_pieces c_place c_bits o_words c_entries c_bads c_noes c_fulls c_length c_next c_kept c_base c_from c_to c_above c_bit c_lastLeft) H → va_S A s.heap H locs → W p l e { frames := 0, cells := 0, slots := 0, locals := 0 } s m args below meth c H locs 0 0 Q (F0 m pc ls [])) {k64 : (Nat → Int32) → (Nat → Nat → Nat) → Nat → Option ((Nat → Int32) × (Nat → Nat → Nat))} (hk64 : ∀ (c_count : (Nat → Int32)) (c_words : (Nat → Nat → Nat)) (v2 : Nat) (H : Heap) (locs : List Loc) (ls : Array Slot), va_P D vwCl (WC a wb sw se LW LS LK cI cJ cB cL cS cW c_bytes c_heads c_firsts c_levelOf c_aboveOf c_partings c_signs c_count c_pages c_levels c_most c_page c_known c_guess c_diff c_pieces c_place c_bits c_words c_entries c_bads c_noes c_fulls c_length c_next c_kept c_base c_from c_to c_above c_bit c_lastLeft) H → va_S A s.heap H locs → lv_has ls 4 [(0, .ref v0), (2, .ref v2)] → v2 ∈ LW → k64 c_count c_words v2 = some (o_count, o_words) → W p l e { frames := 0, cells := 0, slots := 0, locals := 0 } s m args below meth c H locs 0 0 Q (F0 m 64 ls [])) : ∀ n : Nat, ∀ (c_count : (Nat → Int32)) (c_words : (Nat → Nat → Nat)) (v2 : Nat) (v3 : Int32) (H : Heap) (locs : List Loc) (ls : Array Slot), va_P D vwCl (WC a wb sw se LW LS LK cI cJ cB cL cS cW c_bytes c_heads c_firsts c_levelOf c_aboveOf c_partings c_signs c_count c_pages c_levels c_most c_page c_known c_guess c_diff c_pieces c_place c_bits c_words c_entries c_bads c_noes c_fulls c_length c_next c_kept c_base c_from c_to c_above c_bit c_lastLeft) H → va_S A s.heap H locs → lv_has ls 4 [(0, .ref v0), (2, .ref v2), (3, .int v3)] → v2 ∈ LW → (C3_removeWord_L34 LW v0 v1 k64 n) c_count c_words v2 v3 = some (o_count, o_words) → W p l e { frames := 0, cells := 0, slots := 0, locals := 0 } s m args below meth c H locs 0 0 Q (F0 m 34 ls []) := by
  obtain ⟨hx, hb, hml, hr, hown, hts, hlocks, hK, hA, hN⟩ := id C
  intro n
  induction n with
  | zero =>
    intro c_count c_words v2 v3 H locs ls hP hS hl hv2 hm
    cases hm
  | succ n ih =>
    intro c_count c_words v2 v3 H locs ls hP hS hl hv2 hm
    rw [C3_removeWord_L34] at hm
    refine lv_iload_n hx hb dX3_removeWord_34 rfl (lv_at hl 2 rfl) ?_
    refine lv_aload_n hx hb dX3_removeWord_35 rfl (lv_at hl 0 rfl) ?_
    obtain ⟨q, hq, -⟩ := WC_S hG hv0
    refine kg (v := .int (c_count v0)) hx hb hts hiX3_removeWord_X3 hown hK hP q hq rfl 2 (by decide) flX3_removeWord_26 rfl rfl dX3_removeWord_36 ?_
    refine lv_iconst (v := 1) hx hb dX3_removeWord_39 (by decide) ?_
    refine lv_isub hx hb dX3_removeWord_40 ?_
    refine lv_icmp_ge (tgt := 64) hx hb dX3_removeWord_41 (by decide) (fun hc => ?_) (fun hc => ?_)
    · have hm := if_t hc hm
      exact hk64 _ _ _ _ _ _ hP hS (lv_sub hl [0, 1] rfl) hv2 hm
    · have hm := if_f hc hm
      refine lv_aload_n hx hb dX3_removeWord_44 rfl (lv_at hl 0 rfl) ?_
      obtain ⟨q, hq, -⟩ := WC_S hG hv0
      refine kg (v := .ref (sw v0)) hx hb hts hiX3_removeWord_X3 hown hK hP q hq rfl 0 (by decide) flX3_removeWord_11 rfl rfl dX3_removeWord_45 ?_
      refine lv_iload_n hx hb dX3_removeWord_48 rfl (lv_at hl 2 rfl) ?_
      refine lv_aload_n hx hb dX3_removeWord_49 rfl (lv_at hl 0 rfl) ?_
      obtain ⟨q, hq, -⟩ := WC_S hG hv0
      refine kg (v := .ref (sw v0)) hx hb hts hiX3_removeWord_X3 hown hK hP q hq rfl 0 (by decide) flX3_removeWord_11 rfl rfl dX3_removeWord_50 ?_
      refine lv_iload_n hx hb dX3_removeWord_53 rfl (lv_at hl 2 rfl) ?_
      refine lv_iconst (v := 1) hx hb dX3_removeWord_54 (by decide) ?_
      refine lv_iadd hx hb dX3_removeWord_55 ?_
      obtain ⟨hi, hm⟩ := ga_some hm
      obtain ⟨hw56, hm⟩ := gm_some hm
      obtain ⟨q, hq, -⟩ := WC_words hG hv0
      refine k_aald hx hb hK hP q 5 hq rfl rfl hi dX3_removeWord_56 ?_
      obtain ⟨hi, hm⟩ := ga_some hm
      obtain ⟨q, hq, he⟩ := WC_words hG hv0
      obtain ⟨qw, hqw, -⟩ := WC_W hG hw56
      refine k_aast hx hb hK hP (WCD hD) hS q 5 qw 6 hq rfl hqw rfl rfl hi dX3_removeWord_57 (fun H locs hP hS => ?_)
      have hP : va_P D vwCl (WC a wb sw se LW LS LK cI cJ cB cL cS cW c_bytes c_heads c_firsts c_levelOf c_aboveOf c_partings c_signs c_count c_pages c_levels c_most c_page c_known c_guess c_diff c_pieces c_place c_bits (va_up c_words v0 (va_up (c_words v0) v3.toNatClampNeg (c_words v0 (v3 + 1).toNatClampNeg))) c_entries c_bads c_noes c_fulls c_length c_next c_kept c_base c_from c_to c_above c_bit c_lastLeft) H := by rw [← he]; exact hP
      refine lv_iinc (v := (v3 + 1)) (lv' := [(3, .int (v3 + 1)), (0, .ref v0), (2, .ref v2)]) hx hb dX3_removeWord_58 hl (k := 2) rfl rfl (by decide) rfl (fun ls hl => ?_)
      refine lv_goto (tgt := 34) hx hb dX3_removeWord_61 (by decide) ?_
      exact ih _ _ _ _ _ _ _ hP hS (lv_sub hl [1, 2, 0] rfl) hv2 hm
set_option maxRecDepth 100000 in
set_option maxHeartbeats 4000000 in
theorem c_X3_removeWord {l : Launch} {D : va_G} {cI cJ cB cL cS cW : ClassId} {a wb sw se : Nat → Nat} {LW LS LK : List Nat} {c_bytes c_heads c_firsts c_levelOf c_aboveOf c_partings c_signs c_count c_pages c_levels c_most c_page c_known c_guess c_diff c_pieces c_place : Nat → Int32} {c_bits : Nat → Nat → Int64} {c_words : Nat → Nat → Nat} {c_entries : Nat → Nat → Int32} {c_bads c_noes c_fulls c_length c_next c_kept c_base c_from c_to c_above c_bit c_lastLeft : Int32} {v0 : Nat} {v1 : Int32} {o_count : Nat → Int32} {o_words : Nat → Nat → Nat} (hG : kG a LW LS LK) (hv0 : v0 ∈ LS) (hm : C3_removeWord LW c_count c_words v0 v1 = some (o_count, o_words)) : k_MV l yX3_removeWord wsX3_removeWord { frames := 0, cells := 0, slots := 0, locals := 0 } D (kT cI cJ cB cL cS cW) [.ref v0, .int v1] (WC a wb sw se LW LS LK cI cJ cB cL cS cW c_bytes c_heads c_firsts c_levelOf c_aboveOf c_partings c_signs c_count c_pages c_levels c_most c_page c_known c_guess c_diff c_pieces c_place c_bits c_words c_entries c_bads c_noes c_fulls c_length c_next c_kept c_base c_from c_to c_above c_bit c_lastLeft) (WC a wb sw se LW LS LK cI cJ cB cL cS cW c_bytes c_heads c_firsts c_levelOf c_aboveOf c_partings c_signs o_count c_pages c_levels c_most c_page c_known c_guess c_diff c_pieces c_place c_bits o_words c_entries c_bads c_noes c_fulls c_length c_next c_kept c_base c_from c_to c_above c_bit c_lastLeft) := by
  refine k_ofV (cc := cX3_removeWord) (maxL := 4) (own := RX3) (by decide) rfl rfl (Nat.le_of_ble_eq_true rfl) ?_
  intro p e s m args below meth c A Q ls C hP hD hl hret
  have hD : va_D A (WC0 a wb sw se LW LS LK cI cJ cB cL cS cW) := WCD hD
  have hS : va_S A s.heap s.heap [] := va_S.rf
  have hl : lv_has ls 4 [(0, .ref v0), (1, .int v1)] := hl
  obtain ⟨hx, hb, hml, hr, hown, hts, hlocks, hK, hA, hN⟩ := id C
  rw [C3_removeWord] at hm
  refine lv_iload_n hx hb dX3_removeWord_0 rfl (lv_at hl 1 rfl) ?_
  refine lv_if_lt (tgt := 24) hx hb dX3_removeWord_1 (by decide) (fun hc => ?_) (fun hc => ?_)
  · have hm := if_t hc hm
    simp only [Option.some.injEq, Prod.mk.injEq] at hm
    obtain ⟨rfl, rfl⟩ := hm
    exact hret _ _ _ _ dX3_removeWord_24 hP hS
  · have hm := if_f hc hm
    refine lv_iload_n hx hb dX3_removeWord_4 rfl (lv_at hl 1 rfl) ?_
    refine lv_aload_n hx hb dX3_removeWord_5 rfl (lv_at hl 0 rfl) ?_
    obtain ⟨q, hq, -⟩ := WC_S hG hv0
    refine kg (v := .int (c_count v0)) hx hb hts hiX3_removeWord_X3 hown hK hP q hq rfl 2 (by decide) flX3_removeWord_26 rfl rfl dX3_removeWord_6 ?_
    refine lv_icmp_ge (tgt := 24) hx hb dX3_removeWord_9 (by decide) (fun hc => ?_) (fun hc => ?_)
    · have hm := if_t hc hm
      simp only [Option.some.injEq, Prod.mk.injEq] at hm
      obtain ⟨rfl, rfl⟩ := hm
      exact hret _ _ _ _ dX3_removeWord_24 hP hS
    · have hm := if_f hc hm
      refine lv_aload_n hx hb dX3_removeWord_12 rfl (lv_at hl 0 rfl) ?_
      obtain ⟨q, hq, -⟩ := WC_S hG hv0
      refine kg (v := .int (c_count v0)) hx hb hts hiX3_removeWord_X3 hown hK hP q hq rfl 2 (by decide) flX3_removeWord_26 rfl rfl dX3_removeWord_13 ?_
      refine lv_aload_n hx hb dX3_removeWord_16 rfl (lv_at hl 0 rfl) ?_
      obtain ⟨q, hq, -⟩ := WC_S hG hv0
      refine kg (v := .ref (sw v0)) hx hb hts hiX3_removeWord_X3 hown hK hP q hq rfl 0 (by decide) flX3_removeWord_11 rfl rfl dX3_removeWord_17 ?_
      obtain ⟨q, hq, -⟩ := WC_words hG hv0
      refine va_alen (v := 48) hx hb hK hP q 5 hq rfl rfl dX3_removeWord_20 ?_
      refine lv_icmp_le (tgt := 25) hx hb dX3_removeWord_21 (by decide) (fun hc => ?_) (fun hc => ?_)
      · have hm := if_t hc hm
        refine lv_aload_n hx hb dX3_removeWord_25 rfl (lv_at hl 0 rfl) ?_
        obtain ⟨q, hq, -⟩ := WC_S hG hv0
        refine kg (v := .ref (sw v0)) hx hb hts hiX3_removeWord_X3 hown hK hP q hq rfl 0 (by decide) flX3_removeWord_11 rfl rfl dX3_removeWord_26 ?_
        refine lv_iload_n hx hb dX3_removeWord_29 rfl (lv_at hl 1 rfl) ?_
        obtain ⟨hi, hm⟩ := ga_some hm
        obtain ⟨hw30, hm⟩ := gm_some hm
        obtain ⟨q, hq, -⟩ := WC_words hG hv0
        refine k_aald hx hb hK hP q 5 hq rfl rfl hi dX3_removeWord_30 ?_
        refine lv_astore_n (lv' := [(2, .ref (c_words v0 v1.toNatClampNeg)), (0, .ref v0), (1, .int v1)]) hx hb dX3_removeWord_31 rfl hl (by decide) rfl (fun ls hl => ?_)
        refine lv_iload_n hx hb dX3_removeWord_32 rfl (lv_at hl 2 rfl) ?_
        refine lv_istore_n (lv' := [(3, .int v1), (2, .ref (c_words v0 v1.toNatClampNeg)), (0, .ref v0), (1, .int v1)]) hx hb dX3_removeWord_33 rfl hl (by decide) rfl (fun ls hl => ?_)
        refine t_C3_removeWord_L34 C hD hG hv0 hret ?_ FU _ _ _ _ _ _ _ hP hS (lv_sub hl [2, 1, 0] rfl) hw30 hm
        · intro c_count c_words v2 H locs ls hP hS hl hv2 hm
          try dsimp only at hm
          refine lv_aload_n hx hb dX3_removeWord_64 rfl (lv_at hl 0 rfl) ?_
          obtain ⟨q, hq, -⟩ := WC_S hG hv0
          refine kg (v := .ref (sw v0)) hx hb hts hiX3_removeWord_X3 hown hK hP q hq rfl 0 (by decide) flX3_removeWord_11 rfl rfl dX3_removeWord_65 ?_
          refine lv_aload_n hx hb dX3_removeWord_68 rfl (lv_at hl 0 rfl) ?_
          obtain ⟨q, hq, -⟩ := WC_S hG hv0
          refine kg (v := .int (c_count v0)) hx hb hts hiX3_removeWord_X3 hown hK hP q hq rfl 2 (by decide) flX3_removeWord_26 rfl rfl dX3_removeWord_69 ?_
          refine lv_iconst (v := 1) hx hb dX3_removeWord_72 (by decide) ?_
          refine lv_isub hx hb dX3_removeWord_73 ?_
          refine lv_aload_n hx hb dX3_removeWord_74 rfl (lv_at hl 1 rfl) ?_
          obtain ⟨hi, hm⟩ := ga_some hm
          obtain ⟨q, hq, he⟩ := WC_words hG hv0
          obtain ⟨qw, hqw, -⟩ := WC_W hG hv2
          refine k_aast hx hb hK hP (WCD hD) hS q 5 qw 6 hq rfl hqw rfl rfl hi dX3_removeWord_75 (fun H locs hP hS => ?_)
          have hP : va_P D vwCl (WC a wb sw se LW LS LK cI cJ cB cL cS cW c_bytes c_heads c_firsts c_levelOf c_aboveOf c_partings c_signs c_count c_pages c_levels c_most c_page c_known c_guess c_diff c_pieces c_place c_bits (va_up c_words v0 (va_up (c_words v0) ((c_count v0) - 1).toNatClampNeg v2)) c_entries c_bads c_noes c_fulls c_length c_next c_kept c_base c_from c_to c_above c_bit c_lastLeft) H := by rw [← he]; exact hP
          refine lv_aload_n hx hb dX3_removeWord_76 rfl (lv_at hl 0 rfl) ?_
          refine lv_dup hx hb dX3_removeWord_77 rfl ?_
          obtain ⟨q, hq, -⟩ := WC_S hG hv0
          refine kg (v := .int (c_count v0)) hx hb hts hiX3_removeWord_X3 hown hK hP q hq rfl 2 (by decide) flX3_removeWord_26 rfl rfl dX3_removeWord_78 ?_
          refine lv_iconst (v := 1) hx hb dX3_removeWord_81 (by decide) ?_
          refine lv_isub hx hb dX3_removeWord_82 ?_
          obtain ⟨q, hq, he⟩ := WC_S hG hv0
          refine kp hx hb hts hiX3_removeWord_X3 tyX3 tyX3_ok nmX3 hown hK hP (WCD hD) hS q hq rfl 2 (by decide) flX3_removeWord_26 rfl rfl rfl (Nat.le_of_ble_eq_true rfl) dX3_removeWord_83 (fun H locs hP hS => ?_)
          have hP : va_P D vwCl (WC a wb sw se LW LS LK cI cJ cB cL cS cW c_bytes c_heads c_firsts c_levelOf c_aboveOf c_partings c_signs (va_up c_count v0 ((c_count v0) - 1)) c_pages c_levels c_most c_page c_known c_guess c_diff c_pieces c_place c_bits (va_up c_words v0 (va_up (c_words v0) ((c_count v0) - 1).toNatClampNeg v2)) c_entries c_bads c_noes c_fulls c_length c_next c_kept c_base c_from c_to c_above c_bit c_lastLeft) H := by rw [← he.1]; exact hP
          simp only [Option.some.injEq, Prod.mk.injEq] at hm
          obtain ⟨rfl, rfl⟩ := hm
          exact hret _ _ _ _ dX3_removeWord_86 hP hS
      · have hm := if_f hc hm
        simp only [Option.some.injEq, Prod.mk.injEq] at hm
        obtain ⟨rfl, rfl⟩ := hm
        exact hret _ _ _ _ dX3_removeWord_24 hP hS
theorem hdX3_removePage : yX3_removePage.cls = RX3 ∧ yX3_removePage.cls ≠ "java/lang/invoke/MethodHandle" ∧ yX3_removePage.cls ≠ "java/lang/invoke/VarHandle" ∧ (parseMethodDescriptor yX3_removePage.desc).map (fun d => d.parameters.length) = some 1 := by decide +kernel
theorem hiX3_removePage_X3 : ∀ w ∈ u_ws RX3 TX3 6, w ∈ wsX3_removePage := by decide +kernel
theorem flX3_removePage_29 : Cond.fieldLink RX3 29 "BlindPages$State" "pages" "I" ∈ wsX3_removePage := by decide +kernel
theorem flX3_removePage_17 : Cond.fieldLink RX3 17 "BlindPages$State" "entries" "[I" ∈ wsX3_removePage := by decide +kernel
def C3_removePage_L27 (v0 : Nat) (v1 : Int32) (k57 : (Nat → Int32) → (Nat → Nat → Int32) → Option ((Nat → Int32) × (Nat → Nat → Int32))) : Nat → (Nat → Int32) → (Nat → Nat → Int32) → Int32 → Option ((Nat → Int32) × (Nat → Nat → Int32))
  | 0, _, _, _ => none
  | n + 1, c_pages, c_entries, v2 => if ((c_pages v0) - 1) ≤ v2 then (k57 c_pages c_entries) else (ga (v2 + 1) 48 (ga v2 48 (C3_removePage_L27 v0 v1 k57 n c_pages (va_up c_entries v0 (upd (c_entries v0) v2.toNatClampNeg (c_entries v0 (v2 + 1).toNatClampNeg))) (v2 + 1))))
def C3_removePage (c_pages : Nat → Int32) (c_entries : Nat → Nat → Int32) (v0 : Nat) (v1 : Int32) : Option ((Nat → Int32) × (Nat → Nat → Int32)) := if v1 < 0 then (some (c_pages, c_entries)) else (if (c_pages v0) ≤ v1 then (some (c_pages, c_entries)) else (if (c_pages v0) ≤ 48 then (C3_removePage_L27 v0 v1 (fun c_pages c_entries => some ((va_up c_pages v0 ((c_pages v0) - 1)), c_entries)) FU c_pages c_entries v1) else (some (c_pages, c_entries))))
set_option maxRecDepth 100000 in
set_option maxHeartbeats 4000000 in
theorem t_C3_removePage_L27 {p : Program} {l : Launch} {e : Env} {s : State} {m : MethodId} {args : Array Value} {below : List Frame} {meth : Method} {c : Code} {Q : State → Prop} {A : Nat → Prop} {D : va_G} {cI cJ cB cL cS cW : ClassId} {a wb sw se : Nat → Nat} {LW LS LK : List Nat} {c_bytes c_heads c_firsts c_levelOf c_aboveOf c_partings c_signs c_count c_levels c_most c_page c_known c_guess c_diff c_pieces c_place : Nat → Int32} {c_bits : Nat → Nat → Int64} {c_words : Nat → Nat → Nat} {c_bads c_noes c_fulls c_length c_next c_kept c_base c_from c_to c_above c_bit c_lastLeft : Int32} {v0 : Nat} {v1 : Int32} {o_pages : Nat → Int32} {o_entries : Nat → Nat → Int32} (C : k_C p s m args meth c cX3_removePage 3 none RX3 wsX3_removePage D (kT cI cJ cB cL cS cW) A) (hD : va_D A (WC0 a wb sw se LW LS LK cI cJ cB cL cS cW)) (hG : kG a LW LS LK) (hv0 : v0 ∈ LS) (hret : ∀ (H : Heap) (locs : List Loc) (pc : Nat) (ls : Array Slot), decode cX3_removePage pc = .ok (.return_, 1) → va_P D vwCl (WC a wb sw se LW LS LK cI cJ cB cL cS cW c_bytes c_heads c_firsts c_levelOf c_aboveOf c_partings c_signs c_count o_pages c_levels c_most c_page c_known c_guess c_diff c_pieces c_place c_bits c_words o_entries c_bads c_noes c_fulls c_length c_next c_kept c_base c_from c_to c_above c_bit c_lastLeft) H → va_S A s.heap H locs → W p l e { frames := 0, cells := 0, slots := 0, locals := 0 } s m args below meth c H locs 0 0 Q (F0 m pc ls [])) {k57 : (Nat → Int32) → (Nat → Nat → Int32) → Option ((Nat → Int32) × (Nat → Nat → Int32))} (hk57 : ∀ (c_pages : (Nat → Int32)) (c_entries : (Nat → Nat → Int32)) (H : Heap) (locs : List Loc) (ls : Array Slot), va_P D vwCl (WC a wb sw se LW LS LK cI cJ cB cL cS cW c_bytes c_heads c_firsts c_levelOf c_aboveOf c_partings c_signs c_count c_pages c_levels c_most c_page c_known c_guess c_diff c_pieces c_place c_bits c_words c_entries c_bads c_noes c_fulls c_length c_next c_kept c_base c_from c_to c_above c_bit c_lastLeft) H → va_S A s.heap H locs → lv_has ls 3 [(0, .ref v0)] → k57 c_pages c_entries = some (o_pages, o_entries) → W p l e { frames := 0, cells := 0, slots := 0, locals := 0 } s m args below meth c H locs 0 0 Q (F0 m 57 ls [])) : ∀ n : Nat, ∀ (c_pages : (Nat → Int32)) (c_entries : (Nat → Nat → Int32)) (v2 : Int32) (H : Heap) (locs : List Loc) (ls : Array Slot), va_P D vwCl (WC a wb sw se LW LS LK cI cJ cB cL cS cW c_bytes c_heads c_firsts c_levelOf c_aboveOf c_partings c_signs c_count c_pages c_levels c_most c_page c_known c_guess c_diff c_pieces c_place c_bits c_words c_entries c_bads c_noes c_fulls c_length c_next c_kept c_base c_from c_to c_above c_bit c_lastLeft) H → va_S A s.heap H locs → lv_has ls 3 [(0, .ref v0), (2, .int v2)] → (C3_removePage_L27 v0 v1 k57 n) c_pages c_entries v2 = some (o_pages, o_entries) → W p l e { frames := 0, cells := 0, slots := 0, locals := 0 } s m args below meth c H locs 0 0 Q (F0 m 27 ls []) := by
  obtain ⟨hx, hb, hml, hr, hown, hts, hlocks, hK, hA, hN⟩ := id C
  intro n
  induction n with
  | zero =>
    intro c_pages c_entries v2 H locs ls hP hS hl hm
    cases hm
  | succ n ih =>
    intro c_pages c_entries v2 H locs ls hP hS hl hm
    rw [C3_removePage_L27] at hm
    refine lv_iload_n hx hb dX3_removePage_27 rfl (lv_at hl 1 rfl) ?_
    refine lv_aload_n hx hb dX3_removePage_28 rfl (lv_at hl 0 rfl) ?_
    obtain ⟨q, hq, -⟩ := WC_S hG hv0
    refine kg (v := .int (c_pages v0)) hx hb hts hiX3_removePage_X3 hown hK hP q hq rfl 3 (by decide) flX3_removePage_29 rfl rfl dX3_removePage_29 ?_
    refine lv_iconst (v := 1) hx hb dX3_removePage_32 (by decide) ?_
    refine lv_isub hx hb dX3_removePage_33 ?_
    refine lv_icmp_ge (tgt := 57) hx hb dX3_removePage_34 (by decide) (fun hc => ?_) (fun hc => ?_)
    · have hm := if_t hc hm
      exact hk57 _ _ _ _ _ hP hS (lv_sub hl [0] rfl) hm
    · have hm := if_f hc hm
      refine lv_aload_n hx hb dX3_removePage_37 rfl (lv_at hl 0 rfl) ?_
      obtain ⟨q, hq, -⟩ := WC_S hG hv0
      refine kg (v := .ref (se v0)) hx hb hts hiX3_removePage_X3 hown hK hP q hq rfl 1 (by decide) flX3_removePage_17 rfl rfl dX3_removePage_38 ?_
      refine lv_iload_n hx hb dX3_removePage_41 rfl (lv_at hl 1 rfl) ?_
      refine lv_aload_n hx hb dX3_removePage_42 rfl (lv_at hl 0 rfl) ?_
      obtain ⟨q, hq, -⟩ := WC_S hG hv0
      refine kg (v := .ref (se v0)) hx hb hts hiX3_removePage_X3 hown hK hP q hq rfl 1 (by decide) flX3_removePage_17 rfl rfl dX3_removePage_43 ?_
      refine lv_iload_n hx hb dX3_removePage_46 rfl (lv_at hl 1 rfl) ?_
      refine lv_iconst (v := 1) hx hb dX3_removePage_47 (by decide) ?_
      refine lv_iadd hx hb dX3_removePage_48 ?_
      obtain ⟨hi, hm⟩ := ga_some hm
      obtain ⟨q, hq, -⟩ := WC_entries hG hv0
      refine k_iald hx hb hK hP q 0 hq rfl rfl hi dX3_removePage_49 ?_
      obtain ⟨hi, hm⟩ := ga_some hm
      obtain ⟨q, hq, he⟩ := WC_entries hG hv0
      refine k_iast hx hb hK hP (WCD hD) hS q 0 hq rfl rfl hi dX3_removePage_50 (fun H locs hP hS => ?_)
      have hP : va_P D vwCl (WC a wb sw se LW LS LK cI cJ cB cL cS cW c_bytes c_heads c_firsts c_levelOf c_aboveOf c_partings c_signs c_count c_pages c_levels c_most c_page c_known c_guess c_diff c_pieces c_place c_bits c_words (va_up c_entries v0 (upd (c_entries v0) v2.toNatClampNeg (c_entries v0 (v2 + 1).toNatClampNeg))) c_bads c_noes c_fulls c_length c_next c_kept c_base c_from c_to c_above c_bit c_lastLeft) H := by rw [← he]; exact hP
      refine lv_iinc (v := (v2 + 1)) (lv' := [(2, .int (v2 + 1)), (0, .ref v0)]) hx hb dX3_removePage_51 hl (k := 1) rfl rfl (by decide) rfl (fun ls hl => ?_)
      refine lv_goto (tgt := 27) hx hb dX3_removePage_54 (by decide) ?_
      exact ih _ _ _ _ _ _ hP hS (lv_sub hl [1, 0] rfl) hm
set_option maxRecDepth 100000 in
set_option maxHeartbeats 4000000 in
theorem c_X3_removePage {l : Launch} {D : va_G} {cI cJ cB cL cS cW : ClassId} {a wb sw se : Nat → Nat} {LW LS LK : List Nat} {c_bytes c_heads c_firsts c_levelOf c_aboveOf c_partings c_signs c_count c_pages c_levels c_most c_page c_known c_guess c_diff c_pieces c_place : Nat → Int32} {c_bits : Nat → Nat → Int64} {c_words : Nat → Nat → Nat} {c_entries : Nat → Nat → Int32} {c_bads c_noes c_fulls c_length c_next c_kept c_base c_from c_to c_above c_bit c_lastLeft : Int32} {v0 : Nat} {v1 : Int32} {o_pages : Nat → Int32} {o_entries : Nat → Nat → Int32} (hG : kG a LW LS LK) (hv0 : v0 ∈ LS) (hm : C3_removePage c_pages c_entries v0 v1 = some (o_pages, o_entries)) : k_MV l yX3_removePage wsX3_removePage { frames := 0, cells := 0, slots := 0, locals := 0 } D (kT cI cJ cB cL cS cW) [.ref v0, .int v1] (WC a wb sw se LW LS LK cI cJ cB cL cS cW c_bytes c_heads c_firsts c_levelOf c_aboveOf c_partings c_signs c_count c_pages c_levels c_most c_page c_known c_guess c_diff c_pieces c_place c_bits c_words c_entries c_bads c_noes c_fulls c_length c_next c_kept c_base c_from c_to c_above c_bit c_lastLeft) (WC a wb sw se LW LS LK cI cJ cB cL cS cW c_bytes c_heads c_firsts c_levelOf c_aboveOf c_partings c_signs c_count o_pages c_levels c_most c_page c_known c_guess c_diff c_pieces c_place c_bits c_words o_entries c_bads c_noes c_fulls c_length c_next c_kept c_base c_from c_to c_above c_bit c_lastLeft) := by
  refine k_ofV (cc := cX3_removePage) (maxL := 3) (own := RX3) (by decide) rfl rfl (Nat.le_of_ble_eq_true rfl) ?_
  intro p e s m args below meth c A Q ls C hP hD hl hret
  have hD : va_D A (WC0 a wb sw se LW LS LK cI cJ cB cL cS cW) := WCD hD
  have hS : va_S A s.heap s.heap [] := va_S.rf
  have hl : lv_has ls 3 [(0, .ref v0), (1, .int v1)] := hl
  obtain ⟨hx, hb, hml, hr, hown, hts, hlocks, hK, hA, hN⟩ := id C
  rw [C3_removePage] at hm
  refine lv_iload_n hx hb dX3_removePage_0 rfl (lv_at hl 1 rfl) ?_
  refine lv_if_lt (tgt := 24) hx hb dX3_removePage_1 (by decide) (fun hc => ?_) (fun hc => ?_)
  · have hm := if_t hc hm
    simp only [Option.some.injEq, Prod.mk.injEq] at hm
    obtain ⟨rfl, rfl⟩ := hm
    exact hret _ _ _ _ dX3_removePage_24 hP hS
  · have hm := if_f hc hm
    refine lv_iload_n hx hb dX3_removePage_4 rfl (lv_at hl 1 rfl) ?_
    refine lv_aload_n hx hb dX3_removePage_5 rfl (lv_at hl 0 rfl) ?_
    obtain ⟨q, hq, -⟩ := WC_S hG hv0
    refine kg (v := .int (c_pages v0)) hx hb hts hiX3_removePage_X3 hown hK hP q hq rfl 3 (by decide) flX3_removePage_29 rfl rfl dX3_removePage_6 ?_
    refine lv_icmp_ge (tgt := 24) hx hb dX3_removePage_9 (by decide) (fun hc => ?_) (fun hc => ?_)
    · have hm := if_t hc hm
      simp only [Option.some.injEq, Prod.mk.injEq] at hm
      obtain ⟨rfl, rfl⟩ := hm
      exact hret _ _ _ _ dX3_removePage_24 hP hS
    · have hm := if_f hc hm
      refine lv_aload_n hx hb dX3_removePage_12 rfl (lv_at hl 0 rfl) ?_
      obtain ⟨q, hq, -⟩ := WC_S hG hv0
      refine kg (v := .int (c_pages v0)) hx hb hts hiX3_removePage_X3 hown hK hP q hq rfl 3 (by decide) flX3_removePage_29 rfl rfl dX3_removePage_13 ?_
      refine lv_aload_n hx hb dX3_removePage_16 rfl (lv_at hl 0 rfl) ?_
      obtain ⟨q, hq, -⟩ := WC_S hG hv0
      refine kg (v := .ref (se v0)) hx hb hts hiX3_removePage_X3 hown hK hP q hq rfl 1 (by decide) flX3_removePage_17 rfl rfl dX3_removePage_17 ?_
      obtain ⟨q, hq, -⟩ := WC_entries hG hv0
      refine va_alen (v := 48) hx hb hK hP q 0 hq rfl rfl dX3_removePage_20 ?_
      refine lv_icmp_le (tgt := 25) hx hb dX3_removePage_21 (by decide) (fun hc => ?_) (fun hc => ?_)
      · have hm := if_t hc hm
        refine lv_iload_n hx hb dX3_removePage_25 rfl (lv_at hl 1 rfl) ?_
        refine lv_istore_n (lv' := [(2, .int v1), (0, .ref v0), (1, .int v1)]) hx hb dX3_removePage_26 rfl hl (by decide) rfl (fun ls hl => ?_)
        refine t_C3_removePage_L27 C hD hG hv0 hret ?_ FU _ _ _ _ _ _ hP hS (lv_sub hl [1, 0] rfl) hm
        · intro c_pages c_entries H locs ls hP hS hl hm
          try dsimp only at hm
          refine lv_aload_n hx hb dX3_removePage_57 rfl (lv_at hl 0 rfl) ?_
          refine lv_dup hx hb dX3_removePage_58 rfl ?_
          obtain ⟨q, hq, -⟩ := WC_S hG hv0
          refine kg (v := .int (c_pages v0)) hx hb hts hiX3_removePage_X3 hown hK hP q hq rfl 3 (by decide) flX3_removePage_29 rfl rfl dX3_removePage_59 ?_
          refine lv_iconst (v := 1) hx hb dX3_removePage_62 (by decide) ?_
          refine lv_isub hx hb dX3_removePage_63 ?_
          obtain ⟨q, hq, he⟩ := WC_S hG hv0
          refine kp hx hb hts hiX3_removePage_X3 tyX3 tyX3_ok nmX3 hown hK hP (WCD hD) hS q hq rfl 3 (by decide) flX3_removePage_29 rfl rfl rfl (Nat.le_of_ble_eq_true rfl) dX3_removePage_64 (fun H locs hP hS => ?_)
          have hP : va_P D vwCl (WC a wb sw se LW LS LK cI cJ cB cL cS cW c_bytes c_heads c_firsts c_levelOf c_aboveOf c_partings c_signs c_count (va_up c_pages v0 ((c_pages v0) - 1)) c_levels c_most c_page c_known c_guess c_diff c_pieces c_place c_bits c_words c_entries c_bads c_noes c_fulls c_length c_next c_kept c_base c_from c_to c_above c_bit c_lastLeft) H := by rw [← he.2.1]; exact hP
          simp only [Option.some.injEq, Prod.mk.injEq] at hm
          obtain ⟨rfl, rfl⟩ := hm
          exact hret _ _ _ _ dX3_removePage_67 hP hS
      · have hm := if_f hc hm
        simp only [Option.some.injEq, Prod.mk.injEq] at hm
        obtain ⟨rfl, rfl⟩ := hm
        exact hret _ _ _ _ dX3_removePage_24 hP hS
theorem hdX0_joins : yX0_joins.cls = RX0 ∧ yX0_joins.cls ≠ "java/lang/invoke/MethodHandle" ∧ yX0_joins.cls ≠ "java/lang/invoke/VarHandle" ∧ (parseMethodDescriptor yX0_joins.desc).map (fun d => d.parameters.length) = some 2 := by decide +kernel
theorem hiX0_joins_X0 : ∀ w ∈ u_ws RX0 TX0 7, w ∈ wsX0_joins := by decide +kernel
theorem hiX0_joins_X3 : ∀ w ∈ u_ws RX3 TX3 6, w ∈ wsX0_joins := by decide +kernel
theorem flX0_joins_12 : Cond.fieldLink RX0 12 "BlindPages$Index" "now" "LBlindPages$State;" ∈ wsX0_joins := by decide +kernel
theorem flX0_joins_179 : Cond.fieldLink RX0 179 "BlindPages$State" "most" "I" ∈ wsX0_joins := by decide +kernel
def C0_joins_J37 (a : Nat → Nat) (c_firsts c_most : Nat → Int32) (v1 : Int32) (v2 : Int32) (c_pages : (Nat → Int32)) (c_entries : (Nat → Nat → Int32)) (t0 : Int32) : Option (Int32 × (Nat → Int32) × (Nat → Nat → Int32)) := bd1 (C3_entriesOf c_pages c_entries (a 14) t0) fun r45 => bd1 (C3_entriesOf c_pages c_entries (a 14) (t0 + 1)) fun r56 => if (c_most (a 14)) < (r45 + r56) then (bd1 (C3_setEntries c_pages c_entries (a 14) t0 ((r45 + r56) - ((r45 + r56) / 2))) fun c_entries_111 => bd1 (C3_setEntries c_pages c_entries_111 (a 14) (t0 + 1) ((r45 + r56) / 2)) fun c_entries_126 => some (0, c_pages, c_entries_126)) else (bd1 (C3_setEntries c_pages c_entries (a 14) t0 (r45 + r56)) fun c_entries_82 => bd2 (C3_removePage c_pages c_entries_82 (a 14) (t0 + 1)) fun c_pages_93 c_entries_93 => some (1, c_pages_93, c_entries_93))
def C0_joins_J25 (a : Nat → Nat) (c_firsts c_most : Nat → Int32) (v1 : Int32) (v2 : Int32) (c_pages : (Nat → Int32)) (c_entries : (Nat → Nat → Int32)) (t0 : Int32) : Option (Int32 × (Nat → Int32) × (Nat → Nat → Int32)) := if t0 = 0 then (C0_joins_J37 a c_firsts c_most v1 v2 c_pages c_entries v1) else (C0_joins_J37 a c_firsts c_most v1 v2 c_pages c_entries (v1 - 1))
def C0_joins (a : Nat → Nat) (c_firsts c_most : Nat → Int32) (c_pages : Nat → Int32) (c_entries : Nat → Nat → Int32) (v1 : Int32) (v2 : Int32) : Option (Int32 × (Nat → Int32) × (Nat → Nat → Int32)) := bd1 (C0_firstOf c_firsts v2) fun r3 => bd1 (C3_entriesOf c_pages c_entries (a 14) v2) fun r11 => if v1 = ((r3 + r11) - 1) then (C0_joins_J25 a c_firsts c_most v1 v2 c_pages c_entries 1) else (C0_joins_J25 a c_firsts c_most v1 v2 c_pages c_entries 0)
set_option maxRecDepth 100000 in
set_option maxHeartbeats 4000000 in
theorem t_C0_joins_J37 {p : Program} {l : Launch} {e : Env} {s : State} {m : MethodId} {args : Array Value} {below : List Frame} {meth : Method} {c : Code} {Q : State → Prop} {A : Nat → Prop} {D : va_G} {cI cJ cB cL cS cW : ClassId} {a wb sw se : Nat → Nat} {LW LS LK : List Nat} {c_bytes c_heads c_firsts c_levelOf c_aboveOf c_partings c_signs c_count c_levels c_most c_page c_known c_guess c_diff c_pieces c_place : Nat → Int32} {c_bits : Nat → Nat → Int64} {c_words : Nat → Nat → Nat} {c_bads c_noes c_fulls c_length c_next c_kept c_base c_from c_to c_above c_bit c_lastLeft : Int32} {v1 : Int32} {v2 : Int32} {r : Int32} {o_pages : Nat → Int32} {o_entries : Nat → Nat → Int32} (C : k_C p s m args meth c cX0_joins 6 (some .boolean) RX0 wsX0_joins D (kT cI cJ cB cL cS cW) A) (hD : va_D A (WC0 a wb sw se LW LS LK cI cJ cB cL cS cW)) (hG : kG a LW LS LK) (hret : ∀ (H : Heap) (locs : List Loc) (pc : Nat) (ls : Array Slot), decode cX0_joins pc = .ok (.ireturn, 1) → (r = 0 ∨ r = 1) → va_P D vwCl (WC a wb sw se LW LS LK cI cJ cB cL cS cW c_bytes c_heads c_firsts c_levelOf c_aboveOf c_partings c_signs c_count o_pages c_levels c_most c_page c_known c_guess c_diff c_pieces c_place c_bits c_words o_entries c_bads c_noes c_fulls c_length c_next c_kept c_base c_from c_to c_above c_bit c_lastLeft) H → va_S A s.heap H locs → W p l e { frames := 1, cells := 0, slots := 0, locals := 22 } s m args below meth c H locs 0 0 Q (F0 m pc ls [.int r])) : ∀ (c_pages : (Nat → Int32)) (c_entries : (Nat → Nat → Int32)) (t0 : Int32) (H : Heap) (locs : List Loc) (ls : Array Slot), va_P D vwCl (WC a wb sw se LW LS LK cI cJ cB cL cS cW c_bytes c_heads c_firsts c_levelOf c_aboveOf c_partings c_signs c_count c_pages c_levels c_most c_page c_known c_guess c_diff c_pieces c_place c_bits c_words c_entries c_bads c_noes c_fulls c_length c_next c_kept c_base c_from c_to c_above c_bit c_lastLeft) H → va_S A s.heap H locs → lv_has ls 6 [(0, .ref (a 3))] → C0_joins_J37 a c_firsts c_most v1 v2 c_pages c_entries t0 = some (r, o_pages, o_entries) → W p l e { frames := 1, cells := 0, slots := 0, locals := 22 } s m args below meth c H locs 0 0 Q (F0 m 37 ls [.int t0]) := by
  obtain ⟨hx, hb, hml, hr, hown, hts, hlocks, hK, hA, hN⟩ := id C
  intro c_pages c_entries t0 H locs ls hP hS hl hm
  rw [C0_joins_J37] at hm
  refine lv_istore (lv' := [(4, .int t0), (0, .ref (a 3))]) hx hb dX0_joins_37 hl (by decide) rfl (fun ls hl => ?_)
  refine lv_aload_n hx hb dX0_joins_39 rfl (lv_at hl 1 rfl) ?_
  refine kg (v := .ref (a 14)) hx hb hts hiX0_joins_X0 hown hK hP 3 rfl rfl 0 (by decide) flX0_joins_12 rfl rfl dX0_joins_40 ?_
  refine lv_iload hx hb dX0_joins_43 (lv_at hl 0 rfl) ?_
  obtain ⟨r45, hq0, hm⟩ := bd1_some hm
  obtain ⟨q, hq, -⟩ := WC_S hG hG.2.2.2.2.1
  refine k_callVI (As := [.int t0]) (rest := []) ⟨hx, hb, hml, hown, hts⟩ hK hA hN (c_X3_entriesOf hG hG.2.2.2.2.1 hq0) (cwV 1 hts gX0_joins_X3_entriesOf rfl rfl rfl hdX3_entriesOf ⟨Nat.le_of_ble_eq_true rfl, Nat.le_of_ble_eq_true rfl⟩) hP (WCD hD) hS q 3 hq rfl rfl hl.1 rfl rfl (Nat.le_of_ble_eq_true rfl) ⟨Nat.zero_le _, Nat.zero_le _⟩ dX0_joins_45 (fun H locs hP hS => ?_)
  refine lv_aload_n hx hb dX0_joins_48 rfl (lv_at hl 1 rfl) ?_
  refine kg (v := .ref (a 14)) hx hb hts hiX0_joins_X0 hown hK hP 3 rfl rfl 0 (by decide) flX0_joins_12 rfl rfl dX0_joins_49 ?_
  refine lv_iload hx hb dX0_joins_52 (lv_at hl 0 rfl) ?_
  refine lv_iconst (v := 1) hx hb dX0_joins_54 (by decide) ?_
  refine lv_iadd hx hb dX0_joins_55 ?_
  obtain ⟨r56, hq0, hm⟩ := bd1_some hm
  obtain ⟨q, hq, -⟩ := WC_S hG hG.2.2.2.2.1
  refine k_callVI (As := [.int (t0 + 1)]) (rest := [.int r45]) ⟨hx, hb, hml, hown, hts⟩ hK hA hN (c_X3_entriesOf hG hG.2.2.2.2.1 hq0) (cwV 1 hts gX0_joins_X3_entriesOf rfl rfl rfl hdX3_entriesOf ⟨Nat.le_of_ble_eq_true rfl, Nat.le_of_ble_eq_true rfl⟩) hP (WCD hD) hS q 3 hq rfl rfl hl.1 rfl rfl (Nat.le_of_ble_eq_true rfl) ⟨Nat.zero_le _, Nat.zero_le _⟩ dX0_joins_56 (fun H locs hP hS => ?_)
  refine lv_iadd hx hb dX0_joins_59 ?_
  refine lv_istore (lv' := [(5, .int (r45 + r56)), (4, .int t0), (0, .ref (a 3))]) hx hb dX0_joins_60 hl (by decide) rfl (fun ls hl => ?_)
  refine lv_iload hx hb dX0_joins_62 (lv_at hl 0 rfl) ?_
  refine lv_aload_n hx hb dX0_joins_64 rfl (lv_at hl 2 rfl) ?_
  refine kg (v := .ref (a 14)) hx hb hts hiX0_joins_X0 hown hK hP 3 rfl rfl 0 (by decide) flX0_joins_12 rfl rfl dX0_joins_65 ?_
  obtain ⟨q, hq, -⟩ := WC_S hG hG.2.2.2.2.1
  refine kg (v := .int (c_most (a 14))) hx hb hts hiX0_joins_X3 hown hK hP q hq rfl 5 (by decide) flX0_joins_179 rfl rfl dX0_joins_68 ?_
  refine lv_icmp_gt (tgt := 98) hx hb dX0_joins_71 (by decide) (fun hc => ?_) (fun hc => ?_)
  · have hm := if_t hc hm
    refine lv_aload_n hx hb dX0_joins_98 rfl (lv_at hl 2 rfl) ?_
    refine kg (v := .ref (a 14)) hx hb hts hiX0_joins_X0 hown hK hP 3 rfl rfl 0 (by decide) flX0_joins_12 rfl rfl dX0_joins_99 ?_
    refine lv_iload hx hb dX0_joins_102 (lv_at hl 1 rfl) ?_
    refine lv_iload hx hb dX0_joins_104 (lv_at hl 0 rfl) ?_
    refine lv_iload hx hb dX0_joins_106 (lv_at hl 0 rfl) ?_
    refine lv_iconst (v := 2) hx hb dX0_joins_108 (by decide) ?_
    refine lv_idiv hx hb dX0_joins_109 (by decide) ?_
    refine lv_isub hx hb dX0_joins_110 ?_
    obtain ⟨c_entries_111, hq0, hm⟩ := bd1_some hm
    obtain ⟨q, hq, -⟩ := WC_S hG hG.2.2.2.2.1
    refine k_callVV (As := [.int t0, .int ((r45 + r56) - ((r45 + r56) / 2))]) (rest := []) ⟨hx, hb, hml, hown, hts⟩ hK hA hN (c_X3_setEntries hG hG.2.2.2.2.1 hq0) (cwV 2 hts gX0_joins_X3_setEntries rfl rfl rfl hdX3_setEntries ⟨Nat.le_of_ble_eq_true rfl, Nat.le_of_ble_eq_true rfl⟩) hP (WCD hD) hS q 3 hq rfl rfl hl.1 rfl rfl (Nat.le_of_ble_eq_true rfl) ⟨Nat.zero_le _, Nat.zero_le _⟩ dX0_joins_111 (fun H locs hP hS => ?_)
    refine lv_aload_n hx hb dX0_joins_114 rfl (lv_at hl 2 rfl) ?_
    refine kg (v := .ref (a 14)) hx hb hts hiX0_joins_X0 hown hK hP 3 rfl rfl 0 (by decide) flX0_joins_12 rfl rfl dX0_joins_115 ?_
    refine lv_iload hx hb dX0_joins_118 (lv_at hl 1 rfl) ?_
    refine lv_iconst (v := 1) hx hb dX0_joins_120 (by decide) ?_
    refine lv_iadd hx hb dX0_joins_121 ?_
    refine lv_iload hx hb dX0_joins_122 (lv_at hl 0 rfl) ?_
    refine lv_iconst (v := 2) hx hb dX0_joins_124 (by decide) ?_
    refine lv_idiv hx hb dX0_joins_125 (by decide) ?_
    obtain ⟨c_entries_126, hq0, hm⟩ := bd1_some hm
    obtain ⟨q, hq, -⟩ := WC_S hG hG.2.2.2.2.1
    refine k_callVV (As := [.int (t0 + 1), .int ((r45 + r56) / 2)]) (rest := []) ⟨hx, hb, hml, hown, hts⟩ hK hA hN (c_X3_setEntries hG hG.2.2.2.2.1 hq0) (cwV 2 hts gX0_joins_X3_setEntries rfl rfl rfl hdX3_setEntries ⟨Nat.le_of_ble_eq_true rfl, Nat.le_of_ble_eq_true rfl⟩) hP (WCD hD) hS q 3 hq rfl rfl hl.1 rfl rfl (Nat.le_of_ble_eq_true rfl) ⟨Nat.zero_le _, Nat.zero_le _⟩ dX0_joins_126 (fun H locs hP hS => ?_)
    refine lv_iconst (v := 0) hx hb dX0_joins_129 (by decide) ?_
    simp only [Option.some.injEq, Prod.mk.injEq] at hm
    obtain ⟨rfl, rfl, rfl⟩ := hm
    exact hret _ _ _ _ dX0_joins_130 (by decide) hP hS
  · have hm := if_f hc hm
    refine lv_aload_n hx hb dX0_joins_74 rfl (lv_at hl 2 rfl) ?_
    refine kg (v := .ref (a 14)) hx hb hts hiX0_joins_X0 hown hK hP 3 rfl rfl 0 (by decide) flX0_joins_12 rfl rfl dX0_joins_75 ?_
    refine lv_iload hx hb dX0_joins_78 (lv_at hl 1 rfl) ?_
    refine lv_iload hx hb dX0_joins_80 (lv_at hl 0 rfl) ?_
    obtain ⟨c_entries_82, hq0, hm⟩ := bd1_some hm
    obtain ⟨q, hq, -⟩ := WC_S hG hG.2.2.2.2.1
    refine k_callVV (As := [.int t0, .int (r45 + r56)]) (rest := []) ⟨hx, hb, hml, hown, hts⟩ hK hA hN (c_X3_setEntries hG hG.2.2.2.2.1 hq0) (cwV 2 hts gX0_joins_X3_setEntries rfl rfl rfl hdX3_setEntries ⟨Nat.le_of_ble_eq_true rfl, Nat.le_of_ble_eq_true rfl⟩) hP (WCD hD) hS q 3 hq rfl rfl hl.1 rfl rfl (Nat.le_of_ble_eq_true rfl) ⟨Nat.zero_le _, Nat.zero_le _⟩ dX0_joins_82 (fun H locs hP hS => ?_)
    refine lv_aload_n hx hb dX0_joins_85 rfl (lv_at hl 2 rfl) ?_
    refine kg (v := .ref (a 14)) hx hb hts hiX0_joins_X0 hown hK hP 3 rfl rfl 0 (by decide) flX0_joins_12 rfl rfl dX0_joins_86 ?_
    refine lv_iload hx hb dX0_joins_89 (lv_at hl 1 rfl) ?_
    refine lv_iconst (v := 1) hx hb dX0_joins_91 (by decide) ?_
    refine lv_iadd hx hb dX0_joins_92 ?_
    obtain ⟨c_pages_93, c_entries_93, hq0, hm⟩ := bd2_some hm
    obtain ⟨q, hq, -⟩ := WC_S hG hG.2.2.2.2.1
    refine k_callVV (As := [.int (t0 + 1)]) (rest := []) ⟨hx, hb, hml, hown, hts⟩ hK hA hN (c_X3_removePage hG hG.2.2.2.2.1 hq0) (cwV 1 hts gX0_joins_X3_removePage rfl rfl rfl hdX3_removePage ⟨Nat.le_of_ble_eq_true rfl, Nat.le_of_ble_eq_true rfl⟩) hP (WCD hD) hS q 3 hq rfl rfl hl.1 rfl rfl (Nat.le_of_ble_eq_true rfl) ⟨Nat.zero_le _, Nat.zero_le _⟩ dX0_joins_93 (fun H locs hP hS => ?_)
    refine lv_iconst (v := 1) hx hb dX0_joins_96 (by decide) ?_
    simp only [Option.some.injEq, Prod.mk.injEq] at hm
    obtain ⟨rfl, rfl, rfl⟩ := hm
    exact hret _ _ _ _ dX0_joins_97 (by decide) hP hS
set_option maxRecDepth 100000 in
set_option maxHeartbeats 4000000 in
theorem t_C0_joins_J25 {p : Program} {l : Launch} {e : Env} {s : State} {m : MethodId} {args : Array Value} {below : List Frame} {meth : Method} {c : Code} {Q : State → Prop} {A : Nat → Prop} {D : va_G} {cI cJ cB cL cS cW : ClassId} {a wb sw se : Nat → Nat} {LW LS LK : List Nat} {c_bytes c_heads c_firsts c_levelOf c_aboveOf c_partings c_signs c_count c_levels c_most c_page c_known c_guess c_diff c_pieces c_place : Nat → Int32} {c_bits : Nat → Nat → Int64} {c_words : Nat → Nat → Nat} {c_bads c_noes c_fulls c_length c_next c_kept c_base c_from c_to c_above c_bit c_lastLeft : Int32} {v1 : Int32} {v2 : Int32} {r : Int32} {o_pages : Nat → Int32} {o_entries : Nat → Nat → Int32} (C : k_C p s m args meth c cX0_joins 6 (some .boolean) RX0 wsX0_joins D (kT cI cJ cB cL cS cW) A) (hD : va_D A (WC0 a wb sw se LW LS LK cI cJ cB cL cS cW)) (hG : kG a LW LS LK) (hret : ∀ (H : Heap) (locs : List Loc) (pc : Nat) (ls : Array Slot), decode cX0_joins pc = .ok (.ireturn, 1) → (r = 0 ∨ r = 1) → va_P D vwCl (WC a wb sw se LW LS LK cI cJ cB cL cS cW c_bytes c_heads c_firsts c_levelOf c_aboveOf c_partings c_signs c_count o_pages c_levels c_most c_page c_known c_guess c_diff c_pieces c_place c_bits c_words o_entries c_bads c_noes c_fulls c_length c_next c_kept c_base c_from c_to c_above c_bit c_lastLeft) H → va_S A s.heap H locs → W p l e { frames := 1, cells := 0, slots := 0, locals := 22 } s m args below meth c H locs 0 0 Q (F0 m pc ls [.int r])) : ∀ (c_pages : (Nat → Int32)) (c_entries : (Nat → Nat → Int32)) (t0 : Int32) (H : Heap) (locs : List Loc) (ls : Array Slot), va_P D vwCl (WC a wb sw se LW LS LK cI cJ cB cL cS cW c_bytes c_heads c_firsts c_levelOf c_aboveOf c_partings c_signs c_count c_pages c_levels c_most c_page c_known c_guess c_diff c_pieces c_place c_bits c_words c_entries c_bads c_noes c_fulls c_length c_next c_kept c_base c_from c_to c_above c_bit c_lastLeft) H → va_S A s.heap H locs → lv_has ls 6 [(0, .ref (a 3)), (1, .int v1)] → C0_joins_J25 a c_firsts c_most v1 v2 c_pages c_entries t0 = some (r, o_pages, o_entries) → W p l e { frames := 1, cells := 0, slots := 0, locals := 22 } s m args below meth c H locs 0 0 Q (F0 m 25 ls [.int t0]) := by
  obtain ⟨hx, hb, hml, hr, hown, hts, hlocks, hK, hA, hN⟩ := id C
  intro c_pages c_entries t0 H locs ls hP hS hl hm
  rw [C0_joins_J25] at hm
  refine lv_istore_n (lv' := [(3, .int t0), (0, .ref (a 3)), (1, .int v1)]) hx hb dX0_joins_25 rfl hl (by decide) rfl (fun ls hl => ?_)
  refine lv_iload_n hx hb dX0_joins_26 rfl (lv_at hl 0 rfl) ?_
  refine lv_if_eq (tgt := 36) hx hb dX0_joins_27 (by decide) (fun hc => ?_) (fun hc => ?_)
  · have hm := if_t hc hm
    refine lv_iload_n hx hb dX0_joins_36 rfl (lv_at hl 2 rfl) ?_
    exact t_C0_joins_J37 C hD hG hret _ _ _ _ _ _ hP hS (lv_sub hl [1] rfl) hm
  · have hm := if_f hc hm
    refine lv_iload_n hx hb dX0_joins_30 rfl (lv_at hl 2 rfl) ?_
    refine lv_iconst (v := 1) hx hb dX0_joins_31 (by decide) ?_
    refine lv_isub hx hb dX0_joins_32 ?_
    refine lv_goto (tgt := 37) hx hb dX0_joins_33 (by decide) ?_
    exact t_C0_joins_J37 C hD hG hret _ _ _ _ _ _ hP hS (lv_sub hl [1] rfl) hm
set_option maxRecDepth 100000 in
set_option maxHeartbeats 4000000 in
theorem c_X0_joins {l : Launch} {D : va_G} {cI cJ cB cL cS cW : ClassId} {a wb sw se : Nat → Nat} {LW LS LK : List Nat} {c_bytes c_heads c_firsts c_levelOf c_aboveOf c_partings c_signs c_count c_pages c_levels c_most c_page c_known c_guess c_diff c_pieces c_place : Nat → Int32} {c_bits : Nat → Nat → Int64} {c_words : Nat → Nat → Nat} {c_entries : Nat → Nat → Int32} {c_bads c_noes c_fulls c_length c_next c_kept c_base c_from c_to c_above c_bit c_lastLeft : Int32} {v1 : Int32} {v2 : Int32} {r : Int32} {o_pages : Nat → Int32} {o_entries : Nat → Nat → Int32} (hG : kG a LW LS LK) (hm : C0_joins a c_firsts c_most c_pages c_entries v1 v2 = some (r, o_pages, o_entries)) : k_MI l yX0_joins wsX0_joins { frames := 1, cells := 0, slots := 0, locals := 22 } D (kT cI cJ cB cL cS cW) [.ref (a 3), .int v1, .int v2] (WC a wb sw se LW LS LK cI cJ cB cL cS cW c_bytes c_heads c_firsts c_levelOf c_aboveOf c_partings c_signs c_count c_pages c_levels c_most c_page c_known c_guess c_diff c_pieces c_place c_bits c_words c_entries c_bads c_noes c_fulls c_length c_next c_kept c_base c_from c_to c_above c_bit c_lastLeft) r (WC a wb sw se LW LS LK cI cJ cB cL cS cW c_bytes c_heads c_firsts c_levelOf c_aboveOf c_partings c_signs c_count o_pages c_levels c_most c_page c_known c_guess c_diff c_pieces c_place c_bits c_words o_entries c_bads c_noes c_fulls c_length c_next c_kept c_base c_from c_to c_above c_bit c_lastLeft) := by
  refine k_ofZ (cc := cX0_joins) (maxL := 6) (own := RX0) (by decide) rfl rfl (Nat.le_of_ble_eq_true rfl) ?_
  intro p e s m args below meth c A Q ls C hP hD hl hret
  have hD : va_D A (WC0 a wb sw se LW LS LK cI cJ cB cL cS cW) := WCD hD
  have hS : va_S A s.heap s.heap [] := va_S.rf
  have hl : lv_has ls 6 [(0, .ref (a 3)), (1, .int v1), (2, .int v2)] := hl
  obtain ⟨hx, hb, hml, hr, hown, hts, hlocks, hK, hA, hN⟩ := id C
  rw [C0_joins] at hm
  refine lv_iload_n hx hb dX0_joins_0 rfl (lv_at hl 1 rfl) ?_
  refine lv_aload_n hx hb dX0_joins_1 rfl (lv_at hl 0 rfl) ?_
  refine lv_iload_n hx hb dX0_joins_2 rfl (lv_at hl 2 rfl) ?_
  obtain ⟨r3, hq0, hm⟩ := bd1_some hm
  refine k_callVI (As := [.int v2]) (rest := [.int v1]) ⟨hx, hb, hml, hown, hts⟩ hK hA hN (c_X0_firstOf hG hq0) (cwV 1 hts gX0_joins_X0_firstOf rfl rfl rfl hdX0_firstOf ⟨Nat.le_of_ble_eq_true rfl, Nat.le_of_ble_eq_true rfl⟩) hP (WCD hD) hS 3 0 rfl rfl rfl hl.1 rfl rfl (Nat.le_of_ble_eq_true rfl) ⟨Nat.zero_le _, Nat.zero_le _⟩ dX0_joins_3 (fun H locs hP hS => ?_)
  refine lv_aload_n hx hb dX0_joins_6 rfl (lv_at hl 0 rfl) ?_
  refine kg (v := .ref (a 14)) hx hb hts hiX0_joins_X0 hown hK hP 3 rfl rfl 0 (by decide) flX0_joins_12 rfl rfl dX0_joins_7 ?_
  refine lv_iload_n hx hb dX0_joins_10 rfl (lv_at hl 2 rfl) ?_
  obtain ⟨r11, hq0, hm⟩ := bd1_some hm
  obtain ⟨q, hq, -⟩ := WC_S hG hG.2.2.2.2.1
  refine k_callVI (As := [.int v2]) (rest := [.int r3, .int v1]) ⟨hx, hb, hml, hown, hts⟩ hK hA hN (c_X3_entriesOf hG hG.2.2.2.2.1 hq0) (cwV 1 hts gX0_joins_X3_entriesOf rfl rfl rfl hdX3_entriesOf ⟨Nat.le_of_ble_eq_true rfl, Nat.le_of_ble_eq_true rfl⟩) hP (WCD hD) hS q 3 hq rfl rfl hl.1 rfl rfl (Nat.le_of_ble_eq_true rfl) ⟨Nat.zero_le _, Nat.zero_le _⟩ dX0_joins_11 (fun H locs hP hS => ?_)
  refine lv_iadd hx hb dX0_joins_14 ?_
  refine lv_iconst (v := 1) hx hb dX0_joins_15 (by decide) ?_
  refine lv_isub hx hb dX0_joins_16 ?_
  refine lv_icmp_ne (tgt := 24) hx hb dX0_joins_17 (by decide) (fun hc => ?_) (fun hc => ?_)
  · have hm := if_f hc hm
    refine lv_iconst (v := 0) hx hb dX0_joins_24 (by decide) ?_
    exact t_C0_joins_J25 C hD hG hret _ _ _ _ _ _ hP hS (lv_sub hl [0, 1] rfl) hm
  · have hm := if_t hc hm
    refine lv_iconst (v := 1) hx hb dX0_joins_20 (by decide) ?_
    refine lv_goto (tgt := 25) hx hb dX0_joins_21 (by decide) ?_
    exact t_C0_joins_J25 C hD hG hret _ _ _ _ _ _ hP hS (lv_sub hl [0, 1] rfl) hm
