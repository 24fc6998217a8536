theorem hdX3_copyFrom : yX3_copyFrom.cls = RX3 ∧ yX3_copyFrom.cls ≠ "java/lang/invoke/MethodHandle" ∧ yX3_copyFrom.cls ≠ "java/lang/invoke/VarHandle" ∧ (parseMethodDescriptor yX3_copyFrom.desc).map (fun d => d.parameters.length) = some 1 := by decide +kernel
theorem hiX3_copyFrom_X3 : ∀ w ∈ u_ws RX3 TX3 6, w ∈ wsX3_copyFrom := by decide +kernel
theorem flX3_copyFrom_26 : Cond.fieldLink RX3 26 "BlindPages$State" "count" "I" ∈ wsX3_copyFrom := by decide +kernel
theorem flX3_copyFrom_11 : Cond.fieldLink RX3 11 "BlindPages$State" "words" "[LBlindPages$Word;" ∈ wsX3_copyFrom := by decide +kernel
theorem flX3_copyFrom_29 : Cond.fieldLink RX3 29 "BlindPages$State" "pages" "I" ∈ wsX3_copyFrom := by decide +kernel
theorem flX3_copyFrom_17 : Cond.fieldLink RX3 17 "BlindPages$State" "entries" "[I" ∈ wsX3_copyFrom := by decide +kernel
theorem flX3_copyFrom_32 : Cond.fieldLink RX3 32 "BlindPages$State" "levels" "I" ∈ wsX3_copyFrom := by decide +kernel
theorem flX3_copyFrom_21 : Cond.fieldLink RX3 21 "BlindPages$State" "most" "I" ∈ wsX3_copyFrom := by decide +kernel
def C3_copyFrom_L2 (LW : List Nat) (c_words : Nat → Nat → Nat) (v0 : Nat) (v1 : Nat) (k39 : (Nat → Int32) → (Nat → Int32) → (Nat → Int32) → (Nat → Int32) → (Nat → Int32) → (Nat → Nat → Int64) → (Nat → Nat → Int32) → Option ((Nat → Int32) × (Nat → Int32) × (Nat → Int32) × (Nat → Int32) × (Nat → Int32) × (Nat → Nat → Int64) × (Nat → Nat → Int32))) : Nat → (Nat → Int32) → (Nat → Int32) → (Nat → Int32) → (Nat → Int32) → (Nat → Int32) → (Nat → Nat → Int64) → (Nat → Nat → Int32) → Int32 → Option ((Nat → Int32) × (Nat → Int32) × (Nat → Int32) × (Nat → Int32) × (Nat → Int32) × (Nat → Nat → Int64) × (Nat → Nat → Int32))
  | 0, _, _, _, _, _, _, _, _ => none
  | n + 1, c_signs, c_count, c_pages, c_levels, c_most, c_bits, c_entries, v2 => if (c_count v1) ≤ v2 then (k39 c_signs c_count c_pages c_levels c_most c_bits c_entries) else (if 48 ≤ v2 then (k39 c_signs c_count c_pages c_levels c_most c_bits c_entries) else (ga v2 48 (gm LW (c_words v0 v2.toNatClampNeg) (bd1 (C3_wordAt LW c_words v1 v2) fun r27 => gm LW r27 (bd2 (C6_copyFrom c_signs c_bits (c_words v0 v2.toNatClampNeg) r27) fun c_signs_30 c_bits_30 => C3_copyFrom_L2 LW c_words v0 v1 k39 n c_signs_30 c_count c_pages c_levels c_most c_bits_30 c_entries (v2 + 1))))))
def C3_copyFrom_L41 (LW : List Nat) (c_words : Nat → Nat → Nat) (v0 : Nat) (v1 : Nat) (k75 : (Nat → Int32) → (Nat → Int32) → (Nat → Int32) → (Nat → Int32) → (Nat → Int32) → (Nat → Nat → Int64) → (Nat → Nat → Int32) → Option ((Nat → Int32) × (Nat → Int32) × (Nat → Int32) × (Nat → Int32) × (Nat → Int32) × (Nat → Nat → Int64) × (Nat → Nat → Int32))) : Nat → (Nat → Int32) → (Nat → Int32) → (Nat → Int32) → (Nat → Int32) → (Nat → Int32) → (Nat → Nat → Int64) → (Nat → Nat → Int32) → Int32 → Option ((Nat → Int32) × (Nat → Int32) × (Nat → Int32) × (Nat → Int32) × (Nat → Int32) × (Nat → Nat → Int64) × (Nat → Nat → Int32))
  | 0, _, _, _, _, _, _, _, _ => none
  | n + 1, c_signs, c_count, c_pages, c_levels, c_most, c_bits, c_entries, v2 => if (c_pages v1) ≤ v2 then (k75 c_signs c_count c_pages c_levels c_most c_bits c_entries) else (if 48 ≤ v2 then (k75 c_signs c_count c_pages c_levels c_most c_bits c_entries) else (bd1 (C3_entriesOf c_pages c_entries v1 v2) fun r65 => ga v2 48 (C3_copyFrom_L41 LW c_words v0 v1 k75 n c_signs c_count c_pages c_levels c_most c_bits (va_up c_entries v0 (upd (c_entries v0) v2.toNatClampNeg r65)) (v2 + 1))))
def C3_copyFrom_J75 (LW : List Nat) (c_words : Nat → Nat → Nat) (v0 : Nat) (v1 : Nat) (c_signs : (Nat → Int32)) (c_count : (Nat → Int32)) (c_pages : (Nat → Int32)) (c_levels : (Nat → Int32)) (c_most : (Nat → Int32)) (c_bits : (Nat → Nat → Int64)) (c_entries : (Nat → Nat → Int32)) : Option ((Nat → Int32) × (Nat → Int32) × (Nat → Int32) × (Nat → Int32) × (Nat → Int32) × (Nat → Nat → Int64) × (Nat → Nat → Int32)) := some (c_signs, (va_up c_count v0 (c_count v1)), (va_up c_pages v0 (c_pages v1)), (va_up c_levels v0 (c_levels v1)), (va_up c_most v0 (c_most v1)), c_bits, c_entries)
def C3_copyFrom (LW : List Nat) (c_words : Nat → Nat → Nat) (c_signs c_count c_pages c_levels c_most : Nat → Int32) (c_bits : Nat → Nat → Int64) (c_entries : Nat → Nat → Int32) (v0 : Nat) (v1 : Nat) : Option ((Nat → Int32) × (Nat → Int32) × (Nat → Int32) × (Nat → Int32) × (Nat → Int32) × (Nat → Nat → Int64) × (Nat → Nat → Int32)) := C3_copyFrom_L2 LW c_words v0 v1 (fun c_signs c_count c_pages c_levels c_most c_bits c_entries => C3_copyFrom_L41 LW c_words v0 v1 (fun c_signs c_count c_pages c_levels c_most c_bits c_entries => C3_copyFrom_J75 LW c_words v0 v1 c_signs c_count c_pages c_levels c_most c_bits c_entries) FU c_signs c_count c_pages c_levels c_most c_bits c_entries 0) FU c_signs c_count c_pages c_levels c_most c_bits c_entries 0
set_option maxRecDepth 100000 in
set_option maxHeartbeats 4000000 in
theorem t_C3_copyFrom_L2 {p : Program} {l : Launch} {e : Env} {s : State} {m : MethodId} {args : Array Value} {below : List Frame} {meth : Method} {c : Code} {Q : State → Prop} {A : Nat → Prop} {D : va_G} {cI cJ cB cL cS cW : ClassId} {a wb sw se : Nat → Nat} {LW LS LK : List Nat} {c_bytes c_heads c_firsts c_levelOf c_aboveOf c_partings c_page c_known c_guess c_diff c_pieces c_place : Nat → Int32} {c_words : Nat → Nat → Nat} {c_bads c_noes c_fulls c_length c_next c_kept c_base c_from c_to c_above c_bit c_lastLeft : Int32} {v0 : Nat} {v1 : Nat} {o_signs : Nat → Int32} {o_count : Nat → Int32} {o_pages : Nat → Int32} {o_levels : Nat → Int32} {o_most : Nat → Int32} {o_bits : Nat → Nat → Int64} {o_entries : Nat → Nat → Int32} (C : k_C p s m args meth c cX3_copyFrom 3 none RX3 wsX3_copyFrom D (kT cI cJ cB cL cS cW) A) (hD : va_D A (WC0 a wb sw se LW LS LK cI cJ cB cL cS cW)) (hG : kG a LW LS LK) (hv0 : v0 ∈ LS) (hv1 : v1 ∈ LS) (hret : ∀ (H : Heap) (locs : List Loc) (pc : Nat) (ls : Array Slot), decode cX3_copyFrom pc = .ok (.return_, 1) → va_P D vwCl (WC a wb sw se LW LS LK cI cJ cB cL cS cW c_bytes c_heads c_firsts c_levelOf c_aboveOf c_partings o_signs o_count o_pages o_levels o_most c_page c_known c_guess c_diff c_pieces c_place o_bits c_words o_entries c_bads c_noes c_fulls c_length c_next c_kept c_base c_from c_to c_above c_bit c_lastLeft) H → va_S A s.heap H locs → W p l e { frames := 1, cells := 0, slots := 0, locals := 22 } s m args below meth c H locs 0 0 Q (F0 m pc ls [])) {k39 : (Nat → Int32) → (Nat → Int32) → (Nat → Int32) → (Nat → Int32) → (Nat → Int32) → (Nat → Nat → Int64) → (Nat → Nat → Int32) → Option ((Nat → Int32) × (Nat → Int32) × (Nat → Int32) × (Nat → Int32) × (Nat → Int32) × (Nat → Nat → Int64) × (Nat → Nat → Int32))} (hk39 : ∀ (c_signs : (Nat → Int32)) (c_count : (Nat → Int32)) (c_pages : (Nat → Int32)) (c_levels : (Nat → Int32)) (c_most : (Nat → Int32)) (c_bits : (Nat → Nat → Int64)) (c_entries : (Nat → Nat → Int32)) (H : Heap) (locs : List Loc) (ls : Array Slot), va_P D vwCl (WC a wb sw se LW LS LK cI cJ cB cL cS cW c_bytes c_heads c_firsts c_levelOf c_aboveOf c_partings c_signs c_count c_pages c_levels c_most c_page c_known c_guess c_diff c_pieces c_place c_bits c_words c_entries c_bads c_noes c_fulls c_length c_next c_kept c_base c_from c_to c_above c_bit c_lastLeft) H → va_S A s.heap H locs → lv_has ls 3 [(0, .ref v0), (1, .ref v1)] → k39 c_signs c_count c_pages c_levels c_most c_bits c_entries = some (o_signs, o_count, o_pages, o_levels, o_most, o_bits, o_entries) → W p l e { frames := 1, cells := 0, slots := 0, locals := 22 } s m args below meth c H locs 0 0 Q (F0 m 39 ls [])) : ∀ n : Nat, ∀ (c_signs : (Nat → Int32)) (c_count : (Nat → Int32)) (c_pages : (Nat → Int32)) (c_levels : (Nat → Int32)) (c_most : (Nat → Int32)) (c_bits : (Nat → Nat → Int64)) (c_entries : (Nat → Nat → Int32)) (v2 : Int32) (H : Heap) (locs : List Loc) (ls : Array Slot), va_P D vwCl (WC a wb sw se LW LS LK cI cJ cB cL cS cW c_bytes c_heads c_firsts c_levelOf c_aboveOf c_partings c_signs c_count c_pages c_levels c_most c_page c_known c_guess c_diff c_pieces c_place c_bits c_words c_entries c_bads c_noes c_fulls c_length c_next c_kept c_base c_from c_to c_above c_bit c_lastLeft) H → va_S A s.heap H locs → lv_has ls 3 [(0, .ref v0), (1, .ref v1), (2, .int v2)] → (C3_copyFrom_L2 LW c_words v0 v1 k39 n) c_signs c_count c_pages c_levels c_most c_bits c_entries v2 = some (o_signs, o_count, o_pages, o_levels, o_most, o_bits, o_entries) → W p l e { frames := 1, cells := 0, slots := 0, locals := 22 } s m args below meth c H locs 0 0 Q (F0 m 2 ls []) := by
  obtain ⟨hx, hb, hml, hr, hown, hts, hlocks, hK, hA, hN⟩ := id C
  intro n
  induction n with
  | zero =>
    intro c_signs c_count c_pages c_levels c_most c_bits c_entries v2 H locs ls hP hS hl hm
    cases hm
  | succ n ih =>
    intro c_signs c_count c_pages c_levels c_most c_bits c_entries v2 H locs ls hP hS hl hm
    rw [C3_copyFrom_L2] at hm
    refine lv_iload_n hx hb dX3_copyFrom_2 rfl (lv_at hl 2 rfl) ?_
    refine lv_aload_n hx hb dX3_copyFrom_3 rfl (lv_at hl 1 rfl) ?_
    obtain ⟨q, hq, -⟩ := WC_S hG hv1
    refine kg (v := .int (c_count v1)) hx hb hts hiX3_copyFrom_X3 hown hK hP q hq rfl 2 (by decide) flX3_copyFrom_26 rfl rfl dX3_copyFrom_4 ?_
    refine lv_icmp_ge (tgt := 39) hx hb dX3_copyFrom_7 (by decide) (fun hc => ?_) (fun hc => ?_)
    · have hm := if_t hc hm
      exact hk39 _ _ _ _ _ _ _ _ _ _ hP hS (lv_sub hl [0, 1] rfl) hm
    · have hm := if_f hc hm
      refine lv_iload_n hx hb dX3_copyFrom_10 rfl (lv_at hl 2 rfl) ?_
      refine lv_aload_n hx hb dX3_copyFrom_11 rfl (lv_at hl 0 rfl) ?_
      obtain ⟨q, hq, -⟩ := WC_S hG hv0
      refine kg (v := .ref (sw v0)) hx hb hts hiX3_copyFrom_X3 hown hK hP q hq rfl 0 (by decide) flX3_copyFrom_11 rfl rfl dX3_copyFrom_12 ?_
      obtain ⟨q, hq, -⟩ := WC_words hG hv0
      refine va_alen (v := 48) hx hb hK hP q 5 hq rfl rfl dX3_copyFrom_15 ?_
      refine lv_icmp_ge (tgt := 39) hx hb dX3_copyFrom_16 (by decide) (fun hc => ?_) (fun hc => ?_)
      · have hm := if_t hc hm
        exact hk39 _ _ _ _ _ _ _ _ _ _ hP hS (lv_sub hl [0, 1] rfl) hm
      · have hm := if_f hc hm
        refine lv_aload_n hx hb dX3_copyFrom_19 rfl (lv_at hl 0 rfl) ?_
        obtain ⟨q, hq, -⟩ := WC_S hG hv0
        refine kg (v := .ref (sw v0)) hx hb hts hiX3_copyFrom_X3 hown hK hP q hq rfl 0 (by decide) flX3_copyFrom_11 rfl rfl dX3_copyFrom_20 ?_
        refine lv_iload_n hx hb dX3_copyFrom_23 rfl (lv_at hl 2 rfl) ?_
        obtain ⟨hi, hm⟩ := ga_some hm
        obtain ⟨hw24, hm⟩ := gm_some hm
        obtain ⟨q, hq, -⟩ := WC_words hG hv0
        refine k_aald hx hb hK hP q 5 hq rfl rfl hi dX3_copyFrom_24 ?_
        refine lv_aload_n hx hb dX3_copyFrom_25 rfl (lv_at hl 1 rfl) ?_
        refine lv_iload_n hx hb dX3_copyFrom_26 rfl (lv_at hl 2 rfl) ?_
        obtain ⟨r27, hq0, hm⟩ := bd1_some hm
        obtain ⟨hw27, hm⟩ := gm_some hm
        obtain ⟨q, hq, -⟩ := WC_S hG hv1
        refine k_callVA (As := [.int v2]) (rest := [.ref (c_words v0 v2.toNatClampNeg)]) ⟨hx, hb, hml, hown, hts⟩ hK hA hN (c_X3_wordAt hG hv1 hq0) (cwV 1 hts gX3_copyFrom_X3_wordAt rfl rfl rfl hdX3_wordAt ⟨Nat.le_of_ble_eq_true rfl, Nat.le_of_ble_eq_true rfl⟩) hP (WCD hD) hS q 3 hq rfl rfl hl.1 rfl rfl (Nat.le_of_ble_eq_true rfl) ⟨Nat.zero_le _, Nat.zero_le _⟩ dX3_copyFrom_27 (fun H locs hP hS => ?_)
        obtain ⟨c_signs_30, c_bits_30, hq0, hm⟩ := bd2_some hm
        obtain ⟨q, hq, -⟩ := WC_W hG hw24
        refine k_callVV (As := [.ref r27]) (rest := []) ⟨hx, hb, hml, hown, hts⟩ hK hA hN (c_X6_copyFrom hG hw24 hw27 hq0) (cwV 1 hts gX3_copyFrom_X6_copyFrom rfl rfl rfl hdX6_copyFrom ⟨Nat.le_of_ble_eq_true rfl, Nat.le_of_ble_eq_true rfl⟩) hP (WCD hD) hS q 6 hq rfl rfl hl.1 rfl rfl (Nat.le_of_ble_eq_true rfl) ⟨Nat.zero_le _, Nat.zero_le _⟩ dX3_copyFrom_30 (fun H locs hP hS => ?_)
        refine lv_iinc (v := (v2 + 1)) (lv' := [(2, .int (v2 + 1)), (0, .ref v0), (1, .ref v1)]) hx hb dX3_copyFrom_33 hl (k := 2) rfl rfl (by decide) rfl (fun ls hl => ?_)
        refine lv_goto (tgt := 2) hx hb dX3_copyFrom_36 (by decide) ?_
        exact ih _ _ _ _ _ _ _ _ _ _ _ hP hS (lv_sub hl [1, 2, 0] rfl) hm
set_option maxRecDepth 100000 in
set_option maxHeartbeats 4000000 in
theorem t_C3_copyFrom_L41 {p : Program} {l : Launch} {e : Env} {s : State} {m : MethodId} {args : Array Value} {below : List Frame} {meth : Method} {c : Code} {Q : State → Prop} {A : Nat → Prop} {D : va_G} {cI cJ cB cL cS cW : ClassId} {a wb sw se : Nat → Nat} {LW LS LK : List Nat} {c_bytes c_heads c_firsts c_levelOf c_aboveOf c_partings c_page c_known c_guess c_diff c_pieces c_place : Nat → Int32} {c_words : Nat → Nat → Nat} {c_bads c_noes c_fulls c_length c_next c_kept c_base c_from c_to c_above c_bit c_lastLeft : Int32} {v0 : Nat} {v1 : Nat} {o_signs : Nat → Int32} {o_count : Nat → Int32} {o_pages : Nat → Int32} {o_levels : Nat → Int32} {o_most : Nat → Int32} {o_bits : Nat → Nat → Int64} {o_entries : Nat → Nat → Int32} (C : k_C p s m args meth c cX3_copyFrom 3 none RX3 wsX3_copyFrom D (kT cI cJ cB cL cS cW) A) (hD : va_D A (WC0 a wb sw se LW LS LK cI cJ cB cL cS cW)) (hG : kG a LW LS LK) (hv0 : v0 ∈ LS) (hv1 : v1 ∈ LS) (hret : ∀ (H : Heap) (locs : List Loc) (pc : Nat) (ls : Array Slot), decode cX3_copyFrom pc = .ok (.return_, 1) → va_P D vwCl (WC a wb sw se LW LS LK cI cJ cB cL cS cW c_bytes c_heads c_firsts c_levelOf c_aboveOf c_partings o_signs o_count o_pages o_levels o_most c_page c_known c_guess c_diff c_pieces c_place o_bits c_words o_entries c_bads c_noes c_fulls c_length c_next c_kept c_base c_from c_to c_above c_bit c_lastLeft) H → va_S A s.heap H locs → W p l e { frames := 1, cells := 0, slots := 0, locals := 22 } s m args below meth c H locs 0 0 Q (F0 m pc ls [])) {k75 : (Nat → Int32) → (Nat → Int32) → (Nat → Int32) → (Nat → Int32) → (Nat → Int32) → (Nat → Nat → Int64) → (Nat → Nat → Int32) → Option ((Nat → Int32) × (Nat → Int32) × (Nat → Int32) × (Nat → Int32) × (Nat → Int32) × (Nat → Nat → Int64) × (Nat → Nat → Int32))} (hk75 : ∀ (c_signs : (Nat → Int32)) (c_count : (Nat → Int32)) (c_pages : (Nat → Int32)) (c_levels : (Nat → Int32)) (c_most : (Nat → Int32)) (c_bits : (Nat → Nat → Int64)) (c_entries : (Nat → Nat → Int32)) (H : Heap) (locs : List Loc) (ls : Array Slot), va_P D vwCl (WC a wb sw se LW LS LK cI cJ cB cL cS cW c_bytes c_heads c_firsts c_levelOf c_aboveOf c_partings c_signs c_count c_pages c_levels c_most c_page c_known c_guess c_diff c_pieces c_place c_bits c_words c_entries c_bads c_noes c_fulls c_length c_next c_kept c_base c_from c_to c_above c_bit c_lastLeft) H → va_S A s.heap H locs → lv_has ls 3 [(0, .ref v0), (1, .ref v1)] → k75 c_signs c_count c_pages c_levels c_most c_bits c_entries = some (o_signs, o_count, o_pages, o_levels, o_most, o_bits, o_entries) → W p l e { frames := 1, cells := 0, slots := 0, locals := 22 } s m args below meth c H locs 0 0 Q (F0 m 75 ls [])) : ∀ n : Nat, ∀ (c_signs : (Nat → Int32)) (c_count : (Nat → Int32)) (c_pages : (Nat → Int32)) (c_levels : (Nat → Int32)) (c_most : (Nat → Int32)) (c_bits : (Nat → Nat → Int64)) (c_entries : (Nat → Nat → Int32)) (v2 : Int32) (H : Heap) (locs : List Loc) (ls : Array Slot), va_P D vwCl (WC a wb sw se LW LS LK cI cJ cB cL cS cW c_bytes c_heads c_firsts c_levelOf c_aboveOf c_partings c_signs c_count c_pages c_levels c_most c_page c_known c_guess c_diff c_pieces c_place c_bits c_words c_entries c_bads c_noes c_fulls c_length c_next c_kept c_base c_from c_to c_above c_bit c_lastLeft) H → va_S A s.heap H locs → lv_has ls 3 [(0, .ref v0), (1, .ref v1), (2, .int v2)] → (C3_copyFrom_L41 LW c_words v0 v1 k75 n) c_signs c_count c_pages c_levels c_most c_bits c_entries v2 = some (o_signs, o_count, o_pages, o_levels, o_most, o_bits, o_entries) → W p l e { frames := 1, cells := 0, slots := 0, locals := 22 } s m args below meth c H locs 0 0 Q (F0 m 41 ls []) := by
  obtain ⟨hx, hb, hml, hr, hown, hts, hlocks, hK, hA, hN⟩ := id C
  intro n
  induction n with
  | zero =>
    intro c_signs c_count c_pages c_levels c_most c_bits c_entries v2 H locs ls hP hS hl hm
    cases hm
  | succ n ih =>
    intro c_signs c_count c_pages c_levels c_most c_bits c_entries v2 H locs ls hP hS hl hm
    rw [C3_copyFrom_L41] at hm
    refine lv_iload_n hx hb dX3_copyFrom_41 rfl (lv_at hl 2 rfl) ?_
    refine lv_aload_n hx hb dX3_copyFrom_42 rfl (lv_at hl 1 rfl) ?_
    obtain ⟨q, hq, -⟩ := WC_S hG hv1
    refine kg (v := .int (c_pages v1)) hx hb hts hiX3_copyFrom_X3 hown hK hP q hq rfl 3 (by decide) flX3_copyFrom_29 rfl rfl dX3_copyFrom_43 ?_
    refine lv_icmp_ge (tgt := 75) hx hb dX3_copyFrom_46 (by decide) (fun hc => ?_) (fun hc => ?_)
    · have hm := if_t hc hm
      exact hk75 _ _ _ _ _ _ _ _ _ _ hP hS (lv_sub hl [0, 1] rfl) hm
    · have hm := if_f hc hm
      refine lv_iload_n hx hb dX3_copyFrom_49 rfl (lv_at hl 2 rfl) ?_
      refine lv_aload_n hx hb dX3_copyFrom_50 rfl (lv_at hl 0 rfl) ?_
      obtain ⟨q, hq, -⟩ := WC_S hG hv0
      refine kg (v := .ref (se v0)) hx hb hts hiX3_copyFrom_X3 hown hK hP q hq rfl 1 (by decide) flX3_copyFrom_17 rfl rfl dX3_copyFrom_51 ?_
      obtain ⟨q, hq, -⟩ := WC_entries hG hv0
      refine va_alen (v := 48) hx hb hK hP q 0 hq rfl rfl dX3_copyFrom_54 ?_
      refine lv_icmp_ge (tgt := 75) hx hb dX3_copyFrom_55 (by decide) (fun hc => ?_) (fun hc => ?_)
      · have hm := if_t hc hm
        exact hk75 _ _ _ _ _ _ _ _ _ _ hP hS (lv_sub hl [0, 1] rfl) hm
      · have hm := if_f hc hm
        refine lv_aload_n hx hb dX3_copyFrom_58 rfl (lv_at hl 0 rfl) ?_
        obtain ⟨q, hq, -⟩ := WC_S hG hv0
        refine kg (v := .ref (se v0)) hx hb hts hiX3_copyFrom_X3 hown hK hP q hq rfl 1 (by decide) flX3_copyFrom_17 rfl rfl dX3_copyFrom_59 ?_
        refine lv_iload_n hx hb dX3_copyFrom_62 rfl (lv_at hl 2 rfl) ?_
        refine lv_aload_n hx hb dX3_copyFrom_63 rfl (lv_at hl 1 rfl) ?_
        refine lv_iload_n hx hb dX3_copyFrom_64 rfl (lv_at hl 2 rfl) ?_
        obtain ⟨r65, hq0, hm⟩ := bd1_some hm
        obtain ⟨q, hq, -⟩ := WC_S hG hv1
        refine k_callVI (As := [.int v2]) (rest := [.int v2, .ref (se v0)]) ⟨hx, hb, hml, hown, hts⟩ hK hA hN (c_X3_entriesOf hG hv1 hq0) (cwV 1 hts gX3_copyFrom_X3_entriesOf rfl rfl rfl hdX3_entriesOf ⟨Nat.le_of_ble_eq_true rfl, Nat.le_of_ble_eq_true rfl⟩) hP (WCD hD) hS q 3 hq rfl rfl hl.1 rfl rfl (Nat.le_of_ble_eq_true rfl) ⟨Nat.zero_le _, Nat.zero_le _⟩ dX3_copyFrom_65 (fun H locs hP hS => ?_)
        obtain ⟨hi, hm⟩ := ga_some hm
        obtain ⟨q, hq, he⟩ := WC_entries hG hv0
        refine k_iast hx hb hK hP (WCD hD) hS q 0 hq rfl rfl hi dX3_copyFrom_68 (fun H locs hP hS => ?_)
        have hP : va_P D vwCl (WC a wb sw se LW LS LK cI cJ cB cL cS cW c_bytes c_heads c_firsts c_levelOf c_aboveOf c_partings c_signs c_count c_pages c_levels c_most c_page c_known c_guess c_diff c_pieces c_place c_bits c_words (va_up c_entries v0 (upd (c_entries v0) v2.toNatClampNeg r65)) c_bads c_noes c_fulls c_length c_next c_kept c_base c_from c_to c_above c_bit c_lastLeft) H := by rw [← he]; exact hP
        refine lv_iinc (v := (v2 + 1)) (lv' := [(2, .int (v2 + 1)), (0, .ref v0), (1, .ref v1)]) hx hb dX3_copyFrom_69 hl (k := 2) rfl rfl (by decide) rfl (fun ls hl => ?_)
        refine lv_goto (tgt := 41) hx hb dX3_copyFrom_72 (by decide) ?_
        exact ih _ _ _ _ _ _ _ _ _ _ _ hP hS (lv_sub hl [1, 2, 0] rfl) hm
set_option maxRecDepth 100000 in
set_option maxHeartbeats 4000000 in
theorem t_C3_copyFrom_J75 {p : Program} {l : Launch} {e : Env} {s : State} {m : MethodId} {args : Array Value} {below : List Frame} {meth : Method} {c : Code} {Q : State → Prop} {A : Nat → Prop} {D : va_G} {cI cJ cB cL cS cW : ClassId} {a wb sw se : Nat → Nat} {LW LS LK : List Nat} {c_bytes c_heads c_firsts c_levelOf c_aboveOf c_partings c_page c_known c_guess c_diff c_pieces c_place : Nat → Int32} {c_words : Nat → Nat → Nat} {c_bads c_noes c_fulls c_length c_next c_kept c_base c_from c_to c_above c_bit c_lastLeft : Int32} {v0 : Nat} {v1 : Nat} {o_signs : Nat → Int32} {o_count : Nat → Int32} {o_pages : Nat → Int32} {o_levels : Nat → Int32} {o_most : Nat → Int32} {o_bits : Nat → Nat → Int64} {o_entries : Nat → Nat → Int32} (C : k_C p s m args meth c cX3_copyFrom 3 none RX3 wsX3_copyFrom D (kT cI cJ cB cL cS cW) A) (hD : va_D A (WC0 a wb sw se LW LS LK cI cJ cB cL cS cW)) (hG : kG a LW LS LK) (hv0 : v0 ∈ LS) (hv1 : v1 ∈ LS) (hret : ∀ (H : Heap) (locs : List Loc) (pc : Nat) (ls : Array Slot), decode cX3_copyFrom pc = .ok (.return_, 1) → va_P D vwCl (WC a wb sw se LW LS LK cI cJ cB cL cS cW c_bytes c_heads c_firsts c_levelOf c_aboveOf c_partings o_signs o_count o_pages o_levels o_most c_page c_known c_guess c_diff c_pieces c_place o_bits c_words o_entries c_bads c_noes c_fulls c_length c_next c_kept c_base c_from c_to c_above c_bit c_lastLeft) H → va_S A s.heap H locs → W p l e { frames := 1, cells := 0, slots := 0, locals := 22 } s m args below meth c H locs 0 0 Q (F0 m pc ls [])) : ∀ (c_signs : (Nat → Int32)) (c_count : (Nat → Int32)) (c_pages : (Nat → Int32)) (c_levels : (Nat → Int32)) (c_most : (Nat → Int32)) (c_bits : (Nat → Nat → Int64)) (c_entries : (Nat → Nat → Int32)) (H : Heap) (locs : List Loc) (ls : Array Slot), va_P D vwCl (WC a wb sw se LW LS LK cI cJ cB cL cS cW c_bytes c_heads c_firsts c_levelOf c_aboveOf c_partings c_signs c_count c_pages c_levels c_most c_page c_known c_guess c_diff c_pieces c_place c_bits c_words c_entries c_bads c_noes c_fulls c_length c_next c_kept c_base c_from c_to c_above c_bit c_lastLeft) H → va_S A s.heap H locs → lv_has ls 3 [(0, .ref v0), (1, .ref v1)] → C3_copyFrom_J75 LW c_words v0 v1 c_signs c_count c_pages c_levels c_most c_bits c_entries = some (o_signs, o_count, o_pages, o_levels, o_most, o_bits, o_entries) → W p l e { frames := 1, cells := 0, slots := 0, locals := 22 } s m args below meth c H locs 0 0 Q (F0 m 75 ls []) := by
  obtain ⟨hx, hb, hml, hr, hown, hts, hlocks, hK, hA, hN⟩ := id C
  intro c_signs c_count c_pages c_levels c_most c_bits c_entries H locs ls hP hS hl hm
  rw [C3_copyFrom_J75] at hm
  refine lv_aload_n hx hb dX3_copyFrom_75 rfl (lv_at hl 0 rfl) ?_
  refine lv_aload_n hx hb dX3_copyFrom_76 rfl (lv_at hl 1 rfl) ?_
  obtain ⟨q, hq, -⟩ := WC_S hG hv1
  refine kg (v := .int (c_count v1)) hx hb hts hiX3_copyFrom_X3 hown hK hP q hq rfl 2 (by decide) flX3_copyFrom_26 rfl rfl dX3_copyFrom_77 ?_
  obtain ⟨q, hq, he⟩ := WC_S hG hv0
  refine kp hx hb hts hiX3_copyFrom_X3 tyX3 tyX3_ok nmX3 hown hK hP (WCD hD) hS q hq rfl 2 (by decide) flX3_copyFrom_26 rfl rfl rfl (Nat.le_of_ble_eq_true rfl) dX3_copyFrom_80 (fun H locs hP hS => ?_)
  have hP : va_P D vwCl (WC a wb sw se LW LS LK cI cJ cB cL cS cW c_bytes c_heads c_firsts c_levelOf c_aboveOf c_partings c_signs (va_up c_count v0 (c_count v1)) c_pages c_levels c_most c_page c_known c_guess c_diff c_pieces c_place c_bits c_words c_entries c_bads c_noes c_fulls c_length c_next c_kept c_base c_from c_to c_above c_bit c_lastLeft) H := by rw [← he.1]; exact hP
  refine lv_aload_n hx hb dX3_copyFrom_83 rfl (lv_at hl 0 rfl) ?_
  refine lv_aload_n hx hb dX3_copyFrom_84 rfl (lv_at hl 1 rfl) ?_
  obtain ⟨q, hq, -⟩ := WC_S hG hv1
  refine kg (v := .int (c_pages v1)) hx hb hts hiX3_copyFrom_X3 hown hK hP q hq rfl 3 (by decide) flX3_copyFrom_29 rfl rfl dX3_copyFrom_85 ?_
  obtain ⟨q, hq, he⟩ := WC_S hG hv0
  refine kp hx hb hts hiX3_copyFrom_X3 tyX3 tyX3_ok nmX3 hown hK hP (WCD hD) hS q hq rfl 3 (by decide) flX3_copyFrom_29 rfl rfl rfl (Nat.le_of_ble_eq_true rfl) dX3_copyFrom_88 (fun H locs hP hS => ?_)
  have hP : va_P D vwCl (WC a wb sw se LW LS LK cI cJ cB cL cS cW c_bytes c_heads c_firsts c_levelOf c_aboveOf c_partings c_signs (va_up c_count v0 (c_count v1)) (va_up c_pages v0 (c_pages v1)) c_levels c_most c_page c_known c_guess c_diff c_pieces c_place c_bits c_words c_entries c_bads c_noes c_fulls c_length c_next c_kept c_base c_from c_to c_above c_bit c_lastLeft) H := by rw [← he.2.1]; exact hP
  refine lv_aload_n hx hb dX3_copyFrom_91 rfl (lv_at hl 0 rfl) ?_
  refine lv_aload_n hx hb dX3_copyFrom_92 rfl (lv_at hl 1 rfl) ?_
  obtain ⟨q, hq, -⟩ := WC_S hG hv1
  refine kg (v := .int (c_levels v1)) hx hb hts hiX3_copyFrom_X3 hown hK hP q hq rfl 4 (by decide) flX3_copyFrom_32 rfl rfl dX3_copyFrom_93 ?_
  obtain ⟨q, hq, he⟩ := WC_S hG hv0
  refine kp hx hb hts hiX3_copyFrom_X3 tyX3 tyX3_ok nmX3 hown hK hP (WCD hD) hS q hq rfl 4 (by decide) flX3_copyFrom_32 rfl rfl rfl (Nat.le_of_ble_eq_true rfl) dX3_copyFrom_96 (fun H locs hP hS => ?_)
  have hP : va_P D vwCl (WC a wb sw se LW LS LK cI cJ cB cL cS cW c_bytes c_heads c_firsts c_levelOf c_aboveOf c_partings c_signs (va_up c_count v0 (c_count v1)) (va_up c_pages v0 (c_pages v1)) (va_up c_levels v0 (c_levels v1)) c_most c_page c_known c_guess c_diff c_pieces c_place c_bits c_words c_entries c_bads c_noes c_fulls c_length c_next c_kept c_base c_from c_to c_above c_bit c_lastLeft) H := by rw [← he.2.2.1]; exact hP
  refine lv_aload_n hx hb dX3_copyFrom_99 rfl (lv_at hl 0 rfl) ?_
  refine lv_aload_n hx hb dX3_copyFrom_100 rfl (lv_at hl 1 rfl) ?_
  obtain ⟨q, hq, -⟩ := WC_S hG hv1
  refine kg (v := .int (c_most v1)) hx hb hts hiX3_copyFrom_X3 hown hK hP q hq rfl 5 (by decide) flX3_copyFrom_21 rfl rfl dX3_copyFrom_101 ?_
  obtain ⟨q, hq, he⟩ := WC_S hG hv0
  refine kp hx hb hts hiX3_copyFrom_X3 tyX3 tyX3_ok nmX3 hown hK hP (WCD hD) hS q hq rfl 5 (by decide) flX3_copyFrom_21 rfl rfl rfl (Nat.le_of_ble_eq_true rfl) dX3_copyFrom_104 (fun H locs hP hS => ?_)
  have hP : va_P D vwCl (WC a wb sw se LW LS LK cI cJ cB cL cS cW c_bytes c_heads c_firsts c_levelOf c_aboveOf c_partings c_signs (va_up c_count v0 (c_count v1)) (va_up c_pages v0 (c_pages v1)) (va_up c_levels v0 (c_levels v1)) (va_up c_most v0 (c_most v1)) c_page c_known c_guess c_diff c_pieces c_place c_bits c_words c_entries c_bads c_noes c_fulls c_length c_next c_kept c_base c_from c_to c_above c_bit c_lastLeft) H := by rw [← he.2.2.2]; exact hP
  simp only [Option.some.injEq, Prod.mk.injEq] at hm
  obtain ⟨rfl, rfl, rfl, rfl, rfl, rfl, rfl⟩ := hm
  exact hret _ _ _ _ dX3_copyFrom_107 hP hS
set_option maxRecDepth 100000 in
set_option maxHeartbeats 4000000 in
theorem c_X3_copyFrom {l : Launch} {D : va_G} {cI cJ cB cL cS cW : ClassId} {a wb sw se : Nat → Nat} {LW LS LK : List Nat} {c_bytes c_heads c_firsts c_levelOf c_aboveOf c_partings c_signs c_count c_pages c_levels c_most c_page c_known c_guess c_diff c_pieces c_place : Nat → Int32} {c_bits : Nat → Nat → Int64} {c_words : Nat → Nat → Nat} {c_entries : Nat → Nat → Int32} {c_bads c_noes c_fulls c_length c_next c_kept c_base c_from c_to c_above c_bit c_lastLeft : Int32} {v0 : Nat} {v1 : Nat} {o_signs : Nat → Int32} {o_count : Nat → Int32} {o_pages : Nat → Int32} {o_levels : Nat → Int32} {o_most : Nat → Int32} {o_bits : Nat → Nat → Int64} {o_entries : Nat → Nat → Int32} (hG : kG a LW LS LK) (hv0 : v0 ∈ LS) (hv1 : v1 ∈ LS) (hm : C3_copyFrom LW c_words c_signs c_count c_pages c_levels c_most c_bits c_entries v0 v1 = some (o_signs, o_count, o_pages, o_levels, o_most, o_bits, o_entries)) : k_MV l yX3_copyFrom wsX3_copyFrom { frames := 1, cells := 0, slots := 0, locals := 22 } D (kT cI cJ cB cL cS cW) [.ref v0, .ref v1] (WC a wb sw se LW LS LK cI cJ cB cL cS cW c_bytes c_heads c_firsts c_levelOf c_aboveOf c_partings c_signs c_count c_pages c_levels c_most c_page c_known c_guess c_diff c_pieces c_place c_bits c_words c_entries c_bads c_noes c_fulls c_length c_next c_kept c_base c_from c_to c_above c_bit c_lastLeft) (WC a wb sw se LW LS LK cI cJ cB cL cS cW c_bytes c_heads c_firsts c_levelOf c_aboveOf c_partings o_signs o_count o_pages o_levels o_most c_page c_known c_guess c_diff c_pieces c_place o_bits c_words o_entries c_bads c_noes c_fulls c_length c_next c_kept c_base c_from c_to c_above c_bit c_lastLeft) := by
  refine k_ofV (cc := cX3_copyFrom) (maxL := 3) (own := RX3) (by decide) rfl rfl (Nat.le_of_ble_eq_true rfl) ?_
  intro p e s m args below meth c A Q ls C hP hD hl hret
  have hD : va_D A (WC0 a wb sw se LW LS LK cI cJ cB cL cS cW) := WCD hD
  have hS : va_S A s.heap s.heap [] := va_S.rf
  have hl : lv_has ls 3 [(0, .ref v0), (1, .ref v1)] := hl
  obtain ⟨hx, hb, hml, hr, hown, hts, hlocks, hK, hA, hN⟩ := id C
  rw [C3_copyFrom] at hm
  refine lv_iconst (v := 0) hx hb dX3_copyFrom_0 (by decide) ?_
  refine lv_istore_n (lv' := [(2, .int 0), (0, .ref v0), (1, .ref v1)]) hx hb dX3_copyFrom_1 rfl hl (by decide) rfl (fun ls hl => ?_)
  refine t_C3_copyFrom_L2 C hD hG hv0 hv1 hret ?_ FU _ _ _ _ _ _ _ _ _ _ _ hP hS (lv_sub hl [1, 2, 0] rfl) hm
  · intro c_signs c_count c_pages c_levels c_most c_bits c_entries H locs ls hP hS hl hm
    try dsimp only at hm
    refine lv_iconst (v := 0) hx hb dX3_copyFrom_39 (by decide) ?_
    refine lv_istore_n (lv' := [(2, .int 0), (0, .ref v0), (1, .ref v1)]) hx hb dX3_copyFrom_40 rfl hl (by decide) rfl (fun ls hl => ?_)
    refine t_C3_copyFrom_L41 C hD hG hv0 hv1 hret ?_ FU _ _ _ _ _ _ _ _ _ _ _ hP hS (lv_sub hl [1, 2, 0] rfl) hm
    · intro c_signs c_count c_pages c_levels c_most c_bits c_entries H locs ls hP hS hl hm
      try dsimp only at hm
      exact t_C3_copyFrom_J75 C hD hG hv0 hv1 hret _ _ _ _ _ _ _ _ _ _ hP hS (lv_sub hl [0, 1] rfl) hm
theorem hdX2_keep : yX2_keep.cls = RX2 ∧ yX2_keep.cls ≠ "java/lang/invoke/MethodHandle" ∧ yX2_keep.cls ≠ "java/lang/invoke/VarHandle" ∧ (parseMethodDescriptor yX2_keep.desc).map (fun d => d.parameters.length) = some 1 := by decide +kernel
theorem hiX2_keep_X2 : ∀ w ∈ u_ws RX2 TX2 3, w ∈ wsX2_keep := by decide +kernel
theorem flX2_keep_18 : Cond.fieldLink RX2 18 "BlindPages$Past" "next" "I" ∈ wsX2_keep := by decide +kernel
theorem flX2_keep_11 : Cond.fieldLink RX2 11 "BlindPages$Past" "states" "[LBlindPages$State;" ∈ wsX2_keep := by decide +kernel
theorem flX2_keep_26 : Cond.fieldLink RX2 26 "BlindPages$Past" "kept" "I" ∈ wsX2_keep := by decide +kernel
def C2_keep_J58 (a : Nat → Nat) (LW LS : List Nat) (c_words : Nat → Nat → Nat) (v1 : Nat) (c_signs : (Nat → Int32)) (c_count : (Nat → Int32)) (c_pages : (Nat → Int32)) (c_levels : (Nat → Int32)) (c_most : (Nat → Int32)) (c_bits : (Nat → Nat → Int64)) (c_entries : (Nat → Nat → Int32)) (c_next : Int32) (c_kept : Int32) (t1 : Int32) : Option ((Nat → Int32) × (Nat → Int32) × (Nat → Int32) × (Nat → Int32) × (Nat → Int32) × (Nat → Nat → Int64) × (Nat → Nat → Int32) × Int32 × Int32) := some (c_signs, c_count, c_pages, c_levels, c_most, c_bits, c_entries, t1, (if 6 < (c_kept + 1) then 6 else (c_kept + 1)))
def C2_keep (a : Nat → Nat) (LW LS : List Nat) (c_words : Nat → Nat → Nat) (c_signs c_count c_pages c_levels c_most : Nat → Int32) (c_bits : Nat → Nat → Int64) (c_entries : Nat → Nat → Int32) (c_next c_kept : Int32) (v1 : Nat) : Option ((Nat → Int32) × (Nat → Int32) × (Nat → Int32) × (Nat → Int32) × (Nat → Int32) × (Nat → Nat → Int64) × (Nat → Nat → Int32) × Int32 × Int32) := if c_next < 0 then (some (c_signs, c_count, c_pages, c_levels, c_most, c_bits, c_entries, c_next, c_kept)) else (if c_next < 6 then (ga c_next 6 (gm LS (a (20 + c_next.toNatClampNeg)) (bd7 (C3_copyFrom LW c_words c_signs c_count c_pages c_levels c_most c_bits c_entries (a (20 + c_next.toNatClampNeg)) v1) fun c_signs_30 c_count_30 c_pages_30 c_levels_30 c_most_30 c_bits_30 c_entries_30 => if 6 ≤ (c_next + 1) then (C2_keep_J58 a LW LS c_words v1 c_signs_30 c_count_30 c_pages_30 c_levels_30 c_most_30 c_bits_30 c_entries_30 c_next c_kept 0) else (C2_keep_J58 a LW LS c_words v1 c_signs_30 c_count_30 c_pages_30 c_levels_30 c_most_30 c_bits_30 c_entries_30 c_next c_kept (c_next + 1))))) else (some (c_signs, c_count, c_pages, c_levels, c_most, c_bits, c_entries, c_next, c_kept)))
set_option maxRecDepth 100000 in
set_option maxHeartbeats 4000000 in
theorem t_C2_keep_J58 {p : Program} {l : Launch} {e : Env} {s : State} {m : MethodId} {args : Array Value} {below : List Frame} {meth : Method} {c : Code} {Q : State → Prop} {A : Nat → Prop} {D : va_G} {cI cJ cB cL cS cW : ClassId} {a wb sw se : Nat → Nat} {LW LS LK : List Nat} {c_bytes c_heads c_firsts c_levelOf c_aboveOf c_partings c_page c_known c_guess c_diff c_pieces c_place : Nat → Int32} {c_words : Nat → Nat → Nat} {c_bads c_noes c_fulls c_length c_base c_from c_to c_above c_bit c_lastLeft : Int32} {v1 : Nat} {o_signs : Nat → Int32} {o_count : Nat → Int32} {o_pages : Nat → Int32} {o_levels : Nat → Int32} {o_most : Nat → Int32} {o_bits : Nat → Nat → Int64} {o_entries : Nat → Nat → Int32} {o_next : Int32} {o_kept : Int32} (C : k_C p s m args meth c cX2_keep 2 none RX2 wsX2_keep D (kT cI cJ cB cL cS cW) A) (hD : va_D A (WC0 a wb sw se LW LS LK cI cJ cB cL cS cW)) (hG : kG a LW LS LK) (hv1 : v1 ∈ LS) (hret : ∀ (H : Heap) (locs : List Loc) (pc : Nat) (ls : Array Slot), decode cX2_keep pc = .ok (.return_, 1) → va_P D vwCl (WC a wb sw se LW LS LK cI cJ cB cL cS cW c_bytes c_heads c_firsts c_levelOf c_aboveOf c_partings o_signs o_count o_pages o_levels o_most c_page c_known c_guess c_diff c_pieces c_place o_bits c_words o_entries c_bads c_noes c_fulls c_length o_next o_kept c_base c_from c_to c_above c_bit c_lastLeft) H → va_S A s.heap H locs → W p l e { frames := 2, cells := 0, slots := 0, locals := 44 } s m args below meth c H locs 0 0 Q (F0 m pc ls [])) : ∀ (c_signs : (Nat → Int32)) (c_count : (Nat → Int32)) (c_pages : (Nat → Int32)) (c_levels : (Nat → Int32)) (c_most : (Nat → Int32)) (c_bits : (Nat → Nat → Int64)) (c_entries : (Nat → Nat → Int32)) (c_next : Int32) (c_kept : Int32) (t1 : Int32) (H : Heap) (locs : List Loc) (ls : Array Slot), va_P D vwCl (WC a wb sw se LW LS LK cI cJ cB cL cS cW c_bytes c_heads c_firsts c_levelOf c_aboveOf c_partings c_signs c_count c_pages c_levels c_most c_page c_known c_guess c_diff c_pieces c_place c_bits c_words c_entries c_bads c_noes c_fulls c_length c_next c_kept c_base c_from c_to c_above c_bit c_lastLeft) H → va_S A s.heap H locs → lv_has ls 2 [(0, .ref (a 11))] → C2_keep_J58 a LW LS c_words v1 c_signs c_count c_pages c_levels c_most c_bits c_entries c_next c_kept t1 = some (o_signs, o_count, o_pages, o_levels, o_most, o_bits, o_entries, o_next, o_kept) → W p l e { frames := 2, cells := 0, slots := 0, locals := 44 } s m args below meth c H locs 0 0 Q (F0 m 58 ls [.int t1, .ref (a 11)]) := by
  obtain ⟨hx, hb, hml, hr, hown, hts, hlocks, hK, hA, hN⟩ := id C
  intro c_signs c_count c_pages c_levels c_most c_bits c_entries c_next c_kept t1 H locs ls hP hS hl hm
  rw [C2_keep_J58] at hm
  refine kp hx hb hts hiX2_keep_X2 tyX2 tyX2_ok nmX2 hown hK hP (WCD hD) hS 11 rfl rfl 1 (by decide) flX2_keep_18 rfl rfl rfl (Nat.le_of_ble_eq_true rfl) dX2_keep_58 (fun H locs hP hS => ?_)
  have hP : va_P D vwCl (WC a wb sw se LW LS LK cI cJ cB cL cS cW c_bytes c_heads c_firsts c_levelOf c_aboveOf c_partings c_signs c_count c_pages c_levels c_most c_page c_known c_guess c_diff c_pieces c_place c_bits c_words c_entries c_bads c_noes c_fulls c_length t1 c_kept c_base c_from c_to c_above c_bit c_lastLeft) H := hP
  refine lv_aload_n hx hb dX2_keep_61 rfl (lv_at hl 0 rfl) ?_
  refine lv_aload_n hx hb dX2_keep_62 rfl (lv_at hl 0 rfl) ?_
  refine kg (v := .int c_kept) hx hb hts hiX2_keep_X2 hown hK hP 11 rfl rfl 2 (by decide) flX2_keep_26 rfl rfl dX2_keep_63 ?_
  refine lv_iconst (v := 1) hx hb dX2_keep_66 (by decide) ?_
  refine lv_iadd hx hb dX2_keep_67 ?_
  refine lv_aload_n hx hb dX2_keep_68 rfl (lv_at hl 0 rfl) ?_
  refine kg (v := .ref (a 12)) hx hb hts hiX2_keep_X2 hown hK hP 11 rfl rfl 0 (by decide) flX2_keep_11 rfl rfl dX2_keep_69 ?_
  refine va_alen (v := 6) hx hb hK hP 12 4 rfl rfl rfl dX2_keep_72 ?_
  refine va_mmin hx hb (by rw [hml]; exact hl.1.symm) hown (hts (.methodLink RX2 29 Lib.Math.min.name) (by decide +kernel)) (hts (.static Lib.Math.min.name) (by decide +kernel)) (hts (.initialized "java/lang/Math") (by decide +kernel)) (hts (.code Lib.Math.min.name Lib.Math.min.code 2 (some .int)) (by decide +kernel)) (Nat.le_of_ble_eq_true rfl) (Nat.le_of_ble_eq_true rfl) (Nat.zero_le _) (Nat.zero_le _) dX2_keep_73 ?_
  refine kp hx hb hts hiX2_keep_X2 tyX2 tyX2_ok nmX2 hown hK hP (WCD hD) hS 11 rfl rfl 2 (by decide) flX2_keep_26 rfl rfl rfl (Nat.le_of_ble_eq_true rfl) dX2_keep_76 (fun H locs hP hS => ?_)
  have hP : va_P D vwCl (WC a wb sw se LW LS LK cI cJ cB cL cS cW c_bytes c_heads c_firsts c_levelOf c_aboveOf c_partings c_signs c_count c_pages c_levels c_most c_page c_known c_guess c_diff c_pieces c_place c_bits c_words c_entries c_bads c_noes c_fulls c_length t1 (if 6 < (c_kept + 1) then 6 else (c_kept + 1)) c_base c_from c_to c_above c_bit c_lastLeft) H := hP
  simp only [Option.some.injEq, Prod.mk.injEq] at hm
  obtain ⟨rfl, rfl, rfl, rfl, rfl, rfl, rfl, rfl, rfl⟩ := hm
  exact hret _ _ _ _ dX2_keep_79 hP hS
set_option maxRecDepth 100000 in
set_option maxHeartbeats 4000000 in
theorem c_X2_keep {l : Launch} {D : va_G} {cI cJ cB cL cS cW : ClassId} {a wb sw se : Nat → Nat} {LW LS LK : List Nat} {c_bytes c_heads c_firsts c_levelOf c_aboveOf c_partings c_signs c_count c_pages c_levels c_most c_page c_known c_guess c_diff c_pieces c_place : Nat → Int32} {c_bits : Nat → Nat → Int64} {c_words : Nat → Nat → Nat} {c_entries : Nat → Nat → Int32} {c_bads c_noes c_fulls c_length c_next c_kept c_base c_from c_to c_above c_bit c_lastLeft : Int32} {v1 : Nat} {o_signs : Nat → Int32} {o_count : Nat → Int32} {o_pages : Nat → Int32} {o_levels : Nat → Int32} {o_most : Nat → Int32} {o_bits : Nat → Nat → Int64} {o_entries : Nat → Nat → Int32} {o_next : Int32} {o_kept : Int32} (hG : kG a LW LS LK) (hv1 : v1 ∈ LS) (hm : C2_keep a LW LS c_words c_signs c_count c_pages c_levels c_most c_bits c_entries c_next c_kept v1 = some (o_signs, o_count, o_pages, o_levels, o_most, o_bits, o_entries, o_next, o_kept)) : k_MV l yX2_keep wsX2_keep { frames := 2, cells := 0, slots := 0, locals := 44 } D (kT cI cJ cB cL cS cW) [.ref (a 11), .ref v1] (WC a wb sw se LW LS LK cI cJ cB cL cS cW c_bytes c_heads c_firsts c_levelOf c_aboveOf c_partings c_signs c_count c_pages c_levels c_most c_page c_known c_guess c_diff c_pieces c_place c_bits c_words c_entries c_bads c_noes c_fulls c_length c_next c_kept c_base c_from c_to c_above c_bit c_lastLeft) (WC a wb sw se LW LS LK cI cJ cB cL cS cW c_bytes c_heads c_firsts c_levelOf c_aboveOf c_partings o_signs o_count o_pages o_levels o_most c_page c_known c_guess c_diff c_pieces c_place o_bits c_words o_entries c_bads c_noes c_fulls c_length o_next o_kept c_base c_from c_to c_above c_bit c_lastLeft) := by
  refine k_ofV (cc := cX2_keep) (maxL := 2) (own := RX2) (by decide) rfl rfl (Nat.le_of_ble_eq_true rfl) ?_
  intro p e s m args below meth c A Q ls C hP hD hl hret
  have hD : va_D A (WC0 a wb sw se LW LS LK cI cJ cB cL cS cW) := WCD hD
  have hS : va_S A s.heap s.heap [] := va_S.rf
  have hl : lv_has ls 2 [(0, .ref (a 11)), (1, .ref v1)] := hl
  obtain ⟨hx, hb, hml, hr, hown, hts, hlocks, hK, hA, hN⟩ := id C
  rw [C2_keep] at hm
  refine lv_aload_n hx hb dX2_keep_0 rfl (lv_at hl 0 rfl) ?_
  refine kg (v := .int c_next) hx hb hts hiX2_keep_X2 hown hK hP 11 rfl rfl 1 (by decide) flX2_keep_18 rfl rfl dX2_keep_1 ?_
  refine lv_if_lt (tgt := 19) hx hb dX2_keep_4 (by decide) (fun hc => ?_) (fun hc => ?_)
  · have hm := if_t hc hm
    simp only [Option.some.injEq, Prod.mk.injEq] at hm
    obtain ⟨rfl, rfl, rfl, rfl, rfl, rfl, rfl, rfl, rfl⟩ := hm
    exact hret _ _ _ _ dX2_keep_19 hP hS
  · have hm := if_f hc hm
    refine lv_aload_n hx hb dX2_keep_7 rfl (lv_at hl 0 rfl) ?_
    refine kg (v := .int c_next) hx hb hts hiX2_keep_X2 hown hK hP 11 rfl rfl 1 (by decide) flX2_keep_18 rfl rfl dX2_keep_8 ?_
    refine lv_aload_n hx hb dX2_keep_11 rfl (lv_at hl 0 rfl) ?_
    refine kg (v := .ref (a 12)) hx hb hts hiX2_keep_X2 hown hK hP 11 rfl rfl 0 (by decide) flX2_keep_11 rfl rfl dX2_keep_12 ?_
    refine va_alen (v := 6) hx hb hK hP 12 4 rfl rfl rfl dX2_keep_15 ?_
    refine lv_icmp_lt (tgt := 20) hx hb dX2_keep_16 (by decide) (fun hc => ?_) (fun hc => ?_)
    · have hm := if_t hc hm
      refine lv_aload_n hx hb dX2_keep_20 rfl (lv_at hl 0 rfl) ?_
      refine kg (v := .ref (a 12)) hx hb hts hiX2_keep_X2 hown hK hP 11 rfl rfl 0 (by decide) flX2_keep_11 rfl rfl dX2_keep_21 ?_
      refine lv_aload_n hx hb dX2_keep_24 rfl (lv_at hl 0 rfl) ?_
      refine kg (v := .int c_next) hx hb hts hiX2_keep_X2 hown hK hP 11 rfl rfl 1 (by decide) flX2_keep_18 rfl rfl dX2_keep_25 ?_
      obtain ⟨hi, hm⟩ := ga_some hm
      obtain ⟨hw28, hm⟩ := gm_some hm
      refine k_aald (f := fun k => a (20 + k)) hx hb hK hP 12 4 rfl rfl rfl hi dX2_keep_28 ?_
      refine lv_aload_n hx hb dX2_keep_29 rfl (lv_at hl 1 rfl) ?_
      obtain ⟨c_signs_30, c_count_30, c_pages_30, c_levels_30, c_most_30, c_bits_30, c_entries_30, hq0, hm⟩ := bd7_some hm
      obtain ⟨q, hq, -⟩ := WC_S hG hw28
      refine k_callVV (As := [.ref v1]) (rest := []) ⟨hx, hb, hml, hown, hts⟩ hK hA hN (c_X3_copyFrom hG hw28 hv1 hq0) (cwV 1 hts gX2_keep_X3_copyFrom rfl rfl rfl hdX3_copyFrom ⟨Nat.le_of_ble_eq_true rfl, Nat.le_of_ble_eq_true rfl⟩) hP (WCD hD) hS q 3 hq rfl rfl hl.1 rfl rfl (Nat.le_of_ble_eq_true rfl) ⟨Nat.zero_le _, Nat.zero_le _⟩ dX2_keep_30 (fun H locs hP hS => ?_)
      refine lv_aload_n hx hb dX2_keep_33 rfl (lv_at hl 0 rfl) ?_
      refine lv_aload_n hx hb dX2_keep_34 rfl (lv_at hl 0 rfl) ?_
      refine kg (v := .int c_next) hx hb hts hiX2_keep_X2 hown hK hP 11 rfl rfl 1 (by decide) flX2_keep_18 rfl rfl dX2_keep_35 ?_
      refine lv_iconst (v := 1) hx hb dX2_keep_38 (by decide) ?_
      refine lv_iadd hx hb dX2_keep_39 ?_
      refine lv_aload_n hx hb dX2_keep_40 rfl (lv_at hl 0 rfl) ?_
      refine kg (v := .ref (a 12)) hx hb hts hiX2_keep_X2 hown hK hP 11 rfl rfl 0 (by decide) flX2_keep_11 rfl rfl dX2_keep_41 ?_
      refine va_alen (v := 6) hx hb hK hP 12 4 rfl rfl rfl dX2_keep_44 ?_
      refine lv_icmp_ge (tgt := 57) hx hb dX2_keep_45 (by decide) (fun hc => ?_) (fun hc => ?_)
      · have hm := if_t hc hm
        refine lv_iconst (v := 0) hx hb dX2_keep_57 (by decide) ?_
        exact t_C2_keep_J58 C hD hG hv1 hret _ _ _ _ _ _ _ _ _ _ _ _ _ hP hS (lv_sub hl [0] rfl) hm
      · have hm := if_f hc hm
        refine lv_aload_n hx hb dX2_keep_48 rfl (lv_at hl 0 rfl) ?_
        refine kg (v := .int c_next) hx hb hts hiX2_keep_X2 hown hK hP 11 rfl rfl 1 (by decide) flX2_keep_18 rfl rfl dX2_keep_49 ?_
        refine lv_iconst (v := 1) hx hb dX2_keep_52 (by decide) ?_
        refine lv_iadd hx hb dX2_keep_53 ?_
        refine lv_goto (tgt := 58) hx hb dX2_keep_54 (by decide) ?_
        exact t_C2_keep_J58 C hD hG hv1 hret _ _ _ _ _ _ _ _ _ _ _ _ _ hP hS (lv_sub hl [0] rfl) hm
    · have hm := if_f hc hm
      simp only [Option.some.injEq, Prod.mk.injEq] at hm
      obtain ⟨rfl, rfl, rfl, rfl, rfl, rfl, rfl, rfl, rfl⟩ := hm
      exact hret _ _ _ _ dX2_keep_19 hP hS
theorem hdX3_insertWord : yX3_insertWord.cls = RX3 ∧ yX3_insertWord.cls ≠ "java/lang/invoke/MethodHandle" ∧ yX3_insertWord.cls ≠ "java/lang/invoke/VarHandle" ∧ (parseMethodDescriptor yX3_insertWord.desc).map (fun d => d.parameters.length) = some 2 := by decide +kernel
theorem hiX3_insertWord_X3 : ∀ w ∈ u_ws RX3 TX3 6, w ∈ wsX3_insertWord := by decide +kernel
theorem flX3_insertWord_26 : Cond.fieldLink RX3 26 "BlindPages$State" "count" "I" ∈ wsX3_insertWord := by decide +kernel
theorem flX3_insertWord_11 : Cond.fieldLink RX3 11 "BlindPages$State" "words" "[LBlindPages$Word;" ∈ wsX3_insertWord := by decide +kernel
def C3_insertWord_L41 (LW : List Nat) (v0 : Nat) (v1 : Int32) (v2 : Nat) (k69 : (Nat → Int32) → (Nat → Int32) → (Nat → Nat → Int64) → (Nat → Nat → Nat) → Nat → Option ((Nat → Int32) × (Nat → Int32) × (Nat → Nat → Int64) × (Nat → Nat → Nat))) : Nat → (Nat → Int32) → (Nat → Int32) → (Nat → Nat → Int64) → (Nat → Nat → Nat) → Nat → Int32 → Option ((Nat → Int32) × (Nat → Int32) × (Nat → Nat → Int64) × (Nat → Nat → Nat))
  | 0, _, _, _, _, _, _ => none
  | n + 1, c_signs, c_count, c_bits, c_words, v3, v4 => if v4 ≤ v1 then (k69 c_signs c_count c_bits c_words v3) else (ga (v4 - 1) 48 (gm LW (c_words v0 (v4 - 1).toNatClampNeg) (ga v4 48 (C3_insertWord_L41 LW v0 v1 v2 k69 n c_signs c_count c_bits (va_up c_words v0 (va_up (c_words v0) v4.toNatClampNeg (c_words v0 (v4 - 1).toNatClampNeg))) v3 (v4 + (-1))))))
def C3_insertWord (LW : List Nat) (c_signs c_count : Nat → Int32) (c_bits : Nat → Nat → Int64) (c_words : Nat → Nat → Nat) (v0 : Nat) (v1 : Int32) (v2 : Nat) : Option ((Nat → Int32) × (Nat → Int32) × (Nat → Nat → Int64) × (Nat → Nat → Nat)) := if v1 < 0 then (some (c_signs, c_count, c_bits, c_words)) else (if (c_count v0) < v1 then (some (c_signs, c_count, c_bits, c_words)) else (if (c_count v0) < 48 then (ga (c_count v0) 48 (gm LW (c_words v0 (c_count v0).toNatClampNeg) (C3_insertWord_L41 LW v0 v1 v2 (fun c_signs c_count c_bits c_words v3 => bd2 (C6_copyFrom c_signs c_bits v3 v2) fun c_signs_71 c_bits_71 => ga v1 48 (some (c_signs_71, (va_up c_count v0 ((c_count v0) + 1)), c_bits_71, (va_up c_words v0 (va_up (c_words v0) v1.toNatClampNeg v3))))) FU c_signs c_count c_bits c_words (c_words v0 (c_count v0).toNatClampNeg) (c_count v0)))) else (some (c_signs, c_count, c_bits, c_words))))
set_option maxRecDepth 100000 in
set_option maxHeartbeats 4000000 in
theorem t_C3_insertWord_L41 {p : Program} {l : Launch} {e : Env} {s : State} {m : MethodId} {args : Array Value} {below : List Frame} {meth : Method} {c : Code} {Q : State → Prop} {A : Nat → Prop} {D : va_G} {cI cJ cB cL cS cW : ClassId} {a wb sw se : Nat → Nat} {LW LS LK : List Nat} {c_bytes c_heads c_firsts c_levelOf c_aboveOf c_partings c_pages c_levels c_most c_page c_known c_guess c_diff c_pieces c_place : Nat → Int32} {c_entries : Nat → Nat → Int32} {c_bads c_noes c_fulls c_length c_next c_kept c_base c_from c_to c_above c_bit c_lastLeft : Int32} {v0 : Nat} {v1 : Int32} {v2 : Nat} {o_signs : Nat → Int32} {o_count : Nat → Int32} {o_bits : Nat → Nat → Int64} {o_words : Nat → Nat → Nat} (C : k_C p s m args meth c cX3_insertWord 5 none RX3 wsX3_insertWord D (kT cI cJ cB cL cS cW) A) (hD : va_D A (WC0 a wb sw se LW LS LK cI cJ cB cL cS cW)) (hG : kG a LW LS LK) (hv0 : v0 ∈ LS) (hv2 : v2 ∈ LW) (hret : ∀ (H : Heap) (locs : List Loc) (pc : Nat) (ls : Array Slot), decode cX3_insertWord pc = .ok (.return_, 1) → va_P D vwCl (WC a wb sw se LW LS LK cI cJ cB cL cS cW c_bytes c_heads c_firsts c_levelOf c_aboveOf c_partings o_signs o_count c_pages c_levels c_most c_page c_known c_guess c_diff c_pieces c_place o_bits o_words c_entries c_bads c_noes c_fulls c_length c_next c_kept c_base c_from c_to c_above c_bit c_lastLeft) H → va_S A s.heap H locs → W p l e { frames := 1, cells := 0, slots := 0, locals := 22 } s m args below meth c H locs 0 0 Q (F0 m pc ls [])) {k69 : (Nat → Int32) → (Nat → Int32) → (Nat → Nat → Int64) → (Nat → Nat → Nat) → Nat → Option ((Nat → Int32) × (Nat → Int32) × (Nat → Nat → Int64) × (Nat → Nat → Nat))} (hk69 : ∀ (c_signs : (Nat → Int32)) (c_count : (Nat → Int32)) (c_bits : (Nat → Nat → Int64)) (c_words : (Nat → Nat → Nat)) (v3 : Nat) (H : Heap) (locs : List Loc) (ls : Array Slot), va_P D vwCl (WC a wb sw se LW LS LK cI cJ cB cL cS cW c_bytes c_heads c_firsts c_levelOf c_aboveOf c_partings c_signs c_count c_pages c_levels c_most c_page c_known c_guess c_diff c_pieces c_place c_bits c_words c_entries c_bads c_noes c_fulls c_length c_next c_kept c_base c_from c_to c_above c_bit c_lastLeft) H → va_S A s.heap H locs → lv_has ls 5 [(0, .ref v0), (1, .int v1), (2, .ref v2), (3, .ref v3)] → v3 ∈ LW → k69 c_signs c_count c_bits c_words v3 = some (o_signs, o_count, o_bits, o_words) → W p l e { frames := 1, cells := 0, slots := 0, locals := 22 } s m args below meth c H locs 0 0 Q (F0 m 69 ls [])) : ∀ n : Nat, ∀ (c_signs : (Nat → Int32)) (c_count : (Nat → Int32)) (c_bits : (Nat → Nat → Int64)) (c_words : (Nat → Nat → Nat)) (v3 : Nat) (v4 : Int32) (H : Heap) (locs : List Loc) (ls : Array Slot), va_P D vwCl (WC a wb sw se LW LS LK cI cJ cB cL cS cW c_bytes c_heads c_firsts c_levelOf c_aboveOf c_partings c_signs c_count c_pages c_levels c_most c_page c_known c_guess c_diff c_pieces c_place c_bits c_words c_entries c_bads c_noes c_fulls c_length c_next c_kept c_base c_from c_to c_above c_bit c_lastLeft) H → va_S A s.heap H locs → lv_has ls 5 [(0, .ref v0), (1, .int v1), (2, .ref v2), (3, .ref v3), (4, .int v4)] → v3 ∈ LW → (C3_insertWord_L41 LW v0 v1 v2 k69 n) c_signs c_count c_bits c_words v3 v4 = some (o_signs, o_count, o_bits, o_words) → W p l e { frames := 1, cells := 0, slots := 0, locals := 22 } s m args below meth c H locs 0 0 Q (F0 m 41 ls []) := by
  obtain ⟨hx, hb, hml, hr, hown, hts, hlocks, hK, hA, hN⟩ := id C
  intro n
  induction n with
  | zero =>
    intro c_signs c_count c_bits c_words v3 v4 H locs ls hP hS hl hv3 hm
    cases hm
  | succ n ih =>
    intro c_signs c_count c_bits c_words v3 v4 H locs ls hP hS hl hv3 hm
    rw [C3_insertWord_L41] at hm
    refine lv_iload hx hb dX3_insertWord_41 (lv_at hl 4 rfl) ?_
    refine lv_iload_n hx hb dX3_insertWord_43 rfl (lv_at hl 1 rfl) ?_
    refine lv_icmp_le (tgt := 69) hx hb dX3_insertWord_44 (by decide) (fun hc => ?_) (fun hc => ?_)
    · have hm := if_t hc hm
      exact hk69 _ _ _ _ _ _ _ _ hP hS (lv_sub hl [0, 1, 2, 3] rfl) hv3 hm
    · have hm := if_f hc hm
      refine lv_aload_n hx hb dX3_insertWord_47 rfl (lv_at hl 0 rfl) ?_
      obtain ⟨q, hq, -⟩ := WC_S hG hv0
      refine kg (v := .ref (sw v0)) hx hb hts hiX3_insertWord_X3 hown hK hP q hq rfl 0 (by decide) flX3_insertWord_11 rfl rfl dX3_insertWord_48 ?_
      refine lv_iload hx hb dX3_insertWord_51 (lv_at hl 4 rfl) ?_
      refine lv_aload_n hx hb dX3_insertWord_53 rfl (lv_at hl 0 rfl) ?_
      obtain ⟨q, hq, -⟩ := WC_S hG hv0
      refine kg (v := .ref (sw v0)) hx hb hts hiX3_insertWord_X3 hown hK hP q hq rfl 0 (by decide) flX3_insertWord_11 rfl rfl dX3_insertWord_54 ?_
      refine lv_iload hx hb dX3_insertWord_57 (lv_at hl 4 rfl) ?_
      refine lv_iconst (v := 1) hx hb dX3_insertWord_59 (by decide) ?_
      refine lv_isub hx hb dX3_insertWord_60 ?_
      obtain ⟨hi, hm⟩ := ga_some hm
      obtain ⟨hw61, hm⟩ := gm_some hm
      obtain ⟨q, hq, -⟩ := WC_words hG hv0
      refine k_aald hx hb hK hP q 5 hq rfl rfl hi dX3_insertWord_61 ?_
      obtain ⟨hi, hm⟩ := ga_some hm
      obtain ⟨q, hq, he⟩ := WC_words hG hv0
      obtain ⟨qw, hqw, -⟩ := WC_W hG hw61
      refine k_aast hx hb hK hP (WCD hD) hS q 5 qw 6 hq rfl hqw rfl rfl hi dX3_insertWord_62 (fun H locs hP hS => ?_)
      have hP : va_P D vwCl (WC a wb sw se LW LS LK cI cJ cB cL cS cW c_bytes c_heads c_firsts c_levelOf c_aboveOf c_partings c_signs c_count c_pages c_levels c_most c_page c_known c_guess c_diff c_pieces c_place c_bits (va_up c_words v0 (va_up (c_words v0) v4.toNatClampNeg (c_words v0 (v4 - 1).toNatClampNeg))) c_entries c_bads c_noes c_fulls c_length c_next c_kept c_base c_from c_to c_above c_bit c_lastLeft) H := by rw [← he]; exact hP
      refine lv_iinc (v := (v4 + (-1))) (lv' := [(4, .int (v4 + (-1))), (0, .ref v0), (1, .int v1), (2, .ref v2), (3, .ref v3)]) hx hb dX3_insertWord_63 hl (k := 4) rfl rfl (by decide) rfl (fun ls hl => ?_)
      refine lv_goto (tgt := 41) hx hb dX3_insertWord_66 (by decide) ?_
      exact ih _ _ _ _ _ _ _ _ _ hP hS (lv_sub hl [1, 2, 3, 4, 0] rfl) hv3 hm
set_option maxRecDepth 100000 in
set_option maxHeartbeats 4000000 in
theorem c_X3_insertWord {l : Launch} {D : va_G} {cI cJ cB cL cS cW : ClassId} {a wb sw se : Nat → Nat} {LW LS LK : List Nat} {c_bytes c_heads c_firsts c_levelOf c_aboveOf c_partings c_signs c_count c_pages c_levels c_most c_page c_known c_guess c_diff c_pieces c_place : Nat → Int32} {c_bits : Nat → Nat → Int64} {c_words : Nat → Nat → Nat} {c_entries : Nat → Nat → Int32} {c_bads c_noes c_fulls c_length c_next c_kept c_base c_from c_to c_above c_bit c_lastLeft : Int32} {v0 : Nat} {v1 : Int32} {v2 : Nat} {o_signs : Nat → Int32} {o_count : Nat → Int32} {o_bits : Nat → Nat → Int64} {o_words : Nat → Nat → Nat} (hG : kG a LW LS LK) (hv0 : v0 ∈ LS) (hv2 : v2 ∈ LW) (hm : C3_insertWord LW c_signs c_count c_bits c_words v0 v1 v2 = some (o_signs, o_count, o_bits, o_words)) : k_MV l yX3_insertWord wsX3_insertWord { frames := 1, cells := 0, slots := 0, locals := 22 } D (kT cI cJ cB cL cS cW) [.ref v0, .int v1, .ref v2] (WC a wb sw se LW LS LK cI cJ cB cL cS cW c_bytes c_heads c_firsts c_levelOf c_aboveOf c_partings c_signs c_count c_pages c_levels c_most c_page c_known c_guess c_diff c_pieces c_place c_bits c_words c_entries c_bads c_noes c_fulls c_length c_next c_kept c_base c_from c_to c_above c_bit c_lastLeft) (WC a wb sw se LW LS LK cI cJ cB cL cS cW c_bytes c_heads c_firsts c_levelOf c_aboveOf c_partings o_signs o_count c_pages c_levels c_most c_page c_known c_guess c_diff c_pieces c_place o_bits o_words c_entries c_bads c_noes c_fulls c_length c_next c_kept c_base c_from c_to c_above c_bit c_lastLeft) := by
  refine k_ofV (cc := cX3_insertWord) (maxL := 5) (own := RX3) (by decide) rfl rfl (Nat.le_of_ble_eq_true rfl) ?_
  intro p e s m args below meth c A Q ls C hP hD hl hret
  have hD : va_D A (WC0 a wb sw se LW LS LK cI cJ cB cL cS cW) := WCD hD
  have hS : va_S A s.heap s.heap [] := va_S.rf
  have hl : lv_has ls 5 [(0, .ref v0), (1, .int v1), (2, .ref v2)] := hl
  obtain ⟨hx, hb, hml, hr, hown, hts, hlocks, hK, hA, hN⟩ := id C
  rw [C3_insertWord] at hm
  refine lv_iload_n hx hb dX3_insertWord_0 rfl (lv_at hl 1 rfl) ?_
  refine lv_if_lt (tgt := 24) hx hb dX3_insertWord_1 (by decide) (fun hc => ?_) (fun hc => ?_)
  · have hm := if_t hc hm
    simp only [Option.some.injEq, Prod.mk.injEq] at hm
    obtain ⟨rfl, rfl, rfl, rfl⟩ := hm
    exact hret _ _ _ _ dX3_insertWord_24 hP hS
  · have hm := if_f hc hm
    refine lv_iload_n hx hb dX3_insertWord_4 rfl (lv_at hl 1 rfl) ?_
    refine lv_aload_n hx hb dX3_insertWord_5 rfl (lv_at hl 0 rfl) ?_
    obtain ⟨q, hq, -⟩ := WC_S hG hv0
    refine kg (v := .int (c_count v0)) hx hb hts hiX3_insertWord_X3 hown hK hP q hq rfl 2 (by decide) flX3_insertWord_26 rfl rfl dX3_insertWord_6 ?_
    refine lv_icmp_gt (tgt := 24) hx hb dX3_insertWord_9 (by decide) (fun hc => ?_) (fun hc => ?_)
    · have hm := if_t hc hm
      simp only [Option.some.injEq, Prod.mk.injEq] at hm
      obtain ⟨rfl, rfl, rfl, rfl⟩ := hm
      exact hret _ _ _ _ dX3_insertWord_24 hP hS
    · have hm := if_f hc hm
      refine lv_aload_n hx hb dX3_insertWord_12 rfl (lv_at hl 0 rfl) ?_
      obtain ⟨q, hq, -⟩ := WC_S hG hv0
      refine kg (v := .int (c_count v0)) hx hb hts hiX3_insertWord_X3 hown hK hP q hq rfl 2 (by decide) flX3_insertWord_26 rfl rfl dX3_insertWord_13 ?_
      refine lv_aload_n hx hb dX3_insertWord_16 rfl (lv_at hl 0 rfl) ?_
      obtain ⟨q, hq, -⟩ := WC_S hG hv0
      refine kg (v := .ref (sw v0)) hx hb hts hiX3_insertWord_X3 hown hK hP q hq rfl 0 (by decide) flX3_insertWord_11 rfl rfl dX3_insertWord_17 ?_
      obtain ⟨q, hq, -⟩ := WC_words hG hv0
      refine va_alen (v := 48) hx hb hK hP q 5 hq rfl rfl dX3_insertWord_20 ?_
      refine lv_icmp_lt (tgt := 25) hx hb dX3_insertWord_21 (by decide) (fun hc => ?_) (fun hc => ?_)
      · have hm := if_t hc hm
        refine lv_aload_n hx hb dX3_insertWord_25 rfl (lv_at hl 0 rfl) ?_
        obtain ⟨q, hq, -⟩ := WC_S hG hv0
        refine kg (v := .ref (sw v0)) hx hb hts hiX3_insertWord_X3 hown hK hP q hq rfl 0 (by decide) flX3_insertWord_11 rfl rfl dX3_insertWord_26 ?_
        refine lv_aload_n hx hb dX3_insertWord_29 rfl (lv_at hl 0 rfl) ?_
        obtain ⟨q, hq, -⟩ := WC_S hG hv0
        refine kg (v := .int (c_count v0)) hx hb hts hiX3_insertWord_X3 hown hK hP q hq rfl 2 (by decide) flX3_insertWord_26 rfl rfl dX3_insertWord_30 ?_
        obtain ⟨hi, hm⟩ := ga_some hm
        obtain ⟨hw33, hm⟩ := gm_some hm
        obtain ⟨q, hq, -⟩ := WC_words hG hv0
        refine k_aald hx hb hK hP q 5 hq rfl rfl hi dX3_insertWord_33 ?_
        refine lv_astore_n (lv' := [(3, .ref (c_words v0 (c_count v0).toNatClampNeg)), (0, .ref v0), (1, .int v1), (2, .ref v2)]) hx hb dX3_insertWord_34 rfl hl (by decide) rfl (fun ls hl => ?_)
        refine lv_aload_n hx hb dX3_insertWord_35 rfl (lv_at hl 1 rfl) ?_
        obtain ⟨q, hq, -⟩ := WC_S hG hv0
        refine kg (v := .int (c_count v0)) hx hb hts hiX3_insertWord_X3 hown hK hP q hq rfl 2 (by decide) flX3_insertWord_26 rfl rfl dX3_insertWord_36 ?_
        refine lv_istore (lv' := [(4, .int (c_count v0)), (3, .ref (c_words v0 (c_count v0).toNatClampNeg)), (0, .ref v0), (1, .int v1), (2, .ref v2)]) hx hb dX3_insertWord_39 hl (by decide) rfl (fun ls hl => ?_)
        refine t_C3_insertWord_L41 C hD hG hv0 hv2 hret ?_ FU _ _ _ _ _ _ _ _ _ hP hS (lv_sub hl [2, 3, 4, 1, 0] rfl) hw33 hm
        · intro c_signs c_count c_bits c_words v3 H locs ls hP hS hl hv3 hm
          try dsimp only at hm
          refine lv_aload_n hx hb dX3_insertWord_69 rfl (lv_at hl 3 rfl) ?_
          refine lv_aload_n hx hb dX3_insertWord_70 rfl (lv_at hl 2 rfl) ?_
          obtain ⟨c_signs_71, c_bits_71, hq0, hm⟩ := bd2_some hm
          obtain ⟨q, hq, -⟩ := WC_W hG hv3
          refine k_callVV (As := [.ref v2]) (rest := []) ⟨hx, hb, hml, hown, hts⟩ hK hA hN (c_X6_copyFrom hG hv3 hv2 hq0) (cwV 1 hts gX3_insertWord_X6_copyFrom rfl rfl rfl hdX6_copyFrom ⟨Nat.le_of_ble_eq_true rfl, Nat.le_of_ble_eq_true rfl⟩) hP (WCD hD) hS q 6 hq rfl rfl hl.1 rfl rfl (Nat.le_of_ble_eq_true rfl) ⟨Nat.zero_le _, Nat.zero_le _⟩ dX3_insertWord_71 (fun H locs hP hS => ?_)
          refine lv_aload_n hx hb dX3_insertWord_74 rfl (lv_at hl 0 rfl) ?_
          obtain ⟨q, hq, -⟩ := WC_S hG hv0
          refine kg (v := .ref (sw v0)) hx hb hts hiX3_insertWord_X3 hown hK hP q hq rfl 0 (by decide) flX3_insertWord_11 rfl rfl dX3_insertWord_75 ?_
          refine lv_iload_n hx hb dX3_insertWord_78 rfl (lv_at hl 1 rfl) ?_
          refine lv_aload_n hx hb dX3_insertWord_79 rfl (lv_at hl 3 rfl) ?_
          obtain ⟨hi, hm⟩ := ga_some hm
          obtain ⟨q, hq, he⟩ := WC_words hG hv0
          obtain ⟨qw, hqw, -⟩ := WC_W hG hv3
          refine k_aast hx hb hK hP (WCD hD) hS q 5 qw 6 hq rfl hqw rfl rfl hi dX3_insertWord_80 (fun H locs hP hS => ?_)
          have hP : va_P D vwCl (WC a wb sw se LW LS LK cI cJ cB cL cS cW c_bytes c_heads c_firsts c_levelOf c_aboveOf c_partings c_signs_71 c_count c_pages c_levels c_most c_page c_known c_guess c_diff c_pieces c_place c_bits_71 (va_up c_words v0 (va_up (c_words v0) v1.toNatClampNeg v3)) c_entries c_bads c_noes c_fulls c_length c_next c_kept c_base c_from c_to c_above c_bit c_lastLeft) H := by rw [← he]; exact hP
          refine lv_aload_n hx hb dX3_insertWord_81 rfl (lv_at hl 0 rfl) ?_
          refine lv_dup hx hb dX3_insertWord_82 rfl ?_
          obtain ⟨q, hq, -⟩ := WC_S hG hv0
          refine kg (v := .int (c_count v0)) hx hb hts hiX3_insertWord_X3 hown hK hP q hq rfl 2 (by decide) flX3_insertWord_26 rfl rfl dX3_insertWord_83 ?_
          refine lv_iconst (v := 1) hx hb dX3_insertWord_86 (by decide) ?_
          refine lv_iadd hx hb dX3_insertWord_87 ?_
          obtain ⟨q, hq, he⟩ := WC_S hG hv0
          refine kp hx hb hts hiX3_insertWord_X3 tyX3 tyX3_ok nmX3 hown hK hP (WCD hD) hS q hq rfl 2 (by decide) flX3_insertWord_26 rfl rfl rfl (Nat.le_of_ble_eq_true rfl) dX3_insertWord_88 (fun H locs hP hS => ?_)
          have hP : va_P D vwCl (WC a wb sw se LW LS LK cI cJ cB cL cS cW c_bytes c_heads c_firsts c_levelOf c_aboveOf c_partings c_signs_71 (va_up c_count v0 ((c_count v0) + 1)) c_pages c_levels c_most c_page c_known c_guess c_diff c_pieces c_place c_bits_71 (va_up c_words v0 (va_up (c_words v0) v1.toNatClampNeg v3)) c_entries c_bads c_noes c_fulls c_length c_next c_kept c_base c_from c_to c_above c_bit c_lastLeft) H := by rw [← he.1]; exact hP
          simp only [Option.some.injEq, Prod.mk.injEq] at hm
          obtain ⟨rfl, rfl, rfl, rfl⟩ := hm
          exact hret _ _ _ _ dX3_insertWord_91 hP hS
      · have hm := if_f hc hm
        simp only [Option.some.injEq, Prod.mk.injEq] at hm
        obtain ⟨rfl, rfl, rfl, rfl⟩ := hm
        exact hret _ _ _ _ dX3_insertWord_24 hP hS
theorem hdX3_insertPage : yX3_insertPage.cls = RX3 ∧ yX3_insertPage.cls ≠ "java/lang/invoke/MethodHandle" ∧ yX3_insertPage.cls ≠ "java/lang/invoke/VarHandle" ∧ (parseMethodDescriptor yX3_insertPage.desc).map (fun d => d.parameters.length) = some 2 := by decide +kernel
theorem hiX3_insertPage_X3 : ∀ w ∈ u_ws RX3 TX3 6, w ∈ wsX3_insertPage := by decide +kernel
theorem flX3_insertPage_29 : Cond.fieldLink RX3 29 "BlindPages$State" "pages" "I" ∈ wsX3_insertPage := by decide +kernel
theorem flX3_insertPage_17 : Cond.fieldLink RX3 17 "BlindPages$State" "entries" "[I" ∈ wsX3_insertPage := by decide +kernel
def C3_insertPage_L30 (v0 : Nat) (v1 : Int32) (v2 : Int32) (k55 : (Nat → Int32) → (Nat → Nat → Int32) → Option ((Nat → Int32) × (Nat → Nat → Int32))) : Nat → (Nat → Int32) → (Nat → Nat → Int32) → Int32 → Option ((Nat → Int32) × (Nat → Nat → Int32))
  | 0, _, _, _ => none
  | n + 1, c_pages, c_entries, v3 => if v3 ≤ v1 then (k55 c_pages c_entries) else (ga (v3 - 1) 48 (ga v3 48 (C3_insertPage_L30 v0 v1 v2 k55 n c_pages (va_up c_entries v0 (upd (c_entries v0) v3.toNatClampNeg (c_entries v0 (v3 - 1).toNatClampNeg))) (v3 + (-1)))))
def C3_insertPage (c_pages : Nat → Int32) (c_entries : Nat → Nat → Int32) (v0 : Nat) (v1 : Int32) (v2 : Int32) : Option ((Nat → Int32) × (Nat → Nat → Int32)) := if v1 < 0 then (some (c_pages, c_entries)) else (if (c_pages v0) < v1 then (some (c_pages, c_entries)) else (if (c_pages v0) < 48 then (C3_insertPage_L30 v0 v1 v2 (fun c_pages c_entries => ga v1 48 (some ((va_up c_pages v0 ((c_pages v0) + 1)), (va_up c_entries v0 (upd (c_entries v0) v1.toNatClampNeg v2))))) FU c_pages c_entries (c_pages v0)) else (some (c_pages, c_entries))))
set_option maxRecDepth 100000 in
set_option maxHeartbeats 4000000 in
theorem t_C3_insertPage_L30 {p : Program} {l : Launch} {e : Env} {s : State} {m : MethodId} {args : Array Value} {below : List Frame} {meth : Method} {c : Code} {Q : State → Prop} {A : Nat → Prop} {D : va_G} {cI cJ cB cL cS cW : ClassId} {a wb sw se : Nat → Nat} {LW LS LK : List Nat} {c_bytes c_heads c_firsts c_levelOf c_aboveOf c_partings c_signs c_count c_levels c_most c_page c_known c_guess c_diff c_pieces c_place : Nat → Int32} {c_bits : Nat → Nat → Int64} {c_words : Nat → Nat → Nat} {c_bads c_noes c_fulls c_length c_next c_kept c_base c_from c_to c_above c_bit c_lastLeft : Int32} {v0 : Nat} {v1 : Int32} {v2 : Int32} {o_pages : Nat → Int32} {o_entries : Nat → Nat → Int32} (C : k_C p s m args meth c cX3_insertPage 4 none RX3 wsX3_insertPage D (kT cI cJ cB cL cS cW) A) (hD : va_D A (WC0 a wb sw se LW LS LK cI cJ cB cL cS cW)) (hG : kG a LW LS LK) (hv0 : v0 ∈ LS) (hret : ∀ (H : Heap) (locs : List Loc) (pc : Nat) (ls : Array Slot), decode cX3_insertPage pc = .ok (.return_, 1) → va_P D vwCl (WC a wb sw se LW LS LK cI cJ cB cL cS cW c_bytes c_heads c_firsts c_levelOf c_aboveOf c_partings c_signs c_count o_pages c_levels c_most c_page c_known c_guess c_diff c_pieces c_place c_bits c_words o_entries c_bads c_noes c_fulls c_length c_next c_kept c_base c_from c_to c_above c_bit c_lastLeft) H → va_S A s.heap H locs → W p l e { frames := 0, cells := 0, slots := 0, locals := 0 } s m args below meth c H locs 0 0 Q (F0 m pc ls [])) {k55 : (Nat → Int32) → (Nat → Nat → Int32) → Option ((Nat → Int32) × (Nat → Nat → Int32))} (hk55 : ∀ (c_pages : (Nat → Int32)) (c_entries : (Nat → Nat → Int32)) (H : Heap) (locs : List Loc) (ls : Array Slot), va_P D vwCl (WC a wb sw se LW LS LK cI cJ cB cL cS cW c_bytes c_heads c_firsts c_levelOf c_aboveOf c_partings c_signs c_count c_pages c_levels c_most c_page c_known c_guess c_diff c_pieces c_place c_bits c_words c_entries c_bads c_noes c_fulls c_length c_next c_kept c_base c_from c_to c_above c_bit c_lastLeft) H → va_S A s.heap H locs → lv_has ls 4 [(0, .ref v0), (1, .int v1), (2, .int v2)] → k55 c_pages c_entries = some (o_pages, o_entries) → W p l e { frames := 0, cells := 0, slots := 0, locals := 0 } s m args below meth c H locs 0 0 Q (F0 m 55 ls [])) : ∀ n : Nat, ∀ (c_pages : (Nat → Int32)) (c_entries : (Nat → Nat → Int32)) (v3 : Int32) (H : Heap) (locs : List Loc) (ls : Array Slot), va_P D vwCl (WC a wb sw se LW LS LK cI cJ cB cL cS cW c_bytes c_heads c_firsts c_levelOf c_aboveOf c_partings c_signs c_count c_pages c_levels c_most c_page c_known c_guess c_diff c_pieces c_place c_bits c_words c_entries c_bads c_noes c_fulls c_length c_next c_kept c_base c_from c_to c_above c_bit c_lastLeft) H → va_S A s.heap H locs → lv_has ls 4 [(0, .ref v0), (1, .int v1), (2, .int v2), (3, .int v3)] → (C3_insertPage_L30 v0 v1 v2 k55 n) c_pages c_entries v3 = some (o_pages, o_entries) → W p l e { frames := 0, cells := 0, slots := 0, locals := 0 } s m args below meth c H locs 0 0 Q (F0 m 30 ls []) := by
  obtain ⟨hx, hb, hml, hr, hown, hts, hlocks, hK, hA, hN⟩ := id C
  intro n
  induction n with
  | zero =>
    intro c_pages c_entries v3 H locs ls hP hS hl hm
    cases hm
  | succ n ih =>
    intro c_pages c_entries v3 H locs ls hP hS hl hm
    rw [C3_insertPage_L30] at hm
    refine lv_iload_n hx hb dX3_insertPage_30 rfl (lv_at hl 3 rfl) ?_
    refine lv_iload_n hx hb dX3_insertPage_31 rfl (lv_at hl 1 rfl) ?_
    refine lv_icmp_le (tgt := 55) hx hb dX3_insertPage_32 (by decide) (fun hc => ?_) (fun hc => ?_)
    · have hm := if_t hc hm
      exact hk55 _ _ _ _ _ hP hS (lv_sub hl [0, 1, 2] rfl) hm
    · have hm := if_f hc hm
      refine lv_aload_n hx hb dX3_insertPage_35 rfl (lv_at hl 0 rfl) ?_
      obtain ⟨q, hq, -⟩ := WC_S hG hv0
      refine kg (v := .ref (se v0)) hx hb hts hiX3_insertPage_X3 hown hK hP q hq rfl 1 (by decide) flX3_insertPage_17 rfl rfl dX3_insertPage_36 ?_
      refine lv_iload_n hx hb dX3_insertPage_39 rfl (lv_at hl 3 rfl) ?_
      refine lv_aload_n hx hb dX3_insertPage_40 rfl (lv_at hl 0 rfl) ?_
      obtain ⟨q, hq, -⟩ := WC_S hG hv0
      refine kg (v := .ref (se v0)) hx hb hts hiX3_insertPage_X3 hown hK hP q hq rfl 1 (by decide) flX3_insertPage_17 rfl rfl dX3_insertPage_41 ?_
      refine lv_iload_n hx hb dX3_insertPage_44 rfl (lv_at hl 3 rfl) ?_
      refine lv_iconst (v := 1) hx hb dX3_insertPage_45 (by decide) ?_
      refine lv_isub hx hb dX3_insertPage_46 ?_
      obtain ⟨hi, hm⟩ := ga_some hm
      obtain ⟨q, hq, -⟩ := WC_entries hG hv0
      refine k_iald hx hb hK hP q 0 hq rfl rfl hi dX3_insertPage_47 ?_
      obtain ⟨hi, hm⟩ := ga_some hm
      obtain ⟨q, hq, he⟩ := WC_entries hG hv0
      refine k_iast hx hb hK hP (WCD hD) hS q 0 hq rfl rfl hi dX3_insertPage_48 (fun H locs hP hS => ?_)
      have hP : va_P D vwCl (WC a wb sw se LW LS LK cI cJ cB cL cS cW c_bytes c_heads c_firsts c_levelOf c_aboveOf c_partings c_signs c_count c_pages c_levels c_most c_page c_known c_guess c_diff c_pieces c_place c_bits c_words (va_up c_entries v0 (upd (c_entries v0) v3.toNatClampNeg (c_entries v0 (v3 - 1).toNatClampNeg))) c_bads c_noes c_fulls c_length c_next c_kept c_base c_from c_to c_above c_bit c_lastLeft) H := by rw [← he]; exact hP
      refine lv_iinc (v := (v3 + (-1))) (lv' := [(3, .int (v3 + (-1))), (0, .ref v0), (1, .int v1), (2, .int v2)]) hx hb dX3_insertPage_49 hl (k := 3) rfl rfl (by decide) rfl (fun ls hl => ?_)
      refine lv_goto (tgt := 30) hx hb dX3_insertPage_52 (by decide) ?_
      exact ih _ _ _ _ _ _ hP hS (lv_sub hl [1, 2, 3, 0] rfl) hm
set_option maxRecDepth 100000 in
set_option maxHeartbeats 4000000 in
theorem c_X3_insertPage {l : Launch} {D : va_G} {cI cJ cB cL cS cW : ClassId} {a wb sw se : Nat → Nat} {LW LS LK : List Nat} {c_bytes c_heads c_firsts c_levelOf c_aboveOf c_partings c_signs c_count c_pages c_levels c_most c_page c_known c_guess c_diff c_pieces c_place : Nat → Int32} {c_bits : Nat → Nat → Int64} {c_words : Nat → Nat → Nat} {c_entries : Nat → Nat → Int32} {c_bads c_noes c_fulls c_length c_next c_kept c_base c_from c_to c_above c_bit c_lastLeft : Int32} {v0 : Nat} {v1 : Int32} {v2 : Int32} {o_pages : Nat → Int32} {o_entries : Nat → Nat → Int32} (hG : kG a LW LS LK) (hv0 : v0 ∈ LS) (hm : C3_insertPage c_pages c_entries v0 v1 v2 = some (o_pages, o_entries)) : k_MV l yX3_insertPage wsX3_insertPage { frames := 0, cells := 0, slots := 0, locals := 0 } D (kT cI cJ cB cL cS cW) [.ref v0, .int v1, .int v2] (WC a wb sw se LW LS LK cI cJ cB cL cS cW c_bytes c_heads c_firsts c_levelOf c_aboveOf c_partings c_signs c_count c_pages c_levels c_most c_page c_known c_guess c_diff c_pieces c_place c_bits c_words c_entries c_bads c_noes c_fulls c_length c_next c_kept c_base c_from c_to c_above c_bit c_lastLeft) (WC a wb sw se LW LS LK cI cJ cB cL cS cW c_bytes c_heads c_firsts c_levelOf c_aboveOf c_partings c_signs c_count o_pages c_levels c_most c_page c_known c_guess c_diff c_pieces c_place c_bits c_words o_entries c_bads c_noes c_fulls c_length c_next c_kept c_base c_from c_to c_above c_bit c_lastLeft) := by
  refine k_ofV (cc := cX3_insertPage) (maxL := 4) (own := RX3) (by decide) rfl rfl (Nat.le_of_ble_eq_true rfl) ?_
  intro p e s m args below meth c A Q ls C hP hD hl hret
  have hD : va_D A (WC0 a wb sw se LW LS LK cI cJ cB cL cS cW) := WCD hD
  have hS : va_S A s.heap s.heap [] := va_S.rf
  have hl : lv_has ls 4 [(0, .ref v0), (1, .int v1), (2, .int v2)] := hl
  obtain ⟨hx, hb, hml, hr, hown, hts, hlocks, hK, hA, hN⟩ := id C
  rw [C3_insertPage] at hm
  refine lv_iload_n hx hb dX3_insertPage_0 rfl (lv_at hl 1 rfl) ?_
  refine lv_if_lt (tgt := 24) hx hb dX3_insertPage_1 (by decide) (fun hc => ?_) (fun hc => ?_)
  · have hm := if_t hc hm
    simp only [Option.some.injEq, Prod.mk.injEq] at hm
    obtain ⟨rfl, rfl⟩ := hm
    exact hret _ _ _ _ dX3_insertPage_24 hP hS
  · have hm := if_f hc hm
    refine lv_iload_n hx hb dX3_insertPage_4 rfl (lv_at hl 1 rfl) ?_
    refine lv_aload_n hx hb dX3_insertPage_5 rfl (lv_at hl 0 rfl) ?_
    obtain ⟨q, hq, -⟩ := WC_S hG hv0
    refine kg (v := .int (c_pages v0)) hx hb hts hiX3_insertPage_X3 hown hK hP q hq rfl 3 (by decide) flX3_insertPage_29 rfl rfl dX3_insertPage_6 ?_
    refine lv_icmp_gt (tgt := 24) hx hb dX3_insertPage_9 (by decide) (fun hc => ?_) (fun hc => ?_)
    · have hm := if_t hc hm
      simp only [Option.some.injEq, Prod.mk.injEq] at hm
      obtain ⟨rfl, rfl⟩ := hm
      exact hret _ _ _ _ dX3_insertPage_24 hP hS
    · have hm := if_f hc hm
      refine lv_aload_n hx hb dX3_insertPage_12 rfl (lv_at hl 0 rfl) ?_
      obtain ⟨q, hq, -⟩ := WC_S hG hv0
      refine kg (v := .int (c_pages v0)) hx hb hts hiX3_insertPage_X3 hown hK hP q hq rfl 3 (by decide) flX3_insertPage_29 rfl rfl dX3_insertPage_13 ?_
      refine lv_aload_n hx hb dX3_insertPage_16 rfl (lv_at hl 0 rfl) ?_
      obtain ⟨q, hq, -⟩ := WC_S hG hv0
      refine kg (v := .ref (se v0)) hx hb hts hiX3_insertPage_X3 hown hK hP q hq rfl 1 (by decide) flX3_insertPage_17 rfl rfl dX3_insertPage_17 ?_
      obtain ⟨q, hq, -⟩ := WC_entries hG hv0
      refine va_alen (v := 48) hx hb hK hP q 0 hq rfl rfl dX3_insertPage_20 ?_
      refine lv_icmp_lt (tgt := 25) hx hb dX3_insertPage_21 (by decide) (fun hc => ?_) (fun hc => ?_)
      · have hm := if_t hc hm
        refine lv_aload_n hx hb dX3_insertPage_25 rfl (lv_at hl 0 rfl) ?_
        obtain ⟨q, hq, -⟩ := WC_S hG hv0
        refine kg (v := .int (c_pages v0)) hx hb hts hiX3_insertPage_X3 hown hK hP q hq rfl 3 (by decide) flX3_insertPage_29 rfl rfl dX3_insertPage_26 ?_
        refine lv_istore_n (lv' := [(3, .int (c_pages v0)), (0, .ref v0), (1, .int v1), (2, .int v2)]) hx hb dX3_insertPage_29 rfl hl (by decide) rfl (fun ls hl => ?_)
        refine t_C3_insertPage_L30 C hD hG hv0 hret ?_ FU _ _ _ _ _ _ hP hS (lv_sub hl [1, 2, 3, 0] rfl) hm
        · intro c_pages c_entries H locs ls hP hS hl hm
          try dsimp only at hm
          refine lv_aload_n hx hb dX3_insertPage_55 rfl (lv_at hl 0 rfl) ?_
          obtain ⟨q, hq, -⟩ := WC_S hG hv0
          refine kg (v := .ref (se v0)) hx hb hts hiX3_insertPage_X3 hown hK hP q hq rfl 1 (by decide) flX3_insertPage_17 rfl rfl dX3_insertPage_56 ?_
          refine lv_iload_n hx hb dX3_insertPage_59 rfl (lv_at hl 1 rfl) ?_
          refine lv_iload_n hx hb dX3_insertPage_60 rfl (lv_at hl 2 rfl) ?_
          obtain ⟨hi, hm⟩ := ga_some hm
          obtain ⟨q, hq, he⟩ := WC_entries hG hv0
          refine k_iast hx hb hK hP (WCD hD) hS q 0 hq rfl rfl hi dX3_insertPage_61 (fun H locs hP hS => ?_)
          have hP : va_P D vwCl (WC a wb sw se LW LS LK cI cJ cB cL cS cW c_bytes c_heads c_firsts c_levelOf c_aboveOf c_partings c_signs c_count c_pages c_levels c_most c_page c_known c_guess c_diff c_pieces c_place c_bits c_words (va_up c_entries v0 (upd (c_entries v0) v1.toNatClampNeg v2)) c_bads c_noes c_fulls c_length c_next c_kept c_base c_from c_to c_above c_bit c_lastLeft) H := by rw [← he]; exact hP
          refine lv_aload_n hx hb dX3_insertPage_62 rfl (lv_at hl 0 rfl) ?_
          refine lv_dup hx hb dX3_insertPage_63 rfl ?_
          obtain ⟨q, hq, -⟩ := WC_S hG hv0
          refine kg (v := .int (c_pages v0)) hx hb hts hiX3_insertPage_X3 hown hK hP q hq rfl 3 (by decide) flX3_insertPage_29 rfl rfl dX3_insertPage_64 ?_
          refine lv_iconst (v := 1) hx hb dX3_insertPage_67 (by decide) ?_
          refine lv_iadd hx hb dX3_insertPage_68 ?_
          obtain ⟨q, hq, he⟩ := WC_S hG hv0
          refine kp hx hb hts hiX3_insertPage_X3 tyX3 tyX3_ok nmX3 hown hK hP (WCD hD) hS q hq rfl 3 (by decide) flX3_insertPage_29 rfl rfl rfl (Nat.le_of_ble_eq_true rfl) dX3_insertPage_69 (fun H locs hP hS => ?_)
          have hP : va_P D vwCl (WC a wb sw se LW LS LK cI cJ cB cL cS cW c_bytes c_heads c_firsts c_levelOf c_aboveOf c_partings c_signs c_count (va_up c_pages v0 ((c_pages v0) + 1)) c_levels c_most c_page c_known c_guess c_diff c_pieces c_place c_bits c_words (va_up c_entries v0 (upd (c_entries v0) v1.toNatClampNeg v2)) c_bads c_noes c_fulls c_length c_next c_kept c_base c_from c_to c_above c_bit c_lastLeft) H := by rw [← he.2.1]; exact hP
          simp only [Option.some.injEq, Prod.mk.injEq] at hm
          obtain ⟨rfl, rfl⟩ := hm
          exact hret _ _ _ _ dX3_insertPage_72 hP hS
      · have hm := if_f hc hm
        simp only [Option.some.injEq, Prod.mk.injEq] at hm
        obtain ⟨rfl, rfl⟩ := hm
        exact hret _ _ _ _ dX3_insertPage_24 hP hS
theorem hdX3_setEntries : yX3_setEntries.cls = RX3 ∧ yX3_setEntries.cls ≠ "java/lang/invoke/MethodHandle" ∧ yX3_setEntries.cls ≠ "java/lang/invoke/VarHandle" ∧ (parseMethodDescriptor yX3_setEntries.desc).map (fun d => d.parameters.length) = some 2 := by decide +kernel
theorem hiX3_setEntries_X3 : ∀ w ∈ u_ws RX3 TX3 6, w ∈ wsX3_setEntries := by decide +kernel
theorem flX3_setEntries_29 : Cond.fieldLink RX3 29 "BlindPages$State" "pages" "I" ∈ wsX3_setEntries := by decide +kernel
theorem flX3_setEntries_17 : Cond.fieldLink RX3 17 "BlindPages$State" "entries" "[I" ∈ wsX3_setEntries := by decide +kernel
def C3_setEntries (c_pages : Nat → Int32) (c_entries : Nat → Nat → Int32) (v0 : Nat) (v1 : Int32) (v2 : Int32) : Option ((Nat → Nat → Int32)) := if v1 < 0 then (some c_entries) else (if (c_pages v0) ≤ v1 then (some c_entries) else (if 48 ≤ v1 then (some c_entries) else (ga v1 48 (some (va_up c_entries v0 (upd (c_entries v0) v1.toNatClampNeg v2))))))
set_option maxRecDepth 100000 in
set_option maxHeartbeats 4000000 in
theorem c_X3_setEntries {l : Launch} {D : va_G} {cI cJ cB cL cS cW : ClassId} {a wb sw se : Nat → Nat} {LW LS LK : List Nat} {c_bytes c_heads c_firsts c_levelOf c_aboveOf c_partings c_signs c_count c_pages c_levels c_most c_page c_known c_guess c_diff c_pieces c_place : Nat → Int32} {c_bits : Nat → Nat → Int64} {c_words : Nat → Nat → Nat} {c_entries : Nat → Nat → Int32} {c_bads c_noes c_fulls c_length c_next c_kept c_base c_from c_to c_above c_bit c_lastLeft : Int32} {v0 : Nat} {v1 : Int32} {v2 : Int32} {o_entries : Nat → Nat → Int32} (hG : kG a LW LS LK) (hv0 : v0 ∈ LS) (hm : C3_setEntries c_pages c_entries v0 v1 v2 = some o_entries) : k_MV l yX3_setEntries wsX3_setEntries { frames := 0, cells := 0, slots := 0, locals := 0 } D (kT cI cJ cB cL cS cW) [.ref v0, .int v1, .int v2] (WC a wb sw se LW LS LK cI cJ cB cL cS cW c_bytes c_heads c_firsts c_levelOf c_aboveOf c_partings c_signs c_count c_pages c_levels c_most c_page c_known c_guess c_diff c_pieces c_place c_bits c_words c_entries c_bads c_noes c_fulls c_length c_next c_kept c_base c_from c_to c_above c_bit c_lastLeft) (WC a wb sw se LW LS LK cI cJ cB cL cS cW c_bytes c_heads c_firsts c_levelOf c_aboveOf c_partings c_signs c_count c_pages c_levels c_most c_page c_known c_guess c_diff c_pieces c_place c_bits c_words o_entries c_bads c_noes c_fulls c_length c_next c_kept c_base c_from c_to c_above c_bit c_lastLeft) := by
  refine k_ofV (cc := cX3_setEntries) (maxL := 3) (own := RX3) (by decide) rfl rfl (Nat.le_of_ble_eq_true rfl) ?_
  intro p e s m args below meth c A Q ls C hP hD hl hret
  have hD : va_D A (WC0 a wb sw se LW LS LK cI cJ cB cL cS cW) := WCD hD
  have hS : va_S A s.heap s.heap [] := va_S.rf
  have hl : lv_has ls 3 [(0, .ref v0), (1, .int v1), (2, .int v2)] := hl
  obtain ⟨hx, hb, hml, hr, hown, hts, hlocks, hK, hA, hN⟩ := id C
  rw [C3_setEntries] at hm
  refine lv_iload_n hx hb dX3_setEntries_0 rfl (lv_at hl 1 rfl) ?_
  refine lv_if_lt (tgt := 28) hx hb dX3_setEntries_1 (by decide) (fun hc => ?_) (fun hc => ?_)
  · have hm := if_t hc hm
    obtain rfl := Option.some.inj hm
    exact hret _ _ _ _ dX3_setEntries_28 hP hS
  · have hm := if_f hc hm
    refine lv_iload_n hx hb dX3_setEntries_4 rfl (lv_at hl 1 rfl) ?_
    refine lv_aload_n hx hb dX3_setEntries_5 rfl (lv_at hl 0 rfl) ?_
    obtain ⟨q, hq, -⟩ := WC_S hG hv0
    refine kg (v := .int (c_pages v0)) hx hb hts hiX3_setEntries_X3 hown hK hP q hq rfl 3 (by decide) flX3_setEntries_29 rfl rfl dX3_setEntries_6 ?_
    refine lv_icmp_ge (tgt := 28) hx hb dX3_setEntries_9 (by decide) (fun hc => ?_) (fun hc => ?_)
    · have hm := if_t hc hm
      obtain rfl := Option.some.inj hm
      exact hret _ _ _ _ dX3_setEntries_28 hP hS
    · have hm := if_f hc hm
      refine lv_iload_n hx hb dX3_setEntries_12 rfl (lv_at hl 1 rfl) ?_
      refine lv_aload_n hx hb dX3_setEntries_13 rfl (lv_at hl 0 rfl) ?_
      obtain ⟨q, hq, -⟩ := WC_S hG hv0
      refine kg (v := .ref (se v0)) hx hb hts hiX3_setEntries_X3 hown hK hP q hq rfl 1 (by decide) flX3_setEntries_17 rfl rfl dX3_setEntries_14 ?_
      obtain ⟨q, hq, -⟩ := WC_entries hG hv0
      refine va_alen (v := 48) hx hb hK hP q 0 hq rfl rfl dX3_setEntries_17 ?_
      refine lv_icmp_ge (tgt := 28) hx hb dX3_setEntries_18 (by decide) (fun hc => ?_) (fun hc => ?_)
      · have hm := if_t hc hm
        obtain rfl := Option.some.inj hm
        exact hret _ _ _ _ dX3_setEntries_28 hP hS
      · have hm := if_f hc hm
        refine lv_aload_n hx hb dX3_setEntries_21 rfl (lv_at hl 0 rfl) ?_
        obtain ⟨q, hq, -⟩ := WC_S hG hv0
        refine kg (v := .ref (se v0)) hx hb hts hiX3_setEntries_X3 hown hK hP q hq rfl 1 (by decide) flX3_setEntries_17 rfl rfl dX3_setEntries_22 ?_
        refine lv_iload_n hx hb dX3_setEntries_25 rfl (lv_at hl 1 rfl) ?_
        refine lv_iload_n hx hb dX3_setEntries_26 rfl (lv_at hl 2 rfl) ?_
        obtain ⟨hi, hm⟩ := ga_some hm
        obtain ⟨q, hq, he⟩ := WC_entries hG hv0
        refine k_iast hx hb hK hP (WCD hD) hS q 0 hq rfl rfl hi dX3_setEntries_27 (fun H locs hP hS => ?_)
        have hP : va_P D vwCl (WC a wb sw se LW LS LK cI cJ cB cL cS cW c_bytes c_heads c_firsts c_levelOf c_aboveOf c_partings c_signs c_count c_pages c_levels c_most c_page c_known c_guess c_diff c_pieces c_place c_bits c_words (va_up c_entries v0 (upd (c_entries v0) v1.toNatClampNeg v2)) c_bads c_noes c_fulls c_length c_next c_kept c_base c_from c_to c_above c_bit c_lastLeft) H := by rw [← he]; exact hP
        obtain rfl := Option.some.inj hm
        exact hret _ _ _ _ dX3_setEntries_28 hP hS
