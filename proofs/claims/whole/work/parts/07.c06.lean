theorem hdX0_shrinkUpwards : yX0_shrinkUpwards.cls = RX0 ∧ yX0_shrinkUpwards.cls ≠ "java/lang/invoke/MethodHandle" ∧ yX0_shrinkUpwards.cls ≠ "java/lang/invoke/VarHandle" ∧ (parseMethodDescriptor yX0_shrinkUpwards.desc).map (fun d => d.parameters.length) = some 0 := by decide +kernel
theorem hiX0_shrinkUpwards_X0 : ∀ w ∈ u_ws RX0 TX0 7, w ∈ wsX0_shrinkUpwards := by decide +kernel
theorem hiX0_shrinkUpwards_X1 : ∀ w ∈ u_ws RX1 TX1 6, w ∈ wsX0_shrinkUpwards := by decide +kernel
theorem hiX0_shrinkUpwards_X3 : ∀ w ∈ u_ws RX3 TX3 6, w ∈ wsX0_shrinkUpwards := by decide +kernel
theorem flX0_shrinkUpwards_12 : Cond.fieldLink RX0 12 "BlindPages$Index" "now" "LBlindPages$State;" ∈ wsX0_shrinkUpwards := by decide +kernel
theorem flX0_shrinkUpwards_134 : Cond.fieldLink RX0 134 "BlindPages$State" "levels" "I" ∈ wsX0_shrinkUpwards := by decide +kernel
theorem flX0_shrinkUpwards_104 : Cond.fieldLink RX0 104 "BlindPages$Look" "page" "I" ∈ wsX0_shrinkUpwards := by decide +kernel
theorem flX0_shrinkUpwards_179 : Cond.fieldLink RX0 179 "BlindPages$State" "most" "I" ∈ wsX0_shrinkUpwards := by decide +kernel
def C0_shrinkUpwards_J68 (a : Nat → Nat) (LK : List Nat) (c_firsts c_levels c_most c_page : Nat → Int32) (k4 : (Nat → Int32) → (Nat → Nat → Int32) → Int32 → Int32 → Option ((Nat → Int32) × (Nat → Nat → Int32))) (k119 : (Nat → Int32) → (Nat → Nat → Int32) → Option ((Nat → Int32) × (Nat → Nat → Int32))) (c_pages : (Nat → Int32)) (c_entries : (Nat → Nat → Int32)) (v2 : Int32) (v3 : Int32) (v4 : Int32) (t0 : Int32) : Option ((Nat → Int32) × (Nat → Nat → Int32)) := if t0 = 0 then (if ((c_most (a 14)) / 2) ≤ v4 then (k4 c_pages c_entries 0 (v2 + 1)) else (bd1 (C0_lookOf a LK (v2 + 1)) fun r95 => gm LK r95 (bd3 (C0_joins a c_firsts c_most c_pages c_entries v3 (c_page r95)) fun r101 c_pages_101 c_entries_101 => if r101 = 0 then (k4 c_pages_101 c_entries_101 0 (v2 + 1)) else (k4 c_pages_101 c_entries_101 1 (v2 + 1))))) else (k4 c_pages c_entries 0 (v2 + 1))
def C0_shrinkUpwards_L4 (a : Nat → Nat) (LK : List Nat) (c_firsts c_levels c_most c_page : Nat → Int32) (k119 : (Nat → Int32) → (Nat → Nat → Int32) → Option ((Nat → Int32) × (Nat → Nat → Int32))) : Nat → (Nat → Int32) → (Nat → Nat → Int32) → Int32 → Int32 → Option ((Nat → Int32) × (Nat → Nat → Int32))
  | 0, _, _, _, _ => none
  | n + 1, c_pages, c_entries, v1, v2 => if (c_levels (a 14)) ≤ v2 then (k119 c_pages c_entries) else (if v1 = 0 then (k119 c_pages c_entries) else (bd1 (C0_lookOf a LK v2) fun r21 => gm LK r21 (bd1 (C3_entriesOf c_pages c_entries (a 14) (c_page r21)) fun r33 => bd1 (C3_setEntries c_pages c_entries (a 14) (c_page r21) (r33 - 1)) fun c_entries_47 => if v2 = ((c_levels (a 14)) - 1) then (C0_shrinkUpwards_J68 a LK c_firsts c_levels c_most c_page (C0_shrinkUpwards_L4 a LK c_firsts c_levels c_most c_page k119 n) k119 c_pages c_entries_47 v2 (c_page r21) (r33 - 1) 1) else (C0_shrinkUpwards_J68 a LK c_firsts c_levels c_most c_page (C0_shrinkUpwards_L4 a LK c_firsts c_levels c_most c_page k119 n) k119 c_pages c_entries_47 v2 (c_page r21) (r33 - 1) 0))))
def C0_shrinkUpwards (a : Nat → Nat) (LK : List Nat) (c_firsts c_levels c_most c_page : Nat → Int32) (c_pages : Nat → Int32) (c_entries : Nat → Nat → Int32) : Option ((Nat → Int32) × (Nat → Nat → Int32)) := C0_shrinkUpwards_L4 a LK c_firsts c_levels c_most c_page (fun c_pages c_entries => some (c_pages, c_entries)) FU c_pages c_entries 1 0
set_option maxRecDepth 100000 in
set_option maxHeartbeats 4000000 in
theorem t_C0_shrinkUpwards_J68 {p : Program} {l : Launch} {e : Env} {s : State} {m : MethodId} {args : Array Value} {below : List Frame} {meth : Method} {c : Code} {Q : State → Prop} {A : Nat → Prop} {D : va_G} {cI cJ cB cL cS cW : ClassId} {a wb sw se : Nat → Nat} {LW LS LK : List Nat} {c_bytes c_heads c_firsts c_levelOf c_aboveOf c_partings c_signs c_count c_levels c_most c_page c_known c_guess c_diff c_pieces c_place : Nat → Int32} {c_bits : Nat → Nat → Int64} {c_words : Nat → Nat → Nat} {c_bads c_noes c_fulls c_length c_next c_kept c_base c_from c_to c_above c_bit c_lastLeft : Int32} {o_pages : Nat → Int32} {o_entries : Nat → Nat → Int32} (C : k_C p s m args meth c cX0_shrinkUpwards 6 none RX0 wsX0_shrinkUpwards D (kT cI cJ cB cL cS cW) A) (hD : va_D A (WC0 a wb sw se LW LS LK cI cJ cB cL cS cW)) (hG : kG a LW LS LK) (hret : ∀ (H : Heap) (locs : List Loc) (pc : Nat) (ls : Array Slot), decode cX0_shrinkUpwards pc = .ok (.return_, 1) → va_P D vwCl (WC a wb sw se LW LS LK cI cJ cB cL cS cW c_bytes c_heads c_firsts c_levelOf c_aboveOf c_partings c_signs c_count o_pages c_levels c_most c_page c_known c_guess c_diff c_pieces c_place c_bits c_words o_entries c_bads c_noes c_fulls c_length c_next c_kept c_base c_from c_to c_above c_bit c_lastLeft) H → va_S A s.heap H locs → W p l e { frames := 2, cells := 0, slots := 0, locals := 47 } s m args below meth c H locs 0 0 Q (F0 m pc ls [])) {k4 : (Nat → Int32) → (Nat → Nat → Int32) → Int32 → Int32 → Option ((Nat → Int32) × (Nat → Nat → Int32))} (hk4 : ∀ (c_pages : (Nat → Int32)) (c_entries : (Nat → Nat → Int32)) (v1 : Int32) (v2 : Int32) (H : Heap) (locs : List Loc) (ls : Array Slot), va_P D vwCl (WC a wb sw se LW LS LK cI cJ cB cL cS cW c_bytes c_heads c_firsts c_levelOf c_aboveOf c_partings c_signs c_count c_pages c_levels c_most c_page c_known c_guess c_diff c_pieces c_place c_bits c_words c_entries c_bads c_noes c_fulls c_length c_next c_kept c_base c_from c_to c_above c_bit c_lastLeft) H → va_S A s.heap H locs → lv_has ls 6 [(0, .ref (a 3)), (1, .int v1), (2, .int v2)] → k4 c_pages c_entries v1 v2 = some (o_pages, o_entries) → W p l e { frames := 2, cells := 0, slots := 0, locals := 47 } s m args below meth c H locs 0 0 Q (F0 m 4 ls [])) {k119 : (Nat → Int32) → (Nat → Nat → Int32) → Option ((Nat → Int32) × (Nat → Nat → Int32))} (hk119 : ∀ (c_pages : (Nat → Int32)) (c_entries : (Nat → Nat → Int32)) (H : Heap) (locs : List Loc) (ls : Array Slot), va_P D vwCl (WC a wb sw se LW LS LK cI cJ cB cL cS cW c_bytes c_heads c_firsts c_levelOf c_aboveOf c_partings c_signs c_count c_pages c_levels c_most c_page c_known c_guess c_diff c_pieces c_place c_bits c_words c_entries c_bads c_noes c_fulls c_length c_next c_kept c_base c_from c_to c_above c_bit c_lastLeft) H → va_S A s.heap H locs → lv_has ls 6 [] → k119 c_pages c_entries = some (o_pages, o_entries) → W p l e { frames := 2, cells := 0, slots := 0, locals := 47 } s m args below meth c H locs 0 0 Q (F0 m 119 ls [])) : ∀ (c_pages : (Nat → Int32)) (c_entries : (Nat → Nat → Int32)) (v2 : Int32) (v3 : Int32) (v4 : Int32) (t0 : Int32) (H : Heap) (locs : List Loc) (ls : Array Slot), va_P D vwCl (WC a wb sw se LW LS LK cI cJ cB cL cS cW c_bytes c_heads c_firsts c_levelOf c_aboveOf c_partings c_signs c_count c_pages c_levels c_most c_page c_known c_guess c_diff c_pieces c_place c_bits c_words c_entries c_bads c_noes c_fulls c_length c_next c_kept c_base c_from c_to c_above c_bit c_lastLeft) H → va_S A s.heap H locs → lv_has ls 6 [(0, .ref (a 3)), (2, .int v2), (3, .int v3), (4, .int v4)] → C0_shrinkUpwards_J68 a LK c_firsts c_levels c_most c_page k4 k119 c_pages c_entries v2 v3 v4 t0 = some (o_pages, o_entries) → W p l e { frames := 2, cells := 0, slots := 0, locals := 47 } s m args below meth c H locs 0 0 Q (F0 m 68 ls [.int t0]) := by
  obtain ⟨hx, hb, hml, hr, hown, hts, hlocks, hK, hA, hN⟩ := id C
  intro c_pages c_entries v2 v3 v4 t0 H locs ls hP hS hl hm
  rw [C0_shrinkUpwards_J68] at hm
  refine lv_istore (lv' := [(5, .int t0), (0, .ref (a 3)), (2, .int v2), (3, .int v3), (4, .int v4)]) hx hb dX0_shrinkUpwards_68 hl (by decide) rfl (fun ls hl => ?_)
  refine lv_iload hx hb dX0_shrinkUpwards_70 (lv_at hl 0 rfl) ?_
  refine lv_if_ne (tgt := 111) hx hb dX0_shrinkUpwards_72 (by decide) (fun hc => ?_) (fun hc => ?_)
  · have hm := if_f hc hm
    refine lv_iconst (v := 0) hx hb dX0_shrinkUpwards_111 (by decide) ?_
    refine lv_istore_n (lv' := [(1, .int 0), (5, .int t0), (0, .ref (a 3)), (2, .int v2), (3, .int v3), (4, .int v4)]) hx hb dX0_shrinkUpwards_112 rfl hl (by decide) rfl (fun ls hl => ?_)
    refine lv_iinc (v := (v2 + 1)) (lv' := [(2, .int (v2 + 1)), (1, .int 0), (5, .int t0), (0, .ref (a 3)), (3, .int v3), (4, .int v4)]) hx hb dX0_shrinkUpwards_113 hl (k := 3) rfl rfl (by decide) rfl (fun ls hl => ?_)
    refine lv_goto (tgt := 4) hx hb dX0_shrinkUpwards_116 (by decide) ?_
    exact hk4 _ _ _ _ _ _ _ hP hS (lv_sub hl [3, 1, 0] rfl) hm
  · have hm := if_t hc hm
    refine lv_iload hx hb dX0_shrinkUpwards_75 (lv_at hl 4 rfl) ?_
    refine lv_aload_n hx hb dX0_shrinkUpwards_77 rfl (lv_at hl 1 rfl) ?_
    refine kg (v := .ref (a 14)) hx hb hts hiX0_shrinkUpwards_X0 hown hK hP 3 rfl rfl 0 (by decide) flX0_shrinkUpwards_12 rfl rfl dX0_shrinkUpwards_78 ?_
    obtain ⟨q, hq, -⟩ := WC_S hG hG.2.2.2.2.1
    refine kg (v := .int (c_most (a 14))) hx hb hts hiX0_shrinkUpwards_X3 hown hK hP q hq rfl 5 (by decide) flX0_shrinkUpwards_179 rfl rfl dX0_shrinkUpwards_81 ?_
    refine lv_iconst (v := 2) hx hb dX0_shrinkUpwards_84 (by decide) ?_
    refine lv_idiv hx hb dX0_shrinkUpwards_85 (by decide) ?_
    refine lv_icmp_ge (tgt := 111) hx hb dX0_shrinkUpwards_86 (by decide) (fun hc => ?_) (fun hc => ?_)
    · have hm := if_t hc hm
      refine lv_iconst (v := 0) hx hb dX0_shrinkUpwards_111 (by decide) ?_
      refine lv_istore_n (lv' := [(1, .int 0), (5, .int t0), (0, .ref (a 3)), (2, .int v2), (3, .int v3), (4, .int v4)]) hx hb dX0_shrinkUpwards_112 rfl hl (by decide) rfl (fun ls hl => ?_)
      refine lv_iinc (v := (v2 + 1)) (lv' := [(2, .int (v2 + 1)), (1, .int 0), (5, .int t0), (0, .ref (a 3)), (3, .int v3), (4, .int v4)]) hx hb dX0_shrinkUpwards_113 hl (k := 3) rfl rfl (by decide) rfl (fun ls hl => ?_)
      refine lv_goto (tgt := 4) hx hb dX0_shrinkUpwards_116 (by decide) ?_
      exact hk4 _ _ _ _ _ _ _ hP hS (lv_sub hl [3, 1, 0] rfl) hm
    · have hm := if_f hc hm
      refine lv_aload_n hx hb dX0_shrinkUpwards_89 rfl (lv_at hl 1 rfl) ?_
      refine lv_iload_n hx hb dX0_shrinkUpwards_90 rfl (lv_at hl 3 rfl) ?_
      refine lv_aload_n hx hb dX0_shrinkUpwards_91 rfl (lv_at hl 1 rfl) ?_
      refine lv_iload_n hx hb dX0_shrinkUpwards_92 rfl (lv_at hl 2 rfl) ?_
      refine lv_iconst (v := 1) hx hb dX0_shrinkUpwards_93 (by decide) ?_
      refine lv_iadd hx hb dX0_shrinkUpwards_94 ?_
      obtain ⟨r95, hq0, hm⟩ := bd1_some hm
      obtain ⟨hw95, hm⟩ := gm_some hm
      refine k_callVA (As := [.int (v2 + 1)]) (rest := [.int v3, .ref (a 3)]) ⟨hx, hb, hml, hown, hts⟩ hK hA hN (c_X0_lookOf hG hq0) (cwV 1 hts gX0_shrinkUpwards_X0_lookOf rfl rfl rfl hdX0_lookOf ⟨Nat.le_of_ble_eq_true rfl, Nat.le_of_ble_eq_true rfl⟩) hP (WCD hD) hS 3 0 rfl rfl rfl hl.1 rfl rfl (Nat.le_of_ble_eq_true rfl) ⟨Nat.zero_le _, Nat.zero_le _⟩ dX0_shrinkUpwards_95 (fun H locs hP hS => ?_)
      obtain ⟨q, hq, -⟩ := WC_K hG hw95
      refine kg (v := .int (c_page r95)) hx hb hts hiX0_shrinkUpwards_X1 hown hK hP q hq rfl 0 (by decide) flX0_shrinkUpwards_104 rfl rfl dX0_shrinkUpwards_98 ?_
      obtain ⟨r101, c_pages_101, c_entries_101, hq0, hm⟩ := bd3_some hm
      refine k_callVI (As := [.int v3, .int (c_page r95)]) (rest := []) ⟨hx, hb, hml, hown, hts⟩ hK hA hN (c_X0_joins hG hq0) (cwV 2 hts gX0_shrinkUpwards_X0_joins rfl rfl rfl hdX0_joins ⟨Nat.le_of_ble_eq_true rfl, Nat.le_of_ble_eq_true rfl⟩) hP (WCD hD) hS 3 0 rfl rfl rfl hl.1 rfl rfl (Nat.le_of_ble_eq_true rfl) ⟨Nat.zero_le _, Nat.zero_le _⟩ dX0_shrinkUpwards_101 (fun H locs hP hS => ?_)
      refine lv_if_eq (tgt := 111) hx hb dX0_shrinkUpwards_104 (by decide) (fun hc => ?_) (fun hc => ?_)
      · have hm := if_t hc hm
        refine lv_iconst (v := 0) hx hb dX0_shrinkUpwards_111 (by decide) ?_
        refine lv_istore_n (lv' := [(1, .int 0), (5, .int t0), (0, .ref (a 3)), (2, .int v2), (3, .int v3), (4, .int v4)]) hx hb dX0_shrinkUpwards_112 rfl hl (by decide) rfl (fun ls hl => ?_)
        refine lv_iinc (v := (v2 + 1)) (lv' := [(2, .int (v2 + 1)), (1, .int 0), (5, .int t0), (0, .ref (a 3)), (3, .int v3), (4, .int v4)]) hx hb dX0_shrinkUpwards_113 hl (k := 3) rfl rfl (by decide) rfl (fun ls hl => ?_)
        refine lv_goto (tgt := 4) hx hb dX0_shrinkUpwards_116 (by decide) ?_
        exact hk4 _ _ _ _ _ _ _ hP hS (lv_sub hl [3, 1, 0] rfl) hm
      · have hm := if_f hc hm
        refine lv_iconst (v := 1) hx hb dX0_shrinkUpwards_107 (by decide) ?_
        refine lv_goto (tgt := 112) hx hb dX0_shrinkUpwards_108 (by decide) ?_
        refine lv_istore_n (lv' := [(1, .int 1), (5, .int t0), (0, .ref (a 3)), (2, .int v2), (3, .int v3), (4, .int v4)]) hx hb dX0_shrinkUpwards_112 rfl hl (by decide) rfl (fun ls hl => ?_)
        refine lv_iinc (v := (v2 + 1)) (lv' := [(2, .int (v2 + 1)), (1, .int 1), (5, .int t0), (0, .ref (a 3)), (3, .int v3), (4, .int v4)]) hx hb dX0_shrinkUpwards_113 hl (k := 3) rfl rfl (by decide) rfl (fun ls hl => ?_)
        refine lv_goto (tgt := 4) hx hb dX0_shrinkUpwards_116 (by decide) ?_
        exact hk4 _ _ _ _ _ _ _ hP hS (lv_sub hl [3, 1, 0] rfl) hm
set_option maxRecDepth 100000 in
set_option maxHeartbeats 4000000 in
theorem t_C0_shrinkUpwards_L4 {p : Program} {l : Launch} {e : Env} {s : State} {m : MethodId} {args : Array Value} {below : List Frame} {meth : Method} {c : Code} {Q : State → Prop} {A : Nat → Prop} {D : va_G} {cI cJ cB cL cS cW : ClassId} {a wb sw se : Nat → Nat} {LW LS LK : List Nat} {c_bytes c_heads c_firsts c_levelOf c_aboveOf c_partings c_signs c_count c_levels c_most c_page c_known c_guess c_diff c_pieces c_place : Nat → Int32} {c_bits : Nat → Nat → Int64} {c_words : Nat → Nat → Nat} {c_bads c_noes c_fulls c_length c_next c_kept c_base c_from c_to c_above c_bit c_lastLeft : Int32} {o_pages : Nat → Int32} {o_entries : Nat → Nat → Int32} (C : k_C p s m args meth c cX0_shrinkUpwards 6 none RX0 wsX0_shrinkUpwards D (kT cI cJ cB cL cS cW) A) (hD : va_D A (WC0 a wb sw se LW LS LK cI cJ cB cL cS cW)) (hG : kG a LW LS LK) (hret : ∀ (H : Heap) (locs : List Loc) (pc : Nat) (ls : Array Slot), decode cX0_shrinkUpwards pc = .ok (.return_, 1) → va_P D vwCl (WC a wb sw se LW LS LK cI cJ cB cL cS cW c_bytes c_heads c_firsts c_levelOf c_aboveOf c_partings c_signs c_count o_pages c_levels c_most c_page c_known c_guess c_diff c_pieces c_place c_bits c_words o_entries c_bads c_noes c_fulls c_length c_next c_kept c_base c_from c_to c_above c_bit c_lastLeft) H → va_S A s.heap H locs → W p l e { frames := 2, cells := 0, slots := 0, locals := 47 } s m args below meth c H locs 0 0 Q (F0 m pc ls [])) {k119 : (Nat → Int32) → (Nat → Nat → Int32) → Option ((Nat → Int32) × (Nat → Nat → Int32))} (hk119 : ∀ (c_pages : (Nat → Int32)) (c_entries : (Nat → Nat → Int32)) (H : Heap) (locs : List Loc) (ls : Array Slot), va_P D vwCl (WC a wb sw se LW LS LK cI cJ cB cL cS cW c_bytes c_heads c_firsts c_levelOf c_aboveOf c_partings c_signs c_count c_pages c_levels c_most c_page c_known c_guess c_diff c_pieces c_place c_bits c_words c_entries c_bads c_noes c_fulls c_length c_next c_kept c_base c_from c_to c_above c_bit c_lastLeft) H → va_S A s.heap H locs → lv_has ls 6 [] → k119 c_pages c_entries = some (o_pages, o_entries) → W p l e { frames := 2, cells := 0, slots := 0, locals := 47 } s m args below meth c H locs 0 0 Q (F0 m 119 ls [])) : ∀ n : Nat, ∀ (c_pages : (Nat → Int32)) (c_entries : (Nat → Nat → Int32)) (v1 : Int32) (v2 : Int32) (H : Heap) (locs : List Loc) (ls : Array Slot), va_P D vwCl (WC a wb sw se LW LS LK cI cJ cB cL cS cW c_bytes c_heads c_firsts c_levelOf c_aboveOf c_partings c_signs c_count c_pages c_levels c_most c_page c_known c_guess c_diff c_pieces c_place c_bits c_words c_entries c_bads c_noes c_fulls c_length c_next c_kept c_base c_from c_to c_above c_bit c_lastLeft) H → va_S A s.heap H locs → lv_has ls 6 [(0, .ref (a 3)), (1, .int v1), (2, .int v2)] → (C0_shrinkUpwards_L4 a LK c_firsts c_levels c_most c_page k119 n) c_pages c_entries v1 v2 = some (o_pages, o_entries) → W p l e { frames := 2, cells := 0, slots := 0, locals := 47 } s m args below meth c H locs 0 0 Q (F0 m 4 ls []) := by
  obtain ⟨hx, hb, hml, hr, hown, hts, hlocks, hK, hA, hN⟩ := id C
  intro n
  induction n with
  | zero =>
    intro c_pages c_entries v1 v2 H locs ls hP hS hl hm
    cases hm
  | succ n ih =>
    intro c_pages c_entries v1 v2 H locs ls hP hS hl hm
    rw [C0_shrinkUpwards_L4] at hm
    refine lv_iload_n hx hb dX0_shrinkUpwards_4 rfl (lv_at hl 2 rfl) ?_
    refine lv_aload_n hx hb dX0_shrinkUpwards_5 rfl (lv_at hl 0 rfl) ?_
    refine kg (v := .ref (a 14)) hx hb hts hiX0_shrinkUpwards_X0 hown hK hP 3 rfl rfl 0 (by decide) flX0_shrinkUpwards_12 rfl rfl dX0_shrinkUpwards_6 ?_
    obtain ⟨q, hq, -⟩ := WC_S hG hG.2.2.2.2.1
    refine kg (v := .int (c_levels (a 14))) hx hb hts hiX0_shrinkUpwards_X3 hown hK hP q hq rfl 4 (by decide) flX0_shrinkUpwards_134 rfl rfl dX0_shrinkUpwards_9 ?_
    refine lv_icmp_ge (tgt := 119) hx hb dX0_shrinkUpwards_12 (by decide) (fun hc => ?_) (fun hc => ?_)
    · have hm := if_t hc hm
      exact hk119 _ _ _ _ _ hP hS (lv_sub hl [] rfl) hm
    · have hm := if_f hc hm
      refine lv_iload_n hx hb dX0_shrinkUpwards_15 rfl (lv_at hl 1 rfl) ?_
      refine lv_if_eq (tgt := 119) hx hb dX0_shrinkUpwards_16 (by decide) (fun hc => ?_) (fun hc => ?_)
      · have hm := if_t hc hm
        exact hk119 _ _ _ _ _ hP hS (lv_sub hl [] rfl) hm
      · have hm := if_f hc hm
        refine lv_aload_n hx hb dX0_shrinkUpwards_19 rfl (lv_at hl 0 rfl) ?_
        refine lv_iload_n hx hb dX0_shrinkUpwards_20 rfl (lv_at hl 2 rfl) ?_
        obtain ⟨r21, hq0, hm⟩ := bd1_some hm
        obtain ⟨hw21, hm⟩ := gm_some hm
        refine k_callVA (As := [.int v2]) (rest := []) ⟨hx, hb, hml, hown, hts⟩ hK hA hN (c_X0_lookOf hG hq0) (cwV 1 hts gX0_shrinkUpwards_X0_lookOf rfl rfl rfl hdX0_lookOf ⟨Nat.le_of_ble_eq_true rfl, Nat.le_of_ble_eq_true rfl⟩) hP (WCD hD) hS 3 0 rfl rfl rfl hl.1 rfl rfl (Nat.le_of_ble_eq_true rfl) ⟨Nat.zero_le _, Nat.zero_le _⟩ dX0_shrinkUpwards_21 (fun H locs hP hS => ?_)
        obtain ⟨q, hq, -⟩ := WC_K hG hw21
        refine kg (v := .int (c_page r21)) hx hb hts hiX0_shrinkUpwards_X1 hown hK hP q hq rfl 0 (by decide) flX0_shrinkUpwards_104 rfl rfl dX0_shrinkUpwards_24 ?_
        refine lv_istore_n (lv' := [(3, .int (c_page r21)), (0, .ref (a 3)), (1, .int v1), (2, .int v2)]) hx hb dX0_shrinkUpwards_27 rfl hl (by decide) rfl (fun ls hl => ?_)
        refine lv_aload_n hx hb dX0_shrinkUpwards_28 rfl (lv_at hl 1 rfl) ?_
        refine kg (v := .ref (a 14)) hx hb hts hiX0_shrinkUpwards_X0 hown hK hP 3 rfl rfl 0 (by decide) flX0_shrinkUpwards_12 rfl rfl dX0_shrinkUpwards_29 ?_
        refine lv_iload_n hx hb dX0_shrinkUpwards_32 rfl (lv_at hl 0 rfl) ?_
        obtain ⟨r33, hq0, hm⟩ := bd1_some hm
        obtain ⟨q, hq, -⟩ := WC_S hG hG.2.2.2.2.1
        refine k_callVI (As := [.int (c_page r21)]) (rest := []) ⟨hx, hb, hml, hown, hts⟩ hK hA hN (c_X3_entriesOf hG hG.2.2.2.2.1 hq0) (cwV 1 hts gX0_shrinkUpwards_X3_entriesOf rfl rfl rfl hdX3_entriesOf ⟨Nat.le_of_ble_eq_true rfl, Nat.le_of_ble_eq_true rfl⟩) hP (WCD hD) hS q 3 hq rfl rfl hl.1 rfl rfl (Nat.le_of_ble_eq_true rfl) ⟨Nat.zero_le _, Nat.zero_le _⟩ dX0_shrinkUpwards_33 (fun H locs hP hS => ?_)
        refine lv_iconst (v := 1) hx hb dX0_shrinkUpwards_36 (by decide) ?_
        refine lv_isub hx hb dX0_shrinkUpwards_37 ?_
        refine lv_istore (lv' := [(4, .int (r33 - 1)), (3, .int (c_page r21)), (0, .ref (a 3)), (1, .int v1), (2, .int v2)]) hx hb dX0_shrinkUpwards_38 hl (by decide) rfl (fun ls hl => ?_)
        refine lv_aload_n hx hb dX0_shrinkUpwards_40 rfl (lv_at hl 2 rfl) ?_
        refine kg (v := .ref (a 14)) hx hb hts hiX0_shrinkUpwards_X0 hown hK hP 3 rfl rfl 0 (by decide) flX0_shrinkUpwards_12 rfl rfl dX0_shrinkUpwards_41 ?_
        refine lv_iload_n hx hb dX0_shrinkUpwards_44 rfl (lv_at hl 1 rfl) ?_
        refine lv_iload hx hb dX0_shrinkUpwards_45 (lv_at hl 0 rfl) ?_
        obtain ⟨c_entries_47, hq0, hm⟩ := bd1_some hm
        obtain ⟨q, hq, -⟩ := WC_S hG hG.2.2.2.2.1
        refine k_callVV (As := [.int (c_page r21), .int (r33 - 1)]) (rest := []) ⟨hx, hb, hml, hown, hts⟩ hK hA hN (c_X3_setEntries hG hG.2.2.2.2.1 hq0) (cwV 2 hts gX0_shrinkUpwards_X3_setEntries rfl rfl rfl hdX3_setEntries ⟨Nat.le_of_ble_eq_true rfl, Nat.le_of_ble_eq_true rfl⟩) hP (WCD hD) hS q 3 hq rfl rfl hl.1 rfl rfl (Nat.le_of_ble_eq_true rfl) ⟨Nat.zero_le _, Nat.zero_le _⟩ dX0_shrinkUpwards_47 (fun H locs hP hS => ?_)
        refine lv_iload_n hx hb dX0_shrinkUpwards_50 rfl (lv_at hl 4 rfl) ?_
        refine lv_aload_n hx hb dX0_shrinkUpwards_51 rfl (lv_at hl 2 rfl) ?_
        refine kg (v := .ref (a 14)) hx hb hts hiX0_shrinkUpwards_X0 hown hK hP 3 rfl rfl 0 (by decide) flX0_shrinkUpwards_12 rfl rfl dX0_shrinkUpwards_52 ?_
        obtain ⟨q, hq, -⟩ := WC_S hG hG.2.2.2.2.1
        refine kg (v := .int (c_levels (a 14))) hx hb hts hiX0_shrinkUpwards_X3 hown hK hP q hq rfl 4 (by decide) flX0_shrinkUpwards_134 rfl rfl dX0_shrinkUpwards_55 ?_
        refine lv_iconst (v := 1) hx hb dX0_shrinkUpwards_58 (by decide) ?_
        refine lv_isub hx hb dX0_shrinkUpwards_59 ?_
        refine lv_icmp_ne (tgt := 67) hx hb dX0_shrinkUpwards_60 (by decide) (fun hc => ?_) (fun hc => ?_)
        · have hm := if_f hc hm
          refine lv_iconst (v := 0) hx hb dX0_shrinkUpwards_67 (by decide) ?_
          exact t_C0_shrinkUpwards_J68 C hD hG hret ih hk119 _ _ _ _ _ _ _ _ _ hP hS (lv_sub hl [2, 4, 1, 0] rfl) hm
        · have hm := if_t hc hm
          refine lv_iconst (v := 1) hx hb dX0_shrinkUpwards_63 (by decide) ?_
          refine lv_goto (tgt := 68) hx hb dX0_shrinkUpwards_64 (by decide) ?_
          exact t_C0_shrinkUpwards_J68 C hD hG hret ih hk119 _ _ _ _ _ _ _ _ _ hP hS (lv_sub hl [2, 4, 1, 0] rfl) hm
set_option maxRecDepth 100000 in
set_option maxHeartbeats 4000000 in
theorem c_X0_shrinkUpwards {l : Launch} {D : va_G} {cI cJ cB cL cS cW : ClassId} {a wb sw se : Nat → Nat} {LW LS LK : List Nat} {c_bytes c_heads c_firsts c_levelOf c_aboveOf c_partings c_signs c_count c_pages c_levels c_most c_page c_known c_guess c_diff c_pieces c_place : Nat → Int32} {c_bits : Nat → Nat → Int64} {c_words : Nat → Nat → Nat} {c_entries : Nat → Nat → Int32} {c_bads c_noes c_fulls c_length c_next c_kept c_base c_from c_to c_above c_bit c_lastLeft : Int32} {o_pages : Nat → Int32} {o_entries : Nat → Nat → Int32} (hG : kG a LW LS LK) (hm : C0_shrinkUpwards a LK c_firsts c_levels c_most c_page c_pages c_entries = some (o_pages, o_entries)) : k_MV l yX0_shrinkUpwards wsX0_shrinkUpwards { frames := 2, cells := 0, slots := 0, locals := 47 } D (kT cI cJ cB cL cS cW) [.ref (a 3)] (WC a wb sw se LW LS LK cI cJ cB cL cS cW c_bytes c_heads c_firsts c_levelOf c_aboveOf c_partings c_signs c_count c_pages c_levels c_most c_page c_known c_guess c_diff c_pieces c_place c_bits c_words c_entries c_bads c_noes c_fulls c_length c_next c_kept c_base c_from c_to c_above c_bit c_lastLeft) (WC a wb sw se LW LS LK cI cJ cB cL cS cW c_bytes c_heads c_firsts c_levelOf c_aboveOf c_partings c_signs c_count o_pages c_levels c_most c_page c_known c_guess c_diff c_pieces c_place c_bits c_words o_entries c_bads c_noes c_fulls c_length c_next c_kept c_base c_from c_to c_above c_bit c_lastLeft) := by
  refine k_ofV (cc := cX0_shrinkUpwards) (maxL := 6) (own := RX0) (by decide) rfl rfl (Nat.le_of_ble_eq_true rfl) ?_
  intro p e s m args below meth c A Q ls C hP hD hl hret
  have hD : va_D A (WC0 a wb sw se LW LS LK cI cJ cB cL cS cW) := WCD hD
  have hS : va_S A s.heap s.heap [] := va_S.rf
  have hl : lv_has ls 6 [(0, .ref (a 3))] := hl
  obtain ⟨hx, hb, hml, hr, hown, hts, hlocks, hK, hA, hN⟩ := id C
  rw [C0_shrinkUpwards] at hm
  refine lv_iconst (v := 1) hx hb dX0_shrinkUpwards_0 (by decide) ?_
  refine lv_istore_n (lv' := [(1, .int 1), (0, .ref (a 3))]) hx hb dX0_shrinkUpwards_1 rfl hl (by decide) rfl (fun ls hl => ?_)
  refine lv_iconst (v := 0) hx hb dX0_shrinkUpwards_2 (by decide) ?_
  refine lv_istore_n (lv' := [(2, .int 0), (1, .int 1), (0, .ref (a 3))]) hx hb dX0_shrinkUpwards_3 rfl hl (by decide) rfl (fun ls hl => ?_)
  refine t_C0_shrinkUpwards_L4 C hD hG hret ?_ FU _ _ _ _ _ _ _ hP hS (lv_sub hl [2, 1, 0] rfl) hm
  · intro c_pages c_entries H locs ls hP hS hl hm
    try dsimp only at hm
    simp only [Option.some.injEq, Prod.mk.injEq] at hm
    obtain ⟨rfl, rfl⟩ := hm
    exact hret _ _ _ _ dX0_shrinkUpwards_119 hP hS
theorem hdX0_dropTops : yX0_dropTops.cls = RX0 ∧ yX0_dropTops.cls ≠ "java/lang/invoke/MethodHandle" ∧ yX0_dropTops.cls ≠ "java/lang/invoke/VarHandle" ∧ (parseMethodDescriptor yX0_dropTops.desc).map (fun d => d.parameters.length) = some 0 := by decide +kernel
theorem hiX0_dropTops_X0 : ∀ w ∈ u_ws RX0 TX0 7, w ∈ wsX0_dropTops := by decide +kernel
theorem hiX0_dropTops_X3 : ∀ w ∈ u_ws RX3 TX3 6, w ∈ wsX0_dropTops := by decide +kernel
theorem flX0_dropTops_12 : Cond.fieldLink RX0 12 "BlindPages$Index" "now" "LBlindPages$State;" ∈ wsX0_dropTops := by decide +kernel
theorem flX0_dropTops_134 : Cond.fieldLink RX0 134 "BlindPages$State" "levels" "I" ∈ wsX0_dropTops := by decide +kernel
theorem flX0_dropTops_63 : Cond.fieldLink RX0 63 "BlindPages$State" "count" "I" ∈ wsX0_dropTops := by decide +kernel
theorem flX0_dropTops_45 : Cond.fieldLink RX0 45 "BlindPages$State" "pages" "I" ∈ wsX0_dropTops := by decide +kernel
def C0_dropTops_L2 (a : Nat → Nat) (c_count : Nat → Int32) (k58 : (Nat → Int32) → (Nat → Int32) → (Nat → Nat → Int32) → Option ((Nat → Int32) × (Nat → Int32) × (Nat → Nat → Int32))) : Nat → (Nat → Int32) → (Nat → Int32) → (Nat → Nat → Int32) → Int32 → Option ((Nat → Int32) × (Nat → Int32) × (Nat → Nat → Int32))
  | 0, _, _, _, _ => none
  | n + 1, c_pages, c_levels, c_entries, v1 => if 6 ≤ v1 then (k58 c_pages c_levels c_entries) else (if (c_levels (a 14)) ≤ 1 then (k58 c_pages c_levels c_entries) else (bd1 (C3_entriesOf c_pages c_entries (a 14) 0) fun r24 => if r24 = 1 then (bd2 (C3_removePage c_pages c_entries (a 14) 0) fun c_pages_36 c_entries_36 => C0_dropTops_L2 a c_count k58 n c_pages_36 (va_up c_levels (a 14) ((c_levels (a 14)) - 1)) c_entries_36 (v1 + 1)) else (k58 c_pages c_levels c_entries)))
def C0_dropTops_J58 (a : Nat → Nat) (c_count : Nat → Int32) (c_pages : (Nat → Int32)) (c_levels : (Nat → Int32)) (c_entries : (Nat → Nat → Int32)) : Option ((Nat → Int32) × (Nat → Int32) × (Nat → Nat → Int32)) := if (c_count (a 14)) = 0 then (some ((va_up c_pages (a 14) 0), (va_up c_levels (a 14) 0), c_entries)) else (some (c_pages, c_levels, c_entries))
def C0_dropTops (a : Nat → Nat) (c_count : Nat → Int32) (c_pages c_levels : Nat → Int32) (c_entries : Nat → Nat → Int32) : Option ((Nat → Int32) × (Nat → Int32) × (Nat → Nat → Int32)) := C0_dropTops_L2 a c_count (fun c_pages c_levels c_entries => C0_dropTops_J58 a c_count c_pages c_levels c_entries) FU c_pages c_levels c_entries 0
set_option maxRecDepth 100000 in
set_option maxHeartbeats 4000000 in
theorem t_C0_dropTops_L2 {p : Program} {l : Launch} {e : Env} {s : State} {m : MethodId} {args : Array Value} {below : List Frame} {meth : Method} {c : Code} {Q : State → Prop} {A : Nat → Prop} {D : va_G} {cI cJ cB cL cS cW : ClassId} {a wb sw se : Nat → Nat} {LW LS LK : List Nat} {c_bytes c_heads c_firsts c_levelOf c_aboveOf c_partings c_signs c_count c_most c_page c_known c_guess c_diff c_pieces c_place : Nat → Int32} {c_bits : Nat → Nat → Int64} {c_words : Nat → Nat → Nat} {c_bads c_noes c_fulls c_length c_next c_kept c_base c_from c_to c_above c_bit c_lastLeft : Int32} {o_pages : Nat → Int32} {o_levels : Nat → Int32} {o_entries : Nat → Nat → Int32} (C : k_C p s m args meth c cX0_dropTops 2 none RX0 wsX0_dropTops D (kT cI cJ cB cL cS cW) A) (hD : va_D A (WC0 a wb sw se LW LS LK cI cJ cB cL cS cW)) (hG : kG a LW LS LK) (hret : ∀ (H : Heap) (locs : List Loc) (pc : Nat) (ls : Array Slot), decode cX0_dropTops pc = .ok (.return_, 1) → va_P D vwCl (WC a wb sw se LW LS LK cI cJ cB cL cS cW c_bytes c_heads c_firsts c_levelOf c_aboveOf c_partings c_signs c_count o_pages o_levels c_most c_page c_known c_guess c_diff c_pieces c_place c_bits c_words o_entries c_bads c_noes c_fulls c_length c_next c_kept c_base c_from c_to c_above c_bit c_lastLeft) H → va_S A s.heap H locs → W p l e { frames := 1, cells := 0, slots := 0, locals := 22 } s m args below meth c H locs 0 0 Q (F0 m pc ls [])) {k58 : (Nat → Int32) → (Nat → Int32) → (Nat → Nat → Int32) → Option ((Nat → Int32) × (Nat → Int32) × (Nat → Nat → Int32))} (hk58 : ∀ (c_pages : (Nat → Int32)) (c_levels : (Nat → Int32)) (c_entries : (Nat → Nat → Int32)) (H : Heap) (locs : List Loc) (ls : Array Slot), va_P D vwCl (WC a wb sw se LW LS LK cI cJ cB cL cS cW c_bytes c_heads c_firsts c_levelOf c_aboveOf c_partings c_signs c_count c_pages c_levels c_most c_page c_known c_guess c_diff c_pieces c_place c_bits c_words c_entries c_bads c_noes c_fulls c_length c_next c_kept c_base c_from c_to c_above c_bit c_lastLeft) H → va_S A s.heap H locs → lv_has ls 2 [(0, .ref (a 3))] → k58 c_pages c_levels c_entries = some (o_pages, o_levels, o_entries) → W p l e { frames := 1, cells := 0, slots := 0, locals := 22 } s m args below meth c H locs 0 0 Q (F0 m 58 ls [])) : ∀ n : Nat, ∀ (c_pages : (Nat → Int32)) (c_levels : (Nat → Int32)) (c_entries : (Nat → Nat → Int32)) (v1 : Int32) (H : Heap) (locs : List Loc) (ls : Array Slot), va_P D vwCl (WC a wb sw se LW LS LK cI cJ cB cL cS cW c_bytes c_heads c_firsts c_levelOf c_aboveOf c_partings c_signs c_count c_pages c_levels c_most c_page c_known c_guess c_diff c_pieces c_place c_bits c_words c_entries c_bads c_noes c_fulls c_length c_next c_kept c_base c_from c_to c_above c_bit c_lastLeft) H → va_S A s.heap H locs → lv_has ls 2 [(0, .ref (a 3)), (1, .int v1)] → (C0_dropTops_L2 a c_count k58 n) c_pages c_levels c_entries v1 = some (o_pages, o_levels, o_entries) → W p l e { frames := 1, cells := 0, slots := 0, locals := 22 } s m args below meth c H locs 0 0 Q (F0 m 2 ls []) := by
  obtain ⟨hx, hb, hml, hr, hown, hts, hlocks, hK, hA, hN⟩ := id C
  intro n
  induction n with
  | zero =>
    intro c_pages c_levels c_entries v1 H locs ls hP hS hl hm
    cases hm
  | succ n ih =>
    intro c_pages c_levels c_entries v1 H locs ls hP hS hl hm
    rw [C0_dropTops_L2] at hm
    refine lv_iload_n hx hb dX0_dropTops_2 rfl (lv_at hl 1 rfl) ?_
    refine lv_bipush (v := 6) hx hb dX0_dropTops_3 (by decide) ?_
    refine lv_icmp_ge (tgt := 58) hx hb dX0_dropTops_5 (by decide) (fun hc => ?_) (fun hc => ?_)
    · have hm := if_t hc hm
      exact hk58 _ _ _ _ _ _ hP hS (lv_sub hl [0] rfl) hm
    · have hm := if_f hc hm
      refine lv_aload_n hx hb dX0_dropTops_8 rfl (lv_at hl 0 rfl) ?_
      refine kg (v := .ref (a 14)) hx hb hts hiX0_dropTops_X0 hown hK hP 3 rfl rfl 0 (by decide) flX0_dropTops_12 rfl rfl dX0_dropTops_9 ?_
      obtain ⟨q, hq, -⟩ := WC_S hG hG.2.2.2.2.1
      refine kg (v := .int (c_levels (a 14))) hx hb hts hiX0_dropTops_X3 hown hK hP q hq rfl 4 (by decide) flX0_dropTops_134 rfl rfl dX0_dropTops_12 ?_
      refine lv_iconst (v := 1) hx hb dX0_dropTops_15 (by decide) ?_
      refine lv_icmp_le (tgt := 58) hx hb dX0_dropTops_16 (by decide) (fun hc => ?_) (fun hc => ?_)
      · have hm := if_t hc hm
        exact hk58 _ _ _ _ _ _ hP hS (lv_sub hl [0] rfl) hm
      · have hm := if_f hc hm
        refine lv_aload_n hx hb dX0_dropTops_19 rfl (lv_at hl 0 rfl) ?_
        refine kg (v := .ref (a 14)) hx hb hts hiX0_dropTops_X0 hown hK hP 3 rfl rfl 0 (by decide) flX0_dropTops_12 rfl rfl dX0_dropTops_20 ?_
        refine lv_iconst (v := 0) hx hb dX0_dropTops_23 (by decide) ?_
        obtain ⟨r24, hq0, hm⟩ := bd1_some hm
        obtain ⟨q, hq, -⟩ := WC_S hG hG.2.2.2.2.1
        refine k_callVI (As := [.int 0]) (rest := []) ⟨hx, hb, hml, hown, hts⟩ hK hA hN (c_X3_entriesOf hG hG.2.2.2.2.1 hq0) (cwV 1 hts gX0_dropTops_X3_entriesOf rfl rfl rfl hdX3_entriesOf ⟨Nat.le_of_ble_eq_true rfl, Nat.le_of_ble_eq_true rfl⟩) hP (WCD hD) hS q 3 hq rfl rfl hl.1 rfl rfl (Nat.le_of_ble_eq_true rfl) ⟨Nat.zero_le _, Nat.zero_le _⟩ dX0_dropTops_24 (fun H locs hP hS => ?_)
        refine lv_iconst (v := 1) hx hb dX0_dropTops_27 (by decide) ?_
        refine lv_icmp_ne (tgt := 58) hx hb dX0_dropTops_28 (by decide) (fun hc => ?_) (fun hc => ?_)
        · have hm := if_f hc hm
          exact hk58 _ _ _ _ _ _ hP hS (lv_sub hl [0] rfl) hm
        · have hm := if_t hc hm
          refine lv_aload_n hx hb dX0_dropTops_31 rfl (lv_at hl 0 rfl) ?_
          refine kg (v := .ref (a 14)) hx hb hts hiX0_dropTops_X0 hown hK hP 3 rfl rfl 0 (by decide) flX0_dropTops_12 rfl rfl dX0_dropTops_32 ?_
          refine lv_iconst (v := 0) hx hb dX0_dropTops_35 (by decide) ?_
          obtain ⟨c_pages_36, c_entries_36, hq0, hm⟩ := bd2_some hm
          obtain ⟨q, hq, -⟩ := WC_S hG hG.2.2.2.2.1
          refine k_callVV (As := [.int 0]) (rest := []) ⟨hx, hb, hml, hown, hts⟩ hK hA hN (c_X3_removePage hG hG.2.2.2.2.1 hq0) (cwV 1 hts gX0_dropTops_X3_removePage rfl rfl rfl hdX3_removePage ⟨Nat.le_of_ble_eq_true rfl, Nat.le_of_ble_eq_true rfl⟩) hP (WCD hD) hS q 3 hq rfl rfl hl.1 rfl rfl (Nat.le_of_ble_eq_true rfl) ⟨Nat.zero_le _, Nat.zero_le _⟩ dX0_dropTops_36 (fun H locs hP hS => ?_)
          refine lv_aload_n hx hb dX0_dropTops_39 rfl (lv_at hl 0 rfl) ?_
          refine kg (v := .ref (a 14)) hx hb hts hiX0_dropTops_X0 hown hK hP 3 rfl rfl 0 (by decide) flX0_dropTops_12 rfl rfl dX0_dropTops_40 ?_
          refine lv_dup hx hb dX0_dropTops_43 rfl ?_
          obtain ⟨q, hq, -⟩ := WC_S hG hG.2.2.2.2.1
          refine kg (v := .int (c_levels (a 14))) hx hb hts hiX0_dropTops_X3 hown hK hP q hq rfl 4 (by decide) flX0_dropTops_134 rfl rfl dX0_dropTops_44 ?_
          refine lv_iconst (v := 1) hx hb dX0_dropTops_47 (by decide) ?_
          refine lv_isub hx hb dX0_dropTops_48 ?_
          obtain ⟨q, hq, he⟩ := WC_S hG hG.2.2.2.2.1
          refine kp hx hb hts hiX0_dropTops_X3 tyX3 tyX3_ok nmX3 hown hK hP (WCD hD) hS q hq rfl 4 (by decide) flX0_dropTops_134 rfl rfl rfl (Nat.le_of_ble_eq_true rfl) dX0_dropTops_49 (fun H locs hP hS => ?_)
          have hP : va_P D vwCl (WC a wb sw se LW LS LK cI cJ cB cL cS cW c_bytes c_heads c_firsts c_levelOf c_aboveOf c_partings c_signs c_count c_pages_36 (va_up c_levels (a 14) ((c_levels (a 14)) - 1)) c_most c_page c_known c_guess c_diff c_pieces c_place c_bits c_words c_entries_36 c_bads c_noes c_fulls c_length c_next c_kept c_base c_from c_to c_above c_bit c_lastLeft) H := by rw [← he.2.2.1]; exact hP
          refine lv_iinc (v := (v1 + 1)) (lv' := [(1, .int (v1 + 1)), (0, .ref (a 3))]) hx hb dX0_dropTops_52 hl (k := 1) rfl rfl (by decide) rfl (fun ls hl => ?_)
          refine lv_goto (tgt := 2) hx hb dX0_dropTops_55 (by decide) ?_
          exact ih _ _ _ _ _ _ _ hP hS (lv_sub hl [1, 0] rfl) hm
set_option maxRecDepth 100000 in
set_option maxHeartbeats 4000000 in
theorem t_C0_dropTops_J58 {p : Program} {l : Launch} {e : Env} {s : State} {m : MethodId} {args : Array Value} {below : List Frame} {meth : Method} {c : Code} {Q : State → Prop} {A : Nat → Prop} {D : va_G} {cI cJ cB cL cS cW : ClassId} {a wb sw se : Nat → Nat} {LW LS LK : List Nat} {c_bytes c_heads c_firsts c_levelOf c_aboveOf c_partings c_signs c_count c_most c_page c_known c_guess c_diff c_pieces c_place : Nat → Int32} {c_bits : Nat → Nat → Int64} {c_words : Nat → Nat → Nat} {c_bads c_noes c_fulls c_length c_next c_kept c_base c_from c_to c_above c_bit c_lastLeft : Int32} {o_pages : Nat → Int32} {o_levels : Nat → Int32} {o_entries : Nat → Nat → Int32} (C : k_C p s m args meth c cX0_dropTops 2 none RX0 wsX0_dropTops D (kT cI cJ cB cL cS cW) A) (hD : va_D A (WC0 a wb sw se LW LS LK cI cJ cB cL cS cW)) (hG : kG a LW LS LK) (hret : ∀ (H : Heap) (locs : List Loc) (pc : Nat) (ls : Array Slot), decode cX0_dropTops pc = .ok (.return_, 1) → va_P D vwCl (WC a wb sw se LW LS LK cI cJ cB cL cS cW c_bytes c_heads c_firsts c_levelOf c_aboveOf c_partings c_signs c_count o_pages o_levels c_most c_page c_known c_guess c_diff c_pieces c_place c_bits c_words o_entries c_bads c_noes c_fulls c_length c_next c_kept c_base c_from c_to c_above c_bit c_lastLeft) H → va_S A s.heap H locs → W p l e { frames := 1, cells := 0, slots := 0, locals := 22 } s m args below meth c H locs 0 0 Q (F0 m pc ls [])) : ∀ (c_pages : (Nat → Int32)) (c_levels : (Nat → Int32)) (c_entries : (Nat → Nat → Int32)) (H : Heap) (locs : List Loc) (ls : Array Slot), va_P D vwCl (WC a wb sw se LW LS LK cI cJ cB cL cS cW c_bytes c_heads c_firsts c_levelOf c_aboveOf c_partings c_signs c_count c_pages c_levels c_most c_page c_known c_guess c_diff c_pieces c_place c_bits c_words c_entries c_bads c_noes c_fulls c_length c_next c_kept c_base c_from c_to c_above c_bit c_lastLeft) H → va_S A s.heap H locs → lv_has ls 2 [(0, .ref (a 3))] → C0_dropTops_J58 a c_count c_pages c_levels c_entries = some (o_pages, o_levels, o_entries) → W p l e { frames := 1, cells := 0, slots := 0, locals := 22 } s m args below meth c H locs 0 0 Q (F0 m 58 ls []) := by
  obtain ⟨hx, hb, hml, hr, hown, hts, hlocks, hK, hA, hN⟩ := id C
  intro c_pages c_levels c_entries H locs ls hP hS hl hm
  rw [C0_dropTops_J58] at hm
  refine lv_aload_n hx hb dX0_dropTops_58 rfl (lv_at hl 0 rfl) ?_
  refine kg (v := .ref (a 14)) hx hb hts hiX0_dropTops_X0 hown hK hP 3 rfl rfl 0 (by decide) flX0_dropTops_12 rfl rfl dX0_dropTops_59 ?_
  obtain ⟨q, hq, -⟩ := WC_S hG hG.2.2.2.2.1
  refine kg (v := .int (c_count (a 14))) hx hb hts hiX0_dropTops_X3 hown hK hP q hq rfl 2 (by decide) flX0_dropTops_63 rfl rfl dX0_dropTops_62 ?_
  refine lv_if_ne (tgt := 84) hx hb dX0_dropTops_65 (by decide) (fun hc => ?_) (fun hc => ?_)
  · have hm := if_f hc hm
    simp only [Option.some.injEq, Prod.mk.injEq] at hm
    obtain ⟨rfl, rfl, rfl⟩ := hm
    exact hret _ _ _ _ dX0_dropTops_84 hP hS
  · have hm := if_t hc hm
    refine lv_aload_n hx hb dX0_dropTops_68 rfl (lv_at hl 0 rfl) ?_
    refine kg (v := .ref (a 14)) hx hb hts hiX0_dropTops_X0 hown hK hP 3 rfl rfl 0 (by decide) flX0_dropTops_12 rfl rfl dX0_dropTops_69 ?_
    refine lv_iconst (v := 0) hx hb dX0_dropTops_72 (by decide) ?_
    obtain ⟨q, hq, he⟩ := WC_S hG hG.2.2.2.2.1
    refine kp hx hb hts hiX0_dropTops_X3 tyX3 tyX3_ok nmX3 hown hK hP (WCD hD) hS q hq rfl 3 (by decide) flX0_dropTops_45 rfl rfl rfl (Nat.le_of_ble_eq_true rfl) dX0_dropTops_73 (fun H locs hP hS => ?_)
    have hP : va_P D vwCl (WC a wb sw se LW LS LK cI cJ cB cL cS cW c_bytes c_heads c_firsts c_levelOf c_aboveOf c_partings c_signs c_count (va_up c_pages (a 14) 0) c_levels c_most c_page c_known c_guess c_diff c_pieces c_place c_bits c_words c_entries c_bads c_noes c_fulls c_length c_next c_kept c_base c_from c_to c_above c_bit c_lastLeft) H := by rw [← he.2.1]; exact hP
    refine lv_aload_n hx hb dX0_dropTops_76 rfl (lv_at hl 0 rfl) ?_
    refine kg (v := .ref (a 14)) hx hb hts hiX0_dropTops_X0 hown hK hP 3 rfl rfl 0 (by decide) flX0_dropTops_12 rfl rfl dX0_dropTops_77 ?_
    refine lv_iconst (v := 0) hx hb dX0_dropTops_80 (by decide) ?_
    obtain ⟨q, hq, he⟩ := WC_S hG hG.2.2.2.2.1
    refine kp hx hb hts hiX0_dropTops_X3 tyX3 tyX3_ok nmX3 hown hK hP (WCD hD) hS q hq rfl 4 (by decide) flX0_dropTops_134 rfl rfl rfl (Nat.le_of_ble_eq_true rfl) dX0_dropTops_81 (fun H locs hP hS => ?_)
    have hP : va_P D vwCl (WC a wb sw se LW LS LK cI cJ cB cL cS cW c_bytes c_heads c_firsts c_levelOf c_aboveOf c_partings c_signs c_count (va_up c_pages (a 14) 0) (va_up c_levels (a 14) 0) c_most c_page c_known c_guess c_diff c_pieces c_place c_bits c_words c_entries c_bads c_noes c_fulls c_length c_next c_kept c_base c_from c_to c_above c_bit c_lastLeft) H := by rw [← he.2.2.1]; exact hP
    simp only [Option.some.injEq, Prod.mk.injEq] at hm
    obtain ⟨rfl, rfl, rfl⟩ := hm
    exact hret _ _ _ _ dX0_dropTops_84 hP hS
set_option maxRecDepth 100000 in
set_option maxHeartbeats 4000000 in
theorem c_X0_dropTops {l : Launch} {D : va_G} {cI cJ cB cL cS cW : ClassId} {a wb sw se : Nat → Nat} {LW LS LK : List Nat} {c_bytes c_heads c_firsts c_levelOf c_aboveOf c_partings c_signs c_count c_pages c_levels c_most c_page c_known c_guess c_diff c_pieces c_place : Nat → Int32} {c_bits : Nat → Nat → Int64} {c_words : Nat → Nat → Nat} {c_entries : Nat → Nat → Int32} {c_bads c_noes c_fulls c_length c_next c_kept c_base c_from c_to c_above c_bit c_lastLeft : Int32} {o_pages : Nat → Int32} {o_levels : Nat → Int32} {o_entries : Nat → Nat → Int32} (hG : kG a LW LS LK) (hm : C0_dropTops a c_count c_pages c_levels c_entries = some (o_pages, o_levels, o_entries)) : k_MV l yX0_dropTops wsX0_dropTops { frames := 1, cells := 0, slots := 0, locals := 22 } D (kT cI cJ cB cL cS cW) [.ref (a 3)] (WC a wb sw se LW LS LK cI cJ cB cL cS cW c_bytes c_heads c_firsts c_levelOf c_aboveOf c_partings c_signs c_count c_pages c_levels c_most c_page c_known c_guess c_diff c_pieces c_place c_bits c_words c_entries c_bads c_noes c_fulls c_length c_next c_kept c_base c_from c_to c_above c_bit c_lastLeft) (WC a wb sw se LW LS LK cI cJ cB cL cS cW c_bytes c_heads c_firsts c_levelOf c_aboveOf c_partings c_signs c_count o_pages o_levels c_most c_page c_known c_guess c_diff c_pieces c_place c_bits c_words o_entries c_bads c_noes c_fulls c_length c_next c_kept c_base c_from c_to c_above c_bit c_lastLeft) := by
  refine k_ofV (cc := cX0_dropTops) (maxL := 2) (own := RX0) (by decide) rfl rfl (Nat.le_of_ble_eq_true rfl) ?_
  intro p e s m args below meth c A Q ls C hP hD hl hret
  have hD : va_D A (WC0 a wb sw se LW LS LK cI cJ cB cL cS cW) := WCD hD
  have hS : va_S A s.heap s.heap [] := va_S.rf
  have hl : lv_has ls 2 [(0, .ref (a 3))] := hl
  obtain ⟨hx, hb, hml, hr, hown, hts, hlocks, hK, hA, hN⟩ := id C
  rw [C0_dropTops] at hm
  refine lv_iconst (v := 0) hx hb dX0_dropTops_0 (by decide) ?_
  refine lv_istore_n (lv' := [(1, .int 0), (0, .ref (a 3))]) hx hb dX0_dropTops_1 rfl hl (by decide) rfl (fun ls hl => ?_)
  refine t_C0_dropTops_L2 C hD hG hret ?_ FU _ _ _ _ _ _ _ hP hS (lv_sub hl [1, 0] rfl) hm
  · intro c_pages c_levels c_entries H locs ls hP hS hl hm
    try dsimp only at hm
    exact t_C0_dropTops_J58 C hD hG hret _ _ _ _ _ _ hP hS (lv_sub hl [0] rfl) hm
theorem hdX0_remove : yX0_remove.cls = RX0 ∧ yX0_remove.cls ≠ "java/lang/invoke/MethodHandle" ∧ yX0_remove.cls ≠ "java/lang/invoke/VarHandle" ∧ (parseMethodDescriptor yX0_remove.desc).map (fun d => d.parameters.length) = some 0 := by decide +kernel
theorem hiX0_remove_X0 : ∀ w ∈ u_ws RX0 TX0 7, w ∈ wsX0_remove := by decide +kernel
theorem flX0_remove_12 : Cond.fieldLink RX0 12 "BlindPages$Index" "now" "LBlindPages$State;" ∈ wsX0_remove := by decide +kernel
def C0_remove (a : Nat → Nat) (LW LK : List Nat) (c_most c_page c_place : Nat → Int32) (c_bits : Nat → Nat → Int64) (c_heads c_firsts c_levelOf c_aboveOf c_partings c_count c_pages c_levels : Nat → Int32) (c_words : Nat → Nat → Nat) (c_entries : Nat → Nat → Int32) : Option ((Nat → Int32) × (Nat → Int32) × (Nat → Int32) × (Nat → Int32) × (Nat → Int32) × (Nat → Int32) × (Nat → Int32) × (Nat → Int32) × (Nat → Nat → Nat) × (Nat → Nat → Int32)) := bd1 (C0_rank a LK c_heads c_pages c_page c_place) fun r5 => bd2 (C3_removeWord LW c_count c_words (a 14) (r5 - 1)) fun c_count_10 c_words_10 => bd2 (C0_shrinkUpwards a LK c_firsts c_levels c_most c_page c_pages c_entries) fun c_pages_14 c_entries_14 => bd3 (C0_dropTops a c_count_10 c_pages_14 c_levels c_entries_14) fun c_pages_18 c_levels_18 c_entries_18 => bd5 (C0_settle a LW c_count_10 c_pages_18 c_bits c_words_10 c_entries_18 c_heads c_firsts c_levelOf c_aboveOf c_partings) fun c_heads_22 c_firsts_22 c_levelOf_22 c_aboveOf_22 c_partings_22 => some (c_heads_22, c_firsts_22, c_levelOf_22, c_aboveOf_22, c_partings_22, c_count_10, c_pages_18, c_levels_18, c_words_10, c_entries_18)
set_option maxRecDepth 100000 in
set_option maxHeartbeats 4000000 in
theorem c_X0_remove {l : Launch} {D : va_G} {cI cJ cB cL cS cW : ClassId} {a wb sw se : Nat → Nat} {LW LS LK : List Nat} {c_bytes c_heads c_firsts c_levelOf c_aboveOf c_partings c_signs c_count c_pages c_levels c_most c_page c_known c_guess c_diff c_pieces c_place : Nat → Int32} {c_bits : Nat → Nat → Int64} {c_words : Nat → Nat → Nat} {c_entries : Nat → Nat → Int32} {c_bads c_noes c_fulls c_length c_next c_kept c_base c_from c_to c_above c_bit c_lastLeft : Int32} {o_heads : Nat → Int32} {o_firsts : Nat → Int32} {o_levelOf : Nat → Int32} {o_aboveOf : Nat → Int32} {o_partings : Nat → Int32} {o_count : Nat → Int32} {o_pages : Nat → Int32} {o_levels : Nat → Int32} {o_words : Nat → Nat → Nat} {o_entries : Nat → Nat → Int32} (hG : kG a LW LS LK) (hm : C0_remove a LW LK c_most c_page c_place c_bits c_heads c_firsts c_levelOf c_aboveOf c_partings c_count c_pages c_levels c_words c_entries = some (o_heads, o_firsts, o_levelOf, o_aboveOf, o_partings, o_count, o_pages, o_levels, o_words, o_entries)) : k_MV l yX0_remove wsX0_remove { frames := 4, cells := 0, slots := 0, locals := 89 } D (kT cI cJ cB cL cS cW) [.ref (a 3)] (WC a wb sw se LW LS LK cI cJ cB cL cS cW c_bytes c_heads c_firsts c_levelOf c_aboveOf c_partings c_signs c_count c_pages c_levels c_most c_page c_known c_guess c_diff c_pieces c_place c_bits c_words c_entries c_bads c_noes c_fulls c_length c_next c_kept c_base c_from c_to c_above c_bit c_lastLeft) (WC a wb sw se LW LS LK cI cJ cB cL cS cW c_bytes o_heads o_firsts o_levelOf o_aboveOf o_partings c_signs o_count o_pages o_levels c_most c_page c_known c_guess c_diff c_pieces c_place c_bits o_words o_entries c_bads c_noes c_fulls c_length c_next c_kept c_base c_from c_to c_above c_bit c_lastLeft) := by
  refine k_ofV (cc := cX0_remove) (maxL := 1) (own := RX0) (by decide) rfl rfl (Nat.le_of_ble_eq_true rfl) ?_
  intro p e s m args below meth c A Q ls C hP hD hl hret
  have hD : va_D A (WC0 a wb sw se LW LS LK cI cJ cB cL cS cW) := WCD hD
  have hS : va_S A s.heap s.heap [] := va_S.rf
  have hl : lv_has ls 1 [(0, .ref (a 3))] := hl
  obtain ⟨hx, hb, hml, hr, hown, hts, hlocks, hK, hA, hN⟩ := id C
  rw [C0_remove] at hm
  refine lv_aload_n hx hb dX0_remove_0 rfl (lv_at hl 0 rfl) ?_
  refine kg (v := .ref (a 14)) hx hb hts hiX0_remove_X0 hown hK hP 3 rfl rfl 0 (by decide) flX0_remove_12 rfl rfl dX0_remove_1 ?_
  refine lv_aload_n hx hb dX0_remove_4 rfl (lv_at hl 0 rfl) ?_
  obtain ⟨r5, hq0, hm⟩ := bd1_some hm
  refine k_callVI (As := []) (rest := [.ref (a 14)]) ⟨hx, hb, hml, hown, hts⟩ hK hA hN (c_X0_rank hG hq0) (cwV 0 hts gX0_remove_X0_rank rfl rfl rfl hdX0_rank ⟨Nat.le_of_ble_eq_true rfl, Nat.le_of_ble_eq_true rfl⟩) hP (WCD hD) hS 3 0 rfl rfl rfl hl.1 rfl rfl (Nat.le_of_ble_eq_true rfl) ⟨Nat.zero_le _, Nat.zero_le _⟩ dX0_remove_5 (fun H locs hP hS => ?_)
  refine lv_iconst (v := 1) hx hb dX0_remove_8 (by decide) ?_
  refine lv_isub hx hb dX0_remove_9 ?_
  obtain ⟨c_count_10, c_words_10, hq0, hm⟩ := bd2_some hm
  obtain ⟨q, hq, -⟩ := WC_S hG hG.2.2.2.2.1
  refine k_callVV (As := [.int (r5 - 1)]) (rest := []) ⟨hx, hb, hml, hown, hts⟩ hK hA hN (c_X3_removeWord hG hG.2.2.2.2.1 hq0) (cwV 1 hts gX0_remove_X3_removeWord rfl rfl rfl hdX3_removeWord ⟨Nat.le_of_ble_eq_true rfl, Nat.le_of_ble_eq_true rfl⟩) hP (WCD hD) hS q 3 hq rfl rfl hl.1 rfl rfl (Nat.le_of_ble_eq_true rfl) ⟨Nat.zero_le _, Nat.zero_le _⟩ dX0_remove_10 (fun H locs hP hS => ?_)
  refine lv_aload_n hx hb dX0_remove_13 rfl (lv_at hl 0 rfl) ?_
  obtain ⟨c_pages_14, c_entries_14, hq0, hm⟩ := bd2_some hm
  refine k_callVV (As := []) (rest := []) ⟨hx, hb, hml, hown, hts⟩ hK hA hN (c_X0_shrinkUpwards hG hq0) (cwV 0 hts gX0_remove_X0_shrinkUpwards rfl rfl rfl hdX0_shrinkUpwards ⟨Nat.le_of_ble_eq_true rfl, Nat.le_of_ble_eq_true rfl⟩) hP (WCD hD) hS 3 0 rfl rfl rfl hl.1 rfl rfl (Nat.le_of_ble_eq_true rfl) ⟨Nat.zero_le _, Nat.zero_le _⟩ dX0_remove_14 (fun H locs hP hS => ?_)
  refine lv_aload_n hx hb dX0_remove_17 rfl (lv_at hl 0 rfl) ?_
  obtain ⟨c_pages_18, c_levels_18, c_entries_18, hq0, hm⟩ := bd3_some hm
  refine k_callVV (As := []) (rest := []) ⟨hx, hb, hml, hown, hts⟩ hK hA hN (c_X0_dropTops hG hq0) (cwV 0 hts gX0_remove_X0_dropTops rfl rfl rfl hdX0_dropTops ⟨Nat.le_of_ble_eq_true rfl, Nat.le_of_ble_eq_true rfl⟩) hP (WCD hD) hS 3 0 rfl rfl rfl hl.1 rfl rfl (Nat.le_of_ble_eq_true rfl) ⟨Nat.zero_le _, Nat.zero_le _⟩ dX0_remove_18 (fun H locs hP hS => ?_)
  refine lv_aload_n hx hb dX0_remove_21 rfl (lv_at hl 0 rfl) ?_
  obtain ⟨c_heads_22, c_firsts_22, c_levelOf_22, c_aboveOf_22, c_partings_22, hq0, hm⟩ := bd5_some hm
  refine k_callVV (As := []) (rest := []) ⟨hx, hb, hml, hown, hts⟩ hK hA hN (c_X0_settle hG hq0) (cwV 0 hts gX0_remove_X0_settle rfl rfl rfl hdX0_settle ⟨Nat.le_of_ble_eq_true rfl, Nat.le_of_ble_eq_true rfl⟩) hP (WCD hD) hS 3 0 rfl rfl rfl hl.1 rfl rfl (Nat.le_of_ble_eq_true rfl) ⟨Nat.zero_le _, Nat.zero_le _⟩ dX0_remove_22 (fun H locs hP hS => ?_)
  simp only [Option.some.injEq, Prod.mk.injEq] at hm
  obtain ⟨rfl, rfl, rfl, rfl, rfl, rfl, rfl, rfl, rfl, rfl⟩ := hm
  exact hret _ _ _ _ dX0_remove_25 hP hS
theorem hdX7_takeOut : yX7_takeOut.cls = RX7 ∧ yX7_takeOut.cls ≠ "java/lang/invoke/MethodHandle" ∧ yX7_takeOut.cls ≠ "java/lang/invoke/VarHandle" ∧ (parseMethodDescriptor yX7_takeOut.desc).map (fun d => d.parameters.length) = some 0 := by decide +kernel
theorem hiX7_takeOut_X7 : ∀ w ∈ u_ws RX7 TX7 8, w ∈ wsX7_takeOut := by decide +kernel
theorem hiX7_takeOut_X0 : ∀ w ∈ u_ws RX0 TX0 7, w ∈ wsX7_takeOut := by decide +kernel
theorem hiX7_takeOut_X3 : ∀ w ∈ u_ws RX3 TX3 6, w ∈ wsX7_takeOut := by decide +kernel
theorem flX7_takeOut_10 : Cond.fieldLink RX7 10 "BlindPages" "text" "LBlindPages$Text;" ∈ wsX7_takeOut := by decide +kernel
theorem flX7_takeOut_19 : Cond.fieldLink RX7 19 "BlindPages" "word" "LBlindPages$Word;" ∈ wsX7_takeOut := by decide +kernel
theorem flX7_takeOut_26 : Cond.fieldLink RX7 26 "BlindPages" "index" "LBlindPages$Index;" ∈ wsX7_takeOut := by decide +kernel
theorem flX7_takeOut_33 : Cond.fieldLink RX7 33 "BlindPages" "past" "LBlindPages$Past;" ∈ wsX7_takeOut := by decide +kernel
theorem flX7_takeOut_68 : Cond.fieldLink RX7 68 "BlindPages$Index" "now" "LBlindPages$State;" ∈ wsX7_takeOut := by decide +kernel
theorem flX7_takeOut_72 : Cond.fieldLink RX7 72 "BlindPages$State" "count" "I" ∈ wsX7_takeOut := by decide +kernel
def C7_takeOut (a : Nat → Nat) (LW LS LK : List Nat) (c_bytes : Nat → Int32) (c_length : Int32) (c_heads c_firsts c_levelOf c_aboveOf c_partings c_signs c_count c_pages c_levels c_most c_page c_known c_guess c_diff c_pieces c_place : Nat → Int32) (c_bits : Nat → Nat → Int64) (c_words : Nat → Nat → Nat) (c_entries : Nat → Nat → Int32) (c_bads c_noes c_fulls c_next c_kept c_base c_from c_to c_above c_bit c_lastLeft : Int32) : Option (Int32 × (Nat → Int32) × (Nat → Int32) × (Nat → Int32) × (Nat → Int32) × (Nat → Int32) × (Nat → Int32) × (Nat → Int32) × (Nat → Int32) × (Nat → Int32) × (Nat → Int32) × (Nat → Int32) × (Nat → Int32) × (Nat → Int32) × (Nat → Int32) × (Nat → Int32) × (Nat → Int32) × (Nat → Nat → Int64) × (Nat → Nat → Nat) × (Nat → Nat → Int32) × Int32 × Int32 × Int32 × Int32 × Int32 × Int32 × Int32 × Int32 × Int32 × Int32 × Int32) := bd3 (C4_readWord c_bytes c_length c_signs c_bits (a 13)) fun r8 c_signs_8 c_bits_8 => if r8 = 0 then (bd4 (C7_refuse c_bads c_noes c_fulls (-3)) fun r17 c_bads_17 c_noes_17 c_fulls_17 => some (r17, c_heads, c_firsts, c_levelOf, c_aboveOf, c_partings, c_signs_8, c_count, c_pages, c_levels, c_most, c_page, c_known, c_guess, c_diff, c_pieces, c_place, c_bits_8, c_words, c_entries, c_bads_17, c_noes_17, c_fulls_17, c_next, c_kept, c_base, c_from, c_to, c_above, c_bit, c_lastLeft)) else (bd12 (C0_walk a LW LK c_heads c_firsts c_partings c_signs_8 c_pages c_levels c_bits_8 c_words c_entries c_page c_known c_guess c_diff c_pieces c_place c_base c_from c_to c_above c_bit c_lastLeft (a 13)) fun c_page_29 c_known_29 c_guess_29 c_diff_29 c_pieces_29 c_place_29 c_base_29 c_from_29 c_to_29 c_above_29 c_bit_29 c_lastLeft_29 => bd1 (C0_isThere a LK c_pages c_diff_29) fun r36 => if r36 = 0 then (bd4 (C7_refuse c_bads c_noes c_fulls (-3)) fun r45 c_bads_45 c_noes_45 c_fulls_45 => some (r45, c_heads, c_firsts, c_levelOf, c_aboveOf, c_partings, c_signs_8, c_count, c_pages, c_levels, c_most, c_page_29, c_known_29, c_guess_29, c_diff_29, c_pieces_29, c_place_29, c_bits_8, c_words, c_entries, c_bads_45, c_noes_45, c_fulls_45, c_next, c_kept, c_base_29, c_from_29, c_to_29, c_above_29, c_bit_29, c_lastLeft_29)) else (bd9 (C2_keep a LW LS c_words c_signs_8 c_count c_pages c_levels c_most c_bits_8 c_entries c_next c_kept (a 14)) fun c_signs_60 c_count_60 c_pages_60 c_levels_60 c_most_60 c_bits_60 c_entries_60 c_next_60 c_kept_60 => bd10 (C0_remove a LW LK c_most_60 c_page_29 c_place_29 c_bits_60 c_heads c_firsts c_levelOf c_aboveOf c_partings c_count_60 c_pages_60 c_levels_60 c_words c_entries_60) fun c_heads_67 c_firsts_67 c_levelOf_67 c_aboveOf_67 c_partings_67 c_count_67 c_pages_67 c_levels_67 c_words_67 c_entries_67 => some ((c_count_67 (a 14)), c_heads_67, c_firsts_67, c_levelOf_67, c_aboveOf_67, c_partings_67, c_signs_60, c_count_67, c_pages_67, c_levels_67, c_most_60, c_page_29, c_known_29, c_guess_29, c_diff_29, c_pieces_29, c_place_29, c_bits_60, c_words_67, c_entries_67, c_bads, c_noes, c_fulls, c_next_60, c_kept_60, c_base_29, c_from_29, c_to_29, c_above_29, c_bit_29, c_lastLeft_29)))
set_option maxRecDepth 100000 in
set_option maxHeartbeats 4000000 in
theorem c_X7_takeOut {l : Launch} {D : va_G} {cI cJ cB cL cS cW : ClassId} {a wb sw se : Nat → Nat} {LW LS LK : List Nat} {c_bytes c_heads c_firsts c_levelOf c_aboveOf c_partings c_signs c_count c_pages c_levels c_most c_page c_known c_guess c_diff c_pieces c_place : Nat → Int32} {c_bits : Nat → Nat → Int64} {c_words : Nat → Nat → Nat} {c_entries : Nat → Nat → Int32} {c_bads c_noes c_fulls c_length c_next c_kept c_base c_from c_to c_above c_bit c_lastLeft : Int32} {r : Int32} {o_heads : Nat → Int32} {o_firsts : Nat → Int32} {o_levelOf : Nat → Int32} {o_aboveOf : Nat → Int32} {o_partings : Nat → Int32} {o_signs : Nat → Int32} {o_count : Nat → Int32} {o_pages : Nat → Int32} {o_levels : Nat → Int32} {o_most : Nat → Int32} {o_page : Nat → Int32} {o_known : Nat → Int32} {o_guess : Nat → Int32} {o_diff : Nat → Int32} {o_pieces : Nat → Int32} {o_place : Nat → Int32} {o_bits : Nat → Nat → Int64} {o_words : Nat → Nat → Nat} {o_entries : Nat → Nat → Int32} {o_bads : Int32} {o_noes : Int32} {o_fulls : Int32} {o_next : Int32} {o_kept : Int32} {o_base : Int32} {o_from : Int32} {o_to : Int32} {o_above : Int32} {o_bit : Int32} {o_lastLeft : Int32} (hG : kG a LW LS LK) (hm : C7_takeOut a LW LS LK c_bytes c_length c_heads c_firsts c_levelOf c_aboveOf c_partings c_signs c_count c_pages c_levels c_most c_page c_known c_guess c_diff c_pieces c_place c_bits c_words c_entries c_bads c_noes c_fulls c_next c_kept c_base c_from c_to c_above c_bit c_lastLeft = some (r, o_heads, o_firsts, o_levelOf, o_aboveOf, o_partings, o_signs, o_count, o_pages, o_levels, o_most, o_page, o_known, o_guess, o_diff, o_pieces, o_place, o_bits, o_words, o_entries, o_bads, o_noes, o_fulls, o_next, o_kept, o_base, o_from, o_to, o_above, o_bit, o_lastLeft)) : k_MI l yX7_takeOut wsX7_takeOut { frames := 5, cells := 0, slots := 0, locals := 119 } D (kT cI cJ cB cL cS cW) [.ref (a 0)] (WC a wb sw se LW LS LK cI cJ cB cL cS cW c_bytes c_heads c_firsts c_levelOf c_aboveOf c_partings c_signs c_count c_pages c_levels c_most c_page c_known c_guess c_diff c_pieces c_place c_bits c_words c_entries c_bads c_noes c_fulls c_length c_next c_kept c_base c_from c_to c_above c_bit c_lastLeft) r (WC a wb sw se LW LS LK cI cJ cB cL cS cW c_bytes o_heads o_firsts o_levelOf o_aboveOf o_partings o_signs o_count o_pages o_levels o_most o_page o_known o_guess o_diff o_pieces o_place o_bits o_words o_entries o_bads o_noes o_fulls c_length o_next o_kept o_base o_from o_to o_above o_bit o_lastLeft) := by
  refine k_ofI (cc := cX7_takeOut) (maxL := 1) (own := RX7) (by decide) rfl rfl (Nat.le_of_ble_eq_true rfl) ?_
  intro p e s m args below meth c A Q ls C hP hD hl hret
  have hD : va_D A (WC0 a wb sw se LW LS LK cI cJ cB cL cS cW) := WCD hD
  have hS : va_S A s.heap s.heap [] := va_S.rf
  have hl : lv_has ls 1 [(0, .ref (a 0))] := hl
  obtain ⟨hx, hb, hml, hr, hown, hts, hlocks, hK, hA, hN⟩ := id C
  rw [C7_takeOut] at hm
  refine lv_aload_n hx hb dX7_takeOut_0 rfl (lv_at hl 0 rfl) ?_
  refine kg (v := .ref (a 1)) hx hb hts hiX7_takeOut_X7 hown hK hP 0 rfl rfl 0 (by decide) flX7_takeOut_10 rfl rfl dX7_takeOut_1 ?_
  refine lv_aload_n hx hb dX7_takeOut_4 rfl (lv_at hl 0 rfl) ?_
  refine kg (v := .ref (a 13)) hx hb hts hiX7_takeOut_X7 hown hK hP 0 rfl rfl 1 (by decide) flX7_takeOut_19 rfl rfl dX7_takeOut_5 ?_
  obtain ⟨r8, c_signs_8, c_bits_8, hq0, hm⟩ := bd3_some hm
  refine k_callVI (As := [.ref (a 13)]) (rest := []) ⟨hx, hb, hml, hown, hts⟩ hK hA hN (c_X4_readWord hG hG.2.2.2.1 hq0) (cwV 1 hts gX7_takeOut_X4_readWord rfl rfl rfl hdX4_readWord ⟨Nat.le_of_ble_eq_true rfl, Nat.le_of_ble_eq_true rfl⟩) hP (WCD hD) hS 1 4 rfl rfl rfl hl.1 rfl rfl (Nat.le_of_ble_eq_true rfl) ⟨Nat.zero_le _, Nat.zero_le _⟩ dX7_takeOut_8 (fun H locs hP hS => ?_)
  refine lv_if_ne (tgt := 21) hx hb dX7_takeOut_11 (by decide) (fun hc => ?_) (fun hc => ?_)
  · have hm := if_f hc hm
    refine lv_aload_n hx hb dX7_takeOut_21 rfl (lv_at hl 0 rfl) ?_
    refine kg (v := .ref (a 3)) hx hb hts hiX7_takeOut_X7 hown hK hP 0 rfl rfl 2 (by decide) flX7_takeOut_26 rfl rfl dX7_takeOut_22 ?_
    refine lv_aload_n hx hb dX7_takeOut_25 rfl (lv_at hl 0 rfl) ?_
    refine kg (v := .ref (a 13)) hx hb hts hiX7_takeOut_X7 hown hK hP 0 rfl rfl 1 (by decide) flX7_takeOut_19 rfl rfl dX7_takeOut_26 ?_
    obtain ⟨c_page_29, c_known_29, c_guess_29, c_diff_29, c_pieces_29, c_place_29, c_base_29, c_from_29, c_to_29, c_above_29, c_bit_29, c_lastLeft_29, hq0, hm⟩ := bd12_some hm
    refine k_callVV (As := [.ref (a 13)]) (rest := []) ⟨hx, hb, hml, hown, hts⟩ hK hA hN (c_X0_walk hG hG.2.2.2.1 hq0) (cwV 1 hts gX7_takeOut_X0_walk rfl rfl rfl hdX0_walk ⟨Nat.le_of_ble_eq_true rfl, Nat.le_of_ble_eq_true rfl⟩) hP (WCD hD) hS 3 0 rfl rfl rfl hl.1 rfl rfl (Nat.le_of_ble_eq_true rfl) ⟨Nat.zero_le _, Nat.zero_le _⟩ dX7_takeOut_29 (fun H locs hP hS => ?_)
    refine lv_aload_n hx hb dX7_takeOut_32 rfl (lv_at hl 0 rfl) ?_
    refine kg (v := .ref (a 3)) hx hb hts hiX7_takeOut_X7 hown hK hP 0 rfl rfl 2 (by decide) flX7_takeOut_26 rfl rfl dX7_takeOut_33 ?_
    obtain ⟨r36, hq0, hm⟩ := bd1_some hm
    refine k_callVI (As := []) (rest := []) ⟨hx, hb, hml, hown, hts⟩ hK hA hN (c_X0_isThere hG hq0) (cwV 0 hts gX7_takeOut_X0_isThere rfl rfl rfl hdX0_isThere ⟨Nat.le_of_ble_eq_true rfl, Nat.le_of_ble_eq_true rfl⟩) hP (WCD hD) hS 3 0 rfl rfl rfl hl.1 rfl rfl (Nat.le_of_ble_eq_true rfl) ⟨Nat.zero_le _, Nat.zero_le _⟩ dX7_takeOut_36 (fun H locs hP hS => ?_)
    refine lv_if_ne (tgt := 49) hx hb dX7_takeOut_39 (by decide) (fun hc => ?_) (fun hc => ?_)
    · have hm := if_f hc hm
      refine lv_aload_n hx hb dX7_takeOut_49 rfl (lv_at hl 0 rfl) ?_
      refine kg (v := .ref (a 11)) hx hb hts hiX7_takeOut_X7 hown hK hP 0 rfl rfl 3 (by decide) flX7_takeOut_33 rfl rfl dX7_takeOut_50 ?_
      refine lv_aload_n hx hb dX7_takeOut_53 rfl (lv_at hl 0 rfl) ?_
      refine kg (v := .ref (a 3)) hx hb hts hiX7_takeOut_X7 hown hK hP 0 rfl rfl 2 (by decide) flX7_takeOut_26 rfl rfl dX7_takeOut_54 ?_
      refine kg (v := .ref (a 14)) hx hb hts hiX7_takeOut_X0 hown hK hP 3 rfl rfl 0 (by decide) flX7_takeOut_68 rfl rfl dX7_takeOut_57 ?_
      obtain ⟨c_signs_60, c_count_60, c_pages_60, c_levels_60, c_most_60, c_bits_60, c_entries_60, c_next_60, c_kept_60, hq0, hm⟩ := bd9_some hm
      refine k_callVV (As := [.ref (a 14)]) (rest := []) ⟨hx, hb, hml, hown, hts⟩ hK hA hN (c_X2_keep hG hG.2.2.2.2.1 hq0) (cwV 1 hts gX7_takeOut_X2_keep rfl rfl rfl hdX2_keep ⟨Nat.le_of_ble_eq_true rfl, Nat.le_of_ble_eq_true rfl⟩) hP (WCD hD) hS 11 2 rfl rfl rfl hl.1 rfl rfl (Nat.le_of_ble_eq_true rfl) ⟨Nat.zero_le _, Nat.zero_le _⟩ dX7_takeOut_60 (fun H locs hP hS => ?_)
      refine lv_aload_n hx hb dX7_takeOut_63 rfl (lv_at hl 0 rfl) ?_
      refine kg (v := .ref (a 3)) hx hb hts hiX7_takeOut_X7 hown hK hP 0 rfl rfl 2 (by decide) flX7_takeOut_26 rfl rfl dX7_takeOut_64 ?_
      obtain ⟨c_heads_67, c_firsts_67, c_levelOf_67, c_aboveOf_67, c_partings_67, c_count_67, c_pages_67, c_levels_67, c_words_67, c_entries_67, hq0, hm⟩ := bd10_some hm
      refine k_callVV (As := []) (rest := []) ⟨hx, hb, hml, hown, hts⟩ hK hA hN (c_X0_remove hG hq0) (cwV 0 hts gX7_takeOut_X0_remove rfl rfl rfl hdX0_remove ⟨Nat.le_of_ble_eq_true rfl, Nat.le_of_ble_eq_true rfl⟩) hP (WCD hD) hS 3 0 rfl rfl rfl hl.1 rfl rfl (Nat.le_of_ble_eq_true rfl) ⟨Nat.zero_le _, Nat.zero_le _⟩ dX7_takeOut_67 (fun H locs hP hS => ?_)
      refine lv_aload_n hx hb dX7_takeOut_70 rfl (lv_at hl 0 rfl) ?_
      refine kg (v := .ref (a 3)) hx hb hts hiX7_takeOut_X7 hown hK hP 0 rfl rfl 2 (by decide) flX7_takeOut_26 rfl rfl dX7_takeOut_71 ?_
      refine kg (v := .ref (a 14)) hx hb hts hiX7_takeOut_X0 hown hK hP 3 rfl rfl 0 (by decide) flX7_takeOut_68 rfl rfl dX7_takeOut_74 ?_
      obtain ⟨q, hq, -⟩ := WC_S hG hG.2.2.2.2.1
      refine kg (v := .int (c_count_67 (a 14))) hx hb hts hiX7_takeOut_X3 hown hK hP q hq rfl 2 (by decide) flX7_takeOut_72 rfl rfl dX7_takeOut_77 ?_
      simp only [Option.some.injEq, Prod.mk.injEq] at hm
      obtain ⟨rfl, rfl, rfl, rfl, rfl, rfl, rfl, rfl, rfl, rfl, rfl, rfl, rfl, rfl, rfl, rfl, rfl, rfl, rfl, rfl, rfl, rfl, rfl, rfl, rfl, rfl, rfl, rfl, rfl, rfl, rfl⟩ := hm
      exact hret _ _ _ _ dX7_takeOut_80 hP hS
    · have hm := if_t hc hm
      refine lv_aload_n hx hb dX7_takeOut_42 rfl (lv_at hl 0 rfl) ?_
      refine lv_bipush (v := (-3)) hx hb dX7_takeOut_43 (by decide) ?_
      obtain ⟨r45, c_bads_45, c_noes_45, c_fulls_45, hq0, hm⟩ := bd4_some hm
      refine k_callVI (As := [.int (-3)]) (rest := []) ⟨hx, hb, hml, hown, hts⟩ hK hA hN (c_X7_refuse hG hq0) (cwV 1 hts gX7_takeOut_X7_refuse rfl rfl rfl hdX7_refuse ⟨Nat.le_of_ble_eq_true rfl, Nat.le_of_ble_eq_true rfl⟩) hP (WCD hD) hS 0 7 rfl rfl rfl hl.1 rfl rfl (Nat.le_of_ble_eq_true rfl) ⟨Nat.zero_le _, Nat.zero_le _⟩ dX7_takeOut_45 (fun H locs hP hS => ?_)
      simp only [Option.some.injEq, Prod.mk.injEq] at hm
      obtain ⟨rfl, rfl, rfl, rfl, rfl, rfl, rfl, rfl, rfl, rfl, rfl, rfl, rfl, rfl, rfl, rfl, rfl, rfl, rfl, rfl, rfl, rfl, rfl, rfl, rfl, rfl, rfl, rfl, rfl, rfl, rfl⟩ := hm
      exact hret _ _ _ _ dX7_takeOut_48 hP hS
  · have hm := if_t hc hm
    refine lv_aload_n hx hb dX7_takeOut_14 rfl (lv_at hl 0 rfl) ?_
    refine lv_bipush (v := (-3)) hx hb dX7_takeOut_15 (by decide) ?_
    obtain ⟨r17, c_bads_17, c_noes_17, c_fulls_17, hq0, hm⟩ := bd4_some hm
    refine k_callVI (As := [.int (-3)]) (rest := []) ⟨hx, hb, hml, hown, hts⟩ hK hA hN (c_X7_refuse hG hq0) (cwV 1 hts gX7_takeOut_X7_refuse rfl rfl rfl hdX7_refuse ⟨Nat.le_of_ble_eq_true rfl, Nat.le_of_ble_eq_true rfl⟩) hP (WCD hD) hS 0 7 rfl rfl rfl hl.1 rfl rfl (Nat.le_of_ble_eq_true rfl) ⟨Nat.zero_le _, Nat.zero_le _⟩ dX7_takeOut_17 (fun H locs hP hS => ?_)
    simp only [Option.some.injEq, Prod.mk.injEq] at hm
    obtain ⟨rfl, rfl, rfl, rfl, rfl, rfl, rfl, rfl, rfl, rfl, rfl, rfl, rfl, rfl, rfl, rfl, rfl, rfl, rfl, rfl, rfl, rfl, rfl, rfl, rfl, rfl, rfl, rfl, rfl, rfl, rfl⟩ := hm
    exact hret _ _ _ _ dX7_takeOut_20 hP hS
theorem hdX4_fault : yX4_fault.cls = RX4 ∧ yX4_fault.cls ≠ "java/lang/invoke/MethodHandle" ∧ yX4_fault.cls ≠ "java/lang/invoke/VarHandle" ∧ (parseMethodDescriptor yX4_fault.desc).map (fun d => d.parameters.length) = some 0 := by decide +kernel
theorem hiX4_fault_X4 : ∀ w ∈ u_ws RX4 TX4 2, w ∈ wsX4_fault := by decide +kernel
theorem flX4_fault_15 : Cond.fieldLink RX4 15 "BlindPages$Text" "length" "I" ∈ wsX4_fault := by decide +kernel
def C4_fault_J64 (c_bytes : Nat → Int32) (c_length : Int32) (k6 : Int32 → Int32 → Int32 → Option (Int32)) (k39 : Int32 → Option (Int32)) (k84 : Int32 → Option (Int32)) (k92 : Int32 → Option (Int32)) (v1 : Int32) (v2 : Int32) (v3 : Int32) (v4 : Int32) : Option (Int32) := bd1 (C7_isSign v4) fun r66 => if r66 = 0 then (k84 v3) else (if 24 ≤ v2 then (k84 v3) else (k6 v1 (v2 + 1) (v3 + 1)))
def C4_fault_L6 (c_bytes : Nat → Int32) (c_length : Int32) (k39 : Int32 → Option (Int32)) (k84 : Int32 → Option (Int32)) (k92 : Int32 → Option (Int32)) : Nat → Int32 → Int32 → Int32 → Option (Int32)
  | 0, _, _, _ => none
  | n + 1, v1, v2, v3 => if c_length ≤ v3 then (k92 v1) else (bd1 (C4_byteAt c_bytes c_length v3) fun r16 => if v1 = 0 then (if r16 = 43 then (C4_fault_L6 c_bytes c_length k39 k84 k92 n 1 0 (v3 + 1)) else (if r16 = 45 then (C4_fault_L6 c_bytes c_length k39 k84 k92 n 1 0 (v3 + 1)) else (k39 v3))) else (if r16 = 59 then (if v2 ≤ 0 then (C4_fault_J64 c_bytes c_length (C4_fault_L6 c_bytes c_length k39 k84 k92 n) k39 k84 k92 v1 v2 v3 r16) else (C4_fault_L6 c_bytes c_length k39 k84 k92 n 0 v2 (v3 + 1))) else (C4_fault_J64 c_bytes c_length (C4_fault_L6 c_bytes c_length k39 k84 k92 n) k39 k84 k92 v1 v2 v3 r16)))
def C4_fault (c_bytes : Nat → Int32) (c_length : Int32) : Option (Int32) := C4_fault_L6 c_bytes c_length (fun v3 => some v3) (fun v3 => some v3) (fun v1 => if v1 = 0 then (if c_length = 0 then (some c_length) else (some (-1))) else (some c_length)) FU 0 0 0
set_option maxRecDepth 100000 in
set_option maxHeartbeats 4000000 in
theorem t_C4_fault_J64 {p : Program} {l : Launch} {e : Env} {s : State} {m : MethodId} {args : Array Value} {below : List Frame} {meth : Method} {c : Code} {Q : State → Prop} {A : Nat → Prop} {D : va_G} {cI cJ cB cL cS cW : ClassId} {a wb sw se : Nat → Nat} {LW LS LK : List Nat} {c_bytes c_heads c_firsts c_levelOf c_aboveOf c_partings c_signs c_count c_pages c_levels c_most c_page c_known c_guess c_diff c_pieces c_place : Nat → Int32} {c_bits : Nat → Nat → Int64} {c_words : Nat → Nat → Nat} {c_entries : Nat → Nat → Int32} {c_bads c_noes c_fulls c_length c_next c_kept c_base c_from c_to c_above c_bit c_lastLeft : Int32} {r : Int32} (C : k_C p s m args meth c cX4_fault 5 (some .int) RX4 wsX4_fault D (kT cI cJ cB cL cS cW) A) (hD : va_D A (WC0 a wb sw se LW LS LK cI cJ cB cL cS cW)) (hG : kG a LW LS LK) (hret : ∀ (H : Heap) (locs : List Loc) (pc : Nat) (ls : Array Slot), decode cX4_fault pc = .ok (.ireturn, 1) → va_P D vwCl (WC a wb sw se LW LS LK cI cJ cB cL cS cW c_bytes c_heads c_firsts c_levelOf c_aboveOf c_partings c_signs c_count c_pages c_levels c_most c_page c_known c_guess c_diff c_pieces c_place c_bits c_words c_entries c_bads c_noes c_fulls c_length c_next c_kept c_base c_from c_to c_above c_bit c_lastLeft) H → va_S A s.heap H locs → W p l e { frames := 1, cells := 0, slots := 0, locals := 21 } s m args below meth c H locs 0 0 Q (F0 m pc ls [.int r])) {k6 : Int32 → Int32 → Int32 → Option (Int32)} (hk6 : ∀ (v1 : Int32) (v2 : Int32) (v3 : Int32) (H : Heap) (locs : List Loc) (ls : Array Slot), va_P D vwCl (WC a wb sw se LW LS LK cI cJ cB cL cS cW c_bytes c_heads c_firsts c_levelOf c_aboveOf c_partings c_signs c_count c_pages c_levels c_most c_page c_known c_guess c_diff c_pieces c_place c_bits c_words c_entries c_bads c_noes c_fulls c_length c_next c_kept c_base c_from c_to c_above c_bit c_lastLeft) H → va_S A s.heap H locs → lv_has ls 5 [(0, .ref (a 1)), (1, .int v1), (2, .int v2), (3, .int v3)] → k6 v1 v2 v3 = some r → W p l e { frames := 1, cells := 0, slots := 0, locals := 21 } s m args below meth c H locs 0 0 Q (F0 m 6 ls [])) {k39 : Int32 → Option (Int32)} (hk39 : ∀ (v3 : Int32) (H : Heap) (locs : List Loc) (ls : Array Slot), va_P D vwCl (WC a wb sw se LW LS LK cI cJ cB cL cS cW c_bytes c_heads c_firsts c_levelOf c_aboveOf c_partings c_signs c_count c_pages c_levels c_most c_page c_known c_guess c_diff c_pieces c_place c_bits c_words c_entries c_bads c_noes c_fulls c_length c_next c_kept c_base c_from c_to c_above c_bit c_lastLeft) H → va_S A s.heap H locs → lv_has ls 5 [(3, .int v3)] → k39 v3 = some r → W p l e { frames := 1, cells := 0, slots := 0, locals := 21 } s m args below meth c H locs 0 0 Q (F0 m 39 ls [])) {k84 : Int32 → Option (Int32)} (hk84 : ∀ (v3 : Int32) (H : Heap) (locs : List Loc) (ls : Array Slot), va_P D vwCl (WC a wb sw se LW LS LK cI cJ cB cL cS cW c_bytes c_heads c_firsts c_levelOf c_aboveOf c_partings c_signs c_count c_pages c_levels c_most c_page c_known c_guess c_diff c_pieces c_place c_bits c_words c_entries c_bads c_noes c_fulls c_length c_next c_kept c_base c_from c_to c_above c_bit c_lastLeft) H → va_S A s.heap H locs → lv_has ls 5 [(3, .int v3)] → k84 v3 = some r → W p l e { frames := 1, cells := 0, slots := 0, locals := 21 } s m args below meth c H locs 0 0 Q (F0 m 84 ls [])) {k92 : Int32 → Option (Int32)} (hk92 : ∀ (v1 : Int32) (H : Heap) (locs : List Loc) (ls : Array Slot), va_P D vwCl (WC a wb sw se LW LS LK cI cJ cB cL cS cW c_bytes c_heads c_firsts c_levelOf c_aboveOf c_partings c_signs c_count c_pages c_levels c_most c_page c_known c_guess c_diff c_pieces c_place c_bits c_words c_entries c_bads c_noes c_fulls c_length c_next c_kept c_base c_from c_to c_above c_bit c_lastLeft) H → va_S A s.heap H locs → lv_has ls 5 [(0, .ref (a 1)), (1, .int v1)] → k92 v1 = some r → W p l e { frames := 1, cells := 0, slots := 0, locals := 21 } s m args below meth c H locs 0 0 Q (F0 m 92 ls [])) : ∀ (v1 : Int32) (v2 : Int32) (v3 : Int32) (v4 : Int32) (H : Heap) (locs : List Loc) (ls : Array Slot), va_P D vwCl (WC a wb sw se LW LS LK cI cJ cB cL cS cW c_bytes c_heads c_firsts c_levelOf c_aboveOf c_partings c_signs c_count c_pages c_levels c_most c_page c_known c_guess c_diff c_pieces c_place c_bits c_words c_entries c_bads c_noes c_fulls c_length c_next c_kept c_base c_from c_to c_above c_bit c_lastLeft) H → va_S A s.heap H locs → lv_has ls 5 [(0, .ref (a 1)), (1, .int v1), (2, .int v2), (3, .int v3), (4, .int v4)] → C4_fault_J64 c_bytes c_length k6 k39 k84 k92 v1 v2 v3 v4 = some r → W p l e { frames := 1, cells := 0, slots := 0, locals := 21 } s m args below meth c H locs 0 0 Q (F0 m 64 ls []) := by
  obtain ⟨hx, hb, hml, hr, hown, hts, hlocks, hK, hA, hN⟩ := id C
  intro v1 v2 v3 v4 H locs ls hP hS hl hm
  rw [C4_fault_J64] at hm
  refine lv_iload hx hb dX4_fault_64 (lv_at hl 4 rfl) ?_
  obtain ⟨r66, hq0, hm⟩ := bd1_some hm
  refine k_callNI (As := [.int v4]) (rest := []) ⟨hx, hb, hml, hown, hts⟩ hK hA hN (c_X7_isSign hG hq0) (⟨va_cnB (host := RX7) 1 hts ggX4_fault_X7_isSign rfl rfl rfl hN (hts (.initialized RX7) (by decide +kernel)) hdX7_isSign ⟨Nat.le_of_ble_eq_true rfl, Nat.le_of_ble_eq_true rfl⟩, hts (.static yX7_isSign) (by decide +kernel), trivial⟩) hP (WCD hD) hS hl.1 rfl rfl (Nat.le_of_ble_eq_true rfl) ⟨Nat.zero_le _, Nat.zero_le _⟩ dX4_fault_66 (fun H locs hP hS => ?_)
  refine lv_if_eq (tgt := 84) hx hb dX4_fault_69 (by decide) (fun hc => ?_) (fun hc => ?_)
  · have hm := if_t hc hm
    exact hk84 _ _ _ _ hP hS (lv_sub hl [3] rfl) hm
  · have hm := if_f hc hm
    refine lv_iload_n hx hb dX4_fault_72 rfl (lv_at hl 2 rfl) ?_
    refine lv_bipush (v := 24) hx hb dX4_fault_73 (by decide) ?_
    refine lv_icmp_ge (tgt := 84) hx hb dX4_fault_75 (by decide) (fun hc => ?_) (fun hc => ?_)
    · have hm := if_t hc hm
      exact hk84 _ _ _ _ hP hS (lv_sub hl [3] rfl) hm
    · have hm := if_f hc hm
      refine lv_iinc (v := (v2 + 1)) (lv' := [(2, .int (v2 + 1)), (0, .ref (a 1)), (1, .int v1), (3, .int v3), (4, .int v4)]) hx hb dX4_fault_78 hl (k := 2) rfl rfl (by decide) rfl (fun ls hl => ?_)
      refine lv_goto (tgt := 86) hx hb dX4_fault_81 (by decide) ?_
      refine lv_iinc (v := (v3 + 1)) (lv' := [(3, .int (v3 + 1)), (2, .int (v2 + 1)), (0, .ref (a 1)), (1, .int v1), (4, .int v4)]) hx hb dX4_fault_86 hl (k := 3) rfl rfl (by decide) rfl (fun ls hl => ?_)
      refine lv_goto (tgt := 6) hx hb dX4_fault_89 (by decide) ?_
      exact hk6 _ _ _ _ _ _ hP hS (lv_sub hl [2, 3, 1, 0] rfl) hm
set_option maxRecDepth 100000 in
set_option maxHeartbeats 4000000 in
theorem t_C4_fault_L6 {p : Program} {l : Launch} {e : Env} {s : State} {m : MethodId} {args : Array Value} {below : List Frame} {meth : Method} {c : Code} {Q : State → Prop} {A : Nat → Prop} {D : va_G} {cI cJ cB cL cS cW : ClassId} {a wb sw se : Nat → Nat} {LW LS LK : List Nat} {c_bytes c_heads c_firsts c_levelOf c_aboveOf c_partings c_signs c_count c_pages c_levels c_most c_page c_known c_guess c_diff c_pieces c_place : Nat → Int32} {c_bits : Nat → Nat → Int64} {c_words : Nat → Nat → Nat} {c_entries : Nat → Nat → Int32} {c_bads c_noes c_fulls c_length c_next c_kept c_base c_from c_to c_above c_bit c_lastLeft : Int32} {r : Int32} (C : k_C p s m args meth c cX4_fault 5 (some .int) RX4 wsX4_fault D (kT cI cJ cB cL cS cW) A) (hD : va_D A (WC0 a wb sw se LW LS LK cI cJ cB cL cS cW)) (hG : kG a LW LS LK) (hret : ∀ (H : Heap) (locs : List Loc) (pc : Nat) (ls : Array Slot), decode cX4_fault pc = .ok (.ireturn, 1) → va_P D vwCl (WC a wb sw se LW LS LK cI cJ cB cL cS cW c_bytes c_heads c_firsts c_levelOf c_aboveOf c_partings c_signs c_count c_pages c_levels c_most c_page c_known c_guess c_diff c_pieces c_place c_bits c_words c_entries c_bads c_noes c_fulls c_length c_next c_kept c_base c_from c_to c_above c_bit c_lastLeft) H → va_S A s.heap H locs → W p l e { frames := 1, cells := 0, slots := 0, locals := 21 } s m args below meth c H locs 0 0 Q (F0 m pc ls [.int r])) {k39 : Int32 → Option (Int32)} (hk39 : ∀ (v3 : Int32) (H : Heap) (locs : List Loc) (ls : Array Slot), va_P D vwCl (WC a wb sw se LW LS LK cI cJ cB cL cS cW c_bytes c_heads c_firsts c_levelOf c_aboveOf c_partings c_signs c_count c_pages c_levels c_most c_page c_known c_guess c_diff c_pieces c_place c_bits c_words c_entries c_bads c_noes c_fulls c_length c_next c_kept c_base c_from c_to c_above c_bit c_lastLeft) H → va_S A s.heap H locs → lv_has ls 5 [(3, .int v3)] → k39 v3 = some r → W p l e { frames := 1, cells := 0, slots := 0, locals := 21 } s m args below meth c H locs 0 0 Q (F0 m 39 ls [])) {k84 : Int32 → Option (Int32)} (hk84 : ∀ (v3 : Int32) (H : Heap) (locs : List Loc) (ls : Array Slot), va_P D vwCl (WC a wb sw se LW LS LK cI cJ cB cL cS cW c_bytes c_heads c_firsts c_levelOf c_aboveOf c_partings c_signs c_count c_pages c_levels c_most c_page c_known c_guess c_diff c_pieces c_place c_bits c_words c_entries c_bads c_noes c_fulls c_length c_next c_kept c_base c_from c_to c_above c_bit c_lastLeft) H → va_S A s.heap H locs → lv_has ls 5 [(3, .int v3)] → k84 v3 = some r → W p l e { frames := 1, cells := 0, slots := 0, locals := 21 } s m args below meth c H locs 0 0 Q (F0 m 84 ls [])) {k92 : Int32 → Option (Int32)} (hk92 : ∀ (v1 : Int32) (H : Heap) (locs : List Loc) (ls : Array Slot), va_P D vwCl (WC a wb sw se LW LS LK cI cJ cB cL cS cW c_bytes c_heads c_firsts c_levelOf c_aboveOf c_partings c_signs c_count c_pages c_levels c_most c_page c_known c_guess c_diff c_pieces c_place c_bits c_words c_entries c_bads c_noes c_fulls c_length c_next c_kept c_base c_from c_to c_above c_bit c_lastLeft) H → va_S A s.heap H locs → lv_has ls 5 [(0, .ref (a 1)), (1, .int v1)] → k92 v1 = some r → W p l e { frames := 1, cells := 0, slots := 0, locals := 21 } s m args below meth c H locs 0 0 Q (F0 m 92 ls [])) : ∀ n : Nat, ∀ (v1 : Int32) (v2 : Int32) (v3 : Int32) (H : Heap) (locs : List Loc) (ls : Array Slot), va_P D vwCl (WC a wb sw se LW LS LK cI cJ cB cL cS cW c_bytes c_heads c_firsts c_levelOf c_aboveOf c_partings c_signs c_count c_pages c_levels c_most c_page c_known c_guess c_diff c_pieces c_place c_bits c_words c_entries c_bads c_noes c_fulls c_length c_next c_kept c_base c_from c_to c_above c_bit c_lastLeft) H → va_S A s.heap H locs → lv_has ls 5 [(0, .ref (a 1)), (1, .int v1), (2, .int v2), (3, .int v3)] → (C4_fault_L6 c_bytes c_length k39 k84 k92 n) v1 v2 v3 = some r → W p l e { frames := 1, cells := 0, slots := 0, locals := 21 } s m args below meth c H locs 0 0 Q (F0 m 6 ls []) := by
  obtain ⟨hx, hb, hml, hr, hown, hts, hlocks, hK, hA, hN⟩ := id C
  intro n
  induction n with
  | zero =>
    intro v1 v2 v3 H locs ls hP hS hl hm
    cases hm
  | succ n ih =>
    intro v1 v2 v3 H locs ls hP hS hl hm
    rw [C4_fault_L6] at hm
    refine lv_iload_n hx hb dX4_fault_6 rfl (lv_at hl 3 rfl) ?_
    refine lv_aload_n hx hb dX4_fault_7 rfl (lv_at hl 0 rfl) ?_
    refine kg (v := .int c_length) hx hb hts hiX4_fault_X4 hown hK hP 1 rfl rfl 1 (by decide) flX4_fault_15 rfl rfl dX4_fault_8 ?_
    refine lv_icmp_ge (tgt := 92) hx hb dX4_fault_11 (by decide) (fun hc => ?_) (fun hc => ?_)
    · have hm := if_t hc hm
      exact hk92 _ _ _ _ hP hS (lv_sub hl [0, 1] rfl) hm
    · have hm := if_f hc hm
      refine lv_aload_n hx hb dX4_fault_14 rfl (lv_at hl 0 rfl) ?_
      refine lv_iload_n hx hb dX4_fault_15 rfl (lv_at hl 3 rfl) ?_
      obtain ⟨r16, hq0, hm⟩ := bd1_some hm
      refine k_callVI (As := [.int v3]) (rest := []) ⟨hx, hb, hml, hown, hts⟩ hK hA hN (c_X4_byteAt hG hq0) (cwV 1 hts gX4_fault_X4_byteAt rfl rfl rfl hdX4_byteAt ⟨Nat.le_of_ble_eq_true rfl, Nat.le_of_ble_eq_true rfl⟩) hP (WCD hD) hS 1 4 rfl rfl rfl hl.1 rfl rfl (Nat.le_of_ble_eq_true rfl) ⟨Nat.zero_le _, Nat.zero_le _⟩ dX4_fault_16 (fun H locs hP hS => ?_)
      refine lv_istore (lv' := [(4, .int r16), (0, .ref (a 1)), (1, .int v1), (2, .int v2), (3, .int v3)]) hx hb dX4_fault_19 hl (by decide) rfl (fun ls hl => ?_)
      refine lv_iload_n hx hb dX4_fault_21 rfl (lv_at hl 2 rfl) ?_
      refine lv_if_ne (tgt := 48) hx hb dX4_fault_22 (by decide) (fun hc => ?_) (fun hc => ?_)
      · have hm := if_f hc hm
        refine lv_iload hx hb dX4_fault_48 (lv_at hl 0 rfl) ?_
        refine lv_bipush (v := 59) hx hb dX4_fault_50 (by decide) ?_
        refine lv_icmp_ne (tgt := 64) hx hb dX4_fault_52 (by decide) (fun hc => ?_) (fun hc => ?_)
        · have hm := if_f hc hm
          exact t_C4_fault_J64 C hD hG hret ih hk39 hk84 hk92 _ _ _ _ _ _ _ hP hS (lv_sub hl [1, 2, 3, 4, 0] rfl) hm
        · have hm := if_t hc hm
          refine lv_iload_n hx hb dX4_fault_55 rfl (lv_at hl 3 rfl) ?_
          refine lv_if_le (tgt := 64) hx hb dX4_fault_56 (by decide) (fun hc => ?_) (fun hc => ?_)
          · have hm := if_t hc hm
            exact t_C4_fault_J64 C hD hG hret ih hk39 hk84 hk92 _ _ _ _ _ _ _ hP hS (lv_sub hl [1, 2, 3, 4, 0] rfl) hm
          · have hm := if_f hc hm
            refine lv_iconst (v := 0) hx hb dX4_fault_59 (by decide) ?_
            refine lv_istore_n (lv' := [(1, .int 0), (4, .int r16), (0, .ref (a 1)), (2, .int v2), (3, .int v3)]) hx hb dX4_fault_60 rfl hl (by decide) rfl (fun ls hl => ?_)
            refine lv_goto (tgt := 86) hx hb dX4_fault_61 (by decide) ?_
            refine lv_iinc (v := (v3 + 1)) (lv' := [(3, .int (v3 + 1)), (1, .int 0), (4, .int r16), (0, .ref (a 1)), (2, .int v2)]) hx hb dX4_fault_86 hl (k := 4) rfl rfl (by decide) rfl (fun ls hl => ?_)
            refine lv_goto (tgt := 6) hx hb dX4_fault_89 (by decide) ?_
            exact ih _ _ _ _ _ _ hP hS (lv_sub hl [3, 1, 4, 0] rfl) hm
      · have hm := if_t hc hm
        refine lv_iload hx hb dX4_fault_25 (lv_at hl 0 rfl) ?_
        refine lv_bipush (v := 43) hx hb dX4_fault_27 (by decide) ?_
        refine lv_icmp_eq (tgt := 41) hx hb dX4_fault_29 (by decide) (fun hc => ?_) (fun hc => ?_)
        · have hm := if_t hc hm
          refine lv_iconst (v := 1) hx hb dX4_fault_41 (by decide) ?_
          refine lv_istore_n (lv' := [(1, .int 1), (4, .int r16), (0, .ref (a 1)), (2, .int v2), (3, .int v3)]) hx hb dX4_fault_42 rfl hl (by decide) rfl (fun ls hl => ?_)
          refine lv_iconst (v := 0) hx hb dX4_fault_43 (by decide) ?_
          refine lv_istore_n (lv' := [(2, .int 0), (1, .int 1), (4, .int r16), (0, .ref (a 1)), (3, .int v3)]) hx hb dX4_fault_44 rfl hl (by decide) rfl (fun ls hl => ?_)
          refine lv_goto (tgt := 86) hx hb dX4_fault_45 (by decide) ?_
          refine lv_iinc (v := (v3 + 1)) (lv' := [(3, .int (v3 + 1)), (2, .int 0), (1, .int 1), (4, .int r16), (0, .ref (a 1))]) hx hb dX4_fault_86 hl (k := 4) rfl rfl (by decide) rfl (fun ls hl => ?_)
          refine lv_goto (tgt := 6) hx hb dX4_fault_89 (by decide) ?_
          exact ih _ _ _ _ _ _ hP hS (lv_sub hl [4, 2, 1, 0] rfl) hm
        · have hm := if_f hc hm
          refine lv_iload hx hb dX4_fault_32 (lv_at hl 0 rfl) ?_
          refine lv_bipush (v := 45) hx hb dX4_fault_34 (by decide) ?_
          refine lv_icmp_eq (tgt := 41) hx hb dX4_fault_36 (by decide) (fun hc => ?_) (fun hc => ?_)
          · have hm := if_t hc hm
            refine lv_iconst (v := 1) hx hb dX4_fault_41 (by decide) ?_
            refine lv_istore_n (lv' := [(1, .int 1), (4, .int r16), (0, .ref (a 1)), (2, .int v2), (3, .int v3)]) hx hb dX4_fault_42 rfl hl (by decide) rfl (fun ls hl => ?_)
            refine lv_iconst (v := 0) hx hb dX4_fault_43 (by decide) ?_
            refine lv_istore_n (lv' := [(2, .int 0), (1, .int 1), (4, .int r16), (0, .ref (a 1)), (3, .int v3)]) hx hb dX4_fault_44 rfl hl (by decide) rfl (fun ls hl => ?_)
            refine lv_goto (tgt := 86) hx hb dX4_fault_45 (by decide) ?_
            refine lv_iinc (v := (v3 + 1)) (lv' := [(3, .int (v3 + 1)), (2, .int 0), (1, .int 1), (4, .int r16), (0, .ref (a 1))]) hx hb dX4_fault_86 hl (k := 4) rfl rfl (by decide) rfl (fun ls hl => ?_)
            refine lv_goto (tgt := 6) hx hb dX4_fault_89 (by decide) ?_
            exact ih _ _ _ _ _ _ hP hS (lv_sub hl [4, 2, 1, 0] rfl) hm
          · have hm := if_f hc hm
            exact hk39 _ _ _ _ hP hS (lv_sub hl [4] rfl) hm
set_option maxRecDepth 100000 in
set_option maxHeartbeats 4000000 in
theorem c_X4_fault {l : Launch} {D : va_G} {cI cJ cB cL cS cW : ClassId} {a wb sw se : Nat → Nat} {LW LS LK : List Nat} {c_bytes c_heads c_firsts c_levelOf c_aboveOf c_partings c_signs c_count c_pages c_levels c_most c_page c_known c_guess c_diff c_pieces c_place : Nat → Int32} {c_bits : Nat → Nat → Int64} {c_words : Nat → Nat → Nat} {c_entries : Nat → Nat → Int32} {c_bads c_noes c_fulls c_length c_next c_kept c_base c_from c_to c_above c_bit c_lastLeft : Int32} {r : Int32} (hG : kG a LW LS LK) (hm : C4_fault c_bytes c_length = some r) : k_MI l yX4_fault wsX4_fault { frames := 1, cells := 0, slots := 0, locals := 21 } D (kT cI cJ cB cL cS cW) [.ref (a 1)] (WC a wb sw se LW LS LK cI cJ cB cL cS cW c_bytes c_heads c_firsts c_levelOf c_aboveOf c_partings c_signs c_count c_pages c_levels c_most c_page c_known c_guess c_diff c_pieces c_place c_bits c_words c_entries c_bads c_noes c_fulls c_length c_next c_kept c_base c_from c_to c_above c_bit c_lastLeft) r (WC a wb sw se LW LS LK cI cJ cB cL cS cW c_bytes c_heads c_firsts c_levelOf c_aboveOf c_partings c_signs c_count c_pages c_levels c_most c_page c_known c_guess c_diff c_pieces c_place c_bits c_words c_entries c_bads c_noes c_fulls c_length c_next c_kept c_base c_from c_to c_above c_bit c_lastLeft) := by
  refine k_ofI (cc := cX4_fault) (maxL := 5) (own := RX4) (by decide) rfl rfl (Nat.le_of_ble_eq_true rfl) ?_
  intro p e s m args below meth c A Q ls C hP hD hl hret
  have hD : va_D A (WC0 a wb sw se LW LS LK cI cJ cB cL cS cW) := WCD hD
  have hS : va_S A s.heap s.heap [] := va_S.rf
  have hl : lv_has ls 5 [(0, .ref (a 1))] := hl
  obtain ⟨hx, hb, hml, hr, hown, hts, hlocks, hK, hA, hN⟩ := id C
  rw [C4_fault] at hm
  refine lv_iconst (v := 0) hx hb dX4_fault_0 (by decide) ?_
  refine lv_istore_n (lv' := [(1, .int 0), (0, .ref (a 1))]) hx hb dX4_fault_1 rfl hl (by decide) rfl (fun ls hl => ?_)
  refine lv_iconst (v := 0) hx hb dX4_fault_2 (by decide) ?_
  refine lv_istore_n (lv' := [(2, .int 0), (1, .int 0), (0, .ref (a 1))]) hx hb dX4_fault_3 rfl hl (by decide) rfl (fun ls hl => ?_)
  refine lv_iconst (v := 0) hx hb dX4_fault_4 (by decide) ?_
  refine lv_istore_n (lv' := [(3, .int 0), (2, .int 0), (1, .int 0), (0, .ref (a 1))]) hx hb dX4_fault_5 rfl hl (by decide) rfl (fun ls hl => ?_)
  refine t_C4_fault_L6 C hD hG hret ?_ ?_ ?_ FU _ _ _ _ _ _ hP hS (lv_sub hl [3, 2, 1, 0] rfl) hm
  · intro v3 H locs ls hP hS hl hm
    try dsimp only at hm
    refine lv_iload_n hx hb dX4_fault_39 rfl (lv_at hl 0 rfl) ?_
    obtain rfl := Option.some.inj hm
    exact hret _ _ _ _ dX4_fault_40 hP hS
  · intro v3 H locs ls hP hS hl hm
    try dsimp only at hm
    refine lv_iload_n hx hb dX4_fault_84 rfl (lv_at hl 0 rfl) ?_
    obtain rfl := Option.some.inj hm
    exact hret _ _ _ _ dX4_fault_85 hP hS
  · intro v1 H locs ls hP hS hl hm
    try dsimp only at hm
    refine lv_iload_n hx hb dX4_fault_92 rfl (lv_at hl 1 rfl) ?_
    refine lv_if_ne (tgt := 103) hx hb dX4_fault_93 (by decide) (fun hc => ?_) (fun hc => ?_)
    · have hm := if_f hc hm
      refine lv_aload_n hx hb dX4_fault_103 rfl (lv_at hl 0 rfl) ?_
      refine kg (v := .int c_length) hx hb hts hiX4_fault_X4 hown hK hP 1 rfl rfl 1 (by decide) flX4_fault_15 rfl rfl dX4_fault_104 ?_
      refine lv_goto (tgt := 111) hx hb dX4_fault_107 (by decide) ?_
      obtain rfl := Option.some.inj hm
      exact hret _ _ _ _ dX4_fault_111 hP hS
    · have hm := if_t hc hm
      refine lv_aload_n hx hb dX4_fault_96 rfl (lv_at hl 0 rfl) ?_
      refine kg (v := .int c_length) hx hb hts hiX4_fault_X4 hown hK hP 1 rfl rfl 1 (by decide) flX4_fault_15 rfl rfl dX4_fault_97 ?_
      refine lv_if_ne (tgt := 110) hx hb dX4_fault_100 (by decide) (fun hc => ?_) (fun hc => ?_)
      · have hm := if_f hc hm
        refine lv_iconst (v := (-1)) hx hb dX4_fault_110 (by decide) ?_
        obtain rfl := Option.some.inj hm
        exact hret _ _ _ _ dX4_fault_111 hP hS
      · have hm := if_t hc hm
        refine lv_aload_n hx hb dX4_fault_103 rfl (lv_at hl 0 rfl) ?_
        refine kg (v := .int c_length) hx hb hts hiX4_fault_X4 hown hK hP 1 rfl rfl 1 (by decide) flX4_fault_15 rfl rfl dX4_fault_104 ?_
        refine lv_goto (tgt := 111) hx hb dX4_fault_107 (by decide) ?_
        obtain rfl := Option.some.inj hm
        exact hret _ _ _ _ dX4_fault_111 hP hS
