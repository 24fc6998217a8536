theorem hdX6_partingFrom : yX6_partingFrom.cls = RX6 ∧ yX6_partingFrom.cls ≠ "java/lang/invoke/MethodHandle" ∧ yX6_partingFrom.cls ≠ "java/lang/invoke/VarHandle" ∧ (parseMethodDescriptor yX6_partingFrom.desc).map (fun d => d.parameters.length) = some 1 := by decide +kernel
theorem hiX6_partingFrom_X6 : ∀ w ∈ u_ws RX6 TX6 2, w ∈ wsX6_partingFrom := by decide +kernel
theorem flX6_partingFrom_9 : Cond.fieldLink RX6 9 "BlindPages$Word" "bits" "[J" ∈ wsX6_partingFrom := by decide +kernel
def C6_partingFrom_L2 (c_bits : Nat → Nat → Int64) (v0 : Nat) (v1 : Nat) (k40 : Int32 → Int64 → Option (Int32)) (k56 : Option (Int32)) : Nat → Int32 → Option (Int32)
  | 0, _ => none
  | n + 1, v2 => if 3 ≤ v2 then k56 else (if 3 ≤ v2 then k56 else (ga v2 3 (ga v2 3 (if (lg_cmp ((c_bits v0 v2.toNatClampNeg) ^^^ (c_bits v1 v2.toNatClampNeg)) (0 : Int64)) = 0 then (C6_partingFrom_L2 c_bits v0 v1 k40 k56 n (v2 + 1)) else (k40 v2 ((c_bits v0 v2.toNatClampNeg) ^^^ (c_bits v1 v2.toNatClampNeg)))))))
def C6_partingFrom (c_bits : Nat → Nat → Int64) (v0 : Nat) (v1 : Nat) : Option (Int32) := C6_partingFrom_L2 c_bits v0 v1 (fun v2 v3 => bd1 (J13_numberOfLeadingZeros_95d88 v3) fun r45 => some ((64 * v2) + r45)) (some (-1)) FU 0
set_option maxRecDepth 100000 in
set_option maxHeartbeats 4000000 in
theorem t_C6_partingFrom_L2 {p : Program} {l : Launch} {e : Env} {s : State} {m : MethodId} {args : Array Value} {below : List Frame} {meth : Method} {c : Code} {Q : State → Prop} {A : Nat → Prop} {D : va_G} {cI cJ cB cL cS cW : ClassId} {a wb sw se : Nat → Nat} {LW LS LK : List Nat} {c_bytes c_heads c_firsts c_levelOf c_aboveOf c_partings c_signs c_count c_pages c_levels c_most c_page c_known c_guess c_diff c_pieces c_place : Nat → Int32} {c_bits : Nat → Nat → Int64} {c_words : Nat → Nat → Nat} {c_entries : Nat → Nat → Int32} {c_bads c_noes c_fulls c_length c_next c_kept c_base c_from c_to c_above c_bit c_lastLeft : Int32} {v0 : Nat} {v1 : Nat} {r : Int32} (C : k_C p s m args meth c cX6_partingFrom 5 (some .int) RX6 wsX6_partingFrom D (kT cI cJ cB cL cS cW) A) (hD : va_D A (WC0 a wb sw se LW LS LK cI cJ cB cL cS cW)) (hG : kG a LW LS LK) (hv0 : v0 ∈ LW) (hv1 : v1 ∈ LW) (hret : ∀ (H : Heap) (locs : List Loc) (pc : Nat) (ls : Array Slot), decode cX6_partingFrom pc = .ok (.ireturn, 1) → va_P D vwCl (WC a wb sw se LW LS LK cI cJ cB cL cS cW c_bytes c_heads c_firsts c_levelOf c_aboveOf c_partings c_signs c_count c_pages c_levels c_most c_page c_known c_guess c_diff c_pieces c_place c_bits c_words c_entries c_bads c_noes c_fulls c_length c_next c_kept c_base c_from c_to c_above c_bit c_lastLeft) H → va_S A s.heap H locs → W p l e { frames := 2, cells := 0, slots := 0, locals := 43 } s m args below meth c H locs 0 0 Q (F0 m pc ls [.int r])) {k40 : Int32 → Int64 → Option (Int32)} (hk40 : ∀ (v2 : Int32) (v3 : Int64) (H : Heap) (locs : List Loc) (ls : Array Slot), va_P D vwCl (WC a wb sw se LW LS LK cI cJ cB cL cS cW c_bytes c_heads c_firsts c_levelOf c_aboveOf c_partings c_signs c_count c_pages c_levels c_most c_page c_known c_guess c_diff c_pieces c_place c_bits c_words c_entries c_bads c_noes c_fulls c_length c_next c_kept c_base c_from c_to c_above c_bit c_lastLeft) H → va_S A s.heap H locs → lv_has ls 5 [(2, .int v2), (3, .long v3)] → k40 v2 v3 = some r → W p l e { frames := 2, cells := 0, slots := 0, locals := 43 } s m args below meth c H locs 0 0 Q (F0 m 40 ls [])) {k56 : Option (Int32)} (hk56 : ∀  (H : Heap) (locs : List Loc) (ls : Array Slot), va_P D vwCl (WC a wb sw se LW LS LK cI cJ cB cL cS cW c_bytes c_heads c_firsts c_levelOf c_aboveOf c_partings c_signs c_count c_pages c_levels c_most c_page c_known c_guess c_diff c_pieces c_place c_bits c_words c_entries c_bads c_noes c_fulls c_length c_next c_kept c_base c_from c_to c_above c_bit c_lastLeft) H → va_S A s.heap H locs → lv_has ls 5 [] → k56 = some r → W p l e { frames := 2, cells := 0, slots := 0, locals := 43 } s m args below meth c H locs 0 0 Q (F0 m 56 ls [])) : ∀ n : Nat, ∀ (v2 : Int32) (H : Heap) (locs : List Loc) (ls : Array Slot), va_P D vwCl (WC a wb sw se LW LS LK cI cJ cB cL cS cW c_bytes c_heads c_firsts c_levelOf c_aboveOf c_partings c_signs c_count c_pages c_levels c_most c_page c_known c_guess c_diff c_pieces c_place c_bits c_words c_entries c_bads c_noes c_fulls c_length c_next c_kept c_base c_from c_to c_above c_bit c_lastLeft) H → va_S A s.heap H locs → lv_has ls 5 [(0, .ref v0), (1, .ref v1), (2, .int v2)] → (C6_partingFrom_L2 c_bits v0 v1 k40 k56 n) v2 = some r → W p l e { frames := 2, cells := 0, slots := 0, locals := 43 } s m args below meth c H locs 0 0 Q (F0 m 2 ls []) := by
  obtain ⟨hx, hb, hml, hr, hown, hts, hlocks, hK, hA, hN⟩ := id C
  intro n
  induction n with
  | zero =>
    intro v2 H locs ls hP hS hl hm
    cases hm
  | succ n ih =>
    intro v2 H locs ls hP hS hl hm
    rw [C6_partingFrom_L2] at hm
    refine lv_iload_n hx hb dX6_partingFrom_2 rfl (lv_at hl 2 rfl) ?_
    refine lv_aload_n hx hb dX6_partingFrom_3 rfl (lv_at hl 0 rfl) ?_
    obtain ⟨q, hq, -⟩ := WC_W hG hv0
    refine kg (v := .ref (wb v0)) hx hb hts hiX6_partingFrom_X6 hown hK hP q hq rfl 0 (by decide) flX6_partingFrom_9 rfl rfl dX6_partingFrom_4 ?_
    obtain ⟨q, hq, -⟩ := WC_bits hG hv0
    refine va_alen (v := 3) hx hb hK hP q 1 hq rfl rfl dX6_partingFrom_7 ?_
    refine lv_icmp_ge (tgt := 56) hx hb dX6_partingFrom_8 (by decide) (fun hc => ?_) (fun hc => ?_)
    · have hm := if_t hc hm
      exact hk56  _ _ _ hP hS (lv_sub hl [] rfl) hm
    · have hm := if_f hc hm
      refine lv_iload_n hx hb dX6_partingFrom_11 rfl (lv_at hl 2 rfl) ?_
      refine lv_aload_n hx hb dX6_partingFrom_12 rfl (lv_at hl 1 rfl) ?_
      obtain ⟨q, hq, -⟩ := WC_W hG hv1
      refine kg (v := .ref (wb v1)) hx hb hts hiX6_partingFrom_X6 hown hK hP q hq rfl 0 (by decide) flX6_partingFrom_9 rfl rfl dX6_partingFrom_13 ?_
      obtain ⟨q, hq, -⟩ := WC_bits hG hv1
      refine va_alen (v := 3) hx hb hK hP q 1 hq rfl rfl dX6_partingFrom_16 ?_
      refine lv_icmp_ge (tgt := 56) hx hb dX6_partingFrom_17 (by decide) (fun hc => ?_) (fun hc => ?_)
      · have hm := if_t hc hm
        exact hk56  _ _ _ hP hS (lv_sub hl [] rfl) hm
      · have hm := if_f hc hm
        refine lv_aload_n hx hb dX6_partingFrom_20 rfl (lv_at hl 0 rfl) ?_
        obtain ⟨q, hq, -⟩ := WC_W hG hv0
        refine kg (v := .ref (wb v0)) hx hb hts hiX6_partingFrom_X6 hown hK hP q hq rfl 0 (by decide) flX6_partingFrom_9 rfl rfl dX6_partingFrom_21 ?_
        refine lv_iload_n hx hb dX6_partingFrom_24 rfl (lv_at hl 2 rfl) ?_
        obtain ⟨hi, hm⟩ := ga_some hm
        obtain ⟨q, hq, -⟩ := WC_bits hG hv0
        refine k_lald hx hb hK hP q 1 hq rfl rfl hi dX6_partingFrom_25 ?_
        refine lv_aload_n hx hb dX6_partingFrom_26 rfl (lv_at hl 1 rfl) ?_
        obtain ⟨q, hq, -⟩ := WC_W hG hv1
        refine kg (v := .ref (wb v1)) hx hb hts hiX6_partingFrom_X6 hown hK hP q hq rfl 0 (by decide) flX6_partingFrom_9 rfl rfl dX6_partingFrom_27 ?_
        refine lv_iload_n hx hb dX6_partingFrom_30 rfl (lv_at hl 2 rfl) ?_
        obtain ⟨hi, hm⟩ := ga_some hm
        obtain ⟨q, hq, -⟩ := WC_bits hG hv1
        refine k_lald hx hb hK hP q 1 hq rfl rfl hi dX6_partingFrom_31 ?_
        refine lv_lxor hx hb dX6_partingFrom_32 ?_
        refine lv_lstore_n (lv' := [(3, .long ((c_bits v0 v2.toNatClampNeg) ^^^ (c_bits v1 v2.toNatClampNeg))), (0, .ref v0), (1, .ref v1), (2, .int v2)]) hx hb dX6_partingFrom_33 rfl hl (by decide) rfl (fun ls hl => ?_)
        refine lv_lload_n hx hb dX6_partingFrom_34 rfl (lv_at hl 0 rfl) ?_
        refine lv_lconst (v := 0) hx hb dX6_partingFrom_35 rfl ?_
        refine W.lcmp hx hb dX6_partingFrom_36 ?_
        refine lv_if_eq (tgt := 50) hx hb dX6_partingFrom_37 (by decide) (fun hc => ?_) (fun hc => ?_)
        · have hm := if_t hc hm
          refine lv_iinc (v := (v2 + 1)) (lv' := [(2, .int (v2 + 1)), (3, .long ((c_bits v0 v2.toNatClampNeg) ^^^ (c_bits v1 v2.toNatClampNeg))), (0, .ref v0), (1, .ref v1)]) hx hb dX6_partingFrom_50 hl (k := 3) rfl rfl (by decide) rfl (fun ls hl => ?_)
          refine lv_goto (tgt := 2) hx hb dX6_partingFrom_53 (by decide) ?_
          exact ih _ _ _ _ hP hS (lv_sub hl [2, 3, 0] rfl) hm
        · have hm := if_f hc hm
          exact hk40 _ _ _ _ _ hP hS (lv_sub hl [3, 0] rfl) hm
set_option maxRecDepth 100000 in
set_option maxHeartbeats 4000000 in
theorem c_X6_partingFrom {l : Launch} {D : va_G} {cI cJ cB cL cS cW : ClassId} {a wb sw se : Nat → Nat} {LW LS LK : List Nat} {c_bytes c_heads c_firsts c_levelOf c_aboveOf c_partings c_signs c_count c_pages c_levels c_most c_page c_known c_guess c_diff c_pieces c_place : Nat → Int32} {c_bits : Nat → Nat → Int64} {c_words : Nat → Nat → Nat} {c_entries : Nat → Nat → Int32} {c_bads c_noes c_fulls c_length c_next c_kept c_base c_from c_to c_above c_bit c_lastLeft : Int32} {v0 : Nat} {v1 : Nat} {r : Int32} (hG : kG a LW LS LK) (hv0 : v0 ∈ LW) (hv1 : v1 ∈ LW) (hm : C6_partingFrom c_bits v0 v1 = some r) : k_MI l yX6_partingFrom wsX6_partingFrom { frames := 2, cells := 0, slots := 0, locals := 43 } D (kT cI cJ cB cL cS cW) [.ref v0, .ref v1] (WC a wb sw se LW LS LK cI cJ cB cL cS cW c_bytes c_heads c_firsts c_levelOf c_aboveOf c_partings c_signs c_count c_pages c_levels c_most c_page c_known c_guess c_diff c_pieces c_place c_bits c_words c_entries c_bads c_noes c_fulls c_length c_next c_kept c_base c_from c_to c_above c_bit c_lastLeft) r (WC a wb sw se LW LS LK cI cJ cB cL cS cW c_bytes c_heads c_firsts c_levelOf c_aboveOf c_partings c_signs c_count c_pages c_levels c_most c_page c_known c_guess c_diff c_pieces c_place c_bits c_words c_entries c_bads c_noes c_fulls c_length c_next c_kept c_base c_from c_to c_above c_bit c_lastLeft) := by
  refine k_ofI (cc := cX6_partingFrom) (maxL := 5) (own := RX6) (by decide) rfl rfl (Nat.le_of_ble_eq_true rfl) ?_
  intro p e s m args below meth c A Q ls C hP hD hl hret
  have hD : va_D A (WC0 a wb sw se LW LS LK cI cJ cB cL cS cW) := WCD hD
  have hS : va_S A s.heap s.heap [] := va_S.rf
  have hl : lv_has ls 5 [(0, .ref v0), (1, .ref v1)] := hl
  obtain ⟨hx, hb, hml, hr, hown, hts, hlocks, hK, hA, hN⟩ := id C
  rw [C6_partingFrom] at hm
  refine lv_iconst (v := 0) hx hb dX6_partingFrom_0 (by decide) ?_
  refine lv_istore_n (lv' := [(2, .int 0), (0, .ref v0), (1, .ref v1)]) hx hb dX6_partingFrom_1 rfl hl (by decide) rfl (fun ls hl => ?_)
  refine t_C6_partingFrom_L2 C hD hG hv0 hv1 hret ?_ ?_ FU _ _ _ _ hP hS (lv_sub hl [1, 2, 0] rfl) hm
  · intro v2 v3 H locs ls hP hS hl hm
    try dsimp only at hm
    refine lv_bipush (v := 64) hx hb dX6_partingFrom_40 (by decide) ?_
    refine lv_iload_n hx hb dX6_partingFrom_42 rfl (lv_at hl 0 rfl) ?_
    refine lv_imul hx hb dX6_partingFrom_43 ?_
    refine lv_lload_n hx hb dX6_partingFrom_44 rfl (lv_at hl 1 rfl) ?_
    obtain ⟨r45, hq0, hm⟩ := bd1_some hm
    refine k_callSI (As := [.long v3]) (rest := [.int (64 * v2)]) ⟨hx, hb, hml, hown, hts⟩ hK hA hN (c_J13_numberOfLeadingZeros_95d88 hG hq0) (va_cwS 1 hts gX6_partingFrom_J13_numberOfLeadingZeros_95d88 rfl rfl rfl hdJ13_numberOfLeadingZeros_95d88 ⟨Nat.le_of_ble_eq_true rfl, Nat.le_of_ble_eq_true rfl⟩) hP (WCD hD) hS hl.1 rfl rfl (Nat.le_of_ble_eq_true rfl) ⟨Nat.zero_le _, Nat.zero_le _⟩ dX6_partingFrom_45 (fun H locs hP hS => ?_)
    refine lv_iadd hx hb dX6_partingFrom_48 ?_
    obtain rfl := Option.some.inj hm
    exact hret _ _ _ _ dX6_partingFrom_49 hP hS
  · intro  H locs ls hP hS hl hm
    try dsimp only at hm
    refine lv_iconst (v := (-1)) hx hb dX6_partingFrom_56 (by decide) ?_
    obtain rfl := Option.some.inj hm
    exact hret _ _ _ _ dX6_partingFrom_57 hP hS
theorem hdX0_lookAt : yX0_lookAt.cls = RX0 ∧ yX0_lookAt.cls ≠ "java/lang/invoke/MethodHandle" ∧ yX0_lookAt.cls ≠ "java/lang/invoke/VarHandle" ∧ (parseMethodDescriptor yX0_lookAt.desc).map (fun d => d.parameters.length) = some 4 := by decide +kernel
theorem hiX0_lookAt_X0 : ∀ w ∈ u_ws RX0 TX0 7, w ∈ wsX0_lookAt := by decide +kernel
theorem hiX0_lookAt_X1 : ∀ w ∈ u_ws RX1 TX1 6, w ∈ wsX0_lookAt := by decide +kernel
theorem hiX0_lookAt_X5 : ∀ w ∈ u_ws RX5 TX5 7, w ∈ wsX0_lookAt := by decide +kernel
theorem hiX0_lookAt_X6 : ∀ w ∈ u_ws RX6 TX6 2, w ∈ wsX0_lookAt := by decide +kernel
theorem flX0_lookAt_34 : Cond.fieldLink RX0 34 "BlindPages$Index" "tree" "LBlindPages$Tree;" ∈ wsX0_lookAt := by decide +kernel
theorem flX0_lookAt_12 : Cond.fieldLink RX0 12 "BlindPages$Index" "now" "LBlindPages$State;" ∈ wsX0_lookAt := by decide +kernel
theorem flX0_lookAt_101 : Cond.fieldLink RX0 101 "BlindPages$Tree" "from" "I" ∈ wsX0_lookAt := by decide +kernel
theorem flX0_lookAt_104 : Cond.fieldLink RX0 104 "BlindPages$Look" "page" "I" ∈ wsX0_lookAt := by decide +kernel
theorem flX0_lookAt_107 : Cond.fieldLink RX0 107 "BlindPages$Look" "known" "I" ∈ wsX0_lookAt := by decide +kernel
theorem flX0_lookAt_110 : Cond.fieldLink RX0 110 "BlindPages$Look" "guess" "I" ∈ wsX0_lookAt := by decide +kernel
theorem flX0_lookAt_113 : Cond.fieldLink RX0 113 "BlindPages$Look" "diff" "I" ∈ wsX0_lookAt := by decide +kernel
theorem flX0_lookAt_116 : Cond.fieldLink RX0 116 "BlindPages$Word" "signs" "I" ∈ wsX0_lookAt := by decide +kernel
theorem flX0_lookAt_122 : Cond.fieldLink RX0 122 "BlindPages$Look" "pieces" "I" ∈ wsX0_lookAt := by decide +kernel
theorem flX0_lookAt_125 : Cond.fieldLink RX0 125 "BlindPages$Look" "place" "I" ∈ wsX0_lookAt := by decide +kernel
theorem flX0_lookAt_131 : Cond.fieldLink RX0 131 "BlindPages$Tree" "to" "I" ∈ wsX0_lookAt := by decide +kernel
def C0_lookAt_J113 (a : Nat → Nat) (LW : List Nat) (c_heads c_firsts c_partings c_signs c_pages : Nat → Int32) (c_bits : Nat → Nat → Int64) (c_words : Nat → Nat → Nat) (c_entries : Nat → Nat → Int32) (v1 : Nat) (v2 : Int32) (v3 : Int32) (v4 : Nat) (c_page : (Nat → Int32)) (c_known : (Nat → Int32)) (c_guess : (Nat → Int32)) (c_diff : (Nat → Int32)) (c_pieces : (Nat → Int32)) (c_place : (Nat → Int32)) (c_base : Int32) (c_from : Int32) (c_to : Int32) (c_above : Int32) (c_bit : Int32) (c_lastLeft : Int32) (v5 : Int32) (t0 : Int32) : Option ((Nat → Int32) × (Nat → Int32) × (Nat → Int32) × (Nat → Int32) × (Nat → Int32) × (Nat → Int32) × Int32 × Int32 × Int32 × Int32 × Int32 × Int32) := if (c_diff v4) = (-1) then (some (c_page, c_known, c_guess, c_diff, (va_up c_pieces v4 (if (0 : Int32) < (((t0 / 32) - (v3 / 32)) + 1) then (((t0 / 32) - (v3 / 32)) + 1) else 0)), (va_up c_place v4 ((c_guess v4) + 1)), c_base, c_from, c_to, c_above, c_bit, c_lastLeft)) else (bd1 (C3_entriesOf c_pages c_entries (a 14) v2) fun r169 => bd6 (C5_open c_partings c_base c_from c_to c_above c_bit c_lastLeft v5 r169) fun c_base_172 c_from_172 c_to_172 c_above_172 c_bit_172 c_lastLeft_172 => bd5 (C5_descend c_partings c_bits c_base_172 c_from_172 c_to_172 c_above_172 c_bit_172 c_lastLeft_172 v1 (c_diff v4)) fun c_from_185 c_to_185 c_above_185 c_bit_185 c_lastLeft_185 => bd1 (C6_bitAt c_bits v1 (c_diff v4)) fun r196 => if r196 = 0 then (some (c_page, c_known, c_guess, c_diff, (va_up c_pieces v4 (if (0 : Int32) < (((t0 / 32) - (v3 / 32)) + 1) then (((t0 / 32) - (v3 / 32)) + 1) else 0)), (va_up c_place v4 c_from_185), c_base_172, c_from_185, c_to_185, c_above_185, c_bit_185, c_lastLeft_185)) else (some (c_page, c_known, c_guess, c_diff, (va_up c_pieces v4 (if (0 : Int32) < (((t0 / 32) - (v3 / 32)) + 1) then (((t0 / 32) - (v3 / 32)) + 1) else 0)), (va_up c_place v4 (c_to_185 + 1)), c_base_172, c_from_185, c_to_185, c_above_185, c_bit_185, c_lastLeft_185)))
def C0_lookAt (a : Nat → Nat) (LW : List Nat) (c_heads c_firsts c_partings c_signs c_pages : Nat → Int32) (c_bits : Nat → Nat → Int64) (c_words : Nat → Nat → Nat) (c_entries : Nat → Nat → Int32) (c_page c_known c_guess c_diff c_pieces c_place : Nat → Int32) (c_base c_from c_to c_above c_bit c_lastLeft : Int32) (v1 : Nat) (v2 : Int32) (v3 : Int32) (v4 : Nat) : Option ((Nat → Int32) × (Nat → Int32) × (Nat → Int32) × (Nat → Int32) × (Nat → Int32) × (Nat → Int32) × Int32 × Int32 × Int32 × Int32 × Int32 × Int32) := bd1 (C0_firstOf c_firsts v2) fun r2 => bd1 (C3_entriesOf c_pages c_entries (a 14) v2) fun r18 => bd6 (C5_open c_partings c_base c_from c_to c_above c_bit c_lastLeft r2 r18) fun c_base_21 c_from_21 c_to_21 c_above_21 c_bit_21 c_lastLeft_21 => bd5 (C5_descend c_partings c_bits c_base_21 c_from_21 c_to_21 c_above_21 c_bit_21 c_lastLeft_21 v1 192) fun c_from_32 c_to_32 c_above_32 c_bit_32 c_lastLeft_32 => bd1 (C0_headWord a LW c_heads c_words (r2 + c_from_32)) fun r46 => gm LW r46 (bd1 (C6_partingFrom c_bits v1 r46) fun r80 => if ((va_up c_diff v4 r80) v4) = (-1) then (C0_lookAt_J113 a LW c_heads c_firsts c_partings c_signs c_pages c_bits c_words c_entries v1 v2 v3 v4 (va_up c_page v4 v2) (va_up c_known v4 v3) (va_up c_guess v4 c_from_32) (va_up c_diff v4 r80) c_pieces c_place c_base_21 c_from_32 c_to_32 c_above_32 c_bit_32 c_lastLeft_32 r2 ((8 * (c_signs r46)) - 1)) else (C0_lookAt_J113 a LW c_heads c_firsts c_partings c_signs c_pages c_bits c_words c_entries v1 v2 v3 v4 (va_up c_page v4 v2) (va_up c_known v4 v3) (va_up c_guess v4 c_from_32) (va_up c_diff v4 r80) c_pieces c_place c_base_21 c_from_32 c_to_32 c_above_32 c_bit_32 c_lastLeft_32 r2 ((va_up c_diff v4 r80) v4)))
set_option maxRecDepth 100000 in
set_option maxHeartbeats 4000000 in
theorem t_C0_lookAt_J113 {p : Program} {l : Launch} {e : Env} {s : State} {m : MethodId} {args : Array Value} {below : List Frame} {meth : Method} {c : Code} {Q : State → Prop} {A : Nat → Prop} {D : va_G} {cI cJ cB cL cS cW : ClassId} {a wb sw se : Nat → Nat} {LW LS LK : List Nat} {c_bytes c_heads c_firsts c_levelOf c_aboveOf c_partings c_signs c_count c_pages c_levels c_most : Nat → Int32} {c_bits : Nat → Nat → Int64} {c_words : Nat → Nat → Nat} {c_entries : Nat → Nat → Int32} {c_bads c_noes c_fulls c_length c_next c_kept : Int32} {v1 : Nat} {v2 : Int32} {v3 : Int32} {v4 : Nat} {o_page : Nat → Int32} {o_known : Nat → Int32} {o_guess : Nat → Int32} {o_diff : Nat → Int32} {o_pieces : Nat → Int32} {o_place : Nat → Int32} {o_base : Int32} {o_from : Int32} {o_to : Int32} {o_above : Int32} {o_bit : Int32} {o_lastLeft : Int32} (C : k_C p s m args meth c cX0_lookAt 8 none RX0 wsX0_lookAt D (kT cI cJ cB cL cS cW) A) (hD : va_D A (WC0 a wb sw se LW LS LK cI cJ cB cL cS cW)) (hG : kG a LW LS LK) (hv1 : v1 ∈ LW) (hv4 : v4 ∈ LK) (hret : ∀ (H : Heap) (locs : List Loc) (pc : Nat) (ls : Array Slot), decode cX0_lookAt pc = .ok (.return_, 1) → va_P D vwCl (WC a wb sw se LW LS LK cI cJ cB cL cS cW c_bytes c_heads c_firsts c_levelOf c_aboveOf c_partings c_signs c_count c_pages c_levels c_most o_page o_known o_guess o_diff o_pieces o_place c_bits c_words c_entries c_bads c_noes c_fulls c_length c_next c_kept o_base o_from o_to o_above o_bit o_lastLeft) H → va_S A s.heap H locs → W p l e { frames := 3, cells := 0, slots := 0, locals := 67 } s m args below meth c H locs 0 0 Q (F0 m pc ls [])) : ∀ (c_page : (Nat → Int32)) (c_known : (Nat → Int32)) (c_guess : (Nat → Int32)) (c_diff : (Nat → Int32)) (c_pieces : (Nat → Int32)) (c_place : (Nat → Int32)) (c_base : Int32) (c_from : Int32) (c_to : Int32) (c_above : Int32) (c_bit : Int32) (c_lastLeft : Int32) (v5 : Int32) (t0 : Int32) (H : Heap) (locs : List Loc) (ls : Array Slot), va_P D vwCl (WC a wb sw se LW LS LK cI cJ cB cL cS cW c_bytes c_heads c_firsts c_levelOf c_aboveOf c_partings c_signs c_count c_pages c_levels c_most c_page c_known c_guess c_diff c_pieces c_place c_bits c_words c_entries c_bads c_noes c_fulls c_length c_next c_kept c_base c_from c_to c_above c_bit c_lastLeft) H → va_S A s.heap H locs → lv_has ls 8 [(0, .ref (a 3)), (1, .ref v1), (2, .int v2), (3, .int v3), (4, .ref v4), (5, .int v5)] → C0_lookAt_J113 a LW c_heads c_firsts c_partings c_signs c_pages c_bits c_words c_entries v1 v2 v3 v4 c_page c_known c_guess c_diff c_pieces c_place c_base c_from c_to c_above c_bit c_lastLeft v5 t0 = some (o_page, o_known, o_guess, o_diff, o_pieces, o_place, o_base, o_from, o_to, o_above, o_bit, o_lastLeft) → W p l e { frames := 3, cells := 0, slots := 0, locals := 67 } s m args below meth c H locs 0 0 Q (F0 m 113 ls [.int t0]) := by
  obtain ⟨hx, hb, hml, hr, hown, hts, hlocks, hK, hA, hN⟩ := id C
  intro c_page c_known c_guess c_diff c_pieces c_place c_base c_from c_to c_above c_bit c_lastLeft v5 t0 H locs ls hP hS hl hm
  rw [C0_lookAt_J113] at hm
  refine lv_istore (lv' := [(7, .int t0), (0, .ref (a 3)), (1, .ref v1), (2, .int v2), (3, .int v3), (4, .ref v4), (5, .int v5)]) hx hb dX0_lookAt_113 hl (by decide) rfl (fun ls hl => ?_)
  refine lv_aload hx hb dX0_lookAt_115 (lv_at hl 5 rfl) ?_
  refine lv_iconst (v := 0) hx hb dX0_lookAt_117 (by decide) ?_
  refine lv_iload hx hb dX0_lookAt_118 (lv_at hl 0 rfl) ?_
  refine lv_bipush (v := 32) hx hb dX0_lookAt_120 (by decide) ?_
  refine lv_idiv hx hb dX0_lookAt_122 (by decide) ?_
  refine lv_iload_n hx hb dX0_lookAt_123 rfl (lv_at hl 4 rfl) ?_
  refine lv_bipush (v := 32) hx hb dX0_lookAt_124 (by decide) ?_
  refine lv_idiv hx hb dX0_lookAt_126 (by decide) ?_
  refine lv_isub hx hb dX0_lookAt_127 ?_
  refine lv_iconst (v := 1) hx hb dX0_lookAt_128 (by decide) ?_
  refine lv_iadd hx hb dX0_lookAt_129 ?_
  refine va_mmax hx hb (by rw [hml]; exact hl.1.symm) hown (hts (.methodLink RX0 119 Lib.Math.max.name) (by decide +kernel)) (hts (.static Lib.Math.max.name) (by decide +kernel)) (hts (.initialized "java/lang/Math") (by decide +kernel)) (hts (.code Lib.Math.max.name Lib.Math.max.code 2 (some .int)) (by decide +kernel)) (Nat.le_of_ble_eq_true rfl) (Nat.le_of_ble_eq_true rfl) (Nat.zero_le _) (Nat.zero_le _) dX0_lookAt_130 ?_
  obtain ⟨q, hq, he⟩ := WC_K hG hv4
  refine kp hx hb hts hiX0_lookAt_X1 tyX1 tyX1_ok nmX1 hown hK hP (WCD hD) hS q hq rfl 4 (by decide) flX0_lookAt_122 rfl rfl rfl (Nat.le_of_ble_eq_true rfl) dX0_lookAt_133 (fun H locs hP hS => ?_)
  have hP : va_P D vwCl (WC a wb sw se LW LS LK cI cJ cB cL cS cW c_bytes c_heads c_firsts c_levelOf c_aboveOf c_partings c_signs c_count c_pages c_levels c_most c_page c_known c_guess c_diff (va_up c_pieces v4 (if (0 : Int32) < (((t0 / 32) - (v3 / 32)) + 1) then (((t0 / 32) - (v3 / 32)) + 1) else 0)) c_place c_bits c_words c_entries c_bads c_noes c_fulls c_length c_next c_kept c_base c_from c_to c_above c_bit c_lastLeft) H := by rw [← he.2.2.2.2.1]; exact hP
  refine lv_aload hx hb dX0_lookAt_136 (lv_at hl 5 rfl) ?_
  obtain ⟨q, hq, -⟩ := WC_K hG hv4
  refine kg (v := .int (c_diff v4)) hx hb hts hiX0_lookAt_X1 hown hK hP q hq rfl 3 (by decide) flX0_lookAt_113 rfl rfl dX0_lookAt_138 ?_
  refine lv_iconst (v := (-1)) hx hb dX0_lookAt_141 (by decide) ?_
  refine lv_icmp_ne (tgt := 158) hx hb dX0_lookAt_142 (by decide) (fun hc => ?_) (fun hc => ?_)
  · have hm := if_f hc hm
    refine lv_aload_n hx hb dX0_lookAt_158 rfl (lv_at hl 1 rfl) ?_
    refine kg (v := .ref (a 8)) hx hb hts hiX0_lookAt_X0 hown hK hP 3 rfl rfl 5 (by decide) flX0_lookAt_34 rfl rfl dX0_lookAt_159 ?_
    refine lv_iload hx hb dX0_lookAt_162 (lv_at hl 6 rfl) ?_
    refine lv_aload_n hx hb dX0_lookAt_164 rfl (lv_at hl 1 rfl) ?_
    refine kg (v := .ref (a 14)) hx hb hts hiX0_lookAt_X0 hown hK hP 3 rfl rfl 0 (by decide) flX0_lookAt_12 rfl rfl dX0_lookAt_165 ?_
    refine lv_iload_n hx hb dX0_lookAt_168 rfl (lv_at hl 3 rfl) ?_
    obtain ⟨r169, hq0, hm⟩ := bd1_some hm
    obtain ⟨q, hq, -⟩ := WC_S hG hG.2.2.2.2.1
    refine k_callVI (As := [.int v2]) (rest := [.int v5, .ref (a 8)]) ⟨hx, hb, hml, hown, hts⟩ hK hA hN (c_X3_entriesOf hG hG.2.2.2.2.1 hq0) (cwV 1 hts gX0_lookAt_X3_entriesOf rfl rfl rfl hdX3_entriesOf ⟨Nat.le_of_ble_eq_true rfl, Nat.le_of_ble_eq_true rfl⟩) hP (WCD hD) hS q 3 hq rfl rfl hl.1 rfl rfl (Nat.le_of_ble_eq_true rfl) ⟨Nat.zero_le _, Nat.zero_le _⟩ dX0_lookAt_169 (fun H locs hP hS => ?_)
    obtain ⟨c_base_172, c_from_172, c_to_172, c_above_172, c_bit_172, c_lastLeft_172, hq0, hm⟩ := bd6_some hm
    refine k_callVV (As := [.int v5, .int r169]) (rest := []) ⟨hx, hb, hml, hown, hts⟩ hK hA hN (c_X5_open hG hq0) (cwV 2 hts gX0_lookAt_X5_open rfl rfl rfl hdX5_open ⟨Nat.le_of_ble_eq_true rfl, Nat.le_of_ble_eq_true rfl⟩) hP (WCD hD) hS 8 5 rfl rfl rfl hl.1 rfl rfl (Nat.le_of_ble_eq_true rfl) ⟨Nat.zero_le _, Nat.zero_le _⟩ dX0_lookAt_172 (fun H locs hP hS => ?_)
    refine lv_aload_n hx hb dX0_lookAt_175 rfl (lv_at hl 1 rfl) ?_
    refine kg (v := .ref (a 8)) hx hb hts hiX0_lookAt_X0 hown hK hP 3 rfl rfl 5 (by decide) flX0_lookAt_34 rfl rfl dX0_lookAt_176 ?_
    refine lv_aload_n hx hb dX0_lookAt_179 rfl (lv_at hl 2 rfl) ?_
    refine lv_aload hx hb dX0_lookAt_180 (lv_at hl 5 rfl) ?_
    obtain ⟨q, hq, -⟩ := WC_K hG hv4
    refine kg (v := .int (c_diff v4)) hx hb hts hiX0_lookAt_X1 hown hK hP q hq rfl 3 (by decide) flX0_lookAt_113 rfl rfl dX0_lookAt_182 ?_
    obtain ⟨c_from_185, c_to_185, c_above_185, c_bit_185, c_lastLeft_185, hq0, hm⟩ := bd5_some hm
    refine k_callVV (As := [.ref v1, .int (c_diff v4)]) (rest := []) ⟨hx, hb, hml, hown, hts⟩ hK hA hN (c_X5_descend hG hv1 hq0) (cwV 2 hts gX0_lookAt_X5_descend rfl rfl rfl hdX5_descend ⟨Nat.le_of_ble_eq_true rfl, Nat.le_of_ble_eq_true rfl⟩) hP (WCD hD) hS 8 5 rfl rfl rfl hl.1 rfl rfl (Nat.le_of_ble_eq_true rfl) ⟨Nat.zero_le _, Nat.zero_le _⟩ dX0_lookAt_185 (fun H locs hP hS => ?_)
    refine lv_aload hx hb dX0_lookAt_188 (lv_at hl 5 rfl) ?_
    refine lv_aload_n hx hb dX0_lookAt_190 rfl (lv_at hl 2 rfl) ?_
    refine lv_aload hx hb dX0_lookAt_191 (lv_at hl 5 rfl) ?_
    obtain ⟨q, hq, -⟩ := WC_K hG hv4
    refine kg (v := .int (c_diff v4)) hx hb hts hiX0_lookAt_X1 hown hK hP q hq rfl 3 (by decide) flX0_lookAt_113 rfl rfl dX0_lookAt_193 ?_
    obtain ⟨r196, hq0, hm⟩ := bd1_some hm
    obtain ⟨q, hq, -⟩ := WC_W hG hv1
    refine k_callVI (As := [.int (c_diff v4)]) (rest := [.ref v4]) ⟨hx, hb, hml, hown, hts⟩ hK hA hN (c_X6_bitAt hG hv1 hq0) (cwV 1 hts gX0_lookAt_X6_bitAt rfl rfl rfl hdX6_bitAt ⟨Nat.le_of_ble_eq_true rfl, Nat.le_of_ble_eq_true rfl⟩) hP (WCD hD) hS q 6 hq rfl rfl hl.1 rfl rfl (Nat.le_of_ble_eq_true rfl) ⟨Nat.zero_le _, Nat.zero_le _⟩ dX0_lookAt_196 (fun H locs hP hS => ?_)
    refine lv_if_ne (tgt := 212) hx hb dX0_lookAt_199 (by decide) (fun hc => ?_) (fun hc => ?_)
    · have hm := if_f hc hm
      refine lv_aload_n hx hb dX0_lookAt_212 rfl (lv_at hl 1 rfl) ?_
      refine kg (v := .ref (a 8)) hx hb hts hiX0_lookAt_X0 hown hK hP 3 rfl rfl 5 (by decide) flX0_lookAt_34 rfl rfl dX0_lookAt_213 ?_
      refine kg (v := .int c_to_185) hx hb hts hiX0_lookAt_X5 hown hK hP 8 rfl rfl 3 (by decide) flX0_lookAt_131 rfl rfl dX0_lookAt_216 ?_
      refine lv_iconst (v := 1) hx hb dX0_lookAt_219 (by decide) ?_
      refine lv_iadd hx hb dX0_lookAt_220 ?_
      obtain ⟨q, hq, he⟩ := WC_K hG hv4
      refine kp hx hb hts hiX0_lookAt_X1 tyX1 tyX1_ok nmX1 hown hK hP (WCD hD) hS q hq rfl 5 (by decide) flX0_lookAt_125 rfl rfl rfl (Nat.le_of_ble_eq_true rfl) dX0_lookAt_221 (fun H locs hP hS => ?_)
      have hP : va_P D vwCl (WC a wb sw se LW LS LK cI cJ cB cL cS cW c_bytes c_heads c_firsts c_levelOf c_aboveOf c_partings c_signs c_count c_pages c_levels c_most c_page c_known c_guess c_diff (va_up c_pieces v4 (if (0 : Int32) < (((t0 / 32) - (v3 / 32)) + 1) then (((t0 / 32) - (v3 / 32)) + 1) else 0)) (va_up c_place v4 (c_to_185 + 1)) c_bits c_words c_entries c_bads c_noes c_fulls c_length c_next c_kept c_base_172 c_from_185 c_to_185 c_above_185 c_bit_185 c_lastLeft_185) H := by rw [← he.2.2.2.2.2]; exact hP
      simp only [Option.some.injEq, Prod.mk.injEq] at hm
      obtain ⟨rfl, rfl, rfl, rfl, rfl, rfl, rfl, rfl, rfl, rfl, rfl, rfl⟩ := hm
      exact hret _ _ _ _ dX0_lookAt_224 hP hS
    · have hm := if_t hc hm
      refine lv_aload_n hx hb dX0_lookAt_202 rfl (lv_at hl 1 rfl) ?_
      refine kg (v := .ref (a 8)) hx hb hts hiX0_lookAt_X0 hown hK hP 3 rfl rfl 5 (by decide) flX0_lookAt_34 rfl rfl dX0_lookAt_203 ?_
      refine kg (v := .int c_from_185) hx hb hts hiX0_lookAt_X5 hown hK hP 8 rfl rfl 2 (by decide) flX0_lookAt_101 rfl rfl dX0_lookAt_206 ?_
      refine lv_goto (tgt := 221) hx hb dX0_lookAt_209 (by decide) ?_
      obtain ⟨q, hq, he⟩ := WC_K hG hv4
      refine kp hx hb hts hiX0_lookAt_X1 tyX1 tyX1_ok nmX1 hown hK hP (WCD hD) hS q hq rfl 5 (by decide) flX0_lookAt_125 rfl rfl rfl (Nat.le_of_ble_eq_true rfl) dX0_lookAt_221 (fun H locs hP hS => ?_)
      have hP : va_P D vwCl (WC a wb sw se LW LS LK cI cJ cB cL cS cW c_bytes c_heads c_firsts c_levelOf c_aboveOf c_partings c_signs c_count c_pages c_levels c_most c_page c_known c_guess c_diff (va_up c_pieces v4 (if (0 : Int32) < (((t0 / 32) - (v3 / 32)) + 1) then (((t0 / 32) - (v3 / 32)) + 1) else 0)) (va_up c_place v4 c_from_185) c_bits c_words c_entries c_bads c_noes c_fulls c_length c_next c_kept c_base_172 c_from_185 c_to_185 c_above_185 c_bit_185 c_lastLeft_185) H := by rw [← he.2.2.2.2.2]; exact hP
      simp only [Option.some.injEq, Prod.mk.injEq] at hm
      obtain ⟨rfl, rfl, rfl, rfl, rfl, rfl, rfl, rfl, rfl, rfl, rfl, rfl⟩ := hm
      exact hret _ _ _ _ dX0_lookAt_224 hP hS
  · have hm := if_t hc hm
    refine lv_aload hx hb dX0_lookAt_145 (lv_at hl 5 rfl) ?_
    refine lv_aload hx hb dX0_lookAt_147 (lv_at hl 5 rfl) ?_
    obtain ⟨q, hq, -⟩ := WC_K hG hv4
    refine kg (v := .int (c_guess v4)) hx hb hts hiX0_lookAt_X1 hown hK hP q hq rfl 2 (by decide) flX0_lookAt_110 rfl rfl dX0_lookAt_149 ?_
    refine lv_iconst (v := 1) hx hb dX0_lookAt_152 (by decide) ?_
    refine lv_iadd hx hb dX0_lookAt_153 ?_
    obtain ⟨q, hq, he⟩ := WC_K hG hv4
    refine kp hx hb hts hiX0_lookAt_X1 tyX1 tyX1_ok nmX1 hown hK hP (WCD hD) hS q hq rfl 5 (by decide) flX0_lookAt_125 rfl rfl rfl (Nat.le_of_ble_eq_true rfl) dX0_lookAt_154 (fun H locs hP hS => ?_)
    have hP : va_P D vwCl (WC a wb sw se LW LS LK cI cJ cB cL cS cW c_bytes c_heads c_firsts c_levelOf c_aboveOf c_partings c_signs c_count c_pages c_levels c_most c_page c_known c_guess c_diff (va_up c_pieces v4 (if (0 : Int32) < (((t0 / 32) - (v3 / 32)) + 1) then (((t0 / 32) - (v3 / 32)) + 1) else 0)) (va_up c_place v4 ((c_guess v4) + 1)) c_bits c_words c_entries c_bads c_noes c_fulls c_length c_next c_kept c_base c_from c_to c_above c_bit c_lastLeft) H := by rw [← he.2.2.2.2.2]; exact hP
    simp only [Option.some.injEq, Prod.mk.injEq] at hm
    obtain ⟨rfl, rfl, rfl, rfl, rfl, rfl, rfl, rfl, rfl, rfl, rfl, rfl⟩ := hm
    exact hret _ _ _ _ dX0_lookAt_157 hP hS
set_option maxRecDepth 100000 in
set_option maxHeartbeats 4000000 in
theorem c_X0_lookAt {l : Launch} {D : va_G} {cI cJ cB cL cS cW : ClassId} {a wb sw se : Nat → Nat} {LW LS LK : List Nat} {c_bytes c_heads c_firsts c_levelOf c_aboveOf c_partings c_signs c_count c_pages c_levels c_most c_page c_known c_guess c_diff c_pieces c_place : Nat → Int32} {c_bits : Nat → Nat → Int64} {c_words : Nat → Nat → Nat} {c_entries : Nat → Nat → Int32} {c_bads c_noes c_fulls c_length c_next c_kept c_base c_from c_to c_above c_bit c_lastLeft : Int32} {v1 : Nat} {v2 : Int32} {v3 : Int32} {v4 : Nat} {o_page : Nat → Int32} {o_known : Nat → Int32} {o_guess : Nat → Int32} {o_diff : Nat → Int32} {o_pieces : Nat → Int32} {o_place : Nat → Int32} {o_base : Int32} {o_from : Int32} {o_to : Int32} {o_above : Int32} {o_bit : Int32} {o_lastLeft : Int32} (hG : kG a LW LS LK) (hv1 : v1 ∈ LW) (hv4 : v4 ∈ LK) (hm : C0_lookAt a LW c_heads c_firsts c_partings c_signs c_pages c_bits c_words c_entries c_page c_known c_guess c_diff c_pieces c_place c_base c_from c_to c_above c_bit c_lastLeft v1 v2 v3 v4 = some (o_page, o_known, o_guess, o_diff, o_pieces, o_place, o_base, o_from, o_to, o_above, o_bit, o_lastLeft)) : k_MV l yX0_lookAt wsX0_lookAt { frames := 3, cells := 0, slots := 0, locals := 67 } D (kT cI cJ cB cL cS cW) [.ref (a 3), .ref v1, .int v2, .int v3, .ref v4] (WC a wb sw se LW LS LK cI cJ cB cL cS cW c_bytes c_heads c_firsts c_levelOf c_aboveOf c_partings c_signs c_count c_pages c_levels c_most c_page c_known c_guess c_diff c_pieces c_place c_bits c_words c_entries c_bads c_noes c_fulls c_length c_next c_kept c_base c_from c_to c_above c_bit c_lastLeft) (WC a wb sw se LW LS LK cI cJ cB cL cS cW c_bytes c_heads c_firsts c_levelOf c_aboveOf c_partings c_signs c_count c_pages c_levels c_most o_page o_known o_guess o_diff o_pieces o_place c_bits c_words c_entries c_bads c_noes c_fulls c_length c_next c_kept o_base o_from o_to o_above o_bit o_lastLeft) := by
  refine k_ofV (cc := cX0_lookAt) (maxL := 8) (own := RX0) (by decide) rfl rfl (Nat.le_of_ble_eq_true rfl) ?_
  intro p e s m args below meth c A Q ls C hP hD hl hret
  have hD : va_D A (WC0 a wb sw se LW LS LK cI cJ cB cL cS cW) := WCD hD
  have hS : va_S A s.heap s.heap [] := va_S.rf
  have hl : lv_has ls 8 [(0, .ref (a 3)), (1, .ref v1), (2, .int v2), (3, .int v3), (4, .ref v4)] := hl
  obtain ⟨hx, hb, hml, hr, hown, hts, hlocks, hK, hA, hN⟩ := id C
  rw [C0_lookAt] at hm
  refine lv_aload_n hx hb dX0_lookAt_0 rfl (lv_at hl 0 rfl) ?_
  refine lv_iload_n hx hb dX0_lookAt_1 rfl (lv_at hl 2 rfl) ?_
  obtain ⟨r2, hq0, hm⟩ := bd1_some hm
  refine k_callVI (As := [.int v2]) (rest := []) ⟨hx, hb, hml, hown, hts⟩ hK hA hN (c_X0_firstOf hG hq0) (cwV 1 hts gX0_lookAt_X0_firstOf rfl rfl rfl hdX0_firstOf ⟨Nat.le_of_ble_eq_true rfl, Nat.le_of_ble_eq_true rfl⟩) hP (WCD hD) hS 3 0 rfl rfl rfl hl.1 rfl rfl (Nat.le_of_ble_eq_true rfl) ⟨Nat.zero_le _, Nat.zero_le _⟩ dX0_lookAt_2 (fun H locs hP hS => ?_)
  refine lv_istore (lv' := [(5, .int r2), (0, .ref (a 3)), (1, .ref v1), (2, .int v2), (3, .int v3), (4, .ref v4)]) hx hb dX0_lookAt_5 hl (by decide) rfl (fun ls hl => ?_)
  refine lv_aload_n hx hb dX0_lookAt_7 rfl (lv_at hl 1 rfl) ?_
  refine kg (v := .ref (a 8)) hx hb hts hiX0_lookAt_X0 hown hK hP 3 rfl rfl 5 (by decide) flX0_lookAt_34 rfl rfl dX0_lookAt_8 ?_
  refine lv_iload hx hb dX0_lookAt_11 (lv_at hl 0 rfl) ?_
  refine lv_aload_n hx hb dX0_lookAt_13 rfl (lv_at hl 1 rfl) ?_
  refine kg (v := .ref (a 14)) hx hb hts hiX0_lookAt_X0 hown hK hP 3 rfl rfl 0 (by decide) flX0_lookAt_12 rfl rfl dX0_lookAt_14 ?_
  refine lv_iload_n hx hb dX0_lookAt_17 rfl (lv_at hl 3 rfl) ?_
  obtain ⟨r18, hq0, hm⟩ := bd1_some hm
  obtain ⟨q, hq, -⟩ := WC_S hG hG.2.2.2.2.1
  refine k_callVI (As := [.int v2]) (rest := [.int r2, .ref (a 8)]) ⟨hx, hb, hml, hown, hts⟩ hK hA hN (c_X3_entriesOf hG hG.2.2.2.2.1 hq0) (cwV 1 hts gX0_lookAt_X3_entriesOf rfl rfl rfl hdX3_entriesOf ⟨Nat.le_of_ble_eq_true rfl, Nat.le_of_ble_eq_true rfl⟩) hP (WCD hD) hS q 3 hq rfl rfl hl.1 rfl rfl (Nat.le_of_ble_eq_true rfl) ⟨Nat.zero_le _, Nat.zero_le _⟩ dX0_lookAt_18 (fun H locs hP hS => ?_)
  obtain ⟨c_base_21, c_from_21, c_to_21, c_above_21, c_bit_21, c_lastLeft_21, hq0, hm⟩ := bd6_some hm
  refine k_callVV (As := [.int r2, .int r18]) (rest := []) ⟨hx, hb, hml, hown, hts⟩ hK hA hN (c_X5_open hG hq0) (cwV 2 hts gX0_lookAt_X5_open rfl rfl rfl hdX5_open ⟨Nat.le_of_ble_eq_true rfl, Nat.le_of_ble_eq_true rfl⟩) hP (WCD hD) hS 8 5 rfl rfl rfl hl.1 rfl rfl (Nat.le_of_ble_eq_true rfl) ⟨Nat.zero_le _, Nat.zero_le _⟩ dX0_lookAt_21 (fun H locs hP hS => ?_)
  refine lv_aload_n hx hb dX0_lookAt_24 rfl (lv_at hl 1 rfl) ?_
  refine kg (v := .ref (a 8)) hx hb hts hiX0_lookAt_X0 hown hK hP 3 rfl rfl 5 (by decide) flX0_lookAt_34 rfl rfl dX0_lookAt_25 ?_
  refine lv_aload_n hx hb dX0_lookAt_28 rfl (lv_at hl 2 rfl) ?_
  refine lv_sipush (v := 192) hx hb dX0_lookAt_29 (by decide) ?_
  obtain ⟨c_from_32, c_to_32, c_above_32, c_bit_32, c_lastLeft_32, hq0, hm⟩ := bd5_some hm
  refine k_callVV (As := [.ref v1, .int 192]) (rest := []) ⟨hx, hb, hml, hown, hts⟩ hK hA hN (c_X5_descend hG hv1 hq0) (cwV 2 hts gX0_lookAt_X5_descend rfl rfl rfl hdX5_descend ⟨Nat.le_of_ble_eq_true rfl, Nat.le_of_ble_eq_true rfl⟩) hP (WCD hD) hS 8 5 rfl rfl rfl hl.1 rfl rfl (Nat.le_of_ble_eq_true rfl) ⟨Nat.zero_le _, Nat.zero_le _⟩ dX0_lookAt_32 (fun H locs hP hS => ?_)
  refine lv_aload_n hx hb dX0_lookAt_35 rfl (lv_at hl 1 rfl) ?_
  refine lv_iload hx hb dX0_lookAt_36 (lv_at hl 0 rfl) ?_
  refine lv_aload_n hx hb dX0_lookAt_38 rfl (lv_at hl 1 rfl) ?_
  refine kg (v := .ref (a 8)) hx hb hts hiX0_lookAt_X0 hown hK hP 3 rfl rfl 5 (by decide) flX0_lookAt_34 rfl rfl dX0_lookAt_39 ?_
  refine kg (v := .int c_from_32) hx hb hts hiX0_lookAt_X5 hown hK hP 8 rfl rfl 2 (by decide) flX0_lookAt_101 rfl rfl dX0_lookAt_42 ?_
  refine lv_iadd hx hb dX0_lookAt_45 ?_
  obtain ⟨r46, hq0, hm⟩ := bd1_some hm
  obtain ⟨hw46, hm⟩ := gm_some hm
  refine k_callVA (As := [.int (r2 + c_from_32)]) (rest := []) ⟨hx, hb, hml, hown, hts⟩ hK hA hN (c_X0_headWord hG hq0) (cwV 1 hts gX0_lookAt_X0_headWord rfl rfl rfl hdX0_headWord ⟨Nat.le_of_ble_eq_true rfl, Nat.le_of_ble_eq_true rfl⟩) hP (WCD hD) hS 3 0 rfl rfl rfl hl.1 rfl rfl (Nat.le_of_ble_eq_true rfl) ⟨Nat.zero_le _, Nat.zero_le _⟩ dX0_lookAt_46 (fun H locs hP hS => ?_)
  refine lv_astore (lv' := [(6, .ref r46), (5, .int r2), (0, .ref (a 3)), (1, .ref v1), (2, .int v2), (3, .int v3), (4, .ref v4)]) hx hb dX0_lookAt_49 hl (by decide) rfl (fun ls hl => ?_)
  refine lv_aload hx hb dX0_lookAt_51 (lv_at hl 6 rfl) ?_
  refine lv_iload_n hx hb dX0_lookAt_53 rfl (lv_at hl 4 rfl) ?_
  obtain ⟨q, hq, he⟩ := WC_K hG hv4
  refine kp hx hb hts hiX0_lookAt_X1 tyX1 tyX1_ok nmX1 hown hK hP (WCD hD) hS q hq rfl 0 (by decide) flX0_lookAt_104 rfl rfl rfl (Nat.le_of_ble_eq_true rfl) dX0_lookAt_54 (fun H locs hP hS => ?_)
  have hP : va_P D vwCl (WC a wb sw se LW LS LK cI cJ cB cL cS cW c_bytes c_heads c_firsts c_levelOf c_aboveOf c_partings c_signs c_count c_pages c_levels c_most (va_up c_page v4 v2) c_known c_guess c_diff c_pieces c_place c_bits c_words c_entries c_bads c_noes c_fulls c_length c_next c_kept c_base_21 c_from_32 c_to_32 c_above_32 c_bit_32 c_lastLeft_32) H := by rw [← he.1]; exact hP
  refine lv_aload hx hb dX0_lookAt_57 (lv_at hl 6 rfl) ?_
  refine lv_iload_n hx hb dX0_lookAt_59 rfl (lv_at hl 5 rfl) ?_
  obtain ⟨q, hq, he⟩ := WC_K hG hv4
  refine kp hx hb hts hiX0_lookAt_X1 tyX1 tyX1_ok nmX1 hown hK hP (WCD hD) hS q hq rfl 1 (by decide) flX0_lookAt_107 rfl rfl rfl (Nat.le_of_ble_eq_true rfl) dX0_lookAt_60 (fun H locs hP hS => ?_)
  have hP : va_P D vwCl (WC a wb sw se LW LS LK cI cJ cB cL cS cW c_bytes c_heads c_firsts c_levelOf c_aboveOf c_partings c_signs c_count c_pages c_levels c_most (va_up c_page v4 v2) (va_up c_known v4 v3) c_guess c_diff c_pieces c_place c_bits c_words c_entries c_bads c_noes c_fulls c_length c_next c_kept c_base_21 c_from_32 c_to_32 c_above_32 c_bit_32 c_lastLeft_32) H := by rw [← he.2.1]; exact hP
  refine lv_aload hx hb dX0_lookAt_63 (lv_at hl 6 rfl) ?_
  refine lv_aload_n hx hb dX0_lookAt_65 rfl (lv_at hl 2 rfl) ?_
  refine kg (v := .ref (a 8)) hx hb hts hiX0_lookAt_X0 hown hK hP 3 rfl rfl 5 (by decide) flX0_lookAt_34 rfl rfl dX0_lookAt_66 ?_
  refine kg (v := .int c_from_32) hx hb hts hiX0_lookAt_X5 hown hK hP 8 rfl rfl 2 (by decide) flX0_lookAt_101 rfl rfl dX0_lookAt_69 ?_
  obtain ⟨q, hq, he⟩ := WC_K hG hv4
  refine kp hx hb hts hiX0_lookAt_X1 tyX1 tyX1_ok nmX1 hown hK hP (WCD hD) hS q hq rfl 2 (by decide) flX0_lookAt_110 rfl rfl rfl (Nat.le_of_ble_eq_true rfl) dX0_lookAt_72 (fun H locs hP hS => ?_)
  have hP : va_P D vwCl (WC a wb sw se LW LS LK cI cJ cB cL cS cW c_bytes c_heads c_firsts c_levelOf c_aboveOf c_partings c_signs c_count c_pages c_levels c_most (va_up c_page v4 v2) (va_up c_known v4 v3) (va_up c_guess v4 c_from_32) c_diff c_pieces c_place c_bits c_words c_entries c_bads c_noes c_fulls c_length c_next c_kept c_base_21 c_from_32 c_to_32 c_above_32 c_bit_32 c_lastLeft_32) H := by rw [← he.2.2.1]; exact hP
  refine lv_aload hx hb dX0_lookAt_75 (lv_at hl 6 rfl) ?_
  refine lv_aload_n hx hb dX0_lookAt_77 rfl (lv_at hl 3 rfl) ?_
  refine lv_aload hx hb dX0_lookAt_78 (lv_at hl 0 rfl) ?_
  obtain ⟨r80, hq0, hm⟩ := bd1_some hm
  obtain ⟨q, hq, -⟩ := WC_W hG hv1
  refine k_callVI (As := [.ref r46]) (rest := [.ref v4]) ⟨hx, hb, hml, hown, hts⟩ hK hA hN (c_X6_partingFrom hG hv1 hw46 hq0) (cwV 1 hts gX0_lookAt_X6_partingFrom rfl rfl rfl hdX6_partingFrom ⟨Nat.le_of_ble_eq_true rfl, Nat.le_of_ble_eq_true rfl⟩) hP (WCD hD) hS q 6 hq rfl rfl hl.1 rfl rfl (Nat.le_of_ble_eq_true rfl) ⟨Nat.zero_le _, Nat.zero_le _⟩ dX0_lookAt_80 (fun H locs hP hS => ?_)
  obtain ⟨q, hq, he⟩ := WC_K hG hv4
  refine kp hx hb hts hiX0_lookAt_X1 tyX1 tyX1_ok nmX1 hown hK hP (WCD hD) hS q hq rfl 3 (by decide) flX0_lookAt_113 rfl rfl rfl (Nat.le_of_ble_eq_true rfl) dX0_lookAt_83 (fun H locs hP hS => ?_)
  have hP : va_P D vwCl (WC a wb sw se LW LS LK cI cJ cB cL cS cW c_bytes c_heads c_firsts c_levelOf c_aboveOf c_partings c_signs c_count c_pages c_levels c_most (va_up c_page v4 v2) (va_up c_known v4 v3) (va_up c_guess v4 c_from_32) (va_up c_diff v4 r80) c_pieces c_place c_bits c_words c_entries c_bads c_noes c_fulls c_length c_next c_kept c_base_21 c_from_32 c_to_32 c_above_32 c_bit_32 c_lastLeft_32) H := by rw [← he.2.2.2.1]; exact hP
  refine lv_aload hx hb dX0_lookAt_86 (lv_at hl 6 rfl) ?_
  obtain ⟨q, hq, -⟩ := WC_K hG hv4
  refine kg (v := .int ((va_up c_diff v4 r80) v4)) hx hb hts hiX0_lookAt_X1 hown hK hP q hq rfl 3 (by decide) flX0_lookAt_113 rfl rfl dX0_lookAt_88 ?_
  refine lv_iconst (v := (-1)) hx hb dX0_lookAt_91 (by decide) ?_
  refine lv_icmp_ne (tgt := 108) hx hb dX0_lookAt_92 (by decide) (fun hc => ?_) (fun hc => ?_)
  · have hm := if_f hc hm
    refine lv_aload hx hb dX0_lookAt_108 (lv_at hl 6 rfl) ?_
    obtain ⟨q, hq, -⟩ := WC_K hG hv4
    refine kg (v := .int ((va_up c_diff v4 r80) v4)) hx hb hts hiX0_lookAt_X1 hown hK hP q hq rfl 3 (by decide) flX0_lookAt_113 rfl rfl dX0_lookAt_110 ?_
    exact t_C0_lookAt_J113 C hD hG hv1 hv4 hret _ _ _ _ _ _ _ _ _ _ _ _ _ _ _ _ _ hP hS (lv_sub hl [2, 3, 4, 5, 6, 1] rfl) hm
  · have hm := if_t hc hm
    refine lv_bipush (v := 8) hx hb dX0_lookAt_95 (by decide) ?_
    refine lv_aload hx hb dX0_lookAt_97 (lv_at hl 0 rfl) ?_
    obtain ⟨q, hq, -⟩ := WC_W hG hw46
    refine kg (v := .int (c_signs r46)) hx hb hts hiX0_lookAt_X6 hown hK hP q hq rfl 1 (by decide) flX0_lookAt_116 rfl rfl dX0_lookAt_99 ?_
    refine lv_imul hx hb dX0_lookAt_102 ?_
    refine lv_iconst (v := 1) hx hb dX0_lookAt_103 (by decide) ?_
    refine lv_isub hx hb dX0_lookAt_104 ?_
    refine lv_goto (tgt := 113) hx hb dX0_lookAt_105 (by decide) ?_
    exact t_C0_lookAt_J113 C hD hG hv1 hv4 hret _ _ _ _ _ _ _ _ _ _ _ _ _ _ _ _ _ hP hS (lv_sub hl [2, 3, 4, 5, 6, 1] rfl) hm
theorem hdX6_alike : yX6_alike.cls = RX6 ∧ yX6_alike.cls ≠ "java/lang/invoke/MethodHandle" ∧ yX6_alike.cls ≠ "java/lang/invoke/VarHandle" ∧ (parseMethodDescriptor yX6_alike.desc).map (fun d => d.parameters.length) = some 1 := by decide +kernel
theorem hiX6_alike_X6 : ∀ w ∈ u_ws RX6 TX6 2, w ∈ wsX6_alike := by decide +kernel
theorem flX6_alike_15 : Cond.fieldLink RX6 15 "BlindPages$Word" "signs" "I" ∈ wsX6_alike := by decide +kernel
def C6_alike (c_signs : Nat → Int32) (c_bits : Nat → Nat → Int64) (v0 : Nat) (v1 : Nat) : Option (Int32) := bd1 (C6_partingFrom c_bits v0 v1) fun r2 => if r2 = (-1) then (some (8 * (c_signs v0))) else (some r2)
set_option maxRecDepth 100000 in
set_option maxHeartbeats 4000000 in
theorem c_X6_alike {l : Launch} {D : va_G} {cI cJ cB cL cS cW : ClassId} {a wb sw se : Nat → Nat} {LW LS LK : List Nat} {c_bytes c_heads c_firsts c_levelOf c_aboveOf c_partings c_signs c_count c_pages c_levels c_most c_page c_known c_guess c_diff c_pieces c_place : Nat → Int32} {c_bits : Nat → Nat → Int64} {c_words : Nat → Nat → Nat} {c_entries : Nat → Nat → Int32} {c_bads c_noes c_fulls c_length c_next c_kept c_base c_from c_to c_above c_bit c_lastLeft : Int32} {v0 : Nat} {v1 : Nat} {r : Int32} (hG : kG a LW LS LK) (hv0 : v0 ∈ LW) (hv1 : v1 ∈ LW) (hm : C6_alike c_signs c_bits v0 v1 = some r) : k_MI l yX6_alike wsX6_alike { frames := 3, cells := 0, slots := 0, locals := 67 } D (kT cI cJ cB cL cS cW) [.ref v0, .ref v1] (WC a wb sw se LW LS LK cI cJ cB cL cS cW c_bytes c_heads c_firsts c_levelOf c_aboveOf c_partings c_signs c_count c_pages c_levels c_most c_page c_known c_guess c_diff c_pieces c_place c_bits c_words c_entries c_bads c_noes c_fulls c_length c_next c_kept c_base c_from c_to c_above c_bit c_lastLeft) r (WC a wb sw se LW LS LK cI cJ cB cL cS cW c_bytes c_heads c_firsts c_levelOf c_aboveOf c_partings c_signs c_count c_pages c_levels c_most c_page c_known c_guess c_diff c_pieces c_place c_bits c_words c_entries c_bads c_noes c_fulls c_length c_next c_kept c_base c_from c_to c_above c_bit c_lastLeft) := by
  refine k_ofI (cc := cX6_alike) (maxL := 3) (own := RX6) (by decide) rfl rfl (Nat.le_of_ble_eq_true rfl) ?_
  intro p e s m args below meth c A Q ls C hP hD hl hret
  have hD : va_D A (WC0 a wb sw se LW LS LK cI cJ cB cL cS cW) := WCD hD
  have hS : va_S A s.heap s.heap [] := va_S.rf
  have hl : lv_has ls 3 [(0, .ref v0), (1, .ref v1)] := hl
  obtain ⟨hx, hb, hml, hr, hown, hts, hlocks, hK, hA, hN⟩ := id C
  rw [C6_alike] at hm
  refine lv_aload_n hx hb dX6_alike_0 rfl (lv_at hl 0 rfl) ?_
  refine lv_aload_n hx hb dX6_alike_1 rfl (lv_at hl 1 rfl) ?_
  obtain ⟨r2, hq0, hm⟩ := bd1_some hm
  obtain ⟨q, hq, -⟩ := WC_W hG hv0
  refine k_callVI (As := [.ref v1]) (rest := []) ⟨hx, hb, hml, hown, hts⟩ hK hA hN (c_X6_partingFrom hG hv0 hv1 hq0) (cwV 1 hts gX6_alike_X6_partingFrom rfl rfl rfl hdX6_partingFrom ⟨Nat.le_of_ble_eq_true rfl, Nat.le_of_ble_eq_true rfl⟩) hP (WCD hD) hS q 6 hq rfl rfl hl.1 rfl rfl (Nat.le_of_ble_eq_true rfl) ⟨Nat.zero_le _, Nat.zero_le _⟩ dX6_alike_2 (fun H locs hP hS => ?_)
  refine lv_istore_n (lv' := [(2, .int r2), (0, .ref v0), (1, .ref v1)]) hx hb dX6_alike_5 rfl hl (by decide) rfl (fun ls hl => ?_)
  refine lv_iload_n hx hb dX6_alike_6 rfl (lv_at hl 0 rfl) ?_
  refine lv_iconst (v := (-1)) hx hb dX6_alike_7 (by decide) ?_
  refine lv_icmp_ne (tgt := 21) hx hb dX6_alike_8 (by decide) (fun hc => ?_) (fun hc => ?_)
  · have hm := if_f hc hm
    refine lv_iload_n hx hb dX6_alike_21 rfl (lv_at hl 0 rfl) ?_
    obtain rfl := Option.some.inj hm
    exact hret _ _ _ _ dX6_alike_22 hP hS
  · have hm := if_t hc hm
    refine lv_bipush (v := 8) hx hb dX6_alike_11 (by decide) ?_
    refine lv_aload_n hx hb dX6_alike_13 rfl (lv_at hl 1 rfl) ?_
    obtain ⟨q, hq, -⟩ := WC_W hG hv0
    refine kg (v := .int (c_signs v0)) hx hb hts hiX6_alike_X6 hown hK hP q hq rfl 1 (by decide) flX6_alike_15 rfl rfl dX6_alike_14 ?_
    refine lv_imul hx hb dX6_alike_17 ?_
    refine lv_goto (tgt := 22) hx hb dX6_alike_18 (by decide) ?_
    obtain rfl := Option.some.inj hm
    exact hret _ _ _ _ dX6_alike_22 hP hS
theorem hdX0_walk : yX0_walk.cls = RX0 ∧ yX0_walk.cls ≠ "java/lang/invoke/MethodHandle" ∧ yX0_walk.cls ≠ "java/lang/invoke/VarHandle" ∧ (parseMethodDescriptor yX0_walk.desc).map (fun d => d.parameters.length) = some 1 := by decide +kernel
theorem hiX0_walk_X0 : ∀ w ∈ u_ws RX0 TX0 7, w ∈ wsX0_walk := by decide +kernel
theorem hiX0_walk_X1 : ∀ w ∈ u_ws RX1 TX1 6, w ∈ wsX0_walk := by decide +kernel
theorem hiX0_walk_X3 : ∀ w ∈ u_ws RX3 TX3 6, w ∈ wsX0_walk := by decide +kernel
theorem flX0_walk_12 : Cond.fieldLink RX0 12 "BlindPages$Index" "now" "LBlindPages$State;" ∈ wsX0_walk := by decide +kernel
theorem flX0_walk_134 : Cond.fieldLink RX0 134 "BlindPages$State" "levels" "I" ∈ wsX0_walk := by decide +kernel
theorem flX0_walk_125 : Cond.fieldLink RX0 125 "BlindPages$Look" "place" "I" ∈ wsX0_walk := by decide +kernel
def C0_walk_L20 (a : Nat → Nat) (LW LK : List Nat) (c_heads c_firsts c_partings c_signs c_pages c_levels : Nat → Int32) (c_bits : Nat → Nat → Int64) (c_words : Nat → Nat → Nat) (c_entries : Nat → Nat → Int32) (v1 : Nat) (k76 : (Nat → Int32) → (Nat → Int32) → (Nat → Int32) → (Nat → Int32) → (Nat → Int32) → (Nat → Int32) → Int32 → Int32 → Int32 → Int32 → Int32 → Int32 → Option ((Nat → Int32) × (Nat → Int32) × (Nat → Int32) × (Nat → Int32) × (Nat → Int32) × (Nat → Int32) × Int32 × Int32 × Int32 × Int32 × Int32 × Int32)) : Nat → (Nat → Int32) → (Nat → Int32) → (Nat → Int32) → (Nat → Int32) → (Nat → Int32) → (Nat → Int32) → Int32 → Int32 → Int32 → Int32 → Int32 → Int32 → Int32 → Int32 → Int32 → Option ((Nat → Int32) × (Nat → Int32) × (Nat → Int32) × (Nat → Int32) × (Nat → Int32) × (Nat → Int32) × Int32 × Int32 × Int32 × Int32 × Int32 × Int32)
  | 0, _, _, _, _, _, _, _, _, _, _, _, _, _, _, _ => none
  | n + 1, c_page, c_known, c_guess, c_diff, c_pieces, c_place, c_base, c_from, c_to, c_above, c_bit, c_lastLeft, v2, v3, v4 => if v4 < 0 then (k76 c_page c_known c_guess c_diff c_pieces c_place c_base c_from c_to c_above c_bit c_lastLeft) else (bd1 (C0_lookOf a LK v4) fun r28 => gm LK r28 (bd12 (C0_lookAt a LW c_heads c_firsts c_partings c_signs c_pages c_bits c_words c_entries c_page c_known c_guess c_diff c_pieces c_place c_base c_from c_to c_above c_bit c_lastLeft v1 v2 v3 r28) fun c_page_39 c_known_39 c_guess_39 c_diff_39 c_pieces_39 c_place_39 c_base_39 c_from_39 c_to_39 c_above_39 c_bit_39 c_lastLeft_39 => bd1 (C0_firstOf c_firsts v2) fun r44 => bd1 (C0_headWord a LW c_heads c_words (r44 + (if ((c_place_39 r28) - 1) < 0 then 0 else ((c_place_39 r28) - 1)))) fun r63 => gm LW r63 (bd1 (C6_alike c_signs c_bits v1 r63) fun r66 => C0_walk_L20 a LW LK c_heads c_firsts c_partings c_signs c_pages c_levels c_bits c_words c_entries v1 k76 n c_page_39 c_known_39 c_guess_39 c_diff_39 c_pieces_39 c_place_39 c_base_39 c_from_39 c_to_39 c_above_39 c_bit_39 c_lastLeft_39 (r44 + (if ((c_place_39 r28) - 1) < 0 then 0 else ((c_place_39 r28) - 1))) r66 (v4 + (-1)))))
def C0_walk (a : Nat → Nat) (LW LK : List Nat) (c_heads c_firsts c_partings c_signs c_pages c_levels : Nat → Int32) (c_bits : Nat → Nat → Int64) (c_words : Nat → Nat → Nat) (c_entries : Nat → Nat → Int32) (c_page c_known c_guess c_diff c_pieces c_place : Nat → Int32) (c_base c_from c_to c_above c_bit c_lastLeft : Int32) (v1 : Nat) : Option ((Nat → Int32) × (Nat → Int32) × (Nat → Int32) × (Nat → Int32) × (Nat → Int32) × (Nat → Int32) × Int32 × Int32 × Int32 × Int32 × Int32 × Int32) := C0_walk_L20 a LW LK c_heads c_firsts c_partings c_signs c_pages c_levels c_bits c_words c_entries v1 (fun c_page c_known c_guess c_diff c_pieces c_place c_base c_from c_to c_above c_bit c_lastLeft => some (c_page, c_known, c_guess, c_diff, c_pieces, c_place, c_base, c_from, c_to, c_above, c_bit, c_lastLeft)) FU c_page c_known c_guess c_diff c_pieces c_place c_base c_from c_to c_above c_bit c_lastLeft 0 0 ((if 6 < (c_levels (a 14)) then 6 else (c_levels (a 14))) - 1)
set_option maxRecDepth 100000 in
set_option maxHeartbeats 4000000 in
theorem t_C0_walk_L20 {p : Program} {l : Launch} {e : Env} {s : State} {m : MethodId} {args : Array Value} {below : List Frame} {meth : Method} {c : Code} {Q : State → Prop} {A : Nat → Prop} {D : va_G} {cI cJ cB cL cS cW : ClassId} {a wb sw se : Nat → Nat} {LW LS LK : List Nat} {c_bytes c_heads c_firsts c_levelOf c_aboveOf c_partings c_signs c_count c_pages c_levels c_most : Nat → Int32} {c_bits : Nat → Nat → Int64} {c_words : Nat → Nat → Nat} {c_entries : Nat → Nat → Int32} {c_bads c_noes c_fulls c_length c_next c_kept : Int32} {v1 : Nat} {o_page : Nat → Int32} {o_known : Nat → Int32} {o_guess : Nat → Int32} {o_diff : Nat → Int32} {o_pieces : Nat → Int32} {o_place : Nat → Int32} {o_base : Int32} {o_from : Int32} {o_to : Int32} {o_above : Int32} {o_bit : Int32} {o_lastLeft : Int32} (C : k_C p s m args meth c cX0_walk 6 none RX0 wsX0_walk D (kT cI cJ cB cL cS cW) A) (hD : va_D A (WC0 a wb sw se LW LS LK cI cJ cB cL cS cW)) (hG : kG a LW LS LK) (hv1 : v1 ∈ LW) (hret : ∀ (H : Heap) (locs : List Loc) (pc : Nat) (ls : Array Slot), decode cX0_walk pc = .ok (.return_, 1) → va_P D vwCl (WC a wb sw se LW LS LK cI cJ cB cL cS cW c_bytes c_heads c_firsts c_levelOf c_aboveOf c_partings c_signs c_count c_pages c_levels c_most o_page o_known o_guess o_diff o_pieces o_place c_bits c_words c_entries c_bads c_noes c_fulls c_length c_next c_kept o_base o_from o_to o_above o_bit o_lastLeft) H → va_S A s.heap H locs → W p l e { frames := 4, cells := 0, slots := 0, locals := 94 } s m args below meth c H locs 0 0 Q (F0 m pc ls [])) {k76 : (Nat → Int32) → (Nat → Int32) → (Nat → Int32) → (Nat → Int32) → (Nat → Int32) → (Nat → Int32) → Int32 → Int32 → Int32 → Int32 → Int32 → Int32 → Option ((Nat → Int32) × (Nat → Int32) × (Nat → Int32) × (Nat → Int32) × (Nat → Int32) × (Nat → Int32) × Int32 × Int32 × Int32 × Int32 × Int32 × Int32)} (hk76 : ∀ (c_page : (Nat → Int32)) (c_known : (Nat → Int32)) (c_guess : (Nat → Int32)) (c_diff : (Nat → Int32)) (c_pieces : (Nat → Int32)) (c_place : (Nat → Int32)) (c_base : Int32) (c_from : Int32) (c_to : Int32) (c_above : Int32) (c_bit : Int32) (c_lastLeft : Int32) (H : Heap) (locs : List Loc) (ls : Array Slot), va_P D vwCl (WC a wb sw se LW LS LK cI cJ cB cL cS cW c_bytes c_heads c_firsts c_levelOf c_aboveOf c_partings c_signs c_count c_pages c_levels c_most c_page c_known c_guess c_diff c_pieces c_place c_bits c_words c_entries c_bads c_noes c_fulls c_length c_next c_kept c_base c_from c_to c_above c_bit c_lastLeft) H → va_S A s.heap H locs → lv_has ls 6 [] → k76 c_page c_known c_guess c_diff c_pieces c_place c_base c_from c_to c_above c_bit c_lastLeft = some (o_page, o_known, o_guess, o_diff, o_pieces, o_place, o_base, o_from, o_to, o_above, o_bit, o_lastLeft) → W p l e { frames := 4, cells := 0, slots := 0, locals := 94 } s m args below meth c H locs 0 0 Q (F0 m 76 ls [])) : ∀ n : Nat, ∀ (c_page : (Nat → Int32)) (c_known : (Nat → Int32)) (c_guess : (Nat → Int32)) (c_diff : (Nat → Int32)) (c_pieces : (Nat → Int32)) (c_place : (Nat → Int32)) (c_base : Int32) (c_from : Int32) (c_to : Int32) (c_above : Int32) (c_bit : Int32) (c_lastLeft : Int32) (v2 : Int32) (v3 : Int32) (v4 : Int32) (H : Heap) (locs : List Loc) (ls : Array Slot), va_P D vwCl (WC a wb sw se LW LS LK cI cJ cB cL cS cW c_bytes c_heads c_firsts c_levelOf c_aboveOf c_partings c_signs c_count c_pages c_levels c_most c_page c_known c_guess c_diff c_pieces c_place c_bits c_words c_entries c_bads c_noes c_fulls c_length c_next c_kept c_base c_from c_to c_above c_bit c_lastLeft) H → va_S A s.heap H locs → lv_has ls 6 [(0, .ref (a 3)), (1, .ref v1), (2, .int v2), (3, .int v3), (4, .int v4)] → (C0_walk_L20 a LW LK c_heads c_firsts c_partings c_signs c_pages c_levels c_bits c_words c_entries v1 k76 n) c_page c_known c_guess c_diff c_pieces c_place c_base c_from c_to c_above c_bit c_lastLeft v2 v3 v4 = some (o_page, o_known, o_guess, o_diff, o_pieces, o_place, o_base, o_from, o_to, o_above, o_bit, o_lastLeft) → W p l e { frames := 4, cells := 0, slots := 0, locals := 94 } s m args below meth c H locs 0 0 Q (F0 m 20 ls []) := by
  obtain ⟨hx, hb, hml, hr, hown, hts, hlocks, hK, hA, hN⟩ := id C
  intro n
  induction n with
  | zero =>
    intro c_page c_known c_guess c_diff c_pieces c_place c_base c_from c_to c_above c_bit c_lastLeft v2 v3 v4 H locs ls hP hS hl hm
    cases hm
  | succ n ih =>
    intro c_page c_known c_guess c_diff c_pieces c_place c_base c_from c_to c_above c_bit c_lastLeft v2 v3 v4 H locs ls hP hS hl hm
    rw [C0_walk_L20] at hm
    refine lv_iload hx hb dX0_walk_20 (lv_at hl 4 rfl) ?_
    refine lv_if_lt (tgt := 76) hx hb dX0_walk_22 (by decide) (fun hc => ?_) (fun hc => ?_)
    · have hm := if_t hc hm
      exact hk76 _ _ _ _ _ _ _ _ _ _ _ _ _ _ _ hP hS (lv_sub hl [] rfl) hm
    · have hm := if_f hc hm
      refine lv_aload_n hx hb dX0_walk_25 rfl (lv_at hl 0 rfl) ?_
      refine lv_iload hx hb dX0_walk_26 (lv_at hl 4 rfl) ?_
      obtain ⟨r28, hq0, hm⟩ := bd1_some hm
      obtain ⟨hw28, hm⟩ := gm_some hm
      refine k_callVA (As := [.int v4]) (rest := []) ⟨hx, hb, hml, hown, hts⟩ hK hA hN (c_X0_lookOf hG hq0) (cwV 1 hts gX0_walk_X0_lookOf rfl rfl rfl hdX0_lookOf ⟨Nat.le_of_ble_eq_true rfl, Nat.le_of_ble_eq_true rfl⟩) hP (WCD hD) hS 3 0 rfl rfl rfl hl.1 rfl rfl (Nat.le_of_ble_eq_true rfl) ⟨Nat.zero_le _, Nat.zero_le _⟩ dX0_walk_28 (fun H locs hP hS => ?_)
      refine lv_astore (lv' := [(5, .ref r28), (0, .ref (a 3)), (1, .ref v1), (2, .int v2), (3, .int v3), (4, .int v4)]) hx hb dX0_walk_31 hl (by decide) rfl (fun ls hl => ?_)
      refine lv_aload_n hx hb dX0_walk_33 rfl (lv_at hl 1 rfl) ?_
      refine lv_aload_n hx hb dX0_walk_34 rfl (lv_at hl 2 rfl) ?_
      refine lv_iload_n hx hb dX0_walk_35 rfl (lv_at hl 3 rfl) ?_
      refine lv_iload_n hx hb dX0_walk_36 rfl (lv_at hl 4 rfl) ?_
      refine lv_aload hx hb dX0_walk_37 (lv_at hl 0 rfl) ?_
      obtain ⟨c_page_39, c_known_39, c_guess_39, c_diff_39, c_pieces_39, c_place_39, c_base_39, c_from_39, c_to_39, c_above_39, c_bit_39, c_lastLeft_39, hq0, hm⟩ := bd12_some hm
      refine k_callVV (As := [.ref v1, .int v2, .int v3, .ref r28]) (rest := []) ⟨hx, hb, hml, hown, hts⟩ hK hA hN (c_X0_lookAt hG hv1 hw28 hq0) (cwV 4 hts gX0_walk_X0_lookAt rfl rfl rfl hdX0_lookAt ⟨Nat.le_of_ble_eq_true rfl, Nat.le_of_ble_eq_true rfl⟩) hP (WCD hD) hS 3 0 rfl rfl rfl hl.1 rfl rfl (Nat.le_of_ble_eq_true rfl) ⟨Nat.zero_le _, Nat.zero_le _⟩ dX0_walk_39 (fun H locs hP hS => ?_)
      refine lv_aload_n hx hb dX0_walk_42 rfl (lv_at hl 1 rfl) ?_
      refine lv_iload_n hx hb dX0_walk_43 rfl (lv_at hl 3 rfl) ?_
      obtain ⟨r44, hq0, hm⟩ := bd1_some hm
      refine k_callVI (As := [.int v2]) (rest := []) ⟨hx, hb, hml, hown, hts⟩ hK hA hN (c_X0_firstOf hG hq0) (cwV 1 hts gX0_walk_X0_firstOf rfl rfl rfl hdX0_firstOf ⟨Nat.le_of_ble_eq_true rfl, Nat.le_of_ble_eq_true rfl⟩) hP (WCD hD) hS 3 0 rfl rfl rfl hl.1 rfl rfl (Nat.le_of_ble_eq_true rfl) ⟨Nat.zero_le _, Nat.zero_le _⟩ dX0_walk_44 (fun H locs hP hS => ?_)
      refine lv_aload hx hb dX0_walk_47 (lv_at hl 0 rfl) ?_
      obtain ⟨q, hq, -⟩ := WC_K hG hw28
      refine kg (v := .int (c_place_39 r28)) hx hb hts hiX0_walk_X1 hown hK hP q hq rfl 5 (by decide) flX0_walk_125 rfl rfl dX0_walk_49 ?_
      refine lv_iconst (v := 1) hx hb dX0_walk_52 (by decide) ?_
      refine lv_isub hx hb dX0_walk_53 ?_
      refine lv_iconst (v := 0) hx hb dX0_walk_54 (by decide) ?_
      refine va_mmax hx hb (by rw [hml]; exact hl.1.symm) hown (hts (.methodLink RX0 119 Lib.Math.max.name) (by decide +kernel)) (hts (.static Lib.Math.max.name) (by decide +kernel)) (hts (.initialized "java/lang/Math") (by decide +kernel)) (hts (.code Lib.Math.max.name Lib.Math.max.code 2 (some .int)) (by decide +kernel)) (Nat.le_of_ble_eq_true rfl) (Nat.le_of_ble_eq_true rfl) (Nat.zero_le _) (Nat.zero_le _) dX0_walk_55 ?_
      refine lv_iadd hx hb dX0_walk_58 ?_
      refine lv_istore_n (lv' := [(2, .int (r44 + (if ((c_place_39 r28) - 1) < 0 then 0 else ((c_place_39 r28) - 1)))), (5, .ref r28), (0, .ref (a 3)), (1, .ref v1), (3, .int v3), (4, .int v4)]) hx hb dX0_walk_59 rfl hl (by decide) rfl (fun ls hl => ?_)
      refine lv_aload_n hx hb dX0_walk_60 rfl (lv_at hl 3 rfl) ?_
      refine lv_aload_n hx hb dX0_walk_61 rfl (lv_at hl 2 rfl) ?_
      refine lv_iload_n hx hb dX0_walk_62 rfl (lv_at hl 0 rfl) ?_
      obtain ⟨r63, hq0, hm⟩ := bd1_some hm
      obtain ⟨hw63, hm⟩ := gm_some hm
      refine k_callVA (As := [.int (r44 + (if ((c_place_39 r28) - 1) < 0 then 0 else ((c_place_39 r28) - 1)))]) (rest := [.ref v1]) ⟨hx, hb, hml, hown, hts⟩ hK hA hN (c_X0_headWord hG hq0) (cwV 1 hts gX0_walk_X0_headWord rfl rfl rfl hdX0_headWord ⟨Nat.le_of_ble_eq_true rfl, Nat.le_of_ble_eq_true rfl⟩) hP (WCD hD) hS 3 0 rfl rfl rfl hl.1 rfl rfl (Nat.le_of_ble_eq_true rfl) ⟨Nat.zero_le _, Nat.zero_le _⟩ dX0_walk_63 (fun H locs hP hS => ?_)
      obtain ⟨r66, hq0, hm⟩ := bd1_some hm
      obtain ⟨q, hq, -⟩ := WC_W hG hv1
      refine k_callVI (As := [.ref r63]) (rest := []) ⟨hx, hb, hml, hown, hts⟩ hK hA hN (c_X6_alike hG hv1 hw63 hq0) (cwV 1 hts gX0_walk_X6_alike rfl rfl rfl hdX6_alike ⟨Nat.le_of_ble_eq_true rfl, Nat.le_of_ble_eq_true rfl⟩) hP (WCD hD) hS q 6 hq rfl rfl hl.1 rfl rfl (Nat.le_of_ble_eq_true rfl) ⟨Nat.zero_le _, Nat.zero_le _⟩ dX0_walk_66 (fun H locs hP hS => ?_)
      refine lv_istore_n (lv' := [(3, .int r66), (2, .int (r44 + (if ((c_place_39 r28) - 1) < 0 then 0 else ((c_place_39 r28) - 1)))), (5, .ref r28), (0, .ref (a 3)), (1, .ref v1), (4, .int v4)]) hx hb dX0_walk_69 rfl hl (by decide) rfl (fun ls hl => ?_)
      refine lv_iinc (v := (v4 + (-1))) (lv' := [(4, .int (v4 + (-1))), (3, .int r66), (2, .int (r44 + (if ((c_place_39 r28) - 1) < 0 then 0 else ((c_place_39 r28) - 1)))), (5, .ref r28), (0, .ref (a 3)), (1, .ref v1)]) hx hb dX0_walk_70 hl (k := 5) rfl rfl (by decide) rfl (fun ls hl => ?_)
      refine lv_goto (tgt := 20) hx hb dX0_walk_73 (by decide) ?_
      exact ih _ _ _ _ _ _ _ _ _ _ _ _ _ _ _ _ _ _ hP hS (lv_sub hl [4, 5, 2, 1, 0] rfl) hm
set_option maxRecDepth 100000 in
set_option maxHeartbeats 4000000 in
theorem c_X0_walk {l : Launch} {D : va_G} {cI cJ cB cL cS cW : ClassId} {a wb sw se : Nat → Nat} {LW LS LK : List Nat} {c_bytes c_heads c_firsts c_levelOf c_aboveOf c_partings c_signs c_count c_pages c_levels c_most c_page c_known c_guess c_diff c_pieces c_place : Nat → Int32} {c_bits : Nat → Nat → Int64} {c_words : Nat → Nat → Nat} {c_entries : Nat → Nat → Int32} {c_bads c_noes c_fulls c_length c_next c_kept c_base c_from c_to c_above c_bit c_lastLeft : Int32} {v1 : Nat} {o_page : Nat → Int32} {o_known : Nat → Int32} {o_guess : Nat → Int32} {o_diff : Nat → Int32} {o_pieces : Nat → Int32} {o_place : Nat → Int32} {o_base : Int32} {o_from : Int32} {o_to : Int32} {o_above : Int32} {o_bit : Int32} {o_lastLeft : Int32} (hG : kG a LW LS LK) (hv1 : v1 ∈ LW) (hm : C0_walk a LW LK c_heads c_firsts c_partings c_signs c_pages c_levels c_bits c_words c_entries c_page c_known c_guess c_diff c_pieces c_place c_base c_from c_to c_above c_bit c_lastLeft v1 = some (o_page, o_known, o_guess, o_diff, o_pieces, o_place, o_base, o_from, o_to, o_above, o_bit, o_lastLeft)) : k_MV l yX0_walk wsX0_walk { frames := 4, cells := 0, slots := 0, locals := 94 } D (kT cI cJ cB cL cS cW) [.ref (a 3), .ref v1] (WC a wb sw se LW LS LK cI cJ cB cL cS cW c_bytes c_heads c_firsts c_levelOf c_aboveOf c_partings c_signs c_count c_pages c_levels c_most c_page c_known c_guess c_diff c_pieces c_place c_bits c_words c_entries c_bads c_noes c_fulls c_length c_next c_kept c_base c_from c_to c_above c_bit c_lastLeft) (WC a wb sw se LW LS LK cI cJ cB cL cS cW c_bytes c_heads c_firsts c_levelOf c_aboveOf c_partings c_signs c_count c_pages c_levels c_most o_page o_known o_guess o_diff o_pieces o_place c_bits c_words c_entries c_bads c_noes c_fulls c_length c_next c_kept o_base o_from o_to o_above o_bit o_lastLeft) := by
  refine k_ofV (cc := cX0_walk) (maxL := 6) (own := RX0) (by decide) rfl rfl (Nat.le_of_ble_eq_true rfl) ?_
  intro p e s m args below meth c A Q ls C hP hD hl hret
  have hD : va_D A (WC0 a wb sw se LW LS LK cI cJ cB cL cS cW) := WCD hD
  have hS : va_S A s.heap s.heap [] := va_S.rf
  have hl : lv_has ls 6 [(0, .ref (a 3)), (1, .ref v1)] := hl
  obtain ⟨hx, hb, hml, hr, hown, hts, hlocks, hK, hA, hN⟩ := id C
  rw [C0_walk] at hm
  refine lv_iconst (v := 0) hx hb dX0_walk_0 (by decide) ?_
  refine lv_istore_n (lv' := [(2, .int 0), (0, .ref (a 3)), (1, .ref v1)]) hx hb dX0_walk_1 rfl hl (by decide) rfl (fun ls hl => ?_)
  refine lv_iconst (v := 0) hx hb dX0_walk_2 (by decide) ?_
  refine lv_istore_n (lv' := [(3, .int 0), (2, .int 0), (0, .ref (a 3)), (1, .ref v1)]) hx hb dX0_walk_3 rfl hl (by decide) rfl (fun ls hl => ?_)
  refine lv_aload_n hx hb dX0_walk_4 rfl (lv_at hl 2 rfl) ?_
  refine kg (v := .ref (a 14)) hx hb hts hiX0_walk_X0 hown hK hP 3 rfl rfl 0 (by decide) flX0_walk_12 rfl rfl dX0_walk_5 ?_
  obtain ⟨q, hq, -⟩ := WC_S hG hG.2.2.2.2.1
  refine kg (v := .int (c_levels (a 14))) hx hb hts hiX0_walk_X3 hown hK hP q hq rfl 4 (by decide) flX0_walk_134 rfl rfl dX0_walk_8 ?_
  refine lv_bipush (v := 6) hx hb dX0_walk_11 (by decide) ?_
  refine va_mmin hx hb (by rw [hml]; exact hl.1.symm) hown (hts (.methodLink RX0 82 Lib.Math.min.name) (by decide +kernel)) (hts (.static Lib.Math.min.name) (by decide +kernel)) (hts (.initialized "java/lang/Math") (by decide +kernel)) (hts (.code Lib.Math.min.name Lib.Math.min.code 2 (some .int)) (by decide +kernel)) (Nat.le_of_ble_eq_true rfl) (Nat.le_of_ble_eq_true rfl) (Nat.zero_le _) (Nat.zero_le _) dX0_walk_13 ?_
  refine lv_iconst (v := 1) hx hb dX0_walk_16 (by decide) ?_
  refine lv_isub hx hb dX0_walk_17 ?_
  refine lv_istore (lv' := [(4, .int ((if 6 < (c_levels (a 14)) then 6 else (c_levels (a 14))) - 1)), (3, .int 0), (2, .int 0), (0, .ref (a 3)), (1, .ref v1)]) hx hb dX0_walk_18 hl (by decide) rfl (fun ls hl => ?_)
  refine t_C0_walk_L20 C hD hG hv1 hret ?_ FU _ _ _ _ _ _ _ _ _ _ _ _ _ _ _ _ _ _ hP hS (lv_sub hl [3, 4, 2, 1, 0] rfl) hm
  · intro c_page c_known c_guess c_diff c_pieces c_place c_base c_from c_to c_above c_bit c_lastLeft H locs ls hP hS hl hm
    try dsimp only at hm
    simp only [Option.some.injEq, Prod.mk.injEq] at hm
    obtain ⟨rfl, rfl, rfl, rfl, rfl, rfl, rfl, rfl, rfl, rfl, rfl, rfl⟩ := hm
    exact hret _ _ _ _ dX0_walk_76 hP hS
theorem hdX0_isThere : yX0_isThere.cls = RX0 ∧ yX0_isThere.cls ≠ "java/lang/invoke/MethodHandle" ∧ yX0_isThere.cls ≠ "java/lang/invoke/VarHandle" ∧ (parseMethodDescriptor yX0_isThere.desc).map (fun d => d.parameters.length) = some 0 := by decide +kernel
theorem hiX0_isThere_X0 : ∀ w ∈ u_ws RX0 TX0 7, w ∈ wsX0_isThere := by decide +kernel
theorem hiX0_isThere_X1 : ∀ w ∈ u_ws RX1 TX1 6, w ∈ wsX0_isThere := by decide +kernel
theorem hiX0_isThere_X3 : ∀ w ∈ u_ws RX3 TX3 6, w ∈ wsX0_isThere := by decide +kernel
theorem flX0_isThere_12 : Cond.fieldLink RX0 12 "BlindPages$Index" "now" "LBlindPages$State;" ∈ wsX0_isThere := by decide +kernel
theorem flX0_isThere_45 : Cond.fieldLink RX0 45 "BlindPages$State" "pages" "I" ∈ wsX0_isThere := by decide +kernel
theorem flX0_isThere_113 : Cond.fieldLink RX0 113 "BlindPages$Look" "diff" "I" ∈ wsX0_isThere := by decide +kernel
def C0_isThere (a : Nat → Nat) (LK : List Nat) (c_pages c_diff : Nat → Int32) : Option (Int32) := if (c_pages (a 14)) ≤ 0 then (some 0) else (bd1 (C0_lookOf a LK 0) fun r12 => gm LK r12 (if (c_diff r12) = (-1) then (some 1) else (some 0)))
set_option maxRecDepth 100000 in
set_option maxHeartbeats 4000000 in
theorem c_X0_isThere {l : Launch} {D : va_G} {cI cJ cB cL cS cW : ClassId} {a wb sw se : Nat → Nat} {LW LS LK : List Nat} {c_bytes c_heads c_firsts c_levelOf c_aboveOf c_partings c_signs c_count c_pages c_levels c_most c_page c_known c_guess c_diff c_pieces c_place : Nat → Int32} {c_bits : Nat → Nat → Int64} {c_words : Nat → Nat → Nat} {c_entries : Nat → Nat → Int32} {c_bads c_noes c_fulls c_length c_next c_kept c_base c_from c_to c_above c_bit c_lastLeft : Int32} {r : Int32} (hG : kG a LW LS LK) (hm : C0_isThere a LK c_pages c_diff = some r) : k_MI l yX0_isThere wsX0_isThere { frames := 1, cells := 0, slots := 0, locals := 21 } D (kT cI cJ cB cL cS cW) [.ref (a 3)] (WC a wb sw se LW LS LK cI cJ cB cL cS cW c_bytes c_heads c_firsts c_levelOf c_aboveOf c_partings c_signs c_count c_pages c_levels c_most c_page c_known c_guess c_diff c_pieces c_place c_bits c_words c_entries c_bads c_noes c_fulls c_length c_next c_kept c_base c_from c_to c_above c_bit c_lastLeft) r (WC a wb sw se LW LS LK cI cJ cB cL cS cW c_bytes c_heads c_firsts c_levelOf c_aboveOf c_partings c_signs c_count c_pages c_levels c_most c_page c_known c_guess c_diff c_pieces c_place c_bits c_words c_entries c_bads c_noes c_fulls c_length c_next c_kept c_base c_from c_to c_above c_bit c_lastLeft) := by
  refine k_ofZ (cc := cX0_isThere) (maxL := 1) (own := RX0) (by decide) rfl rfl (Nat.le_of_ble_eq_true rfl) ?_
  intro p e s m args below meth c A Q ls C hP hD hl hret
  have hD : va_D A (WC0 a wb sw se LW LS LK cI cJ cB cL cS cW) := WCD hD
  have hS : va_S A s.heap s.heap [] := va_S.rf
  have hl : lv_has ls 1 [(0, .ref (a 3))] := hl
  obtain ⟨hx, hb, hml, hr, hown, hts, hlocks, hK, hA, hN⟩ := id C
  rw [C0_isThere] at hm
  refine lv_aload_n hx hb dX0_isThere_0 rfl (lv_at hl 0 rfl) ?_
  refine kg (v := .ref (a 14)) hx hb hts hiX0_isThere_X0 hown hK hP 3 rfl rfl 0 (by decide) flX0_isThere_12 rfl rfl dX0_isThere_1 ?_
  obtain ⟨q, hq, -⟩ := WC_S hG hG.2.2.2.2.1
  refine kg (v := .int (c_pages (a 14))) hx hb hts hiX0_isThere_X3 hown hK hP q hq rfl 3 (by decide) flX0_isThere_45 rfl rfl dX0_isThere_4 ?_
  refine lv_if_le (tgt := 26) hx hb dX0_isThere_7 (by decide) (fun hc => ?_) (fun hc => ?_)
  · have hm := if_t hc hm
    refine lv_iconst (v := 0) hx hb dX0_isThere_26 (by decide) ?_
    obtain rfl := Option.some.inj hm
    exact hret _ _ _ _ dX0_isThere_27 (by decide) hP hS
  · have hm := if_f hc hm
    refine lv_aload_n hx hb dX0_isThere_10 rfl (lv_at hl 0 rfl) ?_
    refine lv_iconst (v := 0) hx hb dX0_isThere_11 (by decide) ?_
    obtain ⟨r12, hq0, hm⟩ := bd1_some hm
    obtain ⟨hw12, hm⟩ := gm_some hm
    refine k_callVA (As := [.int 0]) (rest := []) ⟨hx, hb, hml, hown, hts⟩ hK hA hN (c_X0_lookOf hG hq0) (cwV 1 hts gX0_isThere_X0_lookOf rfl rfl rfl hdX0_lookOf ⟨Nat.le_of_ble_eq_true rfl, Nat.le_of_ble_eq_true rfl⟩) hP (WCD hD) hS 3 0 rfl rfl rfl hl.1 rfl rfl (Nat.le_of_ble_eq_true rfl) ⟨Nat.zero_le _, Nat.zero_le _⟩ dX0_isThere_12 (fun H locs hP hS => ?_)
    obtain ⟨q, hq, -⟩ := WC_K hG hw12
    refine kg (v := .int (c_diff r12)) hx hb hts hiX0_isThere_X1 hown hK hP q hq rfl 3 (by decide) flX0_isThere_113 rfl rfl dX0_isThere_15 ?_
    refine lv_iconst (v := (-1)) hx hb dX0_isThere_18 (by decide) ?_
    refine lv_icmp_ne (tgt := 26) hx hb dX0_isThere_19 (by decide) (fun hc => ?_) (fun hc => ?_)
    · have hm := if_f hc hm
      refine lv_iconst (v := 0) hx hb dX0_isThere_26 (by decide) ?_
      obtain rfl := Option.some.inj hm
      exact hret _ _ _ _ dX0_isThere_27 (by decide) hP hS
    · have hm := if_t hc hm
      refine lv_iconst (v := 1) hx hb dX0_isThere_22 (by decide) ?_
      refine lv_goto (tgt := 27) hx hb dX0_isThere_23 (by decide) ?_
      obtain rfl := Option.some.inj hm
      exact hret _ _ _ _ dX0_isThere_27 (by decide) hP hS
theorem hdX0_rank : yX0_rank.cls = RX0 ∧ yX0_rank.cls ≠ "java/lang/invoke/MethodHandle" ∧ yX0_rank.cls ≠ "java/lang/invoke/VarHandle" ∧ (parseMethodDescriptor yX0_rank.desc).map (fun d => d.parameters.length) = some 0 := by decide +kernel
theorem hiX0_rank_X0 : ∀ w ∈ u_ws RX0 TX0 7, w ∈ wsX0_rank := by decide +kernel
theorem hiX0_rank_X1 : ∀ w ∈ u_ws RX1 TX1 6, w ∈ wsX0_rank := by decide +kernel
theorem hiX0_rank_X3 : ∀ w ∈ u_ws RX3 TX3 6, w ∈ wsX0_rank := by decide +kernel
theorem flX0_rank_12 : Cond.fieldLink RX0 12 "BlindPages$Index" "now" "LBlindPages$State;" ∈ wsX0_rank := by decide +kernel
theorem flX0_rank_45 : Cond.fieldLink RX0 45 "BlindPages$State" "pages" "I" ∈ wsX0_rank := by decide +kernel
theorem flX0_rank_104 : Cond.fieldLink RX0 104 "BlindPages$Look" "page" "I" ∈ wsX0_rank := by decide +kernel
theorem flX0_rank_125 : Cond.fieldLink RX0 125 "BlindPages$Look" "place" "I" ∈ wsX0_rank := by decide +kernel
def C0_rank (a : Nat → Nat) (LK : List Nat) (c_heads c_pages c_page c_place : Nat → Int32) : Option (Int32) := if (c_pages (a 14)) ≤ 0 then (some 0) else (bd1 (C0_lookOf a LK 0) fun r13 => gm LK r13 (bd1 (C0_headOf c_heads (c_page r13)) fun r19 => bd1 (C0_lookOf a LK 0) fun r24 => gm LK r24 (some (r19 + (c_place r24)))))
set_option maxRecDepth 100000 in
set_option maxHeartbeats 4000000 in
theorem c_X0_rank {l : Launch} {D : va_G} {cI cJ cB cL cS cW : ClassId} {a wb sw se : Nat → Nat} {LW LS LK : List Nat} {c_bytes c_heads c_firsts c_levelOf c_aboveOf c_partings c_signs c_count c_pages c_levels c_most c_page c_known c_guess c_diff c_pieces c_place : Nat → Int32} {c_bits : Nat → Nat → Int64} {c_words : Nat → Nat → Nat} {c_entries : Nat → Nat → Int32} {c_bads c_noes c_fulls c_length c_next c_kept c_base c_from c_to c_above c_bit c_lastLeft : Int32} {r : Int32} (hG : kG a LW LS LK) (hm : C0_rank a LK c_heads c_pages c_page c_place = some r) : k_MI l yX0_rank wsX0_rank { frames := 1, cells := 0, slots := 0, locals := 21 } D (kT cI cJ cB cL cS cW) [.ref (a 3)] (WC a wb sw se LW LS LK cI cJ cB cL cS cW c_bytes c_heads c_firsts c_levelOf c_aboveOf c_partings c_signs c_count c_pages c_levels c_most c_page c_known c_guess c_diff c_pieces c_place c_bits c_words c_entries c_bads c_noes c_fulls c_length c_next c_kept c_base c_from c_to c_above c_bit c_lastLeft) r (WC a wb sw se LW LS LK cI cJ cB cL cS cW c_bytes c_heads c_firsts c_levelOf c_aboveOf c_partings c_signs c_count c_pages c_levels c_most c_page c_known c_guess c_diff c_pieces c_place c_bits c_words c_entries c_bads c_noes c_fulls c_length c_next c_kept c_base c_from c_to c_above c_bit c_lastLeft) := by
  refine k_ofI (cc := cX0_rank) (maxL := 1) (own := RX0) (by decide) rfl rfl (Nat.le_of_ble_eq_true rfl) ?_
  intro p e s m args below meth c A Q ls C hP hD hl hret
  have hD : va_D A (WC0 a wb sw se LW LS LK cI cJ cB cL cS cW) := WCD hD
  have hS : va_S A s.heap s.heap [] := va_S.rf
  have hl : lv_has ls 1 [(0, .ref (a 3))] := hl
  obtain ⟨hx, hb, hml, hr, hown, hts, hlocks, hK, hA, hN⟩ := id C
  rw [C0_rank] at hm
  refine lv_aload_n hx hb dX0_rank_0 rfl (lv_at hl 0 rfl) ?_
  refine kg (v := .ref (a 14)) hx hb hts hiX0_rank_X0 hown hK hP 3 rfl rfl 0 (by decide) flX0_rank_12 rfl rfl dX0_rank_1 ?_
  obtain ⟨q, hq, -⟩ := WC_S hG hG.2.2.2.2.1
  refine kg (v := .int (c_pages (a 14))) hx hb hts hiX0_rank_X3 hown hK hP q hq rfl 3 (by decide) flX0_rank_45 rfl rfl dX0_rank_4 ?_
  refine lv_if_le (tgt := 34) hx hb dX0_rank_7 (by decide) (fun hc => ?_) (fun hc => ?_)
  · have hm := if_t hc hm
    refine lv_iconst (v := 0) hx hb dX0_rank_34 (by decide) ?_
    obtain rfl := Option.some.inj hm
    exact hret _ _ _ _ dX0_rank_35 hP hS
  · have hm := if_f hc hm
    refine lv_aload_n hx hb dX0_rank_10 rfl (lv_at hl 0 rfl) ?_
    refine lv_aload_n hx hb dX0_rank_11 rfl (lv_at hl 0 rfl) ?_
    refine lv_iconst (v := 0) hx hb dX0_rank_12 (by decide) ?_
    obtain ⟨r13, hq0, hm⟩ := bd1_some hm
    obtain ⟨hw13, hm⟩ := gm_some hm
    refine k_callVA (As := [.int 0]) (rest := [.ref (a 3)]) ⟨hx, hb, hml, hown, hts⟩ hK hA hN (c_X0_lookOf hG hq0) (cwV 1 hts gX0_rank_X0_lookOf rfl rfl rfl hdX0_lookOf ⟨Nat.le_of_ble_eq_true rfl, Nat.le_of_ble_eq_true rfl⟩) hP (WCD hD) hS 3 0 rfl rfl rfl hl.1 rfl rfl (Nat.le_of_ble_eq_true rfl) ⟨Nat.zero_le _, Nat.zero_le _⟩ dX0_rank_13 (fun H locs hP hS => ?_)
    obtain ⟨q, hq, -⟩ := WC_K hG hw13
    refine kg (v := .int (c_page r13)) hx hb hts hiX0_rank_X1 hown hK hP q hq rfl 0 (by decide) flX0_rank_104 rfl rfl dX0_rank_16 ?_
    obtain ⟨r19, hq0, hm⟩ := bd1_some hm
    refine k_callVI (As := [.int (c_page r13)]) (rest := []) ⟨hx, hb, hml, hown, hts⟩ hK hA hN (c_X0_headOf hG hq0) (cwV 1 hts gX0_rank_X0_headOf rfl rfl rfl hdX0_headOf ⟨Nat.le_of_ble_eq_true rfl, Nat.le_of_ble_eq_true rfl⟩) hP (WCD hD) hS 3 0 rfl rfl rfl hl.1 rfl rfl (Nat.le_of_ble_eq_true rfl) ⟨Nat.zero_le _, Nat.zero_le _⟩ dX0_rank_19 (fun H locs hP hS => ?_)
    refine lv_aload_n hx hb dX0_rank_22 rfl (lv_at hl 0 rfl) ?_
    refine lv_iconst (v := 0) hx hb dX0_rank_23 (by decide) ?_
    obtain ⟨r24, hq0, hm⟩ := bd1_some hm
    obtain ⟨hw24, hm⟩ := gm_some hm
    refine k_callVA (As := [.int 0]) (rest := [.int r19]) ⟨hx, hb, hml, hown, hts⟩ hK hA hN (c_X0_lookOf hG hq0) (cwV 1 hts gX0_rank_X0_lookOf rfl rfl rfl hdX0_lookOf ⟨Nat.le_of_ble_eq_true rfl, Nat.le_of_ble_eq_true rfl⟩) hP (WCD hD) hS 3 0 rfl rfl rfl hl.1 rfl rfl (Nat.le_of_ble_eq_true rfl) ⟨Nat.zero_le _, Nat.zero_le _⟩ dX0_rank_24 (fun H locs hP hS => ?_)
    obtain ⟨q, hq, -⟩ := WC_K hG hw24
    refine kg (v := .int (c_place r24)) hx hb hts hiX0_rank_X1 hown hK hP q hq rfl 5 (by decide) flX0_rank_125 rfl rfl dX0_rank_27 ?_
    refine lv_iadd hx hb dX0_rank_30 ?_
    refine lv_goto (tgt := 35) hx hb dX0_rank_31 (by decide) ?_
    obtain rfl := Option.some.inj hm
    exact hret _ _ _ _ dX0_rank_35 hP hS
theorem hdX6_copyFrom : yX6_copyFrom.cls = RX6 ∧ yX6_copyFrom.cls ≠ "java/lang/invoke/MethodHandle" ∧ yX6_copyFrom.cls ≠ "java/lang/invoke/VarHandle" ∧ (parseMethodDescriptor yX6_copyFrom.desc).map (fun d => d.parameters.length) = some 1 := by decide +kernel
theorem hiX6_copyFrom_X6 : ∀ w ∈ u_ws RX6 TX6 2, w ∈ wsX6_copyFrom := by decide +kernel
theorem flX6_copyFrom_9 : Cond.fieldLink RX6 9 "BlindPages$Word" "bits" "[J" ∈ wsX6_copyFrom := by decide +kernel
theorem flX6_copyFrom_15 : Cond.fieldLink RX6 15 "BlindPages$Word" "signs" "I" ∈ wsX6_copyFrom := by decide +kernel
def C6_copyFrom_L2 (v0 : Nat) (v1 : Nat) (k38 : (Nat → Int32) → (Nat → Nat → Int64) → Option ((Nat → Int32) × (Nat → Nat → Int64))) : Nat → (Nat → Int32) → (Nat → Nat → Int64) → Int32 → Option ((Nat → Int32) × (Nat → Nat → Int64))
  | 0, _, _, _ => none
  | n + 1, c_signs, c_bits, v2 => if 3 ≤ v2 then (k38 c_signs c_bits) else (if 3 ≤ v2 then (k38 c_signs c_bits) else (ga v2 3 (ga v2 3 (C6_copyFrom_L2 v0 v1 k38 n c_signs (va_up c_bits v0 (vp_updL (c_bits v0) v2.toNatClampNeg (c_bits v1 v2.toNatClampNeg))) (v2 + 1)))))
def C6_copyFrom (c_signs : Nat → Int32) (c_bits : Nat → Nat → Int64) (v0 : Nat) (v1 : Nat) : Option ((Nat → Int32) × (Nat → Nat → Int64)) := C6_copyFrom_L2 v0 v1 (fun c_signs c_bits => some ((va_up c_signs v0 (c_signs v1)), c_bits)) FU c_signs c_bits 0
set_option maxRecDepth 100000 in
set_option maxHeartbeats 4000000 in
theorem t_C6_copyFrom_L2 {p : Program} {l : Launch} {e : Env} {s : State} {m : MethodId} {args : Array Value} {below : List Frame} {meth : Method} {c : Code} {Q : State → Prop} {A : Nat → Prop} {D : va_G} {cI cJ cB cL cS cW : ClassId} {a wb sw se : Nat → Nat} {LW LS LK : List Nat} {c_bytes c_heads c_firsts c_levelOf c_aboveOf c_partings c_count c_pages c_levels c_most c_page c_known c_guess c_diff c_pieces c_place : Nat → Int32} {c_words : Nat → Nat → Nat} {c_entries : Nat → Nat → Int32} {c_bads c_noes c_fulls c_length c_next c_kept c_base c_from c_to c_above c_bit c_lastLeft : Int32} {v0 : Nat} {v1 : Nat} {o_signs : Nat → Int32} {o_bits : Nat → Nat → Int64} (C : k_C p s m args meth c cX6_copyFrom 3 none RX6 wsX6_copyFrom D (kT cI cJ cB cL cS cW) A) (hD : va_D A (WC0 a wb sw se LW LS LK cI cJ cB cL cS cW)) (hG : kG a LW LS LK) (hv0 : v0 ∈ LW) (hv1 : v1 ∈ LW) (hret : ∀ (H : Heap) (locs : List Loc) (pc : Nat) (ls : Array Slot), decode cX6_copyFrom pc = .ok (.return_, 1) → va_P D vwCl (WC a wb sw se LW LS LK cI cJ cB cL cS cW c_bytes c_heads c_firsts c_levelOf c_aboveOf c_partings o_signs c_count c_pages c_levels c_most c_page c_known c_guess c_diff c_pieces c_place o_bits c_words c_entries c_bads c_noes c_fulls c_length c_next c_kept c_base c_from c_to c_above c_bit c_lastLeft) H → va_S A s.heap H locs → W p l e { frames := 0, cells := 0, slots := 0, locals := 0 } s m args below meth c H locs 0 0 Q (F0 m pc ls [])) {k38 : (Nat → Int32) → (Nat → Nat → Int64) → Option ((Nat → Int32) × (Nat → Nat → Int64))} (hk38 : ∀ (c_signs : (Nat → Int32)) (c_bits : (Nat → Nat → Int64)) (H : Heap) (locs : List Loc) (ls : Array Slot), va_P D vwCl (WC a wb sw se LW LS LK cI cJ cB cL cS cW c_bytes c_heads c_firsts c_levelOf c_aboveOf c_partings c_signs c_count c_pages c_levels c_most c_page c_known c_guess c_diff c_pieces c_place c_bits c_words c_entries c_bads c_noes c_fulls c_length c_next c_kept c_base c_from c_to c_above c_bit c_lastLeft) H → va_S A s.heap H locs → lv_has ls 3 [(0, .ref v0), (1, .ref v1)] → k38 c_signs c_bits = some (o_signs, o_bits) → W p l e { frames := 0, cells := 0, slots := 0, locals := 0 } s m args below meth c H locs 0 0 Q (F0 m 38 ls [])) : ∀ n : Nat, ∀ (c_signs : (Nat → Int32)) (c_bits : (Nat → Nat → Int64)) (v2 : Int32) (H : Heap) (locs : List Loc) (ls : Array Slot), va_P D vwCl (WC a wb sw se LW LS LK cI cJ cB cL cS cW c_bytes c_heads c_firsts c_levelOf c_aboveOf c_partings c_signs c_count c_pages c_levels c_most c_page c_known c_guess c_diff c_pieces c_place c_bits c_words c_entries c_bads c_noes c_fulls c_length c_next c_kept c_base c_from c_to c_above c_bit c_lastLeft) H → va_S A s.heap H locs → lv_has ls 3 [(0, .ref v0), (1, .ref v1), (2, .int v2)] → (C6_copyFrom_L2 v0 v1 k38 n) c_signs c_bits v2 = some (o_signs, o_bits) → W p l e { frames := 0, cells := 0, slots := 0, locals := 0 } s m args below meth c H locs 0 0 Q (F0 m 2 ls []) := by
  obtain ⟨hx, hb, hml, hr, hown, hts, hlocks, hK, hA, hN⟩ := id C
  intro n
  induction n with
  | zero =>
    intro c_signs c_bits v2 H locs ls hP hS hl hm
    cases hm
  | succ n ih =>
    intro c_signs c_bits v2 H locs ls hP hS hl hm
    rw [C6_copyFrom_L2] at hm
    refine lv_iload_n hx hb dX6_copyFrom_2 rfl (lv_at hl 2 rfl) ?_
    refine lv_aload_n hx hb dX6_copyFrom_3 rfl (lv_at hl 0 rfl) ?_
    obtain ⟨q, hq, -⟩ := WC_W hG hv0
    refine kg (v := .ref (wb v0)) hx hb hts hiX6_copyFrom_X6 hown hK hP q hq rfl 0 (by decide) flX6_copyFrom_9 rfl rfl dX6_copyFrom_4 ?_
    obtain ⟨q, hq, -⟩ := WC_bits hG hv0
    refine va_alen (v := 3) hx hb hK hP q 1 hq rfl rfl dX6_copyFrom_7 ?_
    refine lv_icmp_ge (tgt := 38) hx hb dX6_copyFrom_8 (by decide) (fun hc => ?_) (fun hc => ?_)
    · have hm := if_t hc hm
      exact hk38 _ _ _ _ _ hP hS (lv_sub hl [0, 1] rfl) hm
    · have hm := if_f hc hm
      refine lv_iload_n hx hb dX6_copyFrom_11 rfl (lv_at hl 2 rfl) ?_
      refine lv_aload_n hx hb dX6_copyFrom_12 rfl (lv_at hl 1 rfl) ?_
      obtain ⟨q, hq, -⟩ := WC_W hG hv1
      refine kg (v := .ref (wb v1)) hx hb hts hiX6_copyFrom_X6 hown hK hP q hq rfl 0 (by decide) flX6_copyFrom_9 rfl rfl dX6_copyFrom_13 ?_
      obtain ⟨q, hq, -⟩ := WC_bits hG hv1
      refine va_alen (v := 3) hx hb hK hP q 1 hq rfl rfl dX6_copyFrom_16 ?_
      refine lv_icmp_ge (tgt := 38) hx hb dX6_copyFrom_17 (by decide) (fun hc => ?_) (fun hc => ?_)
      · have hm := if_t hc hm
        exact hk38 _ _ _ _ _ hP hS (lv_sub hl [0, 1] rfl) hm
      · have hm := if_f hc hm
        refine lv_aload_n hx hb dX6_copyFrom_20 rfl (lv_at hl 0 rfl) ?_
        obtain ⟨q, hq, -⟩ := WC_W hG hv0
        refine kg (v := .ref (wb v0)) hx hb hts hiX6_copyFrom_X6 hown hK hP q hq rfl 0 (by decide) flX6_copyFrom_9 rfl rfl dX6_copyFrom_21 ?_
        refine lv_iload_n hx hb dX6_copyFrom_24 rfl (lv_at hl 2 rfl) ?_
        refine lv_aload_n hx hb dX6_copyFrom_25 rfl (lv_at hl 1 rfl) ?_
        obtain ⟨q, hq, -⟩ := WC_W hG hv1
        refine kg (v := .ref (wb v1)) hx hb hts hiX6_copyFrom_X6 hown hK hP q hq rfl 0 (by decide) flX6_copyFrom_9 rfl rfl dX6_copyFrom_26 ?_
        refine lv_iload_n hx hb dX6_copyFrom_29 rfl (lv_at hl 2 rfl) ?_
        obtain ⟨hi, hm⟩ := ga_some hm
        obtain ⟨q, hq, -⟩ := WC_bits hG hv1
        refine k_lald hx hb hK hP q 1 hq rfl rfl hi dX6_copyFrom_30 ?_
        obtain ⟨hi, hm⟩ := ga_some hm
        obtain ⟨q, hq, he⟩ := WC_bits hG hv0
        refine k_last hx hb hK hP (WCD hD) hS q 1 hq rfl rfl hi dX6_copyFrom_31 (fun H locs hP hS => ?_)
        have hP : va_P D vwCl (WC a wb sw se LW LS LK cI cJ cB cL cS cW c_bytes c_heads c_firsts c_levelOf c_aboveOf c_partings c_signs c_count c_pages c_levels c_most c_page c_known c_guess c_diff c_pieces c_place (va_up c_bits v0 (vp_updL (c_bits v0) v2.toNatClampNeg (c_bits v1 v2.toNatClampNeg))) c_words c_entries c_bads c_noes c_fulls c_length c_next c_kept c_base c_from c_to c_above c_bit c_lastLeft) H := by rw [← he]; exact hP
        refine lv_iinc (v := (v2 + 1)) (lv' := [(2, .int (v2 + 1)), (0, .ref v0), (1, .ref v1)]) hx hb dX6_copyFrom_32 hl (k := 2) rfl rfl (by decide) rfl (fun ls hl => ?_)
        refine lv_goto (tgt := 2) hx hb dX6_copyFrom_35 (by decide) ?_
        exact ih _ _ _ _ _ _ hP hS (lv_sub hl [1, 2, 0] rfl) hm
set_option maxRecDepth 100000 in
set_option maxHeartbeats 4000000 in
theorem c_X6_copyFrom {l : Launch} {D : va_G} {cI cJ cB cL cS cW : ClassId} {a wb sw se : Nat → Nat} {LW LS LK : List Nat} {c_bytes c_heads c_firsts c_levelOf c_aboveOf c_partings c_signs c_count c_pages c_levels c_most c_page c_known c_guess c_diff c_pieces c_place : Nat → Int32} {c_bits : Nat → Nat → Int64} {c_words : Nat → Nat → Nat} {c_entries : Nat → Nat → Int32} {c_bads c_noes c_fulls c_length c_next c_kept c_base c_from c_to c_above c_bit c_lastLeft : Int32} {v0 : Nat} {v1 : Nat} {o_signs : Nat → Int32} {o_bits : Nat → Nat → Int64} (hG : kG a LW LS LK) (hv0 : v0 ∈ LW) (hv1 : v1 ∈ LW) (hm : C6_copyFrom c_signs c_bits v0 v1 = some (o_signs, o_bits)) : k_MV l yX6_copyFrom wsX6_copyFrom { frames := 0, cells := 0, slots := 0, locals := 0 } D (kT cI cJ cB cL cS cW) [.ref v0, .ref v1] (WC a wb sw se LW LS LK cI cJ cB cL cS cW c_bytes c_heads c_firsts c_levelOf c_aboveOf c_partings c_signs c_count c_pages c_levels c_most c_page c_known c_guess c_diff c_pieces c_place c_bits c_words c_entries c_bads c_noes c_fulls c_length c_next c_kept c_base c_from c_to c_above c_bit c_lastLeft) (WC a wb sw se LW LS LK cI cJ cB cL cS cW c_bytes c_heads c_firsts c_levelOf c_aboveOf c_partings o_signs c_count c_pages c_levels c_most c_page c_known c_guess c_diff c_pieces c_place o_bits c_words c_entries c_bads c_noes c_fulls c_length c_next c_kept c_base c_from c_to c_above c_bit c_lastLeft) := by
  refine k_ofV (cc := cX6_copyFrom) (maxL := 3) (own := RX6) (by decide) rfl rfl (Nat.le_of_ble_eq_true rfl) ?_
  intro p e s m args below meth c A Q ls C hP hD hl hret
  have hD : va_D A (WC0 a wb sw se LW LS LK cI cJ cB cL cS cW) := WCD hD
  have hS : va_S A s.heap s.heap [] := va_S.rf
  have hl : lv_has ls 3 [(0, .ref v0), (1, .ref v1)] := hl
  obtain ⟨hx, hb, hml, hr, hown, hts, hlocks, hK, hA, hN⟩ := id C
  rw [C6_copyFrom] at hm
  refine lv_iconst (v := 0) hx hb dX6_copyFrom_0 (by decide) ?_
  refine lv_istore_n (lv' := [(2, .int 0), (0, .ref v0), (1, .ref v1)]) hx hb dX6_copyFrom_1 rfl hl (by decide) rfl (fun ls hl => ?_)
  refine t_C6_copyFrom_L2 C hD hG hv0 hv1 hret ?_ FU _ _ _ _ _ _ hP hS (lv_sub hl [1, 2, 0] rfl) hm
  · intro c_signs c_bits H locs ls hP hS hl hm
    try dsimp only at hm
    refine lv_aload_n hx hb dX6_copyFrom_38 rfl (lv_at hl 0 rfl) ?_
    refine lv_aload_n hx hb dX6_copyFrom_39 rfl (lv_at hl 1 rfl) ?_
    obtain ⟨q, hq, -⟩ := WC_W hG hv1
    refine kg (v := .int (c_signs v1)) hx hb hts hiX6_copyFrom_X6 hown hK hP q hq rfl 1 (by decide) flX6_copyFrom_15 rfl rfl dX6_copyFrom_40 ?_
    obtain ⟨q, hq, he⟩ := WC_W hG hv0
    refine kp hx hb hts hiX6_copyFrom_X6 tyX6 tyX6_ok nmX6 hown hK hP (WCD hD) hS q hq rfl 1 (by decide) flX6_copyFrom_15 rfl rfl rfl (Nat.le_of_ble_eq_true rfl) dX6_copyFrom_43 (fun H locs hP hS => ?_)
    have hP : va_P D vwCl (WC a wb sw se LW LS LK cI cJ cB cL cS cW c_bytes c_heads c_firsts c_levelOf c_aboveOf c_partings (va_up c_signs v0 (c_signs v1)) c_count c_pages c_levels c_most c_page c_known c_guess c_diff c_pieces c_place c_bits c_words c_entries c_bads c_noes c_fulls c_length c_next c_kept c_base c_from c_to c_above c_bit c_lastLeft) H := by rw [← he]; exact hP
    simp only [Option.some.injEq, Prod.mk.injEq] at hm
    obtain ⟨rfl, rfl⟩ := hm
    exact hret _ _ _ _ dX6_copyFrom_46 hP hS
