theorem hdX8_puts : yX8_puts.cls = RX8 ∧ yX8_puts.cls ≠ "java/lang/invoke/MethodHandle" ∧ yX8_puts.cls ≠ "java/lang/invoke/VarHandle" ∧ (parseMethodDescriptor yX8_puts.desc).map (fun d => d.parameters.length) = some 1 := by decide +kernel
theorem hiX8_puts : ∀ w ∈ u_ws RX8 TX8 34, w ∈ wsX8_puts := by decide +kernel
theorem flX8_puts_7 : Cond.fieldLink RX8 7 "BlindPagesModel" "s" "[I" ∈ wsX8_puts := by decide +kernel
theorem flX8_puts_83 : Cond.fieldLink RX8 83 "BlindPagesModel" "askedLength" "I" ∈ wsX8_puts := by decide +kernel
theorem flX8_puts_25 : Cond.fieldLink RX8 25 "BlindPagesModel" "asked" "[I" ∈ wsX8_puts := by decide +kernel
def M_puts_L36 (m_asked : Nat → Int32) (m_askedLength : Int32) (v1 : Int32) (k81 : (Nat → Int32) → Int32 → Option ((Nat → Int32))) : Nat → (Nat → Int32) → Int32 → Int32 → Option ((Nat → Int32))
  | 0, _, _, _ => none
  | n + 1, m_s, v2, v3 => if 24 ≤ v3 then (k81 m_s v2) else (ga (((400 + (24 * v2)) - 24) + v3) 1552 (ga ((400 + (24 * v2)) + v3) 1552 (M_puts_L36 m_asked m_askedLength v1 k81 n (upd m_s ((400 + (24 * v2)) + v3).toNatClampNeg (m_s (((400 + (24 * v2)) - 24) + v3).toNatClampNeg)) v2 (v3 + 1))))
def M_puts_L7 (m_asked : Nat → Int32) (m_askedLength : Int32) (v1 : Int32) (k87 : (Nat → Int32) → Option ((Nat → Int32))) : Nat → (Nat → Int32) → Int32 → Option ((Nat → Int32))
  | 0, _, _ => none
  | n + 1, m_s, v2 => if v2 ≤ v1 then (k87 m_s) else (ga ((350 + v2) - 1) 1552 (ga (350 + v2) 1552 (M_puts_L36 m_asked m_askedLength v1 (fun m_s v2 => M_puts_L7 m_asked m_askedLength v1 k87 n m_s (v2 + (-1))) FU (upd m_s (350 + v2).toNatClampNeg (m_s ((350 + v2) - 1).toNatClampNeg)) v2 0)))
def M_puts_L103 (m_asked : Nat → Int32) (m_askedLength : Int32) (v1 : Int32) (k138 : (Nat → Int32) → Option ((Nat → Int32))) : Nat → (Nat → Int32) → Int32 → Option ((Nat → Int32))
  | 0, _, _ => none
  | n + 1, m_s, v2 => if m_askedLength ≤ v2 then (k138 m_s) else (ga v2 24 (ga ((400 + (24 * v1)) + v2) 1552 (M_puts_L103 m_asked m_askedLength v1 k138 n (upd m_s ((400 + (24 * v1)) + v2).toNatClampNeg (m_asked v2.toNatClampNeg)) (v2 + 1))))
def M_puts (m_asked : Nat → Int32) (m_askedLength : Int32) (m_s : Nat → Int32) (v1 : Int32) : Option ((Nat → Int32)) := M_puts_L7 m_asked m_askedLength v1 (fun m_s => ga (350 + v1) 1552 (M_puts_L103 m_asked m_askedLength v1 (fun m_s => some (upd m_s 0 ((m_s 0) + 1))) FU (upd m_s (350 + v1).toNatClampNeg m_askedLength) 0)) FU m_s (m_s 0)
set_option maxRecDepth 100000 in
set_option maxHeartbeats 4000000 in
theorem t_M_puts_L36 {p : Program} {l : Launch} {e : Env} {s : State} {m : MethodId} {args : Array Value} {below : List Frame} {meth : Method} {c : Code} {Q : State → Prop} {A : Nat → Prop} {D : va_G} {cI cJ cB cL cS cW : ClassId} {a : Nat → Nat} {m_past m_kept m_refused m_text m_asked m_heads m_forkBit m_forkFrom m_forkTo m_wayPage m_wayKnown m_wayGuess m_wayDiff m_wayRead m_wayPlace m_treeBit m_treeLeft m_treeRight m_treeAbove m_pileFrom m_pileTo m_pileAbove : Nat → Int32} {m_known m_typed m_askedLength m_entries m_forks m_guess m_diff m_read m_placeOf m_treeForks m_treeDeep : Int32} {v1 : Int32} {o_s : Nat → Int32} (C : k_C p s m args meth c cX8_puts 4 none RX8 wsX8_puts D (kT cI cJ cB cL cS cW) A) (hD : va_D A (WM0 a cI)) (hret : ∀ (H : Heap) (locs : List Loc) (pc : Nat) (ls : Array Slot), decode cX8_puts pc = .ok (.return_, 1) → va_P D vwCl (WM a cI o_s m_past m_kept m_refused m_text m_asked m_heads m_forkBit m_forkFrom m_forkTo m_wayPage m_wayKnown m_wayGuess m_wayDiff m_wayRead m_wayPlace m_treeBit m_treeLeft m_treeRight m_treeAbove m_pileFrom m_pileTo m_pileAbove m_known m_typed m_askedLength m_entries m_forks m_guess m_diff m_read m_placeOf m_treeForks m_treeDeep) H → va_S A s.heap H locs → W p l e { frames := 0, cells := 0, slots := 0, locals := 0 } s m args below meth c H locs 0 0 Q (F0 m pc ls [])) {k81 : (Nat → Int32) → Int32 → Option ((Nat → Int32))} (hk81 : ∀ (m_s : (Nat → Int32)) (v2 : Int32) (H : Heap) (locs : List Loc) (ls : Array Slot), va_P D vwCl (WM a cI m_s m_past m_kept m_refused m_text m_asked m_heads m_forkBit m_forkFrom m_forkTo m_wayPage m_wayKnown m_wayGuess m_wayDiff m_wayRead m_wayPlace m_treeBit m_treeLeft m_treeRight m_treeAbove m_pileFrom m_pileTo m_pileAbove m_known m_typed m_askedLength m_entries m_forks m_guess m_diff m_read m_placeOf m_treeForks m_treeDeep) H → va_S A s.heap H locs → lv_has ls 4 [(0, .ref (a 0)), (1, .int v1), (2, .int v2)] → k81 m_s v2 = some o_s → W p l e { frames := 0, cells := 0, slots := 0, locals := 0 } s m args below meth c H locs 0 0 Q (F0 m 81 ls [])) : ∀ n : Nat, ∀ (m_s : (Nat → Int32)) (v2 : Int32) (v3 : Int32) (H : Heap) (locs : List Loc) (ls : Array Slot), va_P D vwCl (WM a cI m_s m_past m_kept m_refused m_text m_asked m_heads m_forkBit m_forkFrom m_forkTo m_wayPage m_wayKnown m_wayGuess m_wayDiff m_wayRead m_wayPlace m_treeBit m_treeLeft m_treeRight m_treeAbove m_pileFrom m_pileTo m_pileAbove m_known m_typed m_askedLength m_entries m_forks m_guess m_diff m_read m_placeOf m_treeForks m_treeDeep) H → va_S A s.heap H locs → lv_has ls 4 [(0, .ref (a 0)), (1, .int v1), (2, .int v2), (3, .int v3)] → (M_puts_L36 m_asked m_askedLength v1 k81 n) m_s v2 v3 = some o_s → W p l e { frames := 0, cells := 0, slots := 0, locals := 0 } s m args below meth c H locs 0 0 Q (F0 m 36 ls []) := by
  obtain ⟨hx, hb, hml, hr, hown, hts, hlocks, hK, hA, hN⟩ := id C
  intro n
  induction n with
  | zero =>
    intro m_s v2 v3 H locs ls hP hS hl hm
    cases hm
  | succ n ih =>
    intro m_s v2 v3 H locs ls hP hS hl hm
    rw [M_puts_L36] at hm
    refine lv_iload_n hx hb dX8_puts_36 rfl (lv_at hl 3 rfl) ?_
    refine lv_bipush (v := 24) hx hb dX8_puts_37 (by decide) ?_
    refine lv_icmp_ge (tgt := 81) hx hb dX8_puts_39 (by decide) (fun hc => ?_) (fun hc => ?_)
    · have hm := if_t hc hm
      exact hk81 _ _ _ _ _ hP hS (lv_sub hl [0, 1, 2] rfl) hm
    · have hm := if_f hc hm
      refine lv_aload_n hx hb dX8_puts_42 rfl (lv_at hl 0 rfl) ?_
      refine kg (v := .ref (a 1)) hx hb hts hiX8_puts hown hK hP 0 rfl rfl 0 (by decide) flX8_puts_7 rfl rfl dX8_puts_43 ?_
      refine lv_sipush (v := 400) hx hb dX8_puts_46 (by decide) ?_
      refine lv_bipush (v := 24) hx hb dX8_puts_49 (by decide) ?_
      refine lv_iload_n hx hb dX8_puts_51 rfl (lv_at hl 2 rfl) ?_
      refine lv_imul hx hb dX8_puts_52 ?_
      refine lv_iadd hx hb dX8_puts_53 ?_
      refine lv_iload_n hx hb dX8_puts_54 rfl (lv_at hl 3 rfl) ?_
      refine lv_iadd hx hb dX8_puts_55 ?_
      refine lv_aload_n hx hb dX8_puts_56 rfl (lv_at hl 0 rfl) ?_
      refine kg (v := .ref (a 1)) hx hb hts hiX8_puts hown hK hP 0 rfl rfl 0 (by decide) flX8_puts_7 rfl rfl dX8_puts_57 ?_
      refine lv_sipush (v := 400) hx hb dX8_puts_60 (by decide) ?_
      refine lv_bipush (v := 24) hx hb dX8_puts_63 (by decide) ?_
      refine lv_iload_n hx hb dX8_puts_65 rfl (lv_at hl 2 rfl) ?_
      refine lv_imul hx hb dX8_puts_66 ?_
      refine lv_iadd hx hb dX8_puts_67 ?_
      refine lv_bipush (v := 24) hx hb dX8_puts_68 (by decide) ?_
      refine lv_isub hx hb dX8_puts_70 ?_
      refine lv_iload_n hx hb dX8_puts_71 rfl (lv_at hl 3 rfl) ?_
      refine lv_iadd hx hb dX8_puts_72 ?_
      obtain ⟨hi, hm⟩ := ga_some hm
      refine k_iald hx hb hK hP 1 0 rfl rfl rfl hi dX8_puts_73 ?_
      obtain ⟨hi, hm⟩ := ga_some hm
      refine k_iast hx hb hK hP (va_D_re hD rfl) hS 1 0 rfl rfl rfl hi dX8_puts_74 (fun H locs hP hS => ?_)
      have hP : va_P D vwCl (WM a cI (upd m_s ((400 + (24 * v2)) + v3).toNatClampNeg (m_s (((400 + (24 * v2)) - 24) + v3).toNatClampNeg)) m_past m_kept m_refused m_text m_asked m_heads m_forkBit m_forkFrom m_forkTo m_wayPage m_wayKnown m_wayGuess m_wayDiff m_wayRead m_wayPlace m_treeBit m_treeLeft m_treeRight m_treeAbove m_pileFrom m_pileTo m_pileAbove m_known m_typed m_askedLength m_entries m_forks m_guess m_diff m_read m_placeOf m_treeForks m_treeDeep) H := hP
      refine lv_iinc (v := (v3 + 1)) (lv' := [(3, .int (v3 + 1)), (0, .ref (a 0)), (1, .int v1), (2, .int v2)]) hx hb dX8_puts_75 hl (k := 3) rfl rfl (by decide) rfl (fun ls hl => ?_)
      refine lv_goto (tgt := 36) hx hb dX8_puts_78 (by decide) ?_
      exact ih _ _ _ _ _ _ hP hS (lv_sub hl [1, 2, 3, 0] rfl) hm
set_option maxRecDepth 100000 in
set_option maxHeartbeats 4000000 in
theorem t_M_puts_L7 {p : Program} {l : Launch} {e : Env} {s : State} {m : MethodId} {args : Array Value} {below : List Frame} {meth : Method} {c : Code} {Q : State → Prop} {A : Nat → Prop} {D : va_G} {cI cJ cB cL cS cW : ClassId} {a : Nat → Nat} {m_past m_kept m_refused m_text m_asked m_heads m_forkBit m_forkFrom m_forkTo m_wayPage m_wayKnown m_wayGuess m_wayDiff m_wayRead m_wayPlace m_treeBit m_treeLeft m_treeRight m_treeAbove m_pileFrom m_pileTo m_pileAbove : Nat → Int32} {m_known m_typed m_askedLength m_entries m_forks m_guess m_diff m_read m_placeOf m_treeForks m_treeDeep : Int32} {v1 : Int32} {o_s : Nat → Int32} (C : k_C p s m args meth c cX8_puts 4 none RX8 wsX8_puts D (kT cI cJ cB cL cS cW) A) (hD : va_D A (WM0 a cI)) (hret : ∀ (H : Heap) (locs : List Loc) (pc : Nat) (ls : Array Slot), decode cX8_puts pc = .ok (.return_, 1) → va_P D vwCl (WM a cI o_s m_past m_kept m_refused m_text m_asked m_heads m_forkBit m_forkFrom m_forkTo m_wayPage m_wayKnown m_wayGuess m_wayDiff m_wayRead m_wayPlace m_treeBit m_treeLeft m_treeRight m_treeAbove m_pileFrom m_pileTo m_pileAbove m_known m_typed m_askedLength m_entries m_forks m_guess m_diff m_read m_placeOf m_treeForks m_treeDeep) H → va_S A s.heap H locs → W p l e { frames := 0, cells := 0, slots := 0, locals := 0 } s m args below meth c H locs 0 0 Q (F0 m pc ls [])) {k87 : (Nat → Int32) → Option ((Nat → Int32))} (hk87 : ∀ (m_s : (Nat → Int32)) (H : Heap) (locs : List Loc) (ls : Array Slot), va_P D vwCl (WM a cI m_s m_past m_kept m_refused m_text m_asked m_heads m_forkBit m_forkFrom m_forkTo m_wayPage m_wayKnown m_wayGuess m_wayDiff m_wayRead m_wayPlace m_treeBit m_treeLeft m_treeRight m_treeAbove m_pileFrom m_pileTo m_pileAbove m_known m_typed m_askedLength m_entries m_forks m_guess m_diff m_read m_placeOf m_treeForks m_treeDeep) H → va_S A s.heap H locs → lv_has ls 4 [(0, .ref (a 0)), (1, .int v1)] → k87 m_s = some o_s → W p l e { frames := 0, cells := 0, slots := 0, locals := 0 } s m args below meth c H locs 0 0 Q (F0 m 87 ls [])) : ∀ n : Nat, ∀ (m_s : (Nat → Int32)) (v2 : Int32) (H : Heap) (locs : List Loc) (ls : Array Slot), va_P D vwCl (WM a cI m_s m_past m_kept m_refused m_text m_asked m_heads m_forkBit m_forkFrom m_forkTo m_wayPage m_wayKnown m_wayGuess m_wayDiff m_wayRead m_wayPlace m_treeBit m_treeLeft m_treeRight m_treeAbove m_pileFrom m_pileTo m_pileAbove m_known m_typed m_askedLength m_entries m_forks m_guess m_diff m_read m_placeOf m_treeForks m_treeDeep) H → va_S A s.heap H locs → lv_has ls 4 [(0, .ref (a 0)), (1, .int v1), (2, .int v2)] → (M_puts_L7 m_asked m_askedLength v1 k87 n) m_s v2 = some o_s → W p l e { frames := 0, cells := 0, slots := 0, locals := 0 } s m args below meth c H locs 0 0 Q (F0 m 7 ls []) := by
  obtain ⟨hx, hb, hml, hr, hown, hts, hlocks, hK, hA, hN⟩ := id C
  intro n
  induction n with
  | zero =>
    intro m_s v2 H locs ls hP hS hl hm
    cases hm
  | succ n ih =>
    intro m_s v2 H locs ls hP hS hl hm
    rw [M_puts_L7] at hm
    refine lv_iload_n hx hb dX8_puts_7 rfl (lv_at hl 2 rfl) ?_
    refine lv_iload_n hx hb dX8_puts_8 rfl (lv_at hl 1 rfl) ?_
    refine lv_icmp_le (tgt := 87) hx hb dX8_puts_9 (by decide) (fun hc => ?_) (fun hc => ?_)
    · have hm := if_t hc hm
      exact hk87 _ _ _ _ hP hS (lv_sub hl [0, 1] rfl) hm
    · have hm := if_f hc hm
      refine lv_aload_n hx hb dX8_puts_12 rfl (lv_at hl 0 rfl) ?_
      refine kg (v := .ref (a 1)) hx hb hts hiX8_puts hown hK hP 0 rfl rfl 0 (by decide) flX8_puts_7 rfl rfl dX8_puts_13 ?_
      refine lv_sipush (v := 350) hx hb dX8_puts_16 (by decide) ?_
      refine lv_iload_n hx hb dX8_puts_19 rfl (lv_at hl 2 rfl) ?_
      refine lv_iadd hx hb dX8_puts_20 ?_
      refine lv_aload_n hx hb dX8_puts_21 rfl (lv_at hl 0 rfl) ?_
      refine kg (v := .ref (a 1)) hx hb hts hiX8_puts hown hK hP 0 rfl rfl 0 (by decide) flX8_puts_7 rfl rfl dX8_puts_22 ?_
      refine lv_sipush (v := 350) hx hb dX8_puts_25 (by decide) ?_
      refine lv_iload_n hx hb dX8_puts_28 rfl (lv_at hl 2 rfl) ?_
      refine lv_iadd hx hb dX8_puts_29 ?_
      refine lv_iconst (v := 1) hx hb dX8_puts_30 (by decide) ?_
      refine lv_isub hx hb dX8_puts_31 ?_
      obtain ⟨hi, hm⟩ := ga_some hm
      refine k_iald hx hb hK hP 1 0 rfl rfl rfl hi dX8_puts_32 ?_
      obtain ⟨hi, hm⟩ := ga_some hm
      refine k_iast hx hb hK hP (va_D_re hD rfl) hS 1 0 rfl rfl rfl hi dX8_puts_33 (fun H locs hP hS => ?_)
      have hP : va_P D vwCl (WM a cI (upd m_s (350 + v2).toNatClampNeg (m_s ((350 + v2) - 1).toNatClampNeg)) m_past m_kept m_refused m_text m_asked m_heads m_forkBit m_forkFrom m_forkTo m_wayPage m_wayKnown m_wayGuess m_wayDiff m_wayRead m_wayPlace m_treeBit m_treeLeft m_treeRight m_treeAbove m_pileFrom m_pileTo m_pileAbove m_known m_typed m_askedLength m_entries m_forks m_guess m_diff m_read m_placeOf m_treeForks m_treeDeep) H := hP
      refine lv_iconst (v := 0) hx hb dX8_puts_34 (by decide) ?_
      refine lv_istore_n (lv' := [(3, .int 0), (0, .ref (a 0)), (1, .int v1), (2, .int v2)]) hx hb dX8_puts_35 rfl hl (by decide) rfl (fun ls hl => ?_)
      refine t_M_puts_L36 C hD hret ?_ FU _ _ _ _ _ _ hP hS (lv_sub hl [1, 2, 3, 0] rfl) hm
      · intro m_s v2 H locs ls hP hS hl hm
        try dsimp only at hm
        refine lv_iinc (v := (v2 + (-1))) (lv' := [(2, .int (v2 + (-1))), (0, .ref (a 0)), (1, .int v1)]) hx hb dX8_puts_81 hl (k := 2) rfl rfl (by decide) rfl (fun ls hl => ?_)
        refine lv_goto (tgt := 7) hx hb dX8_puts_84 (by decide) ?_
        exact ih _ _ _ _ _ hP hS (lv_sub hl [1, 2, 0] rfl) hm
set_option maxRecDepth 100000 in
set_option maxHeartbeats 4000000 in
theorem t_M_puts_L103 {p : Program} {l : Launch} {e : Env} {s : State} {m : MethodId} {args : Array Value} {below : List Frame} {meth : Method} {c : Code} {Q : State → Prop} {A : Nat → Prop} {D : va_G} {cI cJ cB cL cS cW : ClassId} {a : Nat → Nat} {m_past m_kept m_refused m_text m_asked m_heads m_forkBit m_forkFrom m_forkTo m_wayPage m_wayKnown m_wayGuess m_wayDiff m_wayRead m_wayPlace m_treeBit m_treeLeft m_treeRight m_treeAbove m_pileFrom m_pileTo m_pileAbove : Nat → Int32} {m_known m_typed m_askedLength m_entries m_forks m_guess m_diff m_read m_placeOf m_treeForks m_treeDeep : Int32} {v1 : Int32} {o_s : Nat → Int32} (C : k_C p s m args meth c cX8_puts 4 none RX8 wsX8_puts D (kT cI cJ cB cL cS cW) A) (hD : va_D A (WM0 a cI)) (hret : ∀ (H : Heap) (locs : List Loc) (pc : Nat) (ls : Array Slot), decode cX8_puts pc = .ok (.return_, 1) → va_P D vwCl (WM a cI o_s m_past m_kept m_refused m_text m_asked m_heads m_forkBit m_forkFrom m_forkTo m_wayPage m_wayKnown m_wayGuess m_wayDiff m_wayRead m_wayPlace m_treeBit m_treeLeft m_treeRight m_treeAbove m_pileFrom m_pileTo m_pileAbove m_known m_typed m_askedLength m_entries m_forks m_guess m_diff m_read m_placeOf m_treeForks m_treeDeep) H → va_S A s.heap H locs → W p l e { frames := 0, cells := 0, slots := 0, locals := 0 } s m args below meth c H locs 0 0 Q (F0 m pc ls [])) {k138 : (Nat → Int32) → Option ((Nat → Int32))} (hk138 : ∀ (m_s : (Nat → Int32)) (H : Heap) (locs : List Loc) (ls : Array Slot), va_P D vwCl (WM a cI m_s m_past m_kept m_refused m_text m_asked m_heads m_forkBit m_forkFrom m_forkTo m_wayPage m_wayKnown m_wayGuess m_wayDiff m_wayRead m_wayPlace m_treeBit m_treeLeft m_treeRight m_treeAbove m_pileFrom m_pileTo m_pileAbove m_known m_typed m_askedLength m_entries m_forks m_guess m_diff m_read m_placeOf m_treeForks m_treeDeep) H → va_S A s.heap H locs → lv_has ls 4 [(0, .ref (a 0))] → k138 m_s = some o_s → W p l e { frames := 0, cells := 0, slots := 0, locals := 0 } s m args below meth c H locs 0 0 Q (F0 m 138 ls [])) : ∀ n : Nat, ∀ (m_s : (Nat → Int32)) (v2 : Int32) (H : Heap) (locs : List Loc) (ls : Array Slot), va_P D vwCl (WM a cI m_s m_past m_kept m_refused m_text m_asked m_heads m_forkBit m_forkFrom m_forkTo m_wayPage m_wayKnown m_wayGuess m_wayDiff m_wayRead m_wayPlace m_treeBit m_treeLeft m_treeRight m_treeAbove m_pileFrom m_pileTo m_pileAbove m_known m_typed m_askedLength m_entries m_forks m_guess m_diff m_read m_placeOf m_treeForks m_treeDeep) H → va_S A s.heap H locs → lv_has ls 4 [(0, .ref (a 0)), (1, .int v1), (2, .int v2)] → (M_puts_L103 m_asked m_askedLength v1 k138 n) m_s v2 = some o_s → W p l e { frames := 0, cells := 0, slots := 0, locals := 0 } s m args below meth c H locs 0 0 Q (F0 m 103 ls []) := by
  obtain ⟨hx, hb, hml, hr, hown, hts, hlocks, hK, hA, hN⟩ := id C
  intro n
  induction n with
  | zero =>
    intro m_s v2 H locs ls hP hS hl hm
    cases hm
  | succ n ih =>
    intro m_s v2 H locs ls hP hS hl hm
    rw [M_puts_L103] at hm
    refine lv_iload_n hx hb dX8_puts_103 rfl (lv_at hl 2 rfl) ?_
    refine lv_aload_n hx hb dX8_puts_104 rfl (lv_at hl 0 rfl) ?_
    refine kg (v := .int m_askedLength) hx hb hts hiX8_puts hown hK hP 0 rfl rfl 8 (by decide) flX8_puts_83 rfl rfl dX8_puts_105 ?_
    refine lv_icmp_ge (tgt := 138) hx hb dX8_puts_108 (by decide) (fun hc => ?_) (fun hc => ?_)
    · have hm := if_t hc hm
      exact hk138 _ _ _ _ hP hS (lv_sub hl [0] rfl) hm
    · have hm := if_f hc hm
      refine lv_aload_n hx hb dX8_puts_111 rfl (lv_at hl 0 rfl) ?_
      refine kg (v := .ref (a 1)) hx hb hts hiX8_puts hown hK hP 0 rfl rfl 0 (by decide) flX8_puts_7 rfl rfl dX8_puts_112 ?_
      refine lv_sipush (v := 400) hx hb dX8_puts_115 (by decide) ?_
      refine lv_bipush (v := 24) hx hb dX8_puts_118 (by decide) ?_
      refine lv_iload_n hx hb dX8_puts_120 rfl (lv_at hl 1 rfl) ?_
      refine lv_imul hx hb dX8_puts_121 ?_
      refine lv_iadd hx hb dX8_puts_122 ?_
      refine lv_iload_n hx hb dX8_puts_123 rfl (lv_at hl 2 rfl) ?_
      refine lv_iadd hx hb dX8_puts_124 ?_
      refine lv_aload_n hx hb dX8_puts_125 rfl (lv_at hl 0 rfl) ?_
      refine kg (v := .ref (a 6)) hx hb hts hiX8_puts hown hK hP 0 rfl rfl 7 (by decide) flX8_puts_25 rfl rfl dX8_puts_126 ?_
      refine lv_iload_n hx hb dX8_puts_129 rfl (lv_at hl 2 rfl) ?_
      obtain ⟨hi, hm⟩ := ga_some hm
      refine k_iald hx hb hK hP 6 0 rfl rfl rfl hi dX8_puts_130 ?_
      obtain ⟨hi, hm⟩ := ga_some hm
      refine k_iast hx hb hK hP (va_D_re hD rfl) hS 1 0 rfl rfl rfl hi dX8_puts_131 (fun H locs hP hS => ?_)
      have hP : va_P D vwCl (WM a cI (upd m_s ((400 + (24 * v1)) + v2).toNatClampNeg (m_asked v2.toNatClampNeg)) m_past m_kept m_refused m_text m_asked m_heads m_forkBit m_forkFrom m_forkTo m_wayPage m_wayKnown m_wayGuess m_wayDiff m_wayRead m_wayPlace m_treeBit m_treeLeft m_treeRight m_treeAbove m_pileFrom m_pileTo m_pileAbove m_known m_typed m_askedLength m_entries m_forks m_guess m_diff m_read m_placeOf m_treeForks m_treeDeep) H := hP
      refine lv_iinc (v := (v2 + 1)) (lv' := [(2, .int (v2 + 1)), (0, .ref (a 0)), (1, .int v1)]) hx hb dX8_puts_132 hl (k := 2) rfl rfl (by decide) rfl (fun ls hl => ?_)
      refine lv_goto (tgt := 103) hx hb dX8_puts_135 (by decide) ?_
      exact ih _ _ _ _ _ hP hS (lv_sub hl [1, 2, 0] rfl) hm
set_option maxRecDepth 100000 in
set_option maxHeartbeats 4000000 in
theorem c_X8_puts {l : Launch} {D : va_G} {cI cJ cB cL cS cW : ClassId} {a : Nat → Nat} {m_s m_past m_kept m_refused m_text m_asked m_heads m_forkBit m_forkFrom m_forkTo m_wayPage m_wayKnown m_wayGuess m_wayDiff m_wayRead m_wayPlace m_treeBit m_treeLeft m_treeRight m_treeAbove m_pileFrom m_pileTo m_pileAbove : Nat → Int32} {m_known m_typed m_askedLength m_entries m_forks m_guess m_diff m_read m_placeOf m_treeForks m_treeDeep : Int32} {v1 : Int32} {o_s : Nat → Int32} (hm : M_puts m_asked m_askedLength m_s v1 = some o_s) : k_MV l yX8_puts wsX8_puts { frames := 0, cells := 0, slots := 0, locals := 0 } D (kT cI cJ cB cL cS cW) [.ref (a 0), .int v1] (WM a cI m_s m_past m_kept m_refused m_text m_asked m_heads m_forkBit m_forkFrom m_forkTo m_wayPage m_wayKnown m_wayGuess m_wayDiff m_wayRead m_wayPlace m_treeBit m_treeLeft m_treeRight m_treeAbove m_pileFrom m_pileTo m_pileAbove m_known m_typed m_askedLength m_entries m_forks m_guess m_diff m_read m_placeOf m_treeForks m_treeDeep) (WM a cI o_s m_past m_kept m_refused m_text m_asked m_heads m_forkBit m_forkFrom m_forkTo m_wayPage m_wayKnown m_wayGuess m_wayDiff m_wayRead m_wayPlace m_treeBit m_treeLeft m_treeRight m_treeAbove m_pileFrom m_pileTo m_pileAbove m_known m_typed m_askedLength m_entries m_forks m_guess m_diff m_read m_placeOf m_treeForks m_treeDeep) := by
  refine k_ofV (cc := cX8_puts) (maxL := 4) (own := RX8) (by decide) rfl rfl (Nat.le_of_ble_eq_true rfl) ?_
  intro p e s m args below meth c A Q ls C hP hD hl hret
  have hD : va_D A (WM0 a cI) := va_D_re hD rfl
  have hS : va_S A s.heap s.heap [] := va_S.rf
  have hl : lv_has ls 4 [(0, .ref (a 0)), (1, .int v1)] := hl
  obtain ⟨hx, hb, hml, hr, hown, hts, hlocks, hK, hA, hN⟩ := id C
  rw [M_puts] at hm
  refine lv_aload_n hx hb dX8_puts_0 rfl (lv_at hl 0 rfl) ?_
  refine kg (v := .ref (a 1)) hx hb hts hiX8_puts hown hK hP 0 rfl rfl 0 (by decide) flX8_puts_7 rfl rfl dX8_puts_1 ?_
  refine lv_iconst (v := 0) hx hb dX8_puts_4 (by decide) ?_
  refine k_iald (j := 0) hx hb hK hP 1 0 rfl rfl rfl (vp_lit (by decide)) dX8_puts_5 ?_
  refine lv_istore_n (lv' := [(2, .int (m_s 0)), (0, .ref (a 0)), (1, .int v1)]) hx hb dX8_puts_6 rfl hl (by decide) rfl (fun ls hl => ?_)
  refine t_M_puts_L7 C hD hret ?_ FU _ _ _ _ _ hP hS (lv_sub hl [1, 2, 0] rfl) hm
  · intro m_s H locs ls hP hS hl hm
    try dsimp only at hm
    refine lv_aload_n hx hb dX8_puts_87 rfl (lv_at hl 0 rfl) ?_
    refine kg (v := .ref (a 1)) hx hb hts hiX8_puts hown hK hP 0 rfl rfl 0 (by decide) flX8_puts_7 rfl rfl dX8_puts_88 ?_
    refine lv_sipush (v := 350) hx hb dX8_puts_91 (by decide) ?_
    refine lv_iload_n hx hb dX8_puts_94 rfl (lv_at hl 1 rfl) ?_
    refine lv_iadd hx hb dX8_puts_95 ?_
    refine lv_aload_n hx hb dX8_puts_96 rfl (lv_at hl 0 rfl) ?_
    refine kg (v := .int m_askedLength) hx hb hts hiX8_puts hown hK hP 0 rfl rfl 8 (by decide) flX8_puts_83 rfl rfl dX8_puts_97 ?_
    obtain ⟨hi, hm⟩ := ga_some hm
    refine k_iast hx hb hK hP (va_D_re hD rfl) hS 1 0 rfl rfl rfl hi dX8_puts_100 (fun H locs hP hS => ?_)
    have hP : va_P D vwCl (WM a cI (upd m_s (350 + v1).toNatClampNeg m_askedLength) m_past m_kept m_refused m_text m_asked m_heads m_forkBit m_forkFrom m_forkTo m_wayPage m_wayKnown m_wayGuess m_wayDiff m_wayRead m_wayPlace m_treeBit m_treeLeft m_treeRight m_treeAbove m_pileFrom m_pileTo m_pileAbove m_known m_typed m_askedLength m_entries m_forks m_guess m_diff m_read m_placeOf m_treeForks m_treeDeep) H := hP
    refine lv_iconst (v := 0) hx hb dX8_puts_101 (by decide) ?_
    refine lv_istore_n (lv' := [(2, .int 0), (0, .ref (a 0)), (1, .int v1)]) hx hb dX8_puts_102 rfl hl (by decide) rfl (fun ls hl => ?_)
    refine t_M_puts_L103 C hD hret ?_ FU _ _ _ _ _ hP hS (lv_sub hl [1, 2, 0] rfl) hm
    · intro m_s H locs ls hP hS hl hm
      try dsimp only at hm
      refine lv_aload_n hx hb dX8_puts_138 rfl (lv_at hl 0 rfl) ?_
      refine kg (v := .ref (a 1)) hx hb hts hiX8_puts hown hK hP 0 rfl rfl 0 (by decide) flX8_puts_7 rfl rfl dX8_puts_139 ?_
      refine lv_iconst (v := 0) hx hb dX8_puts_142 (by decide) ?_
      refine lv_dup2_11 hx hb dX8_puts_143 rfl rfl ?_
      refine k_iald (j := 0) hx hb hK hP 1 0 rfl rfl rfl (vp_lit (by decide)) dX8_puts_144 ?_
      refine lv_iconst (v := 1) hx hb dX8_puts_145 (by decide) ?_
      refine lv_iadd hx hb dX8_puts_146 ?_
      refine k_iast (j := 0) hx hb hK hP (va_D_re hD rfl) hS 1 0 rfl rfl rfl (vp_lit (by decide)) dX8_puts_147 (fun H locs hP hS => ?_)
      have hP : va_P D vwCl (WM a cI (upd m_s 0 ((m_s 0) + 1)) m_past m_kept m_refused m_text m_asked m_heads m_forkBit m_forkFrom m_forkTo m_wayPage m_wayKnown m_wayGuess m_wayDiff m_wayRead m_wayPlace m_treeBit m_treeLeft m_treeRight m_treeAbove m_pileFrom m_pileTo m_pileAbove m_known m_typed m_askedLength m_entries m_forks m_guess m_diff m_read m_placeOf m_treeForks m_treeDeep) H := hP
      obtain rfl := Option.some.inj hm
      exact hret _ _ _ _ dX8_puts_148 hP hS
theorem hdX8_adds : yX8_adds.cls = RX8 ∧ yX8_adds.cls ≠ "java/lang/invoke/MethodHandle" ∧ yX8_adds.cls ≠ "java/lang/invoke/VarHandle" ∧ (parseMethodDescriptor yX8_adds.desc).map (fun d => d.parameters.length) = some 0 := by decide +kernel
theorem hiX8_adds : ∀ w ∈ u_ws RX8 TX8 34, w ∈ wsX8_adds := by decide +kernel
theorem flX8_adds_7 : Cond.fieldLink RX8 7 "BlindPagesModel" "s" "[I" ∈ wsX8_adds := by decide +kernel
theorem flX8_adds_40 : Cond.fieldLink RX8 40 "BlindPagesModel" "wayPage" "[I" ∈ wsX8_adds := by decide +kernel
theorem flX8_adds_55 : Cond.fieldLink RX8 55 "BlindPagesModel" "wayPlace" "[I" ∈ wsX8_adds := by decide +kernel
def M_adds_J97 (m_asked : Nat → Int32) (m_askedLength : Int32) (k64 : (Nat → Int32) → (Nat → Int32) → (Nat → Int32) → (Nat → Int32) → (Nat → Int32) → (Nat → Int32) → (Nat → Int32) → (Nat → Int32) → (Nat → Int32) → (Nat → Int32) → (Nat → Int32) → Int32 → Int32 → Int32 → Int32 → Int32 → Int32 → Int32 → Int32 → Option ((Nat → Int32) × (Nat → Int32) × (Nat → Int32) × (Nat → Int32) × (Nat → Int32) × (Nat → Int32) × (Nat → Int32) × (Nat → Int32) × (Nat → Int32) × (Nat → Int32) × (Nat → Int32) × Int32 × Int32 × Int32 × Int32 × Int32 × Int32)) (k180 : (Nat → Int32) → (Nat → Int32) → (Nat → Int32) → (Nat → Int32) → (Nat → Int32) → (Nat → Int32) → (Nat → Int32) → (Nat → Int32) → (Nat → Int32) → (Nat → Int32) → (Nat → Int32) → Int32 → Int32 → Int32 → Int32 → Int32 → Int32 → Option ((Nat → Int32) × (Nat → Int32) × (Nat → Int32) × (Nat → Int32) × (Nat → Int32) × (Nat → Int32) × (Nat → Int32) × (Nat → Int32) × (Nat → Int32) × (Nat → Int32) × (Nat → Int32) × Int32 × Int32 × Int32 × Int32 × Int32 × Int32)) (m_s : (Nat → Int32)) (m_heads : (Nat → Int32)) (m_forkBit : (Nat → Int32)) (m_forkFrom : (Nat → Int32)) (m_forkTo : (Nat → Int32)) (m_wayPage : (Nat → Int32)) (m_wayKnown : (Nat → Int32)) (m_wayGuess : (Nat → Int32)) (m_wayDiff : (Nat → Int32)) (m_wayRead : (Nat → Int32)) (m_wayPlace : (Nat → Int32)) (m_entries : Int32) (m_forks : Int32) (m_guess : Int32) (m_diff : Int32) (m_read : Int32) (m_placeOf : Int32) (v1 : Int32) (v2 : Int32) (t0 : Int32) : Option ((Nat → Int32) × (Nat → Int32) × (Nat → Int32) × (Nat → Int32) × (Nat → Int32) × (Nat → Int32) × (Nat → Int32) × (Nat → Int32) × (Nat → Int32) × (Nat → Int32) × (Nat → Int32) × Int32 × Int32 × Int32 × Int32 × Int32 × Int32) := bd1 (M_sizeOf m_s v2 v1) fun r101 => bd1 (M_opensPage m_s v2 (v1 + 1)) fun m_s_111 => bd1 (M_setSize m_s_111 v2 v1 ((r101 + 1) / 2)) fun m_s_123 => bd1 (M_setSize m_s_123 v2 (v1 + 1) (r101 / 2)) fun m_s_135 => bd1 (M_topLevel m_s_135) fun r140 => if v2 = r140 then (bd1 (M_opensLevel m_s_135 2) fun m_s_148 => k64 m_s_148 m_heads m_forkBit m_forkFrom m_forkTo m_wayPage m_wayKnown m_wayGuess m_wayDiff m_wayRead m_wayPlace m_entries m_forks m_guess m_diff m_read m_placeOf t0 (v2 + 1)) else (bd1 (M_sizeOf m_s_135 (v2 + 1) t0) fun r164 => bd1 (M_setSize m_s_135 (v2 + 1) t0 (r164 + 1)) fun m_s_169 => k64 m_s_169 m_heads m_forkBit m_forkFrom m_forkTo m_wayPage m_wayKnown m_wayGuess m_wayDiff m_wayRead m_wayPlace m_entries m_forks m_guess m_diff m_read m_placeOf t0 (v2 + 1))
def M_adds_L64 (m_asked : Nat → Int32) (m_askedLength : Int32) (k180 : (Nat → Int32) → (Nat → Int32) → (Nat → Int32) → (Nat → Int32) → (Nat → Int32) → (Nat → Int32) → (Nat → Int32) → (Nat → Int32) → (Nat → Int32) → (Nat → Int32) → (Nat → Int32) → Int32 → Int32 → Int32 → Int32 → Int32 → Int32 → Option ((Nat → Int32) × (Nat → Int32) × (Nat → Int32) × (Nat → Int32) × (Nat → Int32) × (Nat → Int32) × (Nat → Int32) × (Nat → Int32) × (Nat → Int32) × (Nat → Int32) × (Nat → Int32) × Int32 × Int32 × Int32 × Int32 × Int32 × Int32)) : Nat → (Nat → Int32) → (Nat → Int32) → (Nat → Int32) → (Nat → Int32) → (Nat → Int32) → (Nat → Int32) → (Nat → Int32) → (Nat → Int32) → (Nat → Int32) → (Nat → Int32) → (Nat → Int32) → Int32 → Int32 → Int32 → Int32 → Int32 → Int32 → Int32 → Int32 → Option ((Nat → Int32) × (Nat → Int32) × (Nat → Int32) × (Nat → Int32) × (Nat → Int32) × (Nat → Int32) × (Nat → Int32) × (Nat → Int32) × (Nat → Int32) × (Nat → Int32) × (Nat → Int32) × Int32 × Int32 × Int32 × Int32 × Int32 × Int32)
  | 0, _, _, _, _, _, _, _, _, _, _, _, _, _, _, _, _, _, _, _ => none
  | n + 1, m_s, m_heads, m_forkBit, m_forkFrom, m_forkTo, m_wayPage, m_wayKnown, m_wayGuess, m_wayDiff, m_wayRead, m_wayPlace, m_entries, m_forks, m_guess, m_diff, m_read, m_placeOf, v1, v2 => bd1 (M_sizeOf m_s v2 v1) fun r67 => if r67 ≤ (m_s 1) then (k180 m_s m_heads m_forkBit m_forkFrom m_forkTo m_wayPage m_wayKnown m_wayGuess m_wayDiff m_wayRead m_wayPlace m_entries m_forks m_guess m_diff m_read m_placeOf) else (bd1 (M_topLevel m_s) fun r81 => if v2 = r81 then (M_adds_J97 m_asked m_askedLength (M_adds_L64 m_asked m_askedLength k180 n) k180 m_s m_heads m_forkBit m_forkFrom m_forkTo m_wayPage m_wayKnown m_wayGuess m_wayDiff m_wayRead m_wayPlace m_entries m_forks m_guess m_diff m_read m_placeOf v1 v2 0) else (bd1 (M_over m_s v2 v1) fun r94 => M_adds_J97 m_asked m_askedLength (M_adds_L64 m_asked m_askedLength k180 n) k180 m_s m_heads m_forkBit m_forkFrom m_forkTo m_wayPage m_wayKnown m_wayGuess m_wayDiff m_wayRead m_wayPlace m_entries m_forks m_guess m_diff m_read m_placeOf v1 v2 r94))
def M_adds (m_asked : Nat → Int32) (m_askedLength : Int32) (m_s m_heads m_forkBit m_forkFrom m_forkTo m_wayPage m_wayKnown m_wayGuess m_wayDiff m_wayRead m_wayPlace : Nat → Int32) (m_entries m_forks m_guess m_diff m_read m_placeOf : Int32) : Option ((Nat → Int32) × (Nat → Int32) × (Nat → Int32) × (Nat → Int32) × (Nat → Int32) × (Nat → Int32) × (Nat → Int32) × (Nat → Int32) × (Nat → Int32) × (Nat → Int32) × (Nat → Int32) × Int32 × Int32 × Int32 × Int32 × Int32 × Int32) := if (m_s 2) = 0 then (bd1 (M_puts m_asked m_askedLength m_s 0) fun m_s_11 => bd1 (M_opensLevel m_s_11 1) fun m_s_16 => some (m_s_16, m_heads, m_forkBit, m_forkFrom, m_forkTo, m_wayPage, m_wayKnown, m_wayGuess, m_wayDiff, m_wayRead, m_wayPlace, m_entries, m_forks, m_guess, m_diff, m_read, m_placeOf)) else (bd16 (M_goes m_s m_asked m_askedLength m_heads m_forkBit m_forkFrom m_forkTo m_wayPage m_wayKnown m_wayGuess m_wayDiff m_wayRead m_wayPlace m_entries m_forks m_guess m_diff m_read m_placeOf) fun m_heads_21 m_forkBit_21 m_forkFrom_21 m_forkTo_21 m_wayPage_21 m_wayKnown_21 m_wayGuess_21 m_wayDiff_21 m_wayRead_21 m_wayPlace_21 m_entries_21 m_forks_21 m_guess_21 m_diff_21 m_read_21 m_placeOf_21 => bd1 (M_entriesAhead m_s 0 (m_wayPage_21 0)) fun r35 => bd1 (M_puts m_asked m_askedLength m_s (r35 + (m_wayPlace_21 0))) fun m_s_45 => bd1 (M_sizeOf m_s_45 0 (m_wayPage_21 0)) fun r54 => bd1 (M_setSize m_s_45 0 (m_wayPage_21 0) (r54 + 1)) fun m_s_59 => M_adds_L64 m_asked m_askedLength (fun m_s m_heads m_forkBit m_forkFrom m_forkTo m_wayPage m_wayKnown m_wayGuess m_wayDiff m_wayRead m_wayPlace m_entries m_forks m_guess m_diff m_read m_placeOf => some (m_s, m_heads, m_forkBit, m_forkFrom, m_forkTo, m_wayPage, m_wayKnown, m_wayGuess, m_wayDiff, m_wayRead, m_wayPlace, m_entries, m_forks, m_guess, m_diff, m_read, m_placeOf)) FU m_s_59 m_heads_21 m_forkBit_21 m_forkFrom_21 m_forkTo_21 m_wayPage_21 m_wayKnown_21 m_wayGuess_21 m_wayDiff_21 m_wayRead_21 m_wayPlace_21 m_entries_21 m_forks_21 m_guess_21 m_diff_21 m_read_21 m_placeOf_21 (m_wayPage_21 0) 0)
set_option maxRecDepth 100000 in
set_option maxHeartbeats 4000000 in
theorem t_M_adds_J97 {p : Program} {l : Launch} {e : Env} {s : State} {m : MethodId} {args : Array Value} {below : List Frame} {meth : Method} {c : Code} {Q : State → Prop} {A : Nat → Prop} {D : va_G} {cI cJ cB cL cS cW : ClassId} {a : Nat → Nat} {m_past m_kept m_refused m_text m_asked m_treeBit m_treeLeft m_treeRight m_treeAbove m_pileFrom m_pileTo m_pileAbove : Nat → Int32} {m_known m_typed m_askedLength m_treeForks m_treeDeep : Int32} {o_s : Nat → Int32} {o_heads : Nat → Int32} {o_forkBit : Nat → Int32} {o_forkFrom : Nat → Int32} {o_forkTo : Nat → Int32} {o_wayPage : Nat → Int32} {o_wayKnown : Nat → Int32} {o_wayGuess : Nat → Int32} {o_wayDiff : Nat → Int32} {o_wayRead : Nat → Int32} {o_wayPlace : Nat → Int32} {o_entries : Int32} {o_forks : Int32} {o_guess : Int32} {o_diff : Int32} {o_read : Int32} {o_placeOf : Int32} (C : k_C p s m args meth c cX8_adds 5 none RX8 wsX8_adds D (kT cI cJ cB cL cS cW) A) (hD : va_D A (WM0 a cI)) (hret : ∀ (H : Heap) (locs : List Loc) (pc : Nat) (ls : Array Slot), decode cX8_adds pc = .ok (.return_, 1) → va_P D vwCl (WM a cI o_s m_past m_kept m_refused m_text m_asked o_heads o_forkBit o_forkFrom o_forkTo o_wayPage o_wayKnown o_wayGuess o_wayDiff o_wayRead o_wayPlace m_treeBit m_treeLeft m_treeRight m_treeAbove m_pileFrom m_pileTo m_pileAbove m_known m_typed m_askedLength o_entries o_forks o_guess o_diff o_read o_placeOf m_treeForks m_treeDeep) H → va_S A s.heap H locs → W p l e { frames := 6, cells := 0, slots := 0, locals := 148 } s m args below meth c H locs 0 0 Q (F0 m pc ls [])) {k64 : (Nat → Int32) → (Nat → Int32) → (Nat → Int32) → (Nat → Int32) → (Nat → Int32) → (Nat → Int32) → (Nat → Int32) → (Nat → Int32) → (Nat → Int32) → (Nat → Int32) → (Nat → Int32) → Int32 → Int32 → Int32 → Int32 → Int32 → Int32 → Int32 → Int32 → Option ((Nat → Int32) × (Nat → Int32) × (Nat → Int32) × (Nat → Int32) × (Nat → Int32) × (Nat → Int32) × (Nat → Int32) × (Nat → Int32) × (Nat → Int32) × (Nat → Int32) × (Nat → Int32) × Int32 × Int32 × Int32 × Int32 × Int32 × Int32)} (hk64 : ∀ (m_s : (Nat → Int32)) (m_heads : (Nat → Int32)) (m_forkBit : (Nat → Int32)) (m_forkFrom : (Nat → Int32)) (m_forkTo : (Nat → Int32)) (m_wayPage : (Nat → Int32)) (m_wayKnown : (Nat → Int32)) (m_wayGuess : (Nat → Int32)) (m_wayDiff : (Nat → Int32)) (m_wayRead : (Nat → Int32)) (m_wayPlace : (Nat → Int32)) (m_entries : Int32) (m_forks : Int32) (m_guess : Int32) (m_diff : Int32) (m_read : Int32) (m_placeOf : Int32) (v1 : Int32) (v2 : Int32) (H : Heap) (locs : List Loc) (ls : Array Slot), va_P D vwCl (WM a cI m_s m_past m_kept m_refused m_text m_asked m_heads m_forkBit m_forkFrom m_forkTo m_wayPage m_wayKnown m_wayGuess m_wayDiff m_wayRead m_wayPlace m_treeBit m_treeLeft m_treeRight m_treeAbove m_pileFrom m_pileTo m_pileAbove m_known m_typed m_askedLength m_entries m_forks m_guess m_diff m_read m_placeOf m_treeForks m_treeDeep) H → va_S A s.heap H locs → lv_has ls 5 [(0, .ref (a 0)), (1, .int v1), (2, .int v2)] → k64 m_s m_heads m_forkBit m_forkFrom m_forkTo m_wayPage m_wayKnown m_wayGuess m_wayDiff m_wayRead m_wayPlace m_entries m_forks m_guess m_diff m_read m_placeOf v1 v2 = some (o_s, o_heads, o_forkBit, o_forkFrom, o_forkTo, o_wayPage, o_wayKnown, o_wayGuess, o_wayDiff, o_wayRead, o_wayPlace, o_entries, o_forks, o_guess, o_diff, o_read, o_placeOf) → W p l e { frames := 6, cells := 0, slots := 0, locals := 148 } s m args below meth c H locs 0 0 Q (F0 m 64 ls [])) {k180 : (Nat → Int32) → (Nat → Int32) → (Nat → Int32) → (Nat → Int32) → (Nat → Int32) → (Nat → Int32) → (Nat → Int32) → (Nat → Int32) → (Nat → Int32) → (Nat → Int32) → (Nat → Int32) → Int32 → Int32 → Int32 → Int32 → Int32 → Int32 → Option ((Nat → Int32) × (Nat → Int32) × (Nat → Int32) × (Nat → Int32) × (Nat → Int32) × (Nat → Int32) × (Nat → Int32) × (Nat → Int32) × (Nat → Int32) × (Nat → Int32) × (Nat → Int32) × Int32 × Int32 × Int32 × Int32 × Int32 × Int32)} (hk180 : ∀ (m_s : (Nat → Int32)) (m_heads : (Nat → Int32)) (m_forkBit : (Nat → Int32)) (m_forkFrom : (Nat → Int32)) (m_forkTo : (Nat → Int32)) (m_wayPage : (Nat → Int32)) (m_wayKnown : (Nat → Int32)) (m_wayGuess : (Nat → Int32)) (m_wayDiff : (Nat → Int32)) (m_wayRead : (Nat → Int32)) (m_wayPlace : (Nat → Int32)) (m_entries : Int32) (m_forks : Int32) (m_guess : Int32) (m_diff : Int32) (m_read : Int32) (m_placeOf : Int32) (H : Heap) (locs : List Loc) (ls : Array Slot), va_P D vwCl (WM a cI m_s m_past m_kept m_refused m_text m_asked m_heads m_forkBit m_forkFrom m_forkTo m_wayPage m_wayKnown m_wayGuess m_wayDiff m_wayRead m_wayPlace m_treeBit m_treeLeft m_treeRight m_treeAbove m_pileFrom m_pileTo m_pileAbove m_known m_typed m_askedLength m_entries m_forks m_guess m_diff m_read m_placeOf m_treeForks m_treeDeep) H → va_S A s.heap H locs → lv_has ls 5 [] → k180 m_s m_heads m_forkBit m_forkFrom m_forkTo m_wayPage m_wayKnown m_wayGuess m_wayDiff m_wayRead m_wayPlace m_entries m_forks m_guess m_diff m_read m_placeOf = some (o_s, o_heads, o_forkBit, o_forkFrom, o_forkTo, o_wayPage, o_wayKnown, o_wayGuess, o_wayDiff, o_wayRead, o_wayPlace, o_entries, o_forks, o_guess, o_diff, o_read, o_placeOf) → W p l e { frames := 6, cells := 0, slots := 0, locals := 148 } s m args below meth c H locs 0 0 Q (F0 m 180 ls [])) : ∀ (m_s : (Nat → Int32)) (m_heads : (Nat → Int32)) (m_forkBit : (Nat → Int32)) (m_forkFrom : (Nat → Int32)) (m_forkTo : (Nat → Int32)) (m_wayPage : (Nat → Int32)) (m_wayKnown : (Nat → Int32)) (m_wayGuess : (Nat → Int32)) (m_wayDiff : (Nat → Int32)) (m_wayRead : (Nat → Int32)) (m_wayPlace : (Nat → Int32)) (m_entries : Int32) (m_forks : Int32) (m_guess : Int32) (m_diff : Int32) (m_read : Int32) (m_placeOf : Int32) (v1 : Int32) (v2 : Int32) (t0 : Int32) (H : Heap) (locs : List Loc) (ls : Array Slot), va_P D vwCl (WM a cI m_s m_past m_kept m_refused m_text m_asked m_heads m_forkBit m_forkFrom m_forkTo m_wayPage m_wayKnown m_wayGuess m_wayDiff m_wayRead m_wayPlace m_treeBit m_treeLeft m_treeRight m_treeAbove m_pileFrom m_pileTo m_pileAbove m_known m_typed m_askedLength m_entries m_forks m_guess m_diff m_read m_placeOf m_treeForks m_treeDeep) H → va_S A s.heap H locs → lv_has ls 5 [(0, .ref (a 0)), (1, .int v1), (2, .int v2)] → M_adds_J97 m_asked m_askedLength k64 k180 m_s m_heads m_forkBit m_forkFrom m_forkTo m_wayPage m_wayKnown m_wayGuess m_wayDiff m_wayRead m_wayPlace m_entries m_forks m_guess m_diff m_read m_placeOf v1 v2 t0 = some (o_s, o_heads, o_forkBit, o_forkFrom, o_forkTo, o_wayPage, o_wayKnown, o_wayGuess, o_wayDiff, o_wayRead, o_wayPlace, o_entries, o_forks, o_guess, o_diff, o_read, o_placeOf) → W p l e { frames := 6, cells := 0, slots := 0, locals := 148 } s m args below meth c H locs 0 0 Q (F0 m 97 ls [.int t0]) := by
  obtain ⟨hx, hb, hml, hr, hown, hts, hlocks, hK, hA, hN⟩ := id C
  intro m_s m_heads m_forkBit m_forkFrom m_forkTo m_wayPage m_wayKnown m_wayGuess m_wayDiff m_wayRead m_wayPlace m_entries m_forks m_guess m_diff m_read m_placeOf v1 v2 t0 H locs ls hP hS hl hm
  rw [M_adds_J97] at hm
  refine lv_istore_n (lv' := [(3, .int t0), (0, .ref (a 0)), (1, .int v1), (2, .int v2)]) hx hb dX8_adds_97 rfl hl (by decide) rfl (fun ls hl => ?_)
  refine lv_aload_n hx hb dX8_adds_98 rfl (lv_at hl 1 rfl) ?_
  refine lv_iload_n hx hb dX8_adds_99 rfl (lv_at hl 3 rfl) ?_
  refine lv_iload_n hx hb dX8_adds_100 rfl (lv_at hl 2 rfl) ?_
  obtain ⟨r101, hq, hm⟩ := bd1_some hm
  refine k_callVI (As := [.int v2, .int v1]) (rest := []) ⟨hx, hb, hml, hown, hts⟩ hK hA hN (c_X8_sizeOf (a := a) hq) (cwV 2 hts gX8_adds_X8_sizeOf rfl rfl rfl hdX8_sizeOf ⟨Nat.le_of_ble_eq_true rfl, Nat.le_of_ble_eq_true rfl⟩) hP (va_D_re hD rfl) hS 0 8 rfl rfl rfl hl.1 rfl rfl (Nat.le_of_ble_eq_true rfl) ⟨Nat.zero_le _, Nat.zero_le _⟩ dX8_adds_101 (fun H locs hP hS => ?_)
  refine lv_istore (lv' := [(4, .int r101), (3, .int t0), (0, .ref (a 0)), (1, .int v1), (2, .int v2)]) hx hb dX8_adds_104 hl (by decide) rfl (fun ls hl => ?_)
  refine lv_aload_n hx hb dX8_adds_106 rfl (lv_at hl 2 rfl) ?_
  refine lv_iload_n hx hb dX8_adds_107 rfl (lv_at hl 4 rfl) ?_
  refine lv_iload_n hx hb dX8_adds_108 rfl (lv_at hl 3 rfl) ?_
  refine lv_iconst (v := 1) hx hb dX8_adds_109 (by decide) ?_
  refine lv_iadd hx hb dX8_adds_110 ?_
  obtain ⟨m_s_111, hq, hm⟩ := bd1_some hm
  refine k_callVV (As := [.int v2, .int (v1 + 1)]) (rest := []) ⟨hx, hb, hml, hown, hts⟩ hK hA hN (c_X8_opensPage (a := a) hq) (cwV 2 hts gX8_adds_X8_opensPage rfl rfl rfl hdX8_opensPage ⟨Nat.le_of_ble_eq_true rfl, Nat.le_of_ble_eq_true rfl⟩) hP (va_D_re hD rfl) hS 0 8 rfl rfl rfl hl.1 rfl rfl (Nat.le_of_ble_eq_true rfl) ⟨Nat.zero_le _, Nat.zero_le _⟩ dX8_adds_111 (fun H locs hP hS => ?_)
  refine lv_aload_n hx hb dX8_adds_114 rfl (lv_at hl 2 rfl) ?_
  refine lv_iload_n hx hb dX8_adds_115 rfl (lv_at hl 4 rfl) ?_
  refine lv_iload_n hx hb dX8_adds_116 rfl (lv_at hl 3 rfl) ?_
  refine lv_iload hx hb dX8_adds_117 (lv_at hl 0 rfl) ?_
  refine lv_iconst (v := 1) hx hb dX8_adds_119 (by decide) ?_
  refine lv_iadd hx hb dX8_adds_120 ?_
  refine lv_iconst (v := 2) hx hb dX8_adds_121 (by decide) ?_
  refine lv_idiv hx hb dX8_adds_122 (by decide) ?_
  obtain ⟨m_s_123, hq, hm⟩ := bd1_some hm
  refine k_callVV (As := [.int v2, .int v1, .int ((r101 + 1) / 2)]) (rest := []) ⟨hx, hb, hml, hown, hts⟩ hK hA hN (c_X8_setSize (a := a) hq) (cwV 3 hts gX8_adds_X8_setSize rfl rfl rfl hdX8_setSize ⟨Nat.le_of_ble_eq_true rfl, Nat.le_of_ble_eq_true rfl⟩) hP (va_D_re hD rfl) hS 0 8 rfl rfl rfl hl.1 rfl rfl (Nat.le_of_ble_eq_true rfl) ⟨Nat.zero_le _, Nat.zero_le _⟩ dX8_adds_123 (fun H locs hP hS => ?_)
  refine lv_aload_n hx hb dX8_adds_126 rfl (lv_at hl 2 rfl) ?_
  refine lv_iload_n hx hb dX8_adds_127 rfl (lv_at hl 4 rfl) ?_
  refine lv_iload_n hx hb dX8_adds_128 rfl (lv_at hl 3 rfl) ?_
  refine lv_iconst (v := 1) hx hb dX8_adds_129 (by decide) ?_
  refine lv_iadd hx hb dX8_adds_130 ?_
  refine lv_iload hx hb dX8_adds_131 (lv_at hl 0 rfl) ?_
  refine lv_iconst (v := 2) hx hb dX8_adds_133 (by decide) ?_
  refine lv_idiv hx hb dX8_adds_134 (by decide) ?_
  obtain ⟨m_s_135, hq, hm⟩ := bd1_some hm
  refine k_callVV (As := [.int v2, .int (v1 + 1), .int (r101 / 2)]) (rest := []) ⟨hx, hb, hml, hown, hts⟩ hK hA hN (c_X8_setSize (a := a) hq) (cwV 3 hts gX8_adds_X8_setSize rfl rfl rfl hdX8_setSize ⟨Nat.le_of_ble_eq_true rfl, Nat.le_of_ble_eq_true rfl⟩) hP (va_D_re hD rfl) hS 0 8 rfl rfl rfl hl.1 rfl rfl (Nat.le_of_ble_eq_true rfl) ⟨Nat.zero_le _, Nat.zero_le _⟩ dX8_adds_135 (fun H locs hP hS => ?_)
  refine lv_iload_n hx hb dX8_adds_138 rfl (lv_at hl 4 rfl) ?_
  refine lv_aload_n hx hb dX8_adds_139 rfl (lv_at hl 2 rfl) ?_
  obtain ⟨r140, hq, hm⟩ := bd1_some hm
  refine k_callVI (As := []) (rest := [.int v2]) ⟨hx, hb, hml, hown, hts⟩ hK hA hN (c_X8_topLevel (a := a) hq) (cwV 0 hts gX8_adds_X8_topLevel rfl rfl rfl hdX8_topLevel ⟨Nat.le_of_ble_eq_true rfl, Nat.le_of_ble_eq_true rfl⟩) hP (va_D_re hD rfl) hS 0 8 rfl rfl rfl hl.1 rfl rfl (Nat.le_of_ble_eq_true rfl) ⟨Nat.zero_le _, Nat.zero_le _⟩ dX8_adds_140 (fun H locs hP hS => ?_)
  refine lv_icmp_ne (tgt := 154) hx hb dX8_adds_143 (by decide) (fun hc => ?_) (fun hc => ?_)
  · have hm := if_f hc hm
    refine lv_aload_n hx hb dX8_adds_154 rfl (lv_at hl 2 rfl) ?_
    refine lv_iload_n hx hb dX8_adds_155 rfl (lv_at hl 4 rfl) ?_
    refine lv_iconst (v := 1) hx hb dX8_adds_156 (by decide) ?_
    refine lv_iadd hx hb dX8_adds_157 ?_
    refine lv_iload_n hx hb dX8_adds_158 rfl (lv_at hl 1 rfl) ?_
    refine lv_aload_n hx hb dX8_adds_159 rfl (lv_at hl 2 rfl) ?_
    refine lv_iload_n hx hb dX8_adds_160 rfl (lv_at hl 4 rfl) ?_
    refine lv_iconst (v := 1) hx hb dX8_adds_161 (by decide) ?_
    refine lv_iadd hx hb dX8_adds_162 ?_
    refine lv_iload_n hx hb dX8_adds_163 rfl (lv_at hl 1 rfl) ?_
    obtain ⟨r164, hq, hm⟩ := bd1_some hm
    refine k_callVI (As := [.int (v2 + 1), .int t0]) (rest := [.int t0, .int (v2 + 1), .ref (a 0)]) ⟨hx, hb, hml, hown, hts⟩ hK hA hN (c_X8_sizeOf (a := a) hq) (cwV 2 hts gX8_adds_X8_sizeOf rfl rfl rfl hdX8_sizeOf ⟨Nat.le_of_ble_eq_true rfl, Nat.le_of_ble_eq_true rfl⟩) hP (va_D_re hD rfl) hS 0 8 rfl rfl rfl hl.1 rfl rfl (Nat.le_of_ble_eq_true rfl) ⟨Nat.zero_le _, Nat.zero_le _⟩ dX8_adds_164 (fun H locs hP hS => ?_)
    refine lv_iconst (v := 1) hx hb dX8_adds_167 (by decide) ?_
    refine lv_iadd hx hb dX8_adds_168 ?_
    obtain ⟨m_s_169, hq, hm⟩ := bd1_some hm
    refine k_callVV (As := [.int (v2 + 1), .int t0, .int (r164 + 1)]) (rest := []) ⟨hx, hb, hml, hown, hts⟩ hK hA hN (c_X8_setSize (a := a) hq) (cwV 3 hts gX8_adds_X8_setSize rfl rfl rfl hdX8_setSize ⟨Nat.le_of_ble_eq_true rfl, Nat.le_of_ble_eq_true rfl⟩) hP (va_D_re hD rfl) hS 0 8 rfl rfl rfl hl.1 rfl rfl (Nat.le_of_ble_eq_true rfl) ⟨Nat.zero_le _, Nat.zero_le _⟩ dX8_adds_169 (fun H locs hP hS => ?_)
    refine lv_iinc (v := (v2 + 1)) (lv' := [(2, .int (v2 + 1)), (4, .int r101), (3, .int t0), (0, .ref (a 0)), (1, .int v1)]) hx hb dX8_adds_172 hl (k := 4) rfl rfl (by decide) rfl (fun ls hl => ?_)
    refine lv_iload_n hx hb dX8_adds_175 rfl (lv_at hl 2 rfl) ?_
    refine lv_istore_n (lv' := [(1, .int t0), (2, .int (v2 + 1)), (4, .int r101), (3, .int t0), (0, .ref (a 0))]) hx hb dX8_adds_176 rfl hl (by decide) rfl (fun ls hl => ?_)
    refine lv_goto (tgt := 64) hx hb dX8_adds_177 (by decide) ?_
    exact hk64 _ _ _ _ _ _ _ _ _ _ _ _ _ _ _ _ _ _ _ _ _ _ hP hS (lv_sub hl [4, 0, 1] rfl) hm
  · have hm := if_t hc hm
    refine lv_aload_n hx hb dX8_adds_146 rfl (lv_at hl 2 rfl) ?_
    refine lv_iconst (v := 2) hx hb dX8_adds_147 (by decide) ?_
    obtain ⟨m_s_148, hq, hm⟩ := bd1_some hm
    refine k_callVV (As := [.int 2]) (rest := []) ⟨hx, hb, hml, hown, hts⟩ hK hA hN (c_X8_opensLevel (a := a) hq) (cwV 1 hts gX8_adds_X8_opensLevel rfl rfl rfl hdX8_opensLevel ⟨Nat.le_of_ble_eq_true rfl, Nat.le_of_ble_eq_true rfl⟩) hP (va_D_re hD rfl) hS 0 8 rfl rfl rfl hl.1 rfl rfl (Nat.le_of_ble_eq_true rfl) ⟨Nat.zero_le _, Nat.zero_le _⟩ dX8_adds_148 (fun H locs hP hS => ?_)
    refine lv_goto (tgt := 172) hx hb dX8_adds_151 (by decide) ?_
    refine lv_iinc (v := (v2 + 1)) (lv' := [(2, .int (v2 + 1)), (4, .int r101), (3, .int t0), (0, .ref (a 0)), (1, .int v1)]) hx hb dX8_adds_172 hl (k := 4) rfl rfl (by decide) rfl (fun ls hl => ?_)
    refine lv_iload_n hx hb dX8_adds_175 rfl (lv_at hl 2 rfl) ?_
    refine lv_istore_n (lv' := [(1, .int t0), (2, .int (v2 + 1)), (4, .int r101), (3, .int t0), (0, .ref (a 0))]) hx hb dX8_adds_176 rfl hl (by decide) rfl (fun ls hl => ?_)
    refine lv_goto (tgt := 64) hx hb dX8_adds_177 (by decide) ?_
    exact hk64 _ _ _ _ _ _ _ _ _ _ _ _ _ _ _ _ _ _ _ _ _ _ hP hS (lv_sub hl [4, 0, 1] rfl) hm
set_option maxRecDepth 100000 in
set_option maxHeartbeats 4000000 in
theorem t_M_adds_L64 {p : Program} {l : Launch} {e : Env} {s : State} {m : MethodId} {args : Array Value} {below : List Frame} {meth : Method} {c : Code} {Q : State → Prop} {A : Nat → Prop} {D : va_G} {cI cJ cB cL cS cW : ClassId} {a : Nat → Nat} {m_past m_kept m_refused m_text m_asked m_treeBit m_treeLeft m_treeRight m_treeAbove m_pileFrom m_pileTo m_pileAbove : Nat → Int32} {m_known m_typed m_askedLength m_treeForks m_treeDeep : Int32} {o_s : Nat → Int32} {o_heads : Nat → Int32} {o_forkBit : Nat → Int32} {o_forkFrom : Nat → Int32} {o_forkTo : Nat → Int32} {o_wayPage : Nat → Int32} {o_wayKnown : Nat → Int32} {o_wayGuess : Nat → Int32} {o_wayDiff : Nat → Int32} {o_wayRead : Nat → Int32} {o_wayPlace : Nat → Int32} {o_entries : Int32} {o_forks : Int32} {o_guess : Int32} {o_diff : Int32} {o_read : Int32} {o_placeOf : Int32} (C : k_C p s m args meth c cX8_adds 5 none RX8 wsX8_adds D (kT cI cJ cB cL cS cW) A) (hD : va_D A (WM0 a cI)) (hret : ∀ (H : Heap) (locs : List Loc) (pc : Nat) (ls : Array Slot), decode cX8_adds pc = .ok (.return_, 1) → va_P D vwCl (WM a cI o_s m_past m_kept m_refused m_text m_asked o_heads o_forkBit o_forkFrom o_forkTo o_wayPage o_wayKnown o_wayGuess o_wayDiff o_wayRead o_wayPlace m_treeBit m_treeLeft m_treeRight m_treeAbove m_pileFrom m_pileTo m_pileAbove m_known m_typed m_askedLength o_entries o_forks o_guess o_diff o_read o_placeOf m_treeForks m_treeDeep) H → va_S A s.heap H locs → W p l e { frames := 6, cells := 0, slots := 0, locals := 148 } s m args below meth c H locs 0 0 Q (F0 m pc ls [])) {k180 : (Nat → Int32) → (Nat → Int32) → (Nat → Int32) → (Nat → Int32) → (Nat → Int32) → (Nat → Int32) → (Nat → Int32) → (Nat → Int32) → (Nat → Int32) → (Nat → Int32) → (Nat → Int32) → Int32 → Int32 → Int32 → Int32 → Int32 → Int32 → Option ((Nat → Int32) × (Nat → Int32) × (Nat → Int32) × (Nat → Int32) × (Nat → Int32) × (Nat → Int32) × (Nat → Int32) × (Nat → Int32) × (Nat → Int32) × (Nat → Int32) × (Nat → Int32) × Int32 × Int32 × Int32 × Int32 × Int32 × Int32)} (hk180 : ∀ (m_s : (Nat → Int32)) (m_heads : (Nat → Int32)) (m_forkBit : (Nat → Int32)) (m_forkFrom : (Nat → Int32)) (m_forkTo : (Nat → Int32)) (m_wayPage : (Nat → Int32)) (m_wayKnown : (Nat → Int32)) (m_wayGuess : (Nat → Int32)) (m_wayDiff : (Nat → Int32)) (m_wayRead : (Nat → Int32)) (m_wayPlace : (Nat → Int32)) (m_entries : Int32) (m_forks : Int32) (m_guess : Int32) (m_diff : Int32) (m_read : Int32) (m_placeOf : Int32) (H : Heap) (locs : List Loc) (ls : Array Slot), va_P D vwCl (WM a cI m_s m_past m_kept m_refused m_text m_asked m_heads m_forkBit m_forkFrom m_forkTo m_wayPage m_wayKnown m_wayGuess m_wayDiff m_wayRead m_wayPlace m_treeBit m_treeLeft m_treeRight m_treeAbove m_pileFrom m_pileTo m_pileAbove m_known m_typed m_askedLength m_entries m_forks m_guess m_diff m_read m_placeOf m_treeForks m_treeDeep) H → va_S A s.heap H locs → lv_has ls 5 [] → k180 m_s m_heads m_forkBit m_forkFrom m_forkTo m_wayPage m_wayKnown m_wayGuess m_wayDiff m_wayRead m_wayPlace m_entries m_forks m_guess m_diff m_read m_placeOf = some (o_s, o_heads, o_forkBit, o_forkFrom, o_forkTo, o_wayPage, o_wayKnown, o_wayGuess, o_wayDiff, o_wayRead, o_wayPlace, o_entries, o_forks, o_guess, o_diff, o_read, o_placeOf) → W p l e { frames := 6, cells := 0, slots := 0, locals := 148 } s m args below meth c H locs 0 0 Q (F0 m 180 ls [])) : ∀ n : Nat, ∀ (m_s : (Nat → Int32)) (m_heads : (Nat → Int32)) (m_forkBit : (Nat → Int32)) (m_forkFrom : (Nat → Int32)) (m_forkTo : (Nat → Int32)) (m_wayPage : (Nat → Int32)) (m_wayKnown : (Nat → Int32)) (m_wayGuess : (Nat → Int32)) (m_wayDiff : (Nat → Int32)) (m_wayRead : (Nat → Int32)) (m_wayPlace : (Nat → Int32)) (m_entries : Int32) (m_forks : Int32) (m_guess : Int32) (m_diff : Int32) (m_read : Int32) (m_placeOf : Int32) (v1 : Int32) (v2 : Int32) (H : Heap) (locs : List Loc) (ls : Array Slot), va_P D vwCl (WM a cI m_s m_past m_kept m_refused m_text m_asked m_heads m_forkBit m_forkFrom m_forkTo m_wayPage m_wayKnown m_wayGuess m_wayDiff m_wayRead m_wayPlace m_treeBit m_treeLeft m_treeRight m_treeAbove m_pileFrom m_pileTo m_pileAbove m_known m_typed m_askedLength m_entries m_forks m_guess m_diff m_read m_placeOf m_treeForks m_treeDeep) H → va_S A s.heap H locs → lv_has ls 5 [(0, .ref (a 0)), (1, .int v1), (2, .int v2)] → (M_adds_L64 m_asked m_askedLength k180 n) m_s m_heads m_forkBit m_forkFrom m_forkTo m_wayPage m_wayKnown m_wayGuess m_wayDiff m_wayRead m_wayPlace m_entries m_forks m_guess m_diff m_read m_placeOf v1 v2 = some (o_s, o_heads, o_forkBit, o_forkFrom, o_forkTo, o_wayPage, o_wayKnown, o_wayGuess, o_wayDiff, o_wayRead, o_wayPlace, o_entries, o_forks, o_guess, o_diff, o_read, o_placeOf) → W p l e { frames := 6, cells := 0, slots := 0, locals := 148 } s m args below meth c H locs 0 0 Q (F0 m 64 ls []) := by
  obtain ⟨hx, hb, hml, hr, hown, hts, hlocks, hK, hA, hN⟩ := id C
  intro n
  induction n with
  | zero =>
    intro m_s m_heads m_forkBit m_forkFrom m_forkTo m_wayPage m_wayKnown m_wayGuess m_wayDiff m_wayRead m_wayPlace m_entries m_forks m_guess m_diff m_read m_placeOf v1 v2 H locs ls hP hS hl hm
    cases hm
  | succ n ih =>
    intro m_s m_heads m_forkBit m_forkFrom m_forkTo m_wayPage m_wayKnown m_wayGuess m_wayDiff m_wayRead m_wayPlace m_entries m_forks m_guess m_diff m_read m_placeOf v1 v2 H locs ls hP hS hl hm
    rw [M_adds_L64] at hm
    refine lv_aload_n hx hb dX8_adds_64 rfl (lv_at hl 0 rfl) ?_
    refine lv_iload_n hx hb dX8_adds_65 rfl (lv_at hl 2 rfl) ?_
    refine lv_iload_n hx hb dX8_adds_66 rfl (lv_at hl 1 rfl) ?_
    obtain ⟨r67, hq, hm⟩ := bd1_some hm
    refine k_callVI (As := [.int v2, .int v1]) (rest := []) ⟨hx, hb, hml, hown, hts⟩ hK hA hN (c_X8_sizeOf (a := a) hq) (cwV 2 hts gX8_adds_X8_sizeOf rfl rfl rfl hdX8_sizeOf ⟨Nat.le_of_ble_eq_true rfl, Nat.le_of_ble_eq_true rfl⟩) hP (va_D_re hD rfl) hS 0 8 rfl rfl rfl hl.1 rfl rfl (Nat.le_of_ble_eq_true rfl) ⟨Nat.zero_le _, Nat.zero_le _⟩ dX8_adds_67 (fun H locs hP hS => ?_)
    refine lv_aload_n hx hb dX8_adds_70 rfl (lv_at hl 0 rfl) ?_
    refine kg (v := .ref (a 1)) hx hb hts hiX8_adds hown hK hP 0 rfl rfl 0 (by decide) flX8_adds_7 rfl rfl dX8_adds_71 ?_
    refine lv_iconst (v := 1) hx hb dX8_adds_74 (by decide) ?_
    refine k_iald (j := 1) hx hb hK hP 1 0 rfl rfl rfl (vp_lit (by decide)) dX8_adds_75 ?_
    refine lv_icmp_le (tgt := 180) hx hb dX8_adds_76 (by decide) (fun hc => ?_) (fun hc => ?_)
    · have hm := if_t hc hm
      exact hk180 _ _ _ _ _ _ _ _ _ _ _ _ _ _ _ _ _ _ _ _ hP hS (lv_sub hl [] rfl) hm
    · have hm := if_f hc hm
      refine lv_iload_n hx hb dX8_adds_79 rfl (lv_at hl 2 rfl) ?_
      refine lv_aload_n hx hb dX8_adds_80 rfl (lv_at hl 0 rfl) ?_
      obtain ⟨r81, hq, hm⟩ := bd1_some hm
      refine k_callVI (As := []) (rest := [.int v2]) ⟨hx, hb, hml, hown, hts⟩ hK hA hN (c_X8_topLevel (a := a) hq) (cwV 0 hts gX8_adds_X8_topLevel rfl rfl rfl hdX8_topLevel ⟨Nat.le_of_ble_eq_true rfl, Nat.le_of_ble_eq_true rfl⟩) hP (va_D_re hD rfl) hS 0 8 rfl rfl rfl hl.1 rfl rfl (Nat.le_of_ble_eq_true rfl) ⟨Nat.zero_le _, Nat.zero_le _⟩ dX8_adds_81 (fun H locs hP hS => ?_)
      refine lv_icmp_ne (tgt := 91) hx hb dX8_adds_84 (by decide) (fun hc => ?_) (fun hc => ?_)
      · have hm := if_f hc hm
        refine lv_aload_n hx hb dX8_adds_91 rfl (lv_at hl 0 rfl) ?_
        refine lv_iload_n hx hb dX8_adds_92 rfl (lv_at hl 2 rfl) ?_
        refine lv_iload_n hx hb dX8_adds_93 rfl (lv_at hl 1 rfl) ?_
        obtain ⟨r94, hq, hm⟩ := bd1_some hm
        refine k_callVI (As := [.int v2, .int v1]) (rest := []) ⟨hx, hb, hml, hown, hts⟩ hK hA hN (c_X8_over (a := a) hq) (cwV 2 hts gX8_adds_X8_over rfl rfl rfl hdX8_over ⟨Nat.le_of_ble_eq_true rfl, Nat.le_of_ble_eq_true rfl⟩) hP (va_D_re hD rfl) hS 0 8 rfl rfl rfl hl.1 rfl rfl (Nat.le_of_ble_eq_true rfl) ⟨Nat.zero_le _, Nat.zero_le _⟩ dX8_adds_94 (fun H locs hP hS => ?_)
        exact t_M_adds_J97 C hD hret ih hk180 _ _ _ _ _ _ _ _ _ _ _ _ _ _ _ _ _ _ _ _ _ _ _ hP hS (lv_sub hl [0, 1, 2] rfl) hm
      · have hm := if_t hc hm
        refine lv_iconst (v := 0) hx hb dX8_adds_87 (by decide) ?_
        refine lv_goto (tgt := 97) hx hb dX8_adds_88 (by decide) ?_
        exact t_M_adds_J97 C hD hret ih hk180 _ _ _ _ _ _ _ _ _ _ _ _ _ _ _ _ _ _ _ _ _ _ _ hP hS (lv_sub hl [0, 1, 2] rfl) hm
set_option maxRecDepth 100000 in
set_option maxHeartbeats 4000000 in
theorem c_X8_adds {l : Launch} {D : va_G} {cI cJ cB cL cS cW : ClassId} {a : Nat → Nat} {m_s m_past m_kept m_refused m_text m_asked m_heads m_forkBit m_forkFrom m_forkTo m_wayPage m_wayKnown m_wayGuess m_wayDiff m_wayRead m_wayPlace m_treeBit m_treeLeft m_treeRight m_treeAbove m_pileFrom m_pileTo m_pileAbove : Nat → Int32} {m_known m_typed m_askedLength m_entries m_forks m_guess m_diff m_read m_placeOf m_treeForks m_treeDeep : Int32} {o_s : Nat → Int32} {o_heads : Nat → Int32} {o_forkBit : Nat → Int32} {o_forkFrom : Nat → Int32} {o_forkTo : Nat → Int32} {o_wayPage : Nat → Int32} {o_wayKnown : Nat → Int32} {o_wayGuess : Nat → Int32} {o_wayDiff : Nat → Int32} {o_wayRead : Nat → Int32} {o_wayPlace : Nat → Int32} {o_entries : Int32} {o_forks : Int32} {o_guess : Int32} {o_diff : Int32} {o_read : Int32} {o_placeOf : Int32} (hm : M_adds m_asked m_askedLength m_s m_heads m_forkBit m_forkFrom m_forkTo m_wayPage m_wayKnown m_wayGuess m_wayDiff m_wayRead m_wayPlace m_entries m_forks m_guess m_diff m_read m_placeOf = some (o_s, o_heads, o_forkBit, o_forkFrom, o_forkTo, o_wayPage, o_wayKnown, o_wayGuess, o_wayDiff, o_wayRead, o_wayPlace, o_entries, o_forks, o_guess, o_diff, o_read, o_placeOf)) : k_MV l yX8_adds wsX8_adds { frames := 6, cells := 0, slots := 0, locals := 148 } D (kT cI cJ cB cL cS cW) [.ref (a 0)] (WM a cI m_s m_past m_kept m_refused m_text m_asked m_heads m_forkBit m_forkFrom m_forkTo m_wayPage m_wayKnown m_wayGuess m_wayDiff m_wayRead m_wayPlace m_treeBit m_treeLeft m_treeRight m_treeAbove m_pileFrom m_pileTo m_pileAbove m_known m_typed m_askedLength m_entries m_forks m_guess m_diff m_read m_placeOf m_treeForks m_treeDeep) (WM a cI o_s m_past m_kept m_refused m_text m_asked o_heads o_forkBit o_forkFrom o_forkTo o_wayPage o_wayKnown o_wayGuess o_wayDiff o_wayRead o_wayPlace m_treeBit m_treeLeft m_treeRight m_treeAbove m_pileFrom m_pileTo m_pileAbove m_known m_typed m_askedLength o_entries o_forks o_guess o_diff o_read o_placeOf m_treeForks m_treeDeep) := by
  refine k_ofV (cc := cX8_adds) (maxL := 5) (own := RX8) (by decide) rfl rfl (Nat.le_of_ble_eq_true rfl) ?_
  intro p e s m args below meth c A Q ls C hP hD hl hret
  have hD : va_D A (WM0 a cI) := va_D_re hD rfl
  have hS : va_S A s.heap s.heap [] := va_S.rf
  have hl : lv_has ls 5 [(0, .ref (a 0))] := hl
  obtain ⟨hx, hb, hml, hr, hown, hts, hlocks, hK, hA, hN⟩ := id C
  rw [M_adds] at hm
  refine lv_aload_n hx hb dX8_adds_0 rfl (lv_at hl 0 rfl) ?_
  refine kg (v := .ref (a 1)) hx hb hts hiX8_adds hown hK hP 0 rfl rfl 0 (by decide) flX8_adds_7 rfl rfl dX8_adds_1 ?_
  refine lv_iconst (v := 2) hx hb dX8_adds_4 (by decide) ?_
  refine k_iald (j := 2) hx hb hK hP 1 0 rfl rfl rfl (vp_lit (by decide)) dX8_adds_5 ?_
  refine lv_if_ne (tgt := 20) hx hb dX8_adds_6 (by decide) (fun hc => ?_) (fun hc => ?_)
  · have hm := if_f hc hm
    refine lv_aload_n hx hb dX8_adds_20 rfl (lv_at hl 0 rfl) ?_
    obtain ⟨m_heads_21, m_forkBit_21, m_forkFrom_21, m_forkTo_21, m_wayPage_21, m_wayKnown_21, m_wayGuess_21, m_wayDiff_21, m_wayRead_21, m_wayPlace_21, m_entries_21, m_forks_21, m_guess_21, m_diff_21, m_read_21, m_placeOf_21, hq, hm⟩ := bd16_some hm
    refine k_callVV (As := []) (rest := []) ⟨hx, hb, hml, hown, hts⟩ hK hA hN (c_X8_goes (a := a) hq) (cwV 0 hts gX8_adds_X8_goes rfl rfl rfl hdX8_goes ⟨Nat.le_of_ble_eq_true rfl, Nat.le_of_ble_eq_true rfl⟩) hP (va_D_re hD rfl) hS 0 8 rfl rfl rfl hl.1 rfl rfl (Nat.le_of_ble_eq_true rfl) ⟨Nat.zero_le _, Nat.zero_le _⟩ dX8_adds_21 (fun H locs hP hS => ?_)
    refine lv_aload_n hx hb dX8_adds_24 rfl (lv_at hl 0 rfl) ?_
    refine kg (v := .ref (a 11)) hx hb hts hiX8_adds hown hK hP 0 rfl rfl 19 (by decide) flX8_adds_40 rfl rfl dX8_adds_25 ?_
    refine lv_iconst (v := 0) hx hb dX8_adds_28 (by decide) ?_
    refine k_iald (j := 0) hx hb hK hP 11 0 rfl rfl rfl (vp_lit (by decide)) dX8_adds_29 ?_
    refine lv_istore_n (lv' := [(1, .int (m_wayPage_21 0)), (0, .ref (a 0))]) hx hb dX8_adds_30 rfl hl (by decide) rfl (fun ls hl => ?_)
    refine lv_aload_n hx hb dX8_adds_31 rfl (lv_at hl 1 rfl) ?_
    refine lv_aload_n hx hb dX8_adds_32 rfl (lv_at hl 1 rfl) ?_
    refine lv_iconst (v := 0) hx hb dX8_adds_33 (by decide) ?_
    refine lv_iload_n hx hb dX8_adds_34 rfl (lv_at hl 0 rfl) ?_
    obtain ⟨r35, hq, hm⟩ := bd1_some hm
    refine k_callVI (As := [.int 0, .int (m_wayPage_21 0)]) (rest := [.ref (a 0)]) ⟨hx, hb, hml, hown, hts⟩ hK hA hN (c_X8_entriesAhead (a := a) hq) (cwV 2 hts gX8_adds_X8_entriesAhead rfl rfl rfl hdX8_entriesAhead ⟨Nat.le_of_ble_eq_true rfl, Nat.le_of_ble_eq_true rfl⟩) hP (va_D_re hD rfl) hS 0 8 rfl rfl rfl hl.1 rfl rfl (Nat.le_of_ble_eq_true rfl) ⟨Nat.zero_le _, Nat.zero_le _⟩ dX8_adds_35 (fun H locs hP hS => ?_)
    refine lv_aload_n hx hb dX8_adds_38 rfl (lv_at hl 1 rfl) ?_
    refine kg (v := .ref (a 16)) hx hb hts hiX8_adds hown hK hP 0 rfl rfl 24 (by decide) flX8_adds_55 rfl rfl dX8_adds_39 ?_
    refine lv_iconst (v := 0) hx hb dX8_adds_42 (by decide) ?_
    refine k_iald (j := 0) hx hb hK hP 16 0 rfl rfl rfl (vp_lit (by decide)) dX8_adds_43 ?_
    refine lv_iadd hx hb dX8_adds_44 ?_
    obtain ⟨m_s_45, hq, hm⟩ := bd1_some hm
    refine k_callVV (As := [.int (r35 + (m_wayPlace_21 0))]) (rest := []) ⟨hx, hb, hml, hown, hts⟩ hK hA hN (c_X8_puts (a := a) hq) (cwV 1 hts gX8_adds_X8_puts rfl rfl rfl hdX8_puts ⟨Nat.le_of_ble_eq_true rfl, Nat.le_of_ble_eq_true rfl⟩) hP (va_D_re hD rfl) hS 0 8 rfl rfl rfl hl.1 rfl rfl (Nat.le_of_ble_eq_true rfl) ⟨Nat.zero_le _, Nat.zero_le _⟩ dX8_adds_45 (fun H locs hP hS => ?_)
    refine lv_aload_n hx hb dX8_adds_48 rfl (lv_at hl 1 rfl) ?_
    refine lv_iconst (v := 0) hx hb dX8_adds_49 (by decide) ?_
    refine lv_iload_n hx hb dX8_adds_50 rfl (lv_at hl 0 rfl) ?_
    refine lv_aload_n hx hb dX8_adds_51 rfl (lv_at hl 1 rfl) ?_
    refine lv_iconst (v := 0) hx hb dX8_adds_52 (by decide) ?_
    refine lv_iload_n hx hb dX8_adds_53 rfl (lv_at hl 0 rfl) ?_
    obtain ⟨r54, hq, hm⟩ := bd1_some hm
    refine k_callVI (As := [.int 0, .int (m_wayPage_21 0)]) (rest := [.int (m_wayPage_21 0), .int 0, .ref (a 0)]) ⟨hx, hb, hml, hown, hts⟩ hK hA hN (c_X8_sizeOf (a := a) hq) (cwV 2 hts gX8_adds_X8_sizeOf rfl rfl rfl hdX8_sizeOf ⟨Nat.le_of_ble_eq_true rfl, Nat.le_of_ble_eq_true rfl⟩) hP (va_D_re hD rfl) hS 0 8 rfl rfl rfl hl.1 rfl rfl (Nat.le_of_ble_eq_true rfl) ⟨Nat.zero_le _, Nat.zero_le _⟩ dX8_adds_54 (fun H locs hP hS => ?_)
    refine lv_iconst (v := 1) hx hb dX8_adds_57 (by decide) ?_
    refine lv_iadd hx hb dX8_adds_58 ?_
    obtain ⟨m_s_59, hq, hm⟩ := bd1_some hm
    refine k_callVV (As := [.int 0, .int (m_wayPage_21 0), .int (r54 + 1)]) (rest := []) ⟨hx, hb, hml, hown, hts⟩ hK hA hN (c_X8_setSize (a := a) hq) (cwV 3 hts gX8_adds_X8_setSize rfl rfl rfl hdX8_setSize ⟨Nat.le_of_ble_eq_true rfl, Nat.le_of_ble_eq_true rfl⟩) hP (va_D_re hD rfl) hS 0 8 rfl rfl rfl hl.1 rfl rfl (Nat.le_of_ble_eq_true rfl) ⟨Nat.zero_le _, Nat.zero_le _⟩ dX8_adds_59 (fun H locs hP hS => ?_)
    refine lv_iconst (v := 0) hx hb dX8_adds_62 (by decide) ?_
    refine lv_istore_n (lv' := [(2, .int 0), (1, .int (m_wayPage_21 0)), (0, .ref (a 0))]) hx hb dX8_adds_63 rfl hl (by decide) rfl (fun ls hl => ?_)
    refine t_M_adds_L64 C hD hret ?_ FU _ _ _ _ _ _ _ _ _ _ _ _ _ _ _ _ _ _ _ _ _ _ hP hS (lv_sub hl [2, 1, 0] rfl) hm
    · intro m_s m_heads m_forkBit m_forkFrom m_forkTo m_wayPage m_wayKnown m_wayGuess m_wayDiff m_wayRead m_wayPlace m_entries m_forks m_guess m_diff m_read m_placeOf H locs ls hP hS hl hm
      try dsimp only at hm
      simp only [Option.some.injEq, Prod.mk.injEq] at hm
      obtain ⟨rfl, rfl, rfl, rfl, rfl, rfl, rfl, rfl, rfl, rfl, rfl, rfl, rfl, rfl, rfl, rfl, rfl⟩ := hm
      exact hret _ _ _ _ dX8_adds_180 hP hS
  · have hm := if_t hc hm
    refine lv_aload_n hx hb dX8_adds_9 rfl (lv_at hl 0 rfl) ?_
    refine lv_iconst (v := 0) hx hb dX8_adds_10 (by decide) ?_
    obtain ⟨m_s_11, hq, hm⟩ := bd1_some hm
    refine k_callVV (As := [.int 0]) (rest := []) ⟨hx, hb, hml, hown, hts⟩ hK hA hN (c_X8_puts (a := a) hq) (cwV 1 hts gX8_adds_X8_puts rfl rfl rfl hdX8_puts ⟨Nat.le_of_ble_eq_true rfl, Nat.le_of_ble_eq_true rfl⟩) hP (va_D_re hD rfl) hS 0 8 rfl rfl rfl hl.1 rfl rfl (Nat.le_of_ble_eq_true rfl) ⟨Nat.zero_le _, Nat.zero_le _⟩ dX8_adds_11 (fun H locs hP hS => ?_)
    refine lv_aload_n hx hb dX8_adds_14 rfl (lv_at hl 0 rfl) ?_
    refine lv_iconst (v := 1) hx hb dX8_adds_15 (by decide) ?_
    obtain ⟨m_s_16, hq, hm⟩ := bd1_some hm
    refine k_callVV (As := [.int 1]) (rest := []) ⟨hx, hb, hml, hown, hts⟩ hK hA hN (c_X8_opensLevel (a := a) hq) (cwV 1 hts gX8_adds_X8_opensLevel rfl rfl rfl hdX8_opensLevel ⟨Nat.le_of_ble_eq_true rfl, Nat.le_of_ble_eq_true rfl⟩) hP (va_D_re hD rfl) hS 0 8 rfl rfl rfl hl.1 rfl rfl (Nat.le_of_ble_eq_true rfl) ⟨Nat.zero_le _, Nat.zero_le _⟩ dX8_adds_16 (fun H locs hP hS => ?_)
    simp only [Option.some.injEq, Prod.mk.injEq] at hm
    obtain ⟨rfl, rfl, rfl, rfl, rfl, rfl, rfl, rfl, rfl, rfl, rfl, rfl, rfl, rfl, rfl, rfl, rfl⟩ := hm
    exact hret _ _ _ _ dX8_adds_19 hP hS
