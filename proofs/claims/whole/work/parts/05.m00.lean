theorem hdX8_in : yX8_in.cls ≠ "java/lang/invoke/MethodHandle" ∧ yX8_in.cls ≠ "java/lang/invoke/VarHandle" ∧ (parseMethodDescriptor yX8_in.desc).map (fun d => d.parameters.length) = some 3 := by decide +kernel
def M_in (v0 : Int32) (v1 : Int32) (v2 : Int32) : Option (Int32) := if v0 < v1 then (some 0) else (if v2 < v0 then (some 0) else (some 1))
set_option maxRecDepth 100000 in
set_option maxHeartbeats 4000000 in
theorem c_X8_in {l : Launch} {D : va_G} {cI cJ cB cL cS cW : ClassId} {a : Nat → Nat} {m_s m_past m_kept m_refused m_text m_asked m_heads m_forkBit m_forkFrom m_forkTo m_wayPage m_wayKnown m_wayGuess m_wayDiff m_wayRead m_wayPlace m_treeBit m_treeLeft m_treeRight m_treeAbove m_pileFrom m_pileTo m_pileAbove : Nat → Int32} {m_known m_typed m_askedLength m_entries m_forks m_guess m_diff m_read m_placeOf m_treeForks m_treeDeep : Int32} {v0 : Int32} {v1 : Int32} {v2 : Int32} {r : Int32} (hm : M_in v0 v1 v2 = some r) : k_MI l yX8_in wsX8_in { frames := 0, cells := 0, slots := 0, locals := 0 } D (kT cI cJ cB cL cS cW) [.int v0, .int v1, .int v2] (WM a cI m_s m_past m_kept m_refused m_text m_asked m_heads m_forkBit m_forkFrom m_forkTo m_wayPage m_wayKnown m_wayGuess m_wayDiff m_wayRead m_wayPlace m_treeBit m_treeLeft m_treeRight m_treeAbove m_pileFrom m_pileTo m_pileAbove m_known m_typed m_askedLength m_entries m_forks m_guess m_diff m_read m_placeOf m_treeForks m_treeDeep) r (WM a cI m_s m_past m_kept m_refused m_text m_asked m_heads m_forkBit m_forkFrom m_forkTo m_wayPage m_wayKnown m_wayGuess m_wayDiff m_wayRead m_wayPlace m_treeBit m_treeLeft m_treeRight m_treeAbove m_pileFrom m_pileTo m_pileAbove m_known m_typed m_askedLength m_entries m_forks m_guess m_diff m_read m_placeOf m_treeForks m_treeDeep) := by
  refine k_ofZ (cc := cX8_in) (maxL := 3) (own := RX8) (by decide) rfl rfl (Nat.le_of_ble_eq_true rfl) ?_
  intro p e s m args below meth c A Q ls C hP hD hl hret
  have hD : va_D A (WM0 a cI) := va_D_re hD rfl
  have hS : va_S A s.heap s.heap [] := va_S.rf
  have hl : lv_has ls 3 [(0, .int v0), (1, .int v1), (2, .int v2)] := hl
  obtain ⟨hx, hb, hml, hr, hown, hts, hlocks, hK, hA, hN⟩ := id C
  rw [M_in] at hm
  refine lv_iload_n hx hb dX8_in_0 rfl (lv_at hl 0 rfl) ?_
  refine lv_iload_n hx hb dX8_in_1 rfl (lv_at hl 1 rfl) ?_
  refine lv_icmp_lt (tgt := 14) hx hb dX8_in_2 (by decide) (fun hc => ?_) (fun hc => ?_)
  · have hm := if_t hc hm
    refine lv_iconst (v := 0) hx hb dX8_in_14 (by decide) ?_
    obtain rfl := Option.some.inj hm
    exact hret _ _ _ _ dX8_in_15 (by decide) hP hS
  · have hm := if_f hc hm
    refine lv_iload_n hx hb dX8_in_5 rfl (lv_at hl 0 rfl) ?_
    refine lv_iload_n hx hb dX8_in_6 rfl (lv_at hl 2 rfl) ?_
    refine lv_icmp_gt (tgt := 14) hx hb dX8_in_7 (by decide) (fun hc => ?_) (fun hc => ?_)
    · have hm := if_t hc hm
      refine lv_iconst (v := 0) hx hb dX8_in_14 (by decide) ?_
      obtain rfl := Option.some.inj hm
      exact hret _ _ _ _ dX8_in_15 (by decide) hP hS
    · have hm := if_f hc hm
      refine lv_iconst (v := 1) hx hb dX8_in_10 (by decide) ?_
      refine lv_goto (tgt := 15) hx hb dX8_in_11 (by decide) ?_
      obtain rfl := Option.some.inj hm
      exact hret _ _ _ _ dX8_in_15 (by decide) hP hS
theorem hdX8_refuses : yX8_refuses.cls = RX8 ∧ yX8_refuses.cls ≠ "java/lang/invoke/MethodHandle" ∧ yX8_refuses.cls ≠ "java/lang/invoke/VarHandle" ∧ (parseMethodDescriptor yX8_refuses.desc).map (fun d => d.parameters.length) = some 1 := by decide +kernel
theorem hiX8_refuses : ∀ w ∈ u_ws RX8 TX8 34, w ∈ wsX8_refuses := by decide +kernel
theorem flX8_refuses_19 : Cond.fieldLink RX8 19 "BlindPagesModel" "refused" "[I" ∈ wsX8_refuses := by decide +kernel
def M_refuses (m_refused : Nat → Int32) (v1 : Int32) : Option (Int32 × (Nat → Int32)) := ga ((-2) - v1) 3 (ga ((-2) - v1) 3 (some (v1, (upd m_refused ((-2) - v1).toNatClampNeg ((m_refused ((-2) - v1).toNatClampNeg) + 1)))))
set_option maxRecDepth 100000 in
set_option maxHeartbeats 4000000 in
theorem c_X8_refuses {l : Launch} {D : va_G} {cI cJ cB cL cS cW : ClassId} {a : Nat → Nat} {m_s m_past m_kept m_refused m_text m_asked m_heads m_forkBit m_forkFrom m_forkTo m_wayPage m_wayKnown m_wayGuess m_wayDiff m_wayRead m_wayPlace m_treeBit m_treeLeft m_treeRight m_treeAbove m_pileFrom m_pileTo m_pileAbove : Nat → Int32} {m_known m_typed m_askedLength m_entries m_forks m_guess m_diff m_read m_placeOf m_treeForks m_treeDeep : Int32} {v1 : Int32} {r : Int32} {o_refused : Nat → Int32} (hm : M_refuses m_refused v1 = some (r, o_refused)) : k_MI l yX8_refuses wsX8_refuses { frames := 0, cells := 0, slots := 0, locals := 0 } D (kT cI cJ cB cL cS cW) [.ref (a 0), .int v1] (WM a cI m_s m_past m_kept m_refused m_text m_asked m_heads m_forkBit m_forkFrom m_forkTo m_wayPage m_wayKnown m_wayGuess m_wayDiff m_wayRead m_wayPlace m_treeBit m_treeLeft m_treeRight m_treeAbove m_pileFrom m_pileTo m_pileAbove m_known m_typed m_askedLength m_entries m_forks m_guess m_diff m_read m_placeOf m_treeForks m_treeDeep) r (WM a cI m_s m_past m_kept o_refused m_text m_asked m_heads m_forkBit m_forkFrom m_forkTo m_wayPage m_wayKnown m_wayGuess m_wayDiff m_wayRead m_wayPlace m_treeBit m_treeLeft m_treeRight m_treeAbove m_pileFrom m_pileTo m_pileAbove m_known m_typed m_askedLength m_entries m_forks m_guess m_diff m_read m_placeOf m_treeForks m_treeDeep) := by
  refine k_ofI (cc := cX8_refuses) (maxL := 2) (own := RX8) (by decide) rfl rfl (Nat.le_of_ble_eq_true rfl) ?_
  intro p e s m args below meth c A Q ls C hP hD hl hret
  have hD : va_D A (WM0 a cI) := va_D_re hD rfl
  have hS : va_S A s.heap s.heap [] := va_S.rf
  have hl : lv_has ls 2 [(0, .ref (a 0)), (1, .int v1)] := hl
  obtain ⟨hx, hb, hml, hr, hown, hts, hlocks, hK, hA, hN⟩ := id C
  rw [M_refuses] at hm
  refine lv_aload_n hx hb dX8_refuses_0 rfl (lv_at hl 0 rfl) ?_
  refine kg (v := .ref (a 4)) hx hb hts hiX8_refuses hown hK hP 0 rfl rfl 4 (by decide) flX8_refuses_19 rfl rfl dX8_refuses_1 ?_
  refine lv_bipush (v := (-2)) hx hb dX8_refuses_4 (by decide) ?_
  refine lv_iload_n hx hb dX8_refuses_6 rfl (lv_at hl 1 rfl) ?_
  refine lv_isub hx hb dX8_refuses_7 ?_
  refine lv_dup2_11 hx hb dX8_refuses_8 rfl rfl ?_
  obtain ⟨hi, hm⟩ := ga_some hm
  refine k_iald hx hb hK hP 4 0 rfl rfl rfl hi dX8_refuses_9 ?_
  refine lv_iconst (v := 1) hx hb dX8_refuses_10 (by decide) ?_
  refine lv_iadd hx hb dX8_refuses_11 ?_
  obtain ⟨hi, hm⟩ := ga_some hm
  refine k_iast hx hb hK hP (va_D_re hD rfl) hS 4 0 rfl rfl rfl hi dX8_refuses_12 (fun H locs hP hS => ?_)
  have hP : va_P D vwCl (WM a cI m_s m_past m_kept (upd m_refused ((-2) - v1).toNatClampNeg ((m_refused ((-2) - v1).toNatClampNeg) + 1)) m_text m_asked m_heads m_forkBit m_forkFrom m_forkTo m_wayPage m_wayKnown m_wayGuess m_wayDiff m_wayRead m_wayPlace m_treeBit m_treeLeft m_treeRight m_treeAbove m_pileFrom m_pileTo m_pileAbove m_known m_typed m_askedLength m_entries m_forks m_guess m_diff m_read m_placeOf m_treeForks m_treeDeep) H := hP
  refine lv_iload_n hx hb dX8_refuses_13 rfl (lv_at hl 1 rfl) ?_
  simp only [Option.some.injEq, Prod.mk.injEq] at hm
  obtain ⟨rfl, rfl⟩ := hm
  exact hret _ _ _ _ dX8_refuses_14 hP hS
theorem hdX8_aside : yX8_aside.cls = RX8 ∧ yX8_aside.cls ≠ "java/lang/invoke/MethodHandle" ∧ yX8_aside.cls ≠ "java/lang/invoke/VarHandle" ∧ (parseMethodDescriptor yX8_aside.desc).map (fun d => d.parameters.length) = some 0 := by decide +kernel
theorem hiX8_aside : ∀ w ∈ u_ws RX8 TX8 34, w ∈ wsX8_aside := by decide +kernel
theorem flX8_aside_16 : Cond.fieldLink RX8 16 "BlindPagesModel" "kept" "[I" ∈ wsX8_aside := by decide +kernel
theorem flX8_aside_7 : Cond.fieldLink RX8 7 "BlindPagesModel" "s" "[I" ∈ wsX8_aside := by decide +kernel
def M_aside_L2 (m_s : Nat → Int32) (k27 : (Nat → Int32) → Option ((Nat → Int32))) : Nat → (Nat → Int32) → Int32 → Option ((Nat → Int32))
  | 0, _, _ => none
  | n + 1, m_kept, v1 => if 1552 ≤ v1 then (k27 m_kept) else (ga v1 1552 (ga v1 1552 (M_aside_L2 m_s k27 n (upd m_kept v1.toNatClampNeg (m_s v1.toNatClampNeg)) (v1 + 1))))
def M_aside (m_s : Nat → Int32) (m_kept : Nat → Int32) : Option ((Nat → Int32)) := M_aside_L2 m_s (fun m_kept => some m_kept) FU m_kept 0
set_option maxRecDepth 100000 in
set_option maxHeartbeats 4000000 in
theorem t_M_aside_L2 {p : Program} {l : Launch} {e : Env} {s : State} {m : MethodId} {args : Array Value} {below : List Frame} {meth : Method} {c : Code} {Q : State → Prop} {A : Nat → Prop} {D : va_G} {cI cJ cB cL cS cW : ClassId} {a : Nat → Nat} {m_s m_past m_refused m_text m_asked m_heads m_forkBit m_forkFrom m_forkTo m_wayPage m_wayKnown m_wayGuess m_wayDiff m_wayRead m_wayPlace m_treeBit m_treeLeft m_treeRight m_treeAbove m_pileFrom m_pileTo m_pileAbove : Nat → Int32} {m_known m_typed m_askedLength m_entries m_forks m_guess m_diff m_read m_placeOf m_treeForks m_treeDeep : Int32} {o_kept : Nat → Int32} (C : k_C p s m args meth c cX8_aside 2 none RX8 wsX8_aside D (kT cI cJ cB cL cS cW) A) (hD : va_D A (WM0 a cI)) (hret : ∀ (H : Heap) (locs : List Loc) (pc : Nat) (ls : Array Slot), decode cX8_aside pc = .ok (.return_, 1) → va_P D vwCl (WM a cI m_s m_past o_kept m_refused m_text m_asked m_heads m_forkBit m_forkFrom m_forkTo m_wayPage m_wayKnown m_wayGuess m_wayDiff m_wayRead m_wayPlace m_treeBit m_treeLeft m_treeRight m_treeAbove m_pileFrom m_pileTo m_pileAbove m_known m_typed m_askedLength m_entries m_forks m_guess m_diff m_read m_placeOf m_treeForks m_treeDeep) H → va_S A s.heap H locs → W p l e { frames := 0, cells := 0, slots := 0, locals := 0 } s m args below meth c H locs 0 0 Q (F0 m pc ls [])) {k27 : (Nat → Int32) → Option ((Nat → Int32))} (hk27 : ∀ (m_kept : (Nat → Int32)) (H : Heap) (locs : List Loc) (ls : Array Slot), va_P D vwCl (WM a cI m_s m_past m_kept m_refused m_text m_asked m_heads m_forkBit m_forkFrom m_forkTo m_wayPage m_wayKnown m_wayGuess m_wayDiff m_wayRead m_wayPlace m_treeBit m_treeLeft m_treeRight m_treeAbove m_pileFrom m_pileTo m_pileAbove m_known m_typed m_askedLength m_entries m_forks m_guess m_diff m_read m_placeOf m_treeForks m_treeDeep) H → va_S A s.heap H locs → lv_has ls 2 [] → k27 m_kept = some o_kept → W p l e { frames := 0, cells := 0, slots := 0, locals := 0 } s m args below meth c H locs 0 0 Q (F0 m 27 ls [])) : ∀ n : Nat, ∀ (m_kept : (Nat → Int32)) (v1 : Int32) (H : Heap) (locs : List Loc) (ls : Array Slot), va_P D vwCl (WM a cI m_s m_past m_kept m_refused m_text m_asked m_heads m_forkBit m_forkFrom m_forkTo m_wayPage m_wayKnown m_wayGuess m_wayDiff m_wayRead m_wayPlace m_treeBit m_treeLeft m_treeRight m_treeAbove m_pileFrom m_pileTo m_pileAbove m_known m_typed m_askedLength m_entries m_forks m_guess m_diff m_read m_placeOf m_treeForks m_treeDeep) H → va_S A s.heap H locs → lv_has ls 2 [(0, .ref (a 0)), (1, .int v1)] → (M_aside_L2 m_s k27 n) m_kept v1 = some o_kept → W p l e { frames := 0, cells := 0, slots := 0, locals := 0 } s m args below meth c H locs 0 0 Q (F0 m 2 ls []) := by
  obtain ⟨hx, hb, hml, hr, hown, hts, hlocks, hK, hA, hN⟩ := id C
  intro n
  induction n with
  | zero =>
    intro m_kept v1 H locs ls hP hS hl hm
    cases hm
  | succ n ih =>
    intro m_kept v1 H locs ls hP hS hl hm
    rw [M_aside_L2] at hm
    refine lv_iload_n hx hb dX8_aside_2 rfl (lv_at hl 1 rfl) ?_
    refine lv_sipush (v := 1552) hx hb dX8_aside_3 (by decide) ?_
    refine lv_icmp_ge (tgt := 27) hx hb dX8_aside_6 (by decide) (fun hc => ?_) (fun hc => ?_)
    · have hm := if_t hc hm
      exact hk27 _ _ _ _ hP hS (lv_sub hl [] rfl) hm
    · have hm := if_f hc hm
      refine lv_aload_n hx hb dX8_aside_9 rfl (lv_at hl 0 rfl) ?_
      refine kg (v := .ref (a 3)) hx hb hts hiX8_aside hown hK hP 0 rfl rfl 2 (by decide) flX8_aside_16 rfl rfl dX8_aside_10 ?_
      refine lv_iload_n hx hb dX8_aside_13 rfl (lv_at hl 1 rfl) ?_
      refine lv_aload_n hx hb dX8_aside_14 rfl (lv_at hl 0 rfl) ?_
      refine kg (v := .ref (a 1)) hx hb hts hiX8_aside hown hK hP 0 rfl rfl 0 (by decide) flX8_aside_7 rfl rfl dX8_aside_15 ?_
      refine lv_iload_n hx hb dX8_aside_18 rfl (lv_at hl 1 rfl) ?_
      obtain ⟨hi, hm⟩ := ga_some hm
      refine k_iald hx hb hK hP 1 0 rfl rfl rfl hi dX8_aside_19 ?_
      obtain ⟨hi, hm⟩ := ga_some hm
      refine k_iast hx hb hK hP (va_D_re hD rfl) hS 3 0 rfl rfl rfl hi dX8_aside_20 (fun H locs hP hS => ?_)
      have hP : va_P D vwCl (WM a cI m_s m_past (upd m_kept v1.toNatClampNeg (m_s v1.toNatClampNeg)) m_refused m_text m_asked m_heads m_forkBit m_forkFrom m_forkTo m_wayPage m_wayKnown m_wayGuess m_wayDiff m_wayRead m_wayPlace m_treeBit m_treeLeft m_treeRight m_treeAbove m_pileFrom m_pileTo m_pileAbove m_known m_typed m_askedLength m_entries m_forks m_guess m_diff m_read m_placeOf m_treeForks m_treeDeep) H := hP
      refine lv_iinc (v := (v1 + 1)) (lv' := [(1, .int (v1 + 1)), (0, .ref (a 0))]) hx hb dX8_aside_21 hl (k := 1) rfl rfl (by decide) rfl (fun ls hl => ?_)
      refine lv_goto (tgt := 2) hx hb dX8_aside_24 (by decide) ?_
      exact ih _ _ _ _ _ hP hS (lv_sub hl [1, 0] rfl) hm
set_option maxRecDepth 100000 in
set_option maxHeartbeats 4000000 in
theorem c_X8_aside {l : Launch} {D : va_G} {cI cJ cB cL cS cW : ClassId} {a : Nat → Nat} {m_s m_past m_kept m_refused m_text m_asked m_heads m_forkBit m_forkFrom m_forkTo m_wayPage m_wayKnown m_wayGuess m_wayDiff m_wayRead m_wayPlace m_treeBit m_treeLeft m_treeRight m_treeAbove m_pileFrom m_pileTo m_pileAbove : Nat → Int32} {m_known m_typed m_askedLength m_entries m_forks m_guess m_diff m_read m_placeOf m_treeForks m_treeDeep : Int32} {o_kept : Nat → Int32} (hm : M_aside m_s m_kept = some o_kept) : k_MV l yX8_aside wsX8_aside { frames := 0, cells := 0, slots := 0, locals := 0 } D (kT cI cJ cB cL cS cW) [.ref (a 0)] (WM a cI m_s m_past m_kept m_refused m_text m_asked m_heads m_forkBit m_forkFrom m_forkTo m_wayPage m_wayKnown m_wayGuess m_wayDiff m_wayRead m_wayPlace m_treeBit m_treeLeft m_treeRight m_treeAbove m_pileFrom m_pileTo m_pileAbove m_known m_typed m_askedLength m_entries m_forks m_guess m_diff m_read m_placeOf m_treeForks m_treeDeep) (WM a cI m_s m_past o_kept m_refused m_text m_asked m_heads m_forkBit m_forkFrom m_forkTo m_wayPage m_wayKnown m_wayGuess m_wayDiff m_wayRead m_wayPlace m_treeBit m_treeLeft m_treeRight m_treeAbove m_pileFrom m_pileTo m_pileAbove m_known m_typed m_askedLength m_entries m_forks m_guess m_diff m_read m_placeOf m_treeForks m_treeDeep) := by
  refine k_ofV (cc := cX8_aside) (maxL := 2) (own := RX8) (by decide) rfl rfl (Nat.le_of_ble_eq_true rfl) ?_
  intro p e s m args below meth c A Q ls C hP hD hl hret
  have hD : va_D A (WM0 a cI) := va_D_re hD rfl
  have hS : va_S A s.heap s.heap [] := va_S.rf
  have hl : lv_has ls 2 [(0, .ref (a 0))] := hl
  obtain ⟨hx, hb, hml, hr, hown, hts, hlocks, hK, hA, hN⟩ := id C
  rw [M_aside] at hm
  refine lv_iconst (v := 0) hx hb dX8_aside_0 (by decide) ?_
  refine lv_istore_n (lv' := [(1, .int 0), (0, .ref (a 0))]) hx hb dX8_aside_1 rfl hl (by decide) rfl (fun ls hl => ?_)
  refine t_M_aside_L2 C hD hret ?_ FU _ _ _ _ _ hP hS (lv_sub hl [1, 0] rfl) hm
  · intro m_kept H locs ls hP hS hl hm
    try dsimp only at hm
    obtain rfl := Option.some.inj hm
    exact hret _ _ _ _ dX8_aside_27 hP hS
theorem hdX8_keeps : yX8_keeps.cls = RX8 ∧ yX8_keeps.cls ≠ "java/lang/invoke/MethodHandle" ∧ yX8_keeps.cls ≠ "java/lang/invoke/VarHandle" ∧ (parseMethodDescriptor yX8_keeps.desc).map (fun d => d.parameters.length) = some 0 := by decide +kernel
theorem hiX8_keeps : ∀ w ∈ u_ws RX8 TX8 34, w ∈ wsX8_keeps := by decide +kernel
theorem flX8_keeps_79 : Cond.fieldLink RX8 79 "BlindPagesModel" "known" "I" ∈ wsX8_keeps := by decide +kernel
theorem flX8_keeps_13 : Cond.fieldLink RX8 13 "BlindPagesModel" "past" "[I" ∈ wsX8_keeps := by decide +kernel
theorem flX8_keeps_16 : Cond.fieldLink RX8 16 "BlindPagesModel" "kept" "[I" ∈ wsX8_keeps := by decide +kernel
def M_keeps_L52 (m_kept : Nat → Int32) (k86 : (Nat → Int32) → Int32 → Option ((Nat → Int32) × Int32)) : Nat → (Nat → Int32) → Int32 → Int32 → Option ((Nat → Int32) × Int32)
  | 0, _, _, _ => none
  | n + 1, m_past, m_known, v1 => if 1552 ≤ v1 then (k86 m_past m_known) else (ga v1 1552 (ga ((1552 * m_known) + v1) 9312 (M_keeps_L52 m_kept k86 n (upd m_past ((1552 * m_known) + v1).toNatClampNeg (m_kept v1.toNatClampNeg)) m_known (v1 + 1))))
def M_keeps_L11 (m_kept : Nat → Int32) (k40 : (Nat → Int32) → Int32 → Option ((Nat → Int32) × Int32)) : Nat → (Nat → Int32) → Int32 → Int32 → Option ((Nat → Int32) × Int32)
  | 0, _, _, _ => none
  | n + 1, m_past, m_known, v1 => if 7760 ≤ v1 then (k40 m_past m_known) else (ga (v1 + 1552) 9312 (ga v1 9312 (M_keeps_L11 m_kept k40 n (upd m_past v1.toNatClampNeg (m_past (v1 + 1552).toNatClampNeg)) m_known (v1 + 1))))
def M_keeps (m_kept : Nat → Int32) (m_past : Nat → Int32) (m_known : Int32) : Option ((Nat → Int32) × Int32) := if m_known = 6 then (M_keeps_L11 m_kept (fun m_past m_known => M_keeps_L52 m_kept (fun m_past m_known => some (m_past, (m_known + 1))) FU m_past (m_known - 1) 0) FU m_past m_known 0) else (M_keeps_L52 m_kept (fun m_past m_known => some (m_past, (m_known + 1))) FU m_past m_known 0)
set_option maxRecDepth 100000 in
set_option maxHeartbeats 4000000 in
theorem t_M_keeps_L52 {p : Program} {l : Launch} {e : Env} {s : State} {m : MethodId} {args : Array Value} {below : List Frame} {meth : Method} {c : Code} {Q : State → Prop} {A : Nat → Prop} {D : va_G} {cI cJ cB cL cS cW : ClassId} {a : Nat → Nat} {m_s m_kept m_refused m_text m_asked m_heads m_forkBit m_forkFrom m_forkTo m_wayPage m_wayKnown m_wayGuess m_wayDiff m_wayRead m_wayPlace m_treeBit m_treeLeft m_treeRight m_treeAbove m_pileFrom m_pileTo m_pileAbove : Nat → Int32} {m_typed m_askedLength m_entries m_forks m_guess m_diff m_read m_placeOf m_treeForks m_treeDeep : Int32} {o_past : Nat → Int32} {o_known : Int32} (C : k_C p s m args meth c cX8_keeps 2 none RX8 wsX8_keeps D (kT cI cJ cB cL cS cW) A) (hD : va_D A (WM0 a cI)) (hret : ∀ (H : Heap) (locs : List Loc) (pc : Nat) (ls : Array Slot), decode cX8_keeps pc = .ok (.return_, 1) → va_P D vwCl (WM a cI m_s o_past m_kept m_refused m_text m_asked m_heads m_forkBit m_forkFrom m_forkTo m_wayPage m_wayKnown m_wayGuess m_wayDiff m_wayRead m_wayPlace m_treeBit m_treeLeft m_treeRight m_treeAbove m_pileFrom m_pileTo m_pileAbove o_known m_typed m_askedLength m_entries m_forks m_guess m_diff m_read m_placeOf m_treeForks m_treeDeep) H → va_S A s.heap H locs → W p l e { frames := 0, cells := 0, slots := 0, locals := 0 } s m args below meth c H locs 0 0 Q (F0 m pc ls [])) {k86 : (Nat → Int32) → Int32 → Option ((Nat → Int32) × Int32)} (hk86 : ∀ (m_past : (Nat → Int32)) (m_known : Int32) (H : Heap) (locs : List Loc) (ls : Array Slot), va_P D vwCl (WM a cI m_s m_past m_kept m_refused m_text m_asked m_heads m_forkBit m_forkFrom m_forkTo m_wayPage m_wayKnown m_wayGuess m_wayDiff m_wayRead m_wayPlace m_treeBit m_treeLeft m_treeRight m_treeAbove m_pileFrom m_pileTo m_pileAbove m_known m_typed m_askedLength m_entries m_forks m_guess m_diff m_read m_placeOf m_treeForks m_treeDeep) H → va_S A s.heap H locs → lv_has ls 2 [(0, .ref (a 0))] → k86 m_past m_known = some (o_past, o_known) → W p l e { frames := 0, cells := 0, slots := 0, locals := 0 } s m args below meth c H locs 0 0 Q (F0 m 86 ls [])) : ∀ n : Nat, ∀ (m_past : (Nat → Int32)) (m_known : Int32) (v1 : Int32) (H : Heap) (locs : List Loc) (ls : Array Slot), va_P D vwCl (WM a cI m_s m_past m_kept m_refused m_text m_asked m_heads m_forkBit m_forkFrom m_forkTo m_wayPage m_wayKnown m_wayGuess m_wayDiff m_wayRead m_wayPlace m_treeBit m_treeLeft m_treeRight m_treeAbove m_pileFrom m_pileTo m_pileAbove m_known m_typed m_askedLength m_entries m_forks m_guess m_diff m_read m_placeOf m_treeForks m_treeDeep) H → va_S A s.heap H locs → lv_has ls 2 [(0, .ref (a 0)), (1, .int v1)] → (M_keeps_L52 m_kept k86 n) m_past m_known v1 = some (o_past, o_known) → W p l e { frames := 0, cells := 0, slots := 0, locals := 0 } s m args below meth c H locs 0 0 Q (F0 m 52 ls []) := by
  obtain ⟨hx, hb, hml, hr, hown, hts, hlocks, hK, hA, hN⟩ := id C
  intro n
  induction n with
  | zero =>
    intro m_past m_known v1 H locs ls hP hS hl hm
    cases hm
  | succ n ih =>
    intro m_past m_known v1 H locs ls hP hS hl hm
    rw [M_keeps_L52] at hm
    refine lv_iload_n hx hb dX8_keeps_52 rfl (lv_at hl 1 rfl) ?_
    refine lv_sipush (v := 1552) hx hb dX8_keeps_53 (by decide) ?_
    refine lv_icmp_ge (tgt := 86) hx hb dX8_keeps_56 (by decide) (fun hc => ?_) (fun hc => ?_)
    · have hm := if_t hc hm
      exact hk86 _ _ _ _ _ hP hS (lv_sub hl [0] rfl) hm
    · have hm := if_f hc hm
      refine lv_aload_n hx hb dX8_keeps_59 rfl (lv_at hl 0 rfl) ?_
      refine kg (v := .ref (a 2)) hx hb hts hiX8_keeps hown hK hP 0 rfl rfl 1 (by decide) flX8_keeps_13 rfl rfl dX8_keeps_60 ?_
      refine lv_sipush (v := 1552) hx hb dX8_keeps_63 (by decide) ?_
      refine lv_aload_n hx hb dX8_keeps_66 rfl (lv_at hl 0 rfl) ?_
      refine kg (v := .int m_known) hx hb hts hiX8_keeps hown hK hP 0 rfl rfl 3 (by decide) flX8_keeps_79 rfl rfl dX8_keeps_67 ?_
      refine lv_imul hx hb dX8_keeps_70 ?_
      refine lv_iload_n hx hb dX8_keeps_71 rfl (lv_at hl 1 rfl) ?_
      refine lv_iadd hx hb dX8_keeps_72 ?_
      refine lv_aload_n hx hb dX8_keeps_73 rfl (lv_at hl 0 rfl) ?_
      refine kg (v := .ref (a 3)) hx hb hts hiX8_keeps hown hK hP 0 rfl rfl 2 (by decide) flX8_keeps_16 rfl rfl dX8_keeps_74 ?_
      refine lv_iload_n hx hb dX8_keeps_77 rfl (lv_at hl 1 rfl) ?_
      obtain ⟨hi, hm⟩ := ga_some hm
      refine k_iald hx hb hK hP 3 0 rfl rfl rfl hi dX8_keeps_78 ?_
      obtain ⟨hi, hm⟩ := ga_some hm
      refine k_iast hx hb hK hP (va_D_re hD rfl) hS 2 0 rfl rfl rfl hi dX8_keeps_79 (fun H locs hP hS => ?_)
      have hP : va_P D vwCl (WM a cI m_s (upd m_past ((1552 * m_known) + v1).toNatClampNeg (m_kept v1.toNatClampNeg)) m_kept m_refused m_text m_asked m_heads m_forkBit m_forkFrom m_forkTo m_wayPage m_wayKnown m_wayGuess m_wayDiff m_wayRead m_wayPlace m_treeBit m_treeLeft m_treeRight m_treeAbove m_pileFrom m_pileTo m_pileAbove m_known m_typed m_askedLength m_entries m_forks m_guess m_diff m_read m_placeOf m_treeForks m_treeDeep) H := hP
      refine lv_iinc (v := (v1 + 1)) (lv' := [(1, .int (v1 + 1)), (0, .ref (a 0))]) hx hb dX8_keeps_80 hl (k := 1) rfl rfl (by decide) rfl (fun ls hl => ?_)
      refine lv_goto (tgt := 52) hx hb dX8_keeps_83 (by decide) ?_
      exact ih _ _ _ _ _ _ hP hS (lv_sub hl [1, 0] rfl) hm
set_option maxRecDepth 100000 in
set_option maxHeartbeats 4000000 in
theorem t_M_keeps_L11 {p : Program} {l : Launch} {e : Env} {s : State} {m : MethodId} {args : Array Value} {below : List Frame} {meth : Method} {c : Code} {Q : State → Prop} {A : Nat → Prop} {D : va_G} {cI cJ cB cL cS cW : ClassId} {a : Nat → Nat} {m_s m_kept m_refused m_text m_asked m_heads m_forkBit m_forkFrom m_forkTo m_wayPage m_wayKnown m_wayGuess m_wayDiff m_wayRead m_wayPlace m_treeBit m_treeLeft m_treeRight m_treeAbove m_pileFrom m_pileTo m_pileAbove : Nat → Int32} {m_typed m_askedLength m_entries m_forks m_guess m_diff m_read m_placeOf m_treeForks m_treeDeep : Int32} {o_past : Nat → Int32} {o_known : Int32} (C : k_C p s m args meth c cX8_keeps 2 none RX8 wsX8_keeps D (kT cI cJ cB cL cS cW) A) (hD : va_D A (WM0 a cI)) (hret : ∀ (H : Heap) (locs : List Loc) (pc : Nat) (ls : Array Slot), decode cX8_keeps pc = .ok (.return_, 1) → va_P D vwCl (WM a cI m_s o_past m_kept m_refused m_text m_asked m_heads m_forkBit m_forkFrom m_forkTo m_wayPage m_wayKnown m_wayGuess m_wayDiff m_wayRead m_wayPlace m_treeBit m_treeLeft m_treeRight m_treeAbove m_pileFrom m_pileTo m_pileAbove o_known m_typed m_askedLength m_entries m_forks m_guess m_diff m_read m_placeOf m_treeForks m_treeDeep) H → va_S A s.heap H locs → W p l e { frames := 0, cells := 0, slots := 0, locals := 0 } s m args below meth c H locs 0 0 Q (F0 m pc ls [])) {k40 : (Nat → Int32) → Int32 → Option ((Nat → Int32) × Int32)} (hk40 : ∀ (m_past : (Nat → Int32)) (m_known : Int32) (H : Heap) (locs : List Loc) (ls : Array Slot), va_P D vwCl (WM a cI m_s m_past m_kept m_refused m_text m_asked m_heads m_forkBit m_forkFrom m_forkTo m_wayPage m_wayKnown m_wayGuess m_wayDiff m_wayRead m_wayPlace m_treeBit m_treeLeft m_treeRight m_treeAbove m_pileFrom m_pileTo m_pileAbove m_known m_typed m_askedLength m_entries m_forks m_guess m_diff m_read m_placeOf m_treeForks m_treeDeep) H → va_S A s.heap H locs → lv_has ls 2 [(0, .ref (a 0))] → k40 m_past m_known = some (o_past, o_known) → W p l e { frames := 0, cells := 0, slots := 0, locals := 0 } s m args below meth c H locs 0 0 Q (F0 m 40 ls [])) : ∀ n : Nat, ∀ (m_past : (Nat → Int32)) (m_known : Int32) (v1 : Int32) (H : Heap) (locs : List Loc) (ls : Array Slot), va_P D vwCl (WM a cI m_s m_past m_kept m_refused m_text m_asked m_heads m_forkBit m_forkFrom m_forkTo m_wayPage m_wayKnown m_wayGuess m_wayDiff m_wayRead m_wayPlace m_treeBit m_treeLeft m_treeRight m_treeAbove m_pileFrom m_pileTo m_pileAbove m_known m_typed m_askedLength m_entries m_forks m_guess m_diff m_read m_placeOf m_treeForks m_treeDeep) H → va_S A s.heap H locs → lv_has ls 2 [(0, .ref (a 0)), (1, .int v1)] → (M_keeps_L11 m_kept k40 n) m_past m_known v1 = some (o_past, o_known) → W p l e { frames := 0, cells := 0, slots := 0, locals := 0 } s m args below meth c H locs 0 0 Q (F0 m 11 ls []) := by
  obtain ⟨hx, hb, hml, hr, hown, hts, hlocks, hK, hA, hN⟩ := id C
  intro n
  induction n with
  | zero =>
    intro m_past m_known v1 H locs ls hP hS hl hm
    cases hm
  | succ n ih =>
    intro m_past m_known v1 H locs ls hP hS hl hm
    rw [M_keeps_L11] at hm
    refine lv_iload_n hx hb dX8_keeps_11 rfl (lv_at hl 1 rfl) ?_
    refine lv_sipush (v := 7760) hx hb dX8_keeps_12 (by decide) ?_
    refine lv_icmp_ge (tgt := 40) hx hb dX8_keeps_15 (by decide) (fun hc => ?_) (fun hc => ?_)
    · have hm := if_t hc hm
      exact hk40 _ _ _ _ _ hP hS (lv_sub hl [0] rfl) hm
    · have hm := if_f hc hm
      refine lv_aload_n hx hb dX8_keeps_18 rfl (lv_at hl 0 rfl) ?_
      refine kg (v := .ref (a 2)) hx hb hts hiX8_keeps hown hK hP 0 rfl rfl 1 (by decide) flX8_keeps_13 rfl rfl dX8_keeps_19 ?_
      refine lv_iload_n hx hb dX8_keeps_22 rfl (lv_at hl 1 rfl) ?_
      refine lv_aload_n hx hb dX8_keeps_23 rfl (lv_at hl 0 rfl) ?_
      refine kg (v := .ref (a 2)) hx hb hts hiX8_keeps hown hK hP 0 rfl rfl 1 (by decide) flX8_keeps_13 rfl rfl dX8_keeps_24 ?_
      refine lv_iload_n hx hb dX8_keeps_27 rfl (lv_at hl 1 rfl) ?_
      refine lv_sipush (v := 1552) hx hb dX8_keeps_28 (by decide) ?_
      refine lv_iadd hx hb dX8_keeps_31 ?_
      obtain ⟨hi, hm⟩ := ga_some hm
      refine k_iald hx hb hK hP 2 0 rfl rfl rfl hi dX8_keeps_32 ?_
      obtain ⟨hi, hm⟩ := ga_some hm
      refine k_iast hx hb hK hP (va_D_re hD rfl) hS 2 0 rfl rfl rfl hi dX8_keeps_33 (fun H locs hP hS => ?_)
      have hP : va_P D vwCl (WM a cI m_s (upd m_past v1.toNatClampNeg (m_past (v1 + 1552).toNatClampNeg)) m_kept m_refused m_text m_asked m_heads m_forkBit m_forkFrom m_forkTo m_wayPage m_wayKnown m_wayGuess m_wayDiff m_wayRead m_wayPlace m_treeBit m_treeLeft m_treeRight m_treeAbove m_pileFrom m_pileTo m_pileAbove m_known m_typed m_askedLength m_entries m_forks m_guess m_diff m_read m_placeOf m_treeForks m_treeDeep) H := hP
      refine lv_iinc (v := (v1 + 1)) (lv' := [(1, .int (v1 + 1)), (0, .ref (a 0))]) hx hb dX8_keeps_34 hl (k := 1) rfl rfl (by decide) rfl (fun ls hl => ?_)
      refine lv_goto (tgt := 11) hx hb dX8_keeps_37 (by decide) ?_
      exact ih _ _ _ _ _ _ hP hS (lv_sub hl [1, 0] rfl) hm
set_option maxRecDepth 100000 in
set_option maxHeartbeats 4000000 in
theorem c_X8_keeps {l : Launch} {D : va_G} {cI cJ cB cL cS cW : ClassId} {a : Nat → Nat} {m_s m_past m_kept m_refused m_text m_asked m_heads m_forkBit m_forkFrom m_forkTo m_wayPage m_wayKnown m_wayGuess m_wayDiff m_wayRead m_wayPlace m_treeBit m_treeLeft m_treeRight m_treeAbove m_pileFrom m_pileTo m_pileAbove : Nat → Int32} {m_known m_typed m_askedLength m_entries m_forks m_guess m_diff m_read m_placeOf m_treeForks m_treeDeep : Int32} {o_past : Nat → Int32} {o_known : Int32} (hm : M_keeps m_kept m_past m_known = some (o_past, o_known)) : k_MV l yX8_keeps wsX8_keeps { frames := 0, cells := 0, slots := 0, locals := 0 } D (kT cI cJ cB cL cS cW) [.ref (a 0)] (WM a cI m_s m_past m_kept m_refused m_text m_asked m_heads m_forkBit m_forkFrom m_forkTo m_wayPage m_wayKnown m_wayGuess m_wayDiff m_wayRead m_wayPlace m_treeBit m_treeLeft m_treeRight m_treeAbove m_pileFrom m_pileTo m_pileAbove m_known m_typed m_askedLength m_entries m_forks m_guess m_diff m_read m_placeOf m_treeForks m_treeDeep) (WM a cI m_s o_past m_kept m_refused m_text m_asked m_heads m_forkBit m_forkFrom m_forkTo m_wayPage m_wayKnown m_wayGuess m_wayDiff m_wayRead m_wayPlace m_treeBit m_treeLeft m_treeRight m_treeAbove m_pileFrom m_pileTo m_pileAbove o_known m_typed m_askedLength m_entries m_forks m_guess m_diff m_read m_placeOf m_treeForks m_treeDeep) := by
  refine k_ofV (cc := cX8_keeps) (maxL := 2) (own := RX8) (by decide) rfl rfl (Nat.le_of_ble_eq_true rfl) ?_
  intro p e s m args below meth c A Q ls C hP hD hl hret
  have hD : va_D A (WM0 a cI) := va_D_re hD rfl
  have hS : va_S A s.heap s.heap [] := va_S.rf
  have hl : lv_has ls 2 [(0, .ref (a 0))] := hl
  obtain ⟨hx, hb, hml, hr, hown, hts, hlocks, hK, hA, hN⟩ := id C
  rw [M_keeps] at hm
  refine lv_aload_n hx hb dX8_keeps_0 rfl (lv_at hl 0 rfl) ?_
  refine kg (v := .int m_known) hx hb hts hiX8_keeps hown hK hP 0 rfl rfl 3 (by decide) flX8_keeps_79 rfl rfl dX8_keeps_1 ?_
  refine lv_bipush (v := 6) hx hb dX8_keeps_4 (by decide) ?_
  refine lv_icmp_ne (tgt := 50) hx hb dX8_keeps_6 (by decide) (fun hc => ?_) (fun hc => ?_)
  · have hm := if_f hc hm
    refine lv_iconst (v := 0) hx hb dX8_keeps_50 (by decide) ?_
    refine lv_istore_n (lv' := [(1, .int 0), (0, .ref (a 0))]) hx hb dX8_keeps_51 rfl hl (by decide) rfl (fun ls hl => ?_)
    refine t_M_keeps_L52 C hD hret ?_ FU _ _ _ _ _ _ hP hS (lv_sub hl [1, 0] rfl) hm
    · intro m_past m_known H locs ls hP hS hl hm
      try dsimp only at hm
      refine lv_aload_n hx hb dX8_keeps_86 rfl (lv_at hl 0 rfl) ?_
      refine lv_dup hx hb dX8_keeps_87 rfl ?_
      refine kg (v := .int m_known) hx hb hts hiX8_keeps hown hK hP 0 rfl rfl 3 (by decide) flX8_keeps_79 rfl rfl dX8_keeps_88 ?_
      refine lv_iconst (v := 1) hx hb dX8_keeps_91 (by decide) ?_
      refine lv_iadd hx hb dX8_keeps_92 ?_
      refine kp hx hb hts hiX8_keeps tyX8 tyX8_ok nmX8 hown hK hP (va_D_re hD rfl) hS 0 rfl rfl 3 (by decide) flX8_keeps_79 rfl rfl rfl (Nat.le_of_ble_eq_true rfl) dX8_keeps_93 (fun H locs hP hS => ?_)
      have hP : va_P D vwCl (WM a cI m_s m_past m_kept m_refused m_text m_asked m_heads m_forkBit m_forkFrom m_forkTo m_wayPage m_wayKnown m_wayGuess m_wayDiff m_wayRead m_wayPlace m_treeBit m_treeLeft m_treeRight m_treeAbove m_pileFrom m_pileTo m_pileAbove (m_known + 1) m_typed m_askedLength m_entries m_forks m_guess m_diff m_read m_placeOf m_treeForks m_treeDeep) H := hP
      simp only [Option.some.injEq, Prod.mk.injEq] at hm
      obtain ⟨rfl, rfl⟩ := hm
      exact hret _ _ _ _ dX8_keeps_96 hP hS
  · have hm := if_t hc hm
    refine lv_iconst (v := 0) hx hb dX8_keeps_9 (by decide) ?_
    refine lv_istore_n (lv' := [(1, .int 0), (0, .ref (a 0))]) hx hb dX8_keeps_10 rfl hl (by decide) rfl (fun ls hl => ?_)
    refine t_M_keeps_L11 C hD hret ?_ FU _ _ _ _ _ _ hP hS (lv_sub hl [1, 0] rfl) hm
    · intro m_past m_known H locs ls hP hS hl hm
      try dsimp only at hm
      refine lv_aload_n hx hb dX8_keeps_40 rfl (lv_at hl 0 rfl) ?_
      refine lv_dup hx hb dX8_keeps_41 rfl ?_
      refine kg (v := .int m_known) hx hb hts hiX8_keeps hown hK hP 0 rfl rfl 3 (by decide) flX8_keeps_79 rfl rfl dX8_keeps_42 ?_
      refine lv_iconst (v := 1) hx hb dX8_keeps_45 (by decide) ?_
      refine lv_isub hx hb dX8_keeps_46 ?_
      refine kp hx hb hts hiX8_keeps tyX8 tyX8_ok nmX8 hown hK hP (va_D_re hD rfl) hS 0 rfl rfl 3 (by decide) flX8_keeps_79 rfl rfl rfl (Nat.le_of_ble_eq_true rfl) dX8_keeps_47 (fun H locs hP hS => ?_)
      have hP : va_P D vwCl (WM a cI m_s m_past m_kept m_refused m_text m_asked m_heads m_forkBit m_forkFrom m_forkTo m_wayPage m_wayKnown m_wayGuess m_wayDiff m_wayRead m_wayPlace m_treeBit m_treeLeft m_treeRight m_treeAbove m_pileFrom m_pileTo m_pileAbove (m_known - 1) m_typed m_askedLength m_entries m_forks m_guess m_diff m_read m_placeOf m_treeForks m_treeDeep) H := hP
      refine lv_iconst (v := 0) hx hb dX8_keeps_50 (by decide) ?_
      refine lv_istore_n (lv' := [(1, .int 0), (0, .ref (a 0))]) hx hb dX8_keeps_51 rfl hl (by decide) rfl (fun ls hl => ?_)
      refine t_M_keeps_L52 C hD hret ?_ FU _ _ _ _ _ _ hP hS (lv_sub hl [1, 0] rfl) hm
      · intro m_past m_known H locs ls hP hS hl hm
        try dsimp only at hm
        refine lv_aload_n hx hb dX8_keeps_86 rfl (lv_at hl 0 rfl) ?_
        refine lv_dup hx hb dX8_keeps_87 rfl ?_
        refine kg (v := .int m_known) hx hb hts hiX8_keeps hown hK hP 0 rfl rfl 3 (by decide) flX8_keeps_79 rfl rfl dX8_keeps_88 ?_
        refine lv_iconst (v := 1) hx hb dX8_keeps_91 (by decide) ?_
        refine lv_iadd hx hb dX8_keeps_92 ?_
        refine kp hx hb hts hiX8_keeps tyX8 tyX8_ok nmX8 hown hK hP (va_D_re hD rfl) hS 0 rfl rfl 3 (by decide) flX8_keeps_79 rfl rfl rfl (Nat.le_of_ble_eq_true rfl) dX8_keeps_93 (fun H locs hP hS => ?_)
        have hP : va_P D vwCl (WM a cI m_s m_past m_kept m_refused m_text m_asked m_heads m_forkBit m_forkFrom m_forkTo m_wayPage m_wayKnown m_wayGuess m_wayDiff m_wayRead m_wayPlace m_treeBit m_treeLeft m_treeRight m_treeAbove m_pileFrom m_pileTo m_pileAbove (m_known + 1) m_typed m_askedLength m_entries m_forks m_guess m_diff m_read m_placeOf m_treeForks m_treeDeep) H := hP
        simp only [Option.some.injEq, Prod.mk.injEq] at hm
        obtain ⟨rfl, rfl⟩ := hm
        exact hret _ _ _ _ dX8_keeps_96 hP hS
theorem hdX8_lengthOf : yX8_lengthOf.cls = RX8 ∧ yX8_lengthOf.cls ≠ "java/lang/invoke/MethodHandle" ∧ yX8_lengthOf.cls ≠ "java/lang/invoke/VarHandle" ∧ (parseMethodDescriptor yX8_lengthOf.desc).map (fun d => d.parameters.length) = some 1 := by decide +kernel
theorem hiX8_lengthOf : ∀ w ∈ u_ws RX8 TX8 34, w ∈ wsX8_lengthOf := by decide +kernel
theorem flX8_lengthOf_83 : Cond.fieldLink RX8 83 "BlindPagesModel" "askedLength" "I" ∈ wsX8_lengthOf := by decide +kernel
theorem flX8_lengthOf_7 : Cond.fieldLink RX8 7 "BlindPagesModel" "s" "[I" ∈ wsX8_lengthOf := by decide +kernel
def M_lengthOf (m_s : Nat → Int32) (m_askedLength : Int32) (v1 : Int32) : Option (Int32) := if v1 = 48 then (some m_askedLength) else (ga (350 + v1) 1552 (some (m_s (350 + v1).toNatClampNeg)))
set_option maxRecDepth 100000 in
set_option maxHeartbeats 4000000 in
theorem c_X8_lengthOf {l : Launch} {D : va_G} {cI cJ cB cL cS cW : ClassId} {a : Nat → Nat} {m_s m_past m_kept m_refused m_text m_asked m_heads m_forkBit m_forkFrom m_forkTo m_wayPage m_wayKnown m_wayGuess m_wayDiff m_wayRead m_wayPlace m_treeBit m_treeLeft m_treeRight m_treeAbove m_pileFrom m_pileTo m_pileAbove : Nat → Int32} {m_known m_typed m_askedLength m_entries m_forks m_guess m_diff m_read m_placeOf m_treeForks m_treeDeep : Int32} {v1 : Int32} {r : Int32} (hm : M_lengthOf m_s m_askedLength v1 = some r) : k_MI l yX8_lengthOf wsX8_lengthOf { frames := 0, cells := 0, slots := 0, locals := 0 } D (kT cI cJ cB cL cS cW) [.ref (a 0), .int v1] (WM a cI m_s m_past m_kept m_refused m_text m_asked m_heads m_forkBit m_forkFrom m_forkTo m_wayPage m_wayKnown m_wayGuess m_wayDiff m_wayRead m_wayPlace m_treeBit m_treeLeft m_treeRight m_treeAbove m_pileFrom m_pileTo m_pileAbove m_known m_typed m_askedLength m_entries m_forks m_guess m_diff m_read m_placeOf m_treeForks m_treeDeep) r (WM a cI m_s m_past m_kept m_refused m_text m_asked m_heads m_forkBit m_forkFrom m_forkTo m_wayPage m_wayKnown m_wayGuess m_wayDiff m_wayRead m_wayPlace m_treeBit m_treeLeft m_treeRight m_treeAbove m_pileFrom m_pileTo m_pileAbove m_known m_typed m_askedLength m_entries m_forks m_guess m_diff m_read m_placeOf m_treeForks m_treeDeep) := by
  refine k_ofI (cc := cX8_lengthOf) (maxL := 2) (own := RX8) (by decide) rfl rfl (Nat.le_of_ble_eq_true rfl) ?_
  intro p e s m args below meth c A Q ls C hP hD hl hret
  have hD : va_D A (WM0 a cI) := va_D_re hD rfl
  have hS : va_S A s.heap s.heap [] := va_S.rf
  have hl : lv_has ls 2 [(0, .ref (a 0)), (1, .int v1)] := hl
  obtain ⟨hx, hb, hml, hr, hown, hts, hlocks, hK, hA, hN⟩ := id C
  rw [M_lengthOf] at hm
  refine lv_iload_n hx hb dX8_lengthOf_0 rfl (lv_at hl 1 rfl) ?_
  refine lv_bipush (v := 48) hx hb dX8_lengthOf_1 (by decide) ?_
  refine lv_icmp_ne (tgt := 13) hx hb dX8_lengthOf_3 (by decide) (fun hc => ?_) (fun hc => ?_)
  · have hm := if_f hc hm
    refine lv_aload_n hx hb dX8_lengthOf_13 rfl (lv_at hl 0 rfl) ?_
    refine kg (v := .ref (a 1)) hx hb hts hiX8_lengthOf hown hK hP 0 rfl rfl 0 (by decide) flX8_lengthOf_7 rfl rfl dX8_lengthOf_14 ?_
    refine lv_sipush (v := 350) hx hb dX8_lengthOf_17 (by decide) ?_
    refine lv_iload_n hx hb dX8_lengthOf_20 rfl (lv_at hl 1 rfl) ?_
    refine lv_iadd hx hb dX8_lengthOf_21 ?_
    obtain ⟨hi, hm⟩ := ga_some hm
    refine k_iald hx hb hK hP 1 0 rfl rfl rfl hi dX8_lengthOf_22 ?_
    obtain rfl := Option.some.inj hm
    exact hret _ _ _ _ dX8_lengthOf_23 hP hS
  · have hm := if_t hc hm
    refine lv_aload_n hx hb dX8_lengthOf_6 rfl (lv_at hl 0 rfl) ?_
    refine kg (v := .int m_askedLength) hx hb hts hiX8_lengthOf hown hK hP 0 rfl rfl 8 (by decide) flX8_lengthOf_83 rfl rfl dX8_lengthOf_7 ?_
    refine lv_goto (tgt := 23) hx hb dX8_lengthOf_10 (by decide) ?_
    obtain rfl := Option.some.inj hm
    exact hret _ _ _ _ dX8_lengthOf_23 hP hS
theorem hdX8_signOf : yX8_signOf.cls = RX8 ∧ yX8_signOf.cls ≠ "java/lang/invoke/MethodHandle" ∧ yX8_signOf.cls ≠ "java/lang/invoke/VarHandle" ∧ (parseMethodDescriptor yX8_signOf.desc).map (fun d => d.parameters.length) = some 2 := by decide +kernel
theorem hiX8_signOf : ∀ w ∈ u_ws RX8 TX8 34, w ∈ wsX8_signOf := by decide +kernel
theorem flX8_signOf_25 : Cond.fieldLink RX8 25 "BlindPagesModel" "asked" "[I" ∈ wsX8_signOf := by decide +kernel
theorem flX8_signOf_7 : Cond.fieldLink RX8 7 "BlindPagesModel" "s" "[I" ∈ wsX8_signOf := by decide +kernel
def M_signOf (m_s m_asked : Nat → Int32) (v1 : Int32) (v2 : Int32) : Option (Int32) := if v1 = 48 then (ga v2 24 (some (m_asked v2.toNatClampNeg))) else (ga ((400 + (24 * v1)) + v2) 1552 (some (m_s ((400 + (24 * v1)) + v2).toNatClampNeg)))
set_option maxRecDepth 100000 in
set_option maxHeartbeats 4000000 in
theorem c_X8_signOf {l : Launch} {D : va_G} {cI cJ cB cL cS cW : ClassId} {a : Nat → Nat} {m_s m_past m_kept m_refused m_text m_asked m_heads m_forkBit m_forkFrom m_forkTo m_wayPage m_wayKnown m_wayGuess m_wayDiff m_wayRead m_wayPlace m_treeBit m_treeLeft m_treeRight m_treeAbove m_pileFrom m_pileTo m_pileAbove : Nat → Int32} {m_known m_typed m_askedLength m_entries m_forks m_guess m_diff m_read m_placeOf m_treeForks m_treeDeep : Int32} {v1 : Int32} {v2 : Int32} {r : Int32} (hm : M_signOf m_s m_asked v1 v2 = some r) : k_MI l yX8_signOf wsX8_signOf { frames := 0, cells := 0, slots := 0, locals := 0 } D (kT cI cJ cB cL cS cW) [.ref (a 0), .int v1, .int v2] (WM a cI m_s m_past m_kept m_refused m_text m_asked m_heads m_forkBit m_forkFrom m_forkTo m_wayPage m_wayKnown m_wayGuess m_wayDiff m_wayRead m_wayPlace m_treeBit m_treeLeft m_treeRight m_treeAbove m_pileFrom m_pileTo m_pileAbove m_known m_typed m_askedLength m_entries m_forks m_guess m_diff m_read m_placeOf m_treeForks m_treeDeep) r (WM a cI m_s m_past m_kept m_refused m_text m_asked m_heads m_forkBit m_forkFrom m_forkTo m_wayPage m_wayKnown m_wayGuess m_wayDiff m_wayRead m_wayPlace m_treeBit m_treeLeft m_treeRight m_treeAbove m_pileFrom m_pileTo m_pileAbove m_known m_typed m_askedLength m_entries m_forks m_guess m_diff m_read m_placeOf m_treeForks m_treeDeep) := by
  refine k_ofI (cc := cX8_signOf) (maxL := 3) (own := RX8) (by decide) rfl rfl (Nat.le_of_ble_eq_true rfl) ?_
  intro p e s m args below meth c A Q ls C hP hD hl hret
  have hD : va_D A (WM0 a cI) := va_D_re hD rfl
  have hS : va_S A s.heap s.heap [] := va_S.rf
  have hl : lv_has ls 3 [(0, .ref (a 0)), (1, .int v1), (2, .int v2)] := hl
  obtain ⟨hx, hb, hml, hr, hown, hts, hlocks, hK, hA, hN⟩ := id C
  rw [M_signOf] at hm
  refine lv_iload_n hx hb dX8_signOf_0 rfl (lv_at hl 1 rfl) ?_
  refine lv_bipush (v := 48) hx hb dX8_signOf_1 (by decide) ?_
  refine lv_icmp_ne (tgt := 15) hx hb dX8_signOf_3 (by decide) (fun hc => ?_) (fun hc => ?_)
  · have hm := if_f hc hm
    refine lv_aload_n hx hb dX8_signOf_15 rfl (lv_at hl 0 rfl) ?_
    refine kg (v := .ref (a 1)) hx hb hts hiX8_signOf hown hK hP 0 rfl rfl 0 (by decide) flX8_signOf_7 rfl rfl dX8_signOf_16 ?_
    refine lv_sipush (v := 400) hx hb dX8_signOf_19 (by decide) ?_
    refine lv_bipush (v := 24) hx hb dX8_signOf_22 (by decide) ?_
    refine lv_iload_n hx hb dX8_signOf_24 rfl (lv_at hl 1 rfl) ?_
    refine lv_imul hx hb dX8_signOf_25 ?_
    refine lv_iadd hx hb dX8_signOf_26 ?_
    refine lv_iload_n hx hb dX8_signOf_27 rfl (lv_at hl 2 rfl) ?_
    refine lv_iadd hx hb dX8_signOf_28 ?_
    obtain ⟨hi, hm⟩ := ga_some hm
    refine k_iald hx hb hK hP 1 0 rfl rfl rfl hi dX8_signOf_29 ?_
    obtain rfl := Option.some.inj hm
    exact hret _ _ _ _ dX8_signOf_30 hP hS
  · have hm := if_t hc hm
    refine lv_aload_n hx hb dX8_signOf_6 rfl (lv_at hl 0 rfl) ?_
    refine kg (v := .ref (a 6)) hx hb hts hiX8_signOf hown hK hP 0 rfl rfl 7 (by decide) flX8_signOf_25 rfl rfl dX8_signOf_7 ?_
    refine lv_iload_n hx hb dX8_signOf_10 rfl (lv_at hl 2 rfl) ?_
    obtain ⟨hi, hm⟩ := ga_some hm
    refine k_iald hx hb hK hP 6 0 rfl rfl rfl hi dX8_signOf_11 ?_
    refine lv_goto (tgt := 30) hx hb dX8_signOf_12 (by decide) ?_
    obtain rfl := Option.some.inj hm
    exact hret _ _ _ _ dX8_signOf_30 hP hS
theorem hdX8_bitOf : yX8_bitOf.cls = RX8 ∧ yX8_bitOf.cls ≠ "java/lang/invoke/MethodHandle" ∧ yX8_bitOf.cls ≠ "java/lang/invoke/VarHandle" ∧ (parseMethodDescriptor yX8_bitOf.desc).map (fun d => d.parameters.length) = some 2 := by decide +kernel
def M_bitOf (m_s m_asked : Nat → Int32) (m_askedLength : Int32) (v1 : Int32) (v2 : Int32) : Option (Int32) := bd1 (M_lengthOf m_s m_askedLength v1) fun r6 => if r6 ≤ (v2 / 8) then (some 0) else (bd1 (M_signOf m_s m_asked v1 (v2 / 8)) fun r18 => some ((r18 >>> ((7 - (v2 - v2 / 8 * 8)) &&& 31)) &&& 1))
set_option maxRecDepth 100000 in
set_option maxHeartbeats 4000000 in
theorem c_X8_bitOf {l : Launch} {D : va_G} {cI cJ cB cL cS cW : ClassId} {a : Nat → Nat} {m_s m_past m_kept m_refused m_text m_asked m_heads m_forkBit m_forkFrom m_forkTo m_wayPage m_wayKnown m_wayGuess m_wayDiff m_wayRead m_wayPlace m_treeBit m_treeLeft m_treeRight m_treeAbove m_pileFrom m_pileTo m_pileAbove : Nat → Int32} {m_known m_typed m_askedLength m_entries m_forks m_guess m_diff m_read m_placeOf m_treeForks m_treeDeep : Int32} {v1 : Int32} {v2 : Int32} {r : Int32} (hm : M_bitOf m_s m_asked m_askedLength v1 v2 = some r) : k_MI l yX8_bitOf wsX8_bitOf { frames := 1, cells := 0, slots := 0, locals := 22 } D (kT cI cJ cB cL cS cW) [.ref (a 0), .int v1, .int v2] (WM a cI m_s m_past m_kept m_refused m_text m_asked m_heads m_forkBit m_forkFrom m_forkTo m_wayPage m_wayKnown m_wayGuess m_wayDiff m_wayRead m_wayPlace m_treeBit m_treeLeft m_treeRight m_treeAbove m_pileFrom m_pileTo m_pileAbove m_known m_typed m_askedLength m_entries m_forks m_guess m_diff m_read m_placeOf m_treeForks m_treeDeep) r (WM a cI m_s m_past m_kept m_refused m_text m_asked m_heads m_forkBit m_forkFrom m_forkTo m_wayPage m_wayKnown m_wayGuess m_wayDiff m_wayRead m_wayPlace m_treeBit m_treeLeft m_treeRight m_treeAbove m_pileFrom m_pileTo m_pileAbove m_known m_typed m_askedLength m_entries m_forks m_guess m_diff m_read m_placeOf m_treeForks m_treeDeep) := by
  refine k_ofI (cc := cX8_bitOf) (maxL := 3) (own := RX8) (by decide) rfl rfl (Nat.le_of_ble_eq_true rfl) ?_
  intro p e s m args below meth c A Q ls C hP hD hl hret
  have hD : va_D A (WM0 a cI) := va_D_re hD rfl
  have hS : va_S A s.heap s.heap [] := va_S.rf
  have hl : lv_has ls 3 [(0, .ref (a 0)), (1, .int v1), (2, .int v2)] := hl
  obtain ⟨hx, hb, hml, hr, hown, hts, hlocks, hK, hA, hN⟩ := id C
  rw [M_bitOf] at hm
  refine lv_iload_n hx hb dX8_bitOf_0 rfl (lv_at hl 2 rfl) ?_
  refine lv_bipush (v := 8) hx hb dX8_bitOf_1 (by decide) ?_
  refine lv_idiv hx hb dX8_bitOf_3 (by decide) ?_
  refine lv_aload_n hx hb dX8_bitOf_4 rfl (lv_at hl 0 rfl) ?_
  refine lv_iload_n hx hb dX8_bitOf_5 rfl (lv_at hl 1 rfl) ?_
  obtain ⟨r6, hq, hm⟩ := bd1_some hm
  refine k_callVI (As := [.int v1]) (rest := [.int (v2 / 8)]) ⟨hx, hb, hml, hown, hts⟩ hK hA hN (c_X8_lengthOf (a := a) hq) (cwV 1 hts gX8_bitOf_X8_lengthOf rfl rfl rfl hdX8_lengthOf ⟨Nat.le_of_ble_eq_true rfl, Nat.le_of_ble_eq_true rfl⟩) hP (va_D_re hD rfl) hS 0 8 rfl rfl rfl hl.1 rfl rfl (Nat.le_of_ble_eq_true rfl) ⟨Nat.zero_le _, Nat.zero_le _⟩ dX8_bitOf_6 (fun H locs hP hS => ?_)
  refine lv_icmp_ge (tgt := 34) hx hb dX8_bitOf_9 (by decide) (fun hc => ?_) (fun hc => ?_)
  · have hm := if_t hc hm
    refine lv_iconst (v := 0) hx hb dX8_bitOf_34 (by decide) ?_
    obtain rfl := Option.some.inj hm
    exact hret _ _ _ _ dX8_bitOf_35 hP hS
  · have hm := if_f hc hm
    refine lv_aload_n hx hb dX8_bitOf_12 rfl (lv_at hl 0 rfl) ?_
    refine lv_iload_n hx hb dX8_bitOf_13 rfl (lv_at hl 1 rfl) ?_
    refine lv_iload_n hx hb dX8_bitOf_14 rfl (lv_at hl 2 rfl) ?_
    refine lv_bipush (v := 8) hx hb dX8_bitOf_15 (by decide) ?_
    refine lv_idiv hx hb dX8_bitOf_17 (by decide) ?_
    obtain ⟨r18, hq, hm⟩ := bd1_some hm
    refine k_callVI (As := [.int v1, .int (v2 / 8)]) (rest := []) ⟨hx, hb, hml, hown, hts⟩ hK hA hN (c_X8_signOf (a := a) hq) (cwV 2 hts gX8_bitOf_X8_signOf rfl rfl rfl hdX8_signOf ⟨Nat.le_of_ble_eq_true rfl, Nat.le_of_ble_eq_true rfl⟩) hP (va_D_re hD rfl) hS 0 8 rfl rfl rfl hl.1 rfl rfl (Nat.le_of_ble_eq_true rfl) ⟨Nat.zero_le _, Nat.zero_le _⟩ dX8_bitOf_18 (fun H locs hP hS => ?_)
    refine lv_bipush (v := 7) hx hb dX8_bitOf_21 (by decide) ?_
    refine lv_iload_n hx hb dX8_bitOf_23 rfl (lv_at hl 2 rfl) ?_
    refine lv_bipush (v := 8) hx hb dX8_bitOf_24 (by decide) ?_
    refine lv_irem hx hb dX8_bitOf_26 (by decide) ?_
    refine lv_isub hx hb dX8_bitOf_27 ?_
    refine lv_ishr hx hb dX8_bitOf_28 ?_
    refine lv_iconst (v := 1) hx hb dX8_bitOf_29 (by decide) ?_
    refine lv_iand hx hb dX8_bitOf_30 ?_
    refine lv_goto (tgt := 35) hx hb dX8_bitOf_31 (by decide) ?_
    obtain rfl := Option.some.inj hm
    exact hret _ _ _ _ dX8_bitOf_35 hP hS
theorem hdX8_differ : yX8_differ.cls = RX8 ∧ yX8_differ.cls ≠ "java/lang/invoke/MethodHandle" ∧ yX8_differ.cls ≠ "java/lang/invoke/VarHandle" ∧ (parseMethodDescriptor yX8_differ.desc).map (fun d => d.parameters.length) = some 2 := by decide +kernel
def M_differ_L7 (m_s m_asked : Nat → Int32) (m_askedLength : Int32) (v1 : Int32) (v2 : Int32) (k42 : Int32 → Option (Int32)) : Nat → Int32 → Int32 → Option (Int32)
  | 0, _, _ => none
  | n + 1, v3, v4 => if v4 < 0 then (k42 v3) else (bd1 (M_bitOf m_s m_asked m_askedLength v1 v4) fun r16 => bd1 (M_bitOf m_s m_asked m_askedLength v2 v4) fun r23 => if r16 = r23 then (M_differ_L7 m_s m_asked m_askedLength v1 v2 k42 n v3 (v4 + (-1))) else (M_differ_L7 m_s m_asked m_askedLength v1 v2 k42 n v4 (v4 + (-1))))
def M_differ (m_s m_asked : Nat → Int32) (m_askedLength : Int32) (v1 : Int32) (v2 : Int32) : Option (Int32) := M_differ_L7 m_s m_asked m_askedLength v1 v2 (fun v3 => some v3) FU (-1) 191
set_option maxRecDepth 100000 in
set_option maxHeartbeats 4000000 in
theorem t_M_differ_L7 {p : Program} {l : Launch} {e : Env} {s : State} {m : MethodId} {args : Array Value} {below : List Frame} {meth : Method} {c : Code} {Q : State → Prop} {A : Nat → Prop} {D : va_G} {cI cJ cB cL cS cW : ClassId} {a : Nat → Nat} {m_s m_past m_kept m_refused m_text m_asked m_heads m_forkBit m_forkFrom m_forkTo m_wayPage m_wayKnown m_wayGuess m_wayDiff m_wayRead m_wayPlace m_treeBit m_treeLeft m_treeRight m_treeAbove m_pileFrom m_pileTo m_pileAbove : Nat → Int32} {m_known m_typed m_askedLength m_entries m_forks m_guess m_diff m_read m_placeOf m_treeForks m_treeDeep : Int32} {v1 : Int32} {v2 : Int32} {r : Int32} (C : k_C p s m args meth c cX8_differ 5 (some .int) RX8 wsX8_differ D (kT cI cJ cB cL cS cW) A) (hD : va_D A (WM0 a cI)) (hret : ∀ (H : Heap) (locs : List Loc) (pc : Nat) (ls : Array Slot), decode cX8_differ pc = .ok (.ireturn, 1) → va_P D vwCl (WM a cI m_s m_past m_kept m_refused m_text m_asked m_heads m_forkBit m_forkFrom m_forkTo m_wayPage m_wayKnown m_wayGuess m_wayDiff m_wayRead m_wayPlace m_treeBit m_treeLeft m_treeRight m_treeAbove m_pileFrom m_pileTo m_pileAbove m_known m_typed m_askedLength m_entries m_forks m_guess m_diff m_read m_placeOf m_treeForks m_treeDeep) H → va_S A s.heap H locs → W p l e { frames := 2, cells := 0, slots := 0, locals := 44 } s m args below meth c H locs 0 0 Q (F0 m pc ls [.int r])) {k42 : Int32 → Option (Int32)} (hk42 : ∀ (v3 : Int32) (H : Heap) (locs : List Loc) (ls : Array Slot), va_P D vwCl (WM a cI m_s m_past m_kept m_refused m_text m_asked m_heads m_forkBit m_forkFrom m_forkTo m_wayPage m_wayKnown m_wayGuess m_wayDiff m_wayRead m_wayPlace m_treeBit m_treeLeft m_treeRight m_treeAbove m_pileFrom m_pileTo m_pileAbove m_known m_typed m_askedLength m_entries m_forks m_guess m_diff m_read m_placeOf m_treeForks m_treeDeep) H → va_S A s.heap H locs → lv_has ls 5 [(3, .int v3)] → k42 v3 = some r → W p l e { frames := 2, cells := 0, slots := 0, locals := 44 } s m args below meth c H locs 0 0 Q (F0 m 42 ls [])) : ∀ n : Nat, ∀ (v3 : Int32) (v4 : Int32) (H : Heap) (locs : List Loc) (ls : Array Slot), va_P D vwCl (WM a cI m_s m_past m_kept m_refused m_text m_asked m_heads m_forkBit m_forkFrom m_forkTo m_wayPage m_wayKnown m_wayGuess m_wayDiff m_wayRead m_wayPlace m_treeBit m_treeLeft m_treeRight m_treeAbove m_pileFrom m_pileTo m_pileAbove m_known m_typed m_askedLength m_entries m_forks m_guess m_diff m_read m_placeOf m_treeForks m_treeDeep) H → va_S A s.heap H locs → lv_has ls 5 [(0, .ref (a 0)), (1, .int v1), (2, .int v2), (3, .int v3), (4, .int v4)] → (M_differ_L7 m_s m_asked m_askedLength v1 v2 k42 n) v3 v4 = some r → W p l e { frames := 2, cells := 0, slots := 0, locals := 44 } s m args below meth c H locs 0 0 Q (F0 m 7 ls []) := by
  obtain ⟨hx, hb, hml, hr, hown, hts, hlocks, hK, hA, hN⟩ := id C
  intro n
  induction n with
  | zero =>
    intro v3 v4 H locs ls hP hS hl hm
    cases hm
  | succ n ih =>
    intro v3 v4 H locs ls hP hS hl hm
    rw [M_differ_L7] at hm
    refine lv_iload hx hb dX8_differ_7 (lv_at hl 4 rfl) ?_
    refine lv_if_lt (tgt := 42) hx hb dX8_differ_9 (by decide) (fun hc => ?_) (fun hc => ?_)
    · have hm := if_t hc hm
      exact hk42 _ _ _ _ hP hS (lv_sub hl [3] rfl) hm
    · have hm := if_f hc hm
      refine lv_aload_n hx hb dX8_differ_12 rfl (lv_at hl 0 rfl) ?_
      refine lv_iload_n hx hb dX8_differ_13 rfl (lv_at hl 1 rfl) ?_
      refine lv_iload hx hb dX8_differ_14 (lv_at hl 4 rfl) ?_
      obtain ⟨r16, hq, hm⟩ := bd1_some hm
      refine k_callVI (As := [.int v1, .int v4]) (rest := []) ⟨hx, hb, hml, hown, hts⟩ hK hA hN (c_X8_bitOf (a := a) hq) (cwV 2 hts gX8_differ_X8_bitOf rfl rfl rfl hdX8_bitOf ⟨Nat.le_of_ble_eq_true rfl, Nat.le_of_ble_eq_true rfl⟩) hP (va_D_re hD rfl) hS 0 8 rfl rfl rfl hl.1 rfl rfl (Nat.le_of_ble_eq_true rfl) ⟨Nat.zero_le _, Nat.zero_le _⟩ dX8_differ_16 (fun H locs hP hS => ?_)
      refine lv_aload_n hx hb dX8_differ_19 rfl (lv_at hl 0 rfl) ?_
      refine lv_iload_n hx hb dX8_differ_20 rfl (lv_at hl 2 rfl) ?_
      refine lv_iload hx hb dX8_differ_21 (lv_at hl 4 rfl) ?_
      obtain ⟨r23, hq, hm⟩ := bd1_some hm
      refine k_callVI (As := [.int v2, .int v4]) (rest := [.int r16]) ⟨hx, hb, hml, hown, hts⟩ hK hA hN (c_X8_bitOf (a := a) hq) (cwV 2 hts gX8_differ_X8_bitOf rfl rfl rfl hdX8_bitOf ⟨Nat.le_of_ble_eq_true rfl, Nat.le_of_ble_eq_true rfl⟩) hP (va_D_re hD rfl) hS 0 8 rfl rfl rfl hl.1 rfl rfl (Nat.le_of_ble_eq_true rfl) ⟨Nat.zero_le _, Nat.zero_le _⟩ dX8_differ_23 (fun H locs hP hS => ?_)
      refine lv_icmp_eq (tgt := 34) hx hb dX8_differ_26 (by decide) (fun hc => ?_) (fun hc => ?_)
      · have hm := if_t hc hm
        refine lv_iload_n hx hb dX8_differ_34 rfl (lv_at hl 3 rfl) ?_
        refine lv_istore_n (lv' := [(3, .int v3), (0, .ref (a 0)), (1, .int v1), (2, .int v2), (4, .int v4)]) hx hb dX8_differ_35 rfl hl (by decide) rfl (fun ls hl => ?_)
        refine lv_iinc (v := (v4 + (-1))) (lv' := [(4, .int (v4 + (-1))), (3, .int v3), (0, .ref (a 0)), (1, .int v1), (2, .int v2)]) hx hb dX8_differ_36 hl (k := 4) rfl rfl (by decide) rfl (fun ls hl => ?_)
        refine lv_goto (tgt := 7) hx hb dX8_differ_39 (by decide) ?_
        exact ih _ _ _ _ _ hP hS (lv_sub hl [2, 3, 4, 1, 0] rfl) hm
      · have hm := if_f hc hm
        refine lv_iload hx hb dX8_differ_29 (lv_at hl 4 rfl) ?_
        refine lv_goto (tgt := 35) hx hb dX8_differ_31 (by decide) ?_
        refine lv_istore_n (lv' := [(3, .int v4), (0, .ref (a 0)), (1, .int v1), (2, .int v2), (4, .int v4)]) hx hb dX8_differ_35 rfl hl (by decide) rfl (fun ls hl => ?_)
        refine lv_iinc (v := (v4 + (-1))) (lv' := [(4, .int (v4 + (-1))), (3, .int v4), (0, .ref (a 0)), (1, .int v1), (2, .int v2)]) hx hb dX8_differ_36 hl (k := 4) rfl rfl (by decide) rfl (fun ls hl => ?_)
        refine lv_goto (tgt := 7) hx hb dX8_differ_39 (by decide) ?_
        exact ih _ _ _ _ _ hP hS (lv_sub hl [2, 3, 4, 1, 0] rfl) hm
set_option maxRecDepth 100000 in
set_option maxHeartbeats 4000000 in
theorem c_X8_differ {l : Launch} {D : va_G} {cI cJ cB cL cS cW : ClassId} {a : Nat → Nat} {m_s m_past m_kept m_refused m_text m_asked m_heads m_forkBit m_forkFrom m_forkTo m_wayPage m_wayKnown m_wayGuess m_wayDiff m_wayRead m_wayPlace m_treeBit m_treeLeft m_treeRight m_treeAbove m_pileFrom m_pileTo m_pileAbove : Nat → Int32} {m_known m_typed m_askedLength m_entries m_forks m_guess m_diff m_read m_placeOf m_treeForks m_treeDeep : Int32} {v1 : Int32} {v2 : Int32} {r : Int32} (hm : M_differ m_s m_asked m_askedLength v1 v2 = some r) : k_MI l yX8_differ wsX8_differ { frames := 2, cells := 0, slots := 0, locals := 44 } D (kT cI cJ cB cL cS cW) [.ref (a 0), .int v1, .int v2] (WM a cI m_s m_past m_kept m_refused m_text m_asked m_heads m_forkBit m_forkFrom m_forkTo m_wayPage m_wayKnown m_wayGuess m_wayDiff m_wayRead m_wayPlace m_treeBit m_treeLeft m_treeRight m_treeAbove m_pileFrom m_pileTo m_pileAbove m_known m_typed m_askedLength m_entries m_forks m_guess m_diff m_read m_placeOf m_treeForks m_treeDeep) r (WM a cI m_s m_past m_kept m_refused m_text m_asked m_heads m_forkBit m_forkFrom m_forkTo m_wayPage m_wayKnown m_wayGuess m_wayDiff m_wayRead m_wayPlace m_treeBit m_treeLeft m_treeRight m_treeAbove m_pileFrom m_pileTo m_pileAbove m_known m_typed m_askedLength m_entries m_forks m_guess m_diff m_read m_placeOf m_treeForks m_treeDeep) := by
  refine k_ofI (cc := cX8_differ) (maxL := 5) (own := RX8) (by decide) rfl rfl (Nat.le_of_ble_eq_true rfl) ?_
  intro p e s m args below meth c A Q ls C hP hD hl hret
  have hD : va_D A (WM0 a cI) := va_D_re hD rfl
  have hS : va_S A s.heap s.heap [] := va_S.rf
  have hl : lv_has ls 5 [(0, .ref (a 0)), (1, .int v1), (2, .int v2)] := hl
  obtain ⟨hx, hb, hml, hr, hown, hts, hlocks, hK, hA, hN⟩ := id C
  rw [M_differ] at hm
  refine lv_iconst (v := (-1)) hx hb dX8_differ_0 (by decide) ?_
  refine lv_istore_n (lv' := [(3, .int (-1)), (0, .ref (a 0)), (1, .int v1), (2, .int v2)]) hx hb dX8_differ_1 rfl hl (by decide) rfl (fun ls hl => ?_)
  refine lv_sipush (v := 191) hx hb dX8_differ_2 (by decide) ?_
  refine lv_istore (lv' := [(4, .int 191), (3, .int (-1)), (0, .ref (a 0)), (1, .int v1), (2, .int v2)]) hx hb dX8_differ_5 hl (by decide) rfl (fun ls hl => ?_)
  refine t_M_differ_L7 C hD hret ?_ FU _ _ _ _ _ hP hS (lv_sub hl [2, 3, 4, 1, 0] rfl) hm
  · intro v3 H locs ls hP hS hl hm
    try dsimp only at hm
    refine lv_iload_n hx hb dX8_differ_42 rfl (lv_at hl 0 rfl) ?_
    obtain rfl := Option.some.inj hm
    exact hret _ _ _ _ dX8_differ_43 hP hS
theorem hdX8_isAhead : yX8_isAhead.cls = RX8 ∧ yX8_isAhead.cls ≠ "java/lang/invoke/MethodHandle" ∧ yX8_isAhead.cls ≠ "java/lang/invoke/VarHandle" ∧ (parseMethodDescriptor yX8_isAhead.desc).map (fun d => d.parameters.length) = some 2 := by decide +kernel
def M_isAhead (m_s m_asked : Nat → Int32) (m_askedLength : Int32) (v1 : Int32) (v2 : Int32) : Option (Int32) := bd1 (M_differ m_s m_asked m_askedLength v1 v2) fun r3 => if r3 = (-1) then (some 0) else (bd1 (M_bitOf m_s m_asked m_askedLength v1 r3) fun r15 => if r15 = 0 then (some 1) else (some 0))
set_option maxRecDepth 100000 in
set_option maxHeartbeats 4000000 in
theorem c_X8_isAhead {l : Launch} {D : va_G} {cI cJ cB cL cS cW : ClassId} {a : Nat → Nat} {m_s m_past m_kept m_refused m_text m_asked m_heads m_forkBit m_forkFrom m_forkTo m_wayPage m_wayKnown m_wayGuess m_wayDiff m_wayRead m_wayPlace m_treeBit m_treeLeft m_treeRight m_treeAbove m_pileFrom m_pileTo m_pileAbove : Nat → Int32} {m_known m_typed m_askedLength m_entries m_forks m_guess m_diff m_read m_placeOf m_treeForks m_treeDeep : Int32} {v1 : Int32} {v2 : Int32} {r : Int32} (hm : M_isAhead m_s m_asked m_askedLength v1 v2 = some r) : k_MI l yX8_isAhead wsX8_isAhead { frames := 3, cells := 0, slots := 0, locals := 68 } D (kT cI cJ cB cL cS cW) [.ref (a 0), .int v1, .int v2] (WM a cI m_s m_past m_kept m_refused m_text m_asked m_heads m_forkBit m_forkFrom m_forkTo m_wayPage m_wayKnown m_wayGuess m_wayDiff m_wayRead m_wayPlace m_treeBit m_treeLeft m_treeRight m_treeAbove m_pileFrom m_pileTo m_pileAbove m_known m_typed m_askedLength m_entries m_forks m_guess m_diff m_read m_placeOf m_treeForks m_treeDeep) r (WM a cI m_s m_past m_kept m_refused m_text m_asked m_heads m_forkBit m_forkFrom m_forkTo m_wayPage m_wayKnown m_wayGuess m_wayDiff m_wayRead m_wayPlace m_treeBit m_treeLeft m_treeRight m_treeAbove m_pileFrom m_pileTo m_pileAbove m_known m_typed m_askedLength m_entries m_forks m_guess m_diff m_read m_placeOf m_treeForks m_treeDeep) := by
  refine k_ofZ (cc := cX8_isAhead) (maxL := 4) (own := RX8) (by decide) rfl rfl (Nat.le_of_ble_eq_true rfl) ?_
  intro p e s m args below meth c A Q ls C hP hD hl hret
  have hD : va_D A (WM0 a cI) := va_D_re hD rfl
  have hS : va_S A s.heap s.heap [] := va_S.rf
  have hl : lv_has ls 4 [(0, .ref (a 0)), (1, .int v1), (2, .int v2)] := hl
  obtain ⟨hx, hb, hml, hr, hown, hts, hlocks, hK, hA, hN⟩ := id C
  rw [M_isAhead] at hm
  refine lv_aload_n hx hb dX8_isAhead_0 rfl (lv_at hl 0 rfl) ?_
  refine lv_iload_n hx hb dX8_isAhead_1 rfl (lv_at hl 1 rfl) ?_
  refine lv_iload_n hx hb dX8_isAhead_2 rfl (lv_at hl 2 rfl) ?_
  obtain ⟨r3, hq, hm⟩ := bd1_some hm
  refine k_callVI (As := [.int v1, .int v2]) (rest := []) ⟨hx, hb, hml, hown, hts⟩ hK hA hN (c_X8_differ (a := a) hq) (cwV 2 hts gX8_isAhead_X8_differ rfl rfl rfl hdX8_differ ⟨Nat.le_of_ble_eq_true rfl, Nat.le_of_ble_eq_true rfl⟩) hP (va_D_re hD rfl) hS 0 8 rfl rfl rfl hl.1 rfl rfl (Nat.le_of_ble_eq_true rfl) ⟨Nat.zero_le _, Nat.zero_le _⟩ dX8_isAhead_3 (fun H locs hP hS => ?_)
  refine lv_istore_n (lv' := [(3, .int r3), (0, .ref (a 0)), (1, .int v1), (2, .int v2)]) hx hb dX8_isAhead_6 rfl hl (by decide) rfl (fun ls hl => ?_)
  refine lv_iload_n hx hb dX8_isAhead_7 rfl (lv_at hl 0 rfl) ?_
  refine lv_iconst (v := (-1)) hx hb dX8_isAhead_8 (by decide) ?_
  refine lv_icmp_eq (tgt := 25) hx hb dX8_isAhead_9 (by decide) (fun hc => ?_) (fun hc => ?_)
  · have hm := if_t hc hm
    refine lv_iconst (v := 0) hx hb dX8_isAhead_25 (by decide) ?_
    obtain rfl := Option.some.inj hm
    exact hret _ _ _ _ dX8_isAhead_26 (by decide) hP hS
  · have hm := if_f hc hm
    refine lv_aload_n hx hb dX8_isAhead_12 rfl (lv_at hl 1 rfl) ?_
    refine lv_iload_n hx hb dX8_isAhead_13 rfl (lv_at hl 2 rfl) ?_
    refine lv_iload_n hx hb dX8_isAhead_14 rfl (lv_at hl 0 rfl) ?_
    obtain ⟨r15, hq, hm⟩ := bd1_some hm
    refine k_callVI (As := [.int v1, .int r3]) (rest := []) ⟨hx, hb, hml, hown, hts⟩ hK hA hN (c_X8_bitOf (a := a) hq) (cwV 2 hts gX8_isAhead_X8_bitOf rfl rfl rfl hdX8_bitOf ⟨Nat.le_of_ble_eq_true rfl, Nat.le_of_ble_eq_true rfl⟩) hP (va_D_re hD rfl) hS 0 8 rfl rfl rfl hl.1 rfl rfl (Nat.le_of_ble_eq_true rfl) ⟨Nat.zero_le _, Nat.zero_le _⟩ dX8_isAhead_15 (fun H locs hP hS => ?_)
    refine lv_if_ne (tgt := 25) hx hb dX8_isAhead_18 (by decide) (fun hc => ?_) (fun hc => ?_)
    · have hm := if_f hc hm
      refine lv_iconst (v := 0) hx hb dX8_isAhead_25 (by decide) ?_
      obtain rfl := Option.some.inj hm
      exact hret _ _ _ _ dX8_isAhead_26 (by decide) hP hS
    · have hm := if_t hc hm
      refine lv_iconst (v := 1) hx hb dX8_isAhead_21 (by decide) ?_
      refine lv_goto (tgt := 26) hx hb dX8_isAhead_22 (by decide) ?_
      obtain rfl := Option.some.inj hm
      exact hret _ _ _ _ dX8_isAhead_26 (by decide) hP hS
theorem hdX8_ahead : yX8_ahead.cls = RX8 ∧ yX8_ahead.cls ≠ "java/lang/invoke/MethodHandle" ∧ yX8_ahead.cls ≠ "java/lang/invoke/VarHandle" ∧ (parseMethodDescriptor yX8_ahead.desc).map (fun d => d.parameters.length) = some 0 := by decide +kernel
theorem hiX8_ahead : ∀ w ∈ u_ws RX8 TX8 34, w ∈ wsX8_ahead := by decide +kernel
theorem flX8_ahead_7 : Cond.fieldLink RX8 7 "BlindPagesModel" "s" "[I" ∈ wsX8_ahead := by decide +kernel
def M_ahead_L4 (m_s m_asked : Nat → Int32) (m_askedLength : Int32) (k38 : Int32 → Option (Int32)) : Nat → Int32 → Int32 → Option (Int32)
  | 0, _, _ => none
  | n + 1, v1, v2 => if (m_s 0) ≤ v2 then (k38 v1) else (bd1 (M_isAhead m_s m_asked m_askedLength v2 48) fun r19 => if r19 = 0 then (M_ahead_L4 m_s m_asked m_askedLength k38 n (v1 + 0) (v2 + 1)) else (M_ahead_L4 m_s m_asked m_askedLength k38 n (v1 + 1) (v2 + 1)))
def M_ahead (m_s m_asked : Nat → Int32) (m_askedLength : Int32) : Option (Int32) := M_ahead_L4 m_s m_asked m_askedLength (fun v1 => some v1) FU 0 0
set_option maxRecDepth 100000 in
set_option maxHeartbeats 4000000 in
theorem t_M_ahead_L4 {p : Program} {l : Launch} {e : Env} {s : State} {m : MethodId} {args : Array Value} {below : List Frame} {meth : Method} {c : Code} {Q : State → Prop} {A : Nat → Prop} {D : va_G} {cI cJ cB cL cS cW : ClassId} {a : Nat → Nat} {m_s m_past m_kept m_refused m_text m_asked m_heads m_forkBit m_forkFrom m_forkTo m_wayPage m_wayKnown m_wayGuess m_wayDiff m_wayRead m_wayPlace m_treeBit m_treeLeft m_treeRight m_treeAbove m_pileFrom m_pileTo m_pileAbove : Nat → Int32} {m_known m_typed m_askedLength m_entries m_forks m_guess m_diff m_read m_placeOf m_treeForks m_treeDeep : Int32} {r : Int32} (C : k_C p s m args meth c cX8_ahead 3 (some .int) RX8 wsX8_ahead D (kT cI cJ cB cL cS cW) A) (hD : va_D A (WM0 a cI)) (hret : ∀ (H : Heap) (locs : List Loc) (pc : Nat) (ls : Array Slot), decode cX8_ahead pc = .ok (.ireturn, 1) → va_P D vwCl (WM a cI m_s m_past m_kept m_refused m_text m_asked m_heads m_forkBit m_forkFrom m_forkTo m_wayPage m_wayKnown m_wayGuess m_wayDiff m_wayRead m_wayPlace m_treeBit m_treeLeft m_treeRight m_treeAbove m_pileFrom m_pileTo m_pileAbove m_known m_typed m_askedLength m_entries m_forks m_guess m_diff m_read m_placeOf m_treeForks m_treeDeep) H → va_S A s.heap H locs → W p l e { frames := 4, cells := 0, slots := 0, locals := 91 } s m args below meth c H locs 0 0 Q (F0 m pc ls [.int r])) {k38 : Int32 → Option (Int32)} (hk38 : ∀ (v1 : Int32) (H : Heap) (locs : List Loc) (ls : Array Slot), va_P D vwCl (WM a cI m_s m_past m_kept m_refused m_text m_asked m_heads m_forkBit m_forkFrom m_forkTo m_wayPage m_wayKnown m_wayGuess m_wayDiff m_wayRead m_wayPlace m_treeBit m_treeLeft m_treeRight m_treeAbove m_pileFrom m_pileTo m_pileAbove m_known m_typed m_askedLength m_entries m_forks m_guess m_diff m_read m_placeOf m_treeForks m_treeDeep) H → va_S A s.heap H locs → lv_has ls 3 [(1, .int v1)] → k38 v1 = some r → W p l e { frames := 4, cells := 0, slots := 0, locals := 91 } s m args below meth c H locs 0 0 Q (F0 m 38 ls [])) : ∀ n : Nat, ∀ (v1 : Int32) (v2 : Int32) (H : Heap) (locs : List Loc) (ls : Array Slot), va_P D vwCl (WM a cI m_s m_past m_kept m_refused m_text m_asked m_heads m_forkBit m_forkFrom m_forkTo m_wayPage m_wayKnown m_wayGuess m_wayDiff m_wayRead m_wayPlace m_treeBit m_treeLeft m_treeRight m_treeAbove m_pileFrom m_pileTo m_pileAbove m_known m_typed m_askedLength m_entries m_forks m_guess m_diff m_read m_placeOf m_treeForks m_treeDeep) H → va_S A s.heap H locs → lv_has ls 3 [(0, .ref (a 0)), (1, .int v1), (2, .int v2)] → (M_ahead_L4 m_s m_asked m_askedLength k38 n) v1 v2 = some r → W p l e { frames := 4, cells := 0, slots := 0, locals := 91 } s m args below meth c H locs 0 0 Q (F0 m 4 ls []) := by
  obtain ⟨hx, hb, hml, hr, hown, hts, hlocks, hK, hA, hN⟩ := id C
  intro n
  induction n with
  | zero =>
    intro v1 v2 H locs ls hP hS hl hm
    cases hm
  | succ n ih =>
    intro v1 v2 H locs ls hP hS hl hm
    rw [M_ahead_L4] at hm
    refine lv_iload_n hx hb dX8_ahead_4 rfl (lv_at hl 2 rfl) ?_
    refine lv_aload_n hx hb dX8_ahead_5 rfl (lv_at hl 0 rfl) ?_
    refine kg (v := .ref (a 1)) hx hb hts hiX8_ahead hown hK hP 0 rfl rfl 0 (by decide) flX8_ahead_7 rfl rfl dX8_ahead_6 ?_
    refine lv_iconst (v := 0) hx hb dX8_ahead_9 (by decide) ?_
    refine k_iald (j := 0) hx hb hK hP 1 0 rfl rfl rfl (vp_lit (by decide)) dX8_ahead_10 ?_
    refine lv_icmp_ge (tgt := 38) hx hb dX8_ahead_11 (by decide) (fun hc => ?_) (fun hc => ?_)
    · have hm := if_t hc hm
      exact hk38 _ _ _ _ hP hS (lv_sub hl [1] rfl) hm
    · have hm := if_f hc hm
      refine lv_iload_n hx hb dX8_ahead_14 rfl (lv_at hl 1 rfl) ?_
      refine lv_aload_n hx hb dX8_ahead_15 rfl (lv_at hl 0 rfl) ?_
      refine lv_iload_n hx hb dX8_ahead_16 rfl (lv_at hl 2 rfl) ?_
      refine lv_bipush (v := 48) hx hb dX8_ahead_17 (by decide) ?_
      obtain ⟨r19, hq, hm⟩ := bd1_some hm
      refine k_callVI (As := [.int v2, .int 48]) (rest := [.int v1]) ⟨hx, hb, hml, hown, hts⟩ hK hA hN (c_X8_isAhead (a := a) hq) (cwV 2 hts gX8_ahead_X8_isAhead rfl rfl rfl hdX8_isAhead ⟨Nat.le_of_ble_eq_true rfl, Nat.le_of_ble_eq_true rfl⟩) hP (va_D_re hD rfl) hS 0 8 rfl rfl rfl hl.1 rfl rfl (Nat.le_of_ble_eq_true rfl) ⟨Nat.zero_le _, Nat.zero_le _⟩ dX8_ahead_19 (fun H locs hP hS => ?_)
      refine lv_if_eq (tgt := 29) hx hb dX8_ahead_22 (by decide) (fun hc => ?_) (fun hc => ?_)
      · have hm := if_t hc hm
        refine lv_iconst (v := 0) hx hb dX8_ahead_29 (by decide) ?_
        refine lv_iadd hx hb dX8_ahead_30 ?_
        refine lv_istore_n (lv' := [(1, .int (v1 + 0)), (0, .ref (a 0)), (2, .int v2)]) hx hb dX8_ahead_31 rfl hl (by decide) rfl (fun ls hl => ?_)
        refine lv_iinc (v := (v2 + 1)) (lv' := [(2, .int (v2 + 1)), (1, .int (v1 + 0)), (0, .ref (a 0))]) hx hb dX8_ahead_32 hl (k := 2) rfl rfl (by decide) rfl (fun ls hl => ?_)
        refine lv_goto (tgt := 4) hx hb dX8_ahead_35 (by decide) ?_
        exact ih _ _ _ _ _ hP hS (lv_sub hl [2, 1, 0] rfl) hm
      · have hm := if_f hc hm
        refine lv_iconst (v := 1) hx hb dX8_ahead_25 (by decide) ?_
        refine lv_goto (tgt := 30) hx hb dX8_ahead_26 (by decide) ?_
        refine lv_iadd hx hb dX8_ahead_30 ?_
        refine lv_istore_n (lv' := [(1, .int (v1 + 1)), (0, .ref (a 0)), (2, .int v2)]) hx hb dX8_ahead_31 rfl hl (by decide) rfl (fun ls hl => ?_)
        refine lv_iinc (v := (v2 + 1)) (lv' := [(2, .int (v2 + 1)), (1, .int (v1 + 1)), (0, .ref (a 0))]) hx hb dX8_ahead_32 hl (k := 2) rfl rfl (by decide) rfl (fun ls hl => ?_)
        refine lv_goto (tgt := 4) hx hb dX8_ahead_35 (by decide) ?_
        exact ih _ _ _ _ _ hP hS (lv_sub hl [2, 1, 0] rfl) hm
set_option maxRecDepth 100000 in
set_option maxHeartbeats 4000000 in
theorem c_X8_ahead {l : Launch} {D : va_G} {cI cJ cB cL cS cW : ClassId} {a : Nat → Nat} {m_s m_past m_kept m_refused m_text m_asked m_heads m_forkBit m_forkFrom m_forkTo m_wayPage m_wayKnown m_wayGuess m_wayDiff m_wayRead m_wayPlace m_treeBit m_treeLeft m_treeRight m_treeAbove m_pileFrom m_pileTo m_pileAbove : Nat → Int32} {m_known m_typed m_askedLength m_entries m_forks m_guess m_diff m_read m_placeOf m_treeForks m_treeDeep : Int32} {r : Int32} (hm : M_ahead m_s m_asked m_askedLength = some r) : k_MI l yX8_ahead wsX8_ahead { frames := 4, cells := 0, slots := 0, locals := 91 } D (kT cI cJ cB cL cS cW) [.ref (a 0)] (WM a cI m_s m_past m_kept m_refused m_text m_asked m_heads m_forkBit m_forkFrom m_forkTo m_wayPage m_wayKnown m_wayGuess m_wayDiff m_wayRead m_wayPlace m_treeBit m_treeLeft m_treeRight m_treeAbove m_pileFrom m_pileTo m_pileAbove m_known m_typed m_askedLength m_entries m_forks m_guess m_diff m_read m_placeOf m_treeForks m_treeDeep) r (WM a cI m_s m_past m_kept m_refused m_text m_asked m_heads m_forkBit m_forkFrom m_forkTo m_wayPage m_wayKnown m_wayGuess m_wayDiff m_wayRead m_wayPlace m_treeBit m_treeLeft m_treeRight m_treeAbove m_pileFrom m_pileTo m_pileAbove m_known m_typed m_askedLength m_entries m_forks m_guess m_diff m_read m_placeOf m_treeForks m_treeDeep) := by
  refine k_ofI (cc := cX8_ahead) (maxL := 3) (own := RX8) (by decide) rfl rfl (Nat.le_of_ble_eq_true rfl) ?_
  intro p e s m args below meth c A Q ls C hP hD hl hret
  have hD : va_D A (WM0 a cI) := va_D_re hD rfl
  have hS : va_S A s.heap s.heap [] := va_S.rf
  have hl : lv_has ls 3 [(0, .ref (a 0))] := hl
  obtain ⟨hx, hb, hml, hr, hown, hts, hlocks, hK, hA, hN⟩ := id C
  rw [M_ahead] at hm
  refine lv_iconst (v := 0) hx hb dX8_ahead_0 (by decide) ?_
  refine lv_istore_n (lv' := [(1, .int 0), (0, .ref (a 0))]) hx hb dX8_ahead_1 rfl hl (by decide) rfl (fun ls hl => ?_)
  refine lv_iconst (v := 0) hx hb dX8_ahead_2 (by decide) ?_
  refine lv_istore_n (lv' := [(2, .int 0), (1, .int 0), (0, .ref (a 0))]) hx hb dX8_ahead_3 rfl hl (by decide) rfl (fun ls hl => ?_)
  refine t_M_ahead_L4 C hD hret ?_ FU _ _ _ _ _ hP hS (lv_sub hl [2, 1, 0] rfl) hm
  · intro v1 H locs ls hP hS hl hm
    try dsimp only at hm
    refine lv_iload_n hx hb dX8_ahead_38 rfl (lv_at hl 0 rfl) ?_
    obtain rfl := Option.some.inj hm
    exact hret _ _ _ _ dX8_ahead_39 hP hS
theorem hdX8_isThere : yX8_isThere.cls = RX8 ∧ yX8_isThere.cls ≠ "java/lang/invoke/MethodHandle" ∧ yX8_isThere.cls ≠ "java/lang/invoke/VarHandle" ∧ (parseMethodDescriptor yX8_isThere.desc).map (fun d => d.parameters.length) = some 0 := by decide +kernel
theorem hiX8_isThere : ∀ w ∈ u_ws RX8 TX8 34, w ∈ wsX8_isThere := by decide +kernel
theorem flX8_isThere_7 : Cond.fieldLink RX8 7 "BlindPagesModel" "s" "[I" ∈ wsX8_isThere := by decide +kernel
def M_isThere_L4 (m_s m_asked : Nat → Int32) (m_askedLength : Int32) (k41 : Int32 → Option (Int32)) : Nat → Int32 → Int32 → Option (Int32)
  | 0, _, _ => none
  | n + 1, v1, v2 => if (m_s 0) ≤ v2 then (k41 v1) else (if v1 = 0 then (bd1 (M_differ m_s m_asked m_askedLength v2 48) fun r22 => if r22 = (-1) then (M_isThere_L4 m_s m_asked m_askedLength k41 n 1 (v2 + 1)) else (M_isThere_L4 m_s m_asked m_askedLength k41 n 0 (v2 + 1))) else (M_isThere_L4 m_s m_asked m_askedLength k41 n 1 (v2 + 1)))
def M_isThere (m_s m_asked : Nat → Int32) (m_askedLength : Int32) : Option (Int32) := M_isThere_L4 m_s m_asked m_askedLength (fun v1 => gb v1 (some v1)) FU 0 0
set_option maxRecDepth 100000 in
set_option maxHeartbeats 4000000 in
theorem t_M_isThere_L4 {p : Program} {l : Launch} {e : Env} {s : State} {m : MethodId} {args : Array Value} {below : List Frame} {meth : Method} {c : Code} {Q : State → Prop} {A : Nat → Prop} {D : va_G} {cI cJ cB cL cS cW : ClassId} {a : Nat → Nat} {m_s m_past m_kept m_refused m_text m_asked m_heads m_forkBit m_forkFrom m_forkTo m_wayPage m_wayKnown m_wayGuess m_wayDiff m_wayRead m_wayPlace m_treeBit m_treeLeft m_treeRight m_treeAbove m_pileFrom m_pileTo m_pileAbove : Nat → Int32} {m_known m_typed m_askedLength m_entries m_forks m_guess m_diff m_read m_placeOf m_treeForks m_treeDeep : Int32} {r : Int32} (C : k_C p s m args meth c cX8_isThere 3 (some .boolean) RX8 wsX8_isThere D (kT cI cJ cB cL cS cW) A) (hD : va_D A (WM0 a cI)) (hret : ∀ (H : Heap) (locs : List Loc) (pc : Nat) (ls : Array Slot), decode cX8_isThere pc = .ok (.ireturn, 1) → (r = 0 ∨ r = 1) → va_P D vwCl (WM a cI m_s m_past m_kept m_refused m_text m_asked m_heads m_forkBit m_forkFrom m_forkTo m_wayPage m_wayKnown m_wayGuess m_wayDiff m_wayRead m_wayPlace m_treeBit m_treeLeft m_treeRight m_treeAbove m_pileFrom m_pileTo m_pileAbove m_known m_typed m_askedLength m_entries m_forks m_guess m_diff m_read m_placeOf m_treeForks m_treeDeep) H → va_S A s.heap H locs → W p l e { frames := 3, cells := 0, slots := 0, locals := 68 } s m args below meth c H locs 0 0 Q (F0 m pc ls [.int r])) {k41 : Int32 → Option (Int32)} (hk41 : ∀ (v1 : Int32) (H : Heap) (locs : List Loc) (ls : Array Slot), va_P D vwCl (WM a cI m_s m_past m_kept m_refused m_text m_asked m_heads m_forkBit m_forkFrom m_forkTo m_wayPage m_wayKnown m_wayGuess m_wayDiff m_wayRead m_wayPlace m_treeBit m_treeLeft m_treeRight m_treeAbove m_pileFrom m_pileTo m_pileAbove m_known m_typed m_askedLength m_entries m_forks m_guess m_diff m_read m_placeOf m_treeForks m_treeDeep) H → va_S A s.heap H locs → lv_has ls 3 [(1, .int v1)] → k41 v1 = some r → W p l e { frames := 3, cells := 0, slots := 0, locals := 68 } s m args below meth c H locs 0 0 Q (F0 m 41 ls [])) : ∀ n : Nat, ∀ (v1 : Int32) (v2 : Int32) (H : Heap) (locs : List Loc) (ls : Array Slot), va_P D vwCl (WM a cI m_s m_past m_kept m_refused m_text m_asked m_heads m_forkBit m_forkFrom m_forkTo m_wayPage m_wayKnown m_wayGuess m_wayDiff m_wayRead m_wayPlace m_treeBit m_treeLeft m_treeRight m_treeAbove m_pileFrom m_pileTo m_pileAbove m_known m_typed m_askedLength m_entries m_forks m_guess m_diff m_read m_placeOf m_treeForks m_treeDeep) H → va_S A s.heap H locs → lv_has ls 3 [(0, .ref (a 0)), (1, .int v1), (2, .int v2)] → (M_isThere_L4 m_s m_asked m_askedLength k41 n) v1 v2 = some r → W p l e { frames := 3, cells := 0, slots := 0, locals := 68 } s m args below meth c H locs 0 0 Q (F0 m 4 ls []) := by
  obtain ⟨hx, hb, hml, hr, hown, hts, hlocks, hK, hA, hN⟩ := id C
  intro n
  induction n with
  | zero =>
    intro v1 v2 H locs ls hP hS hl hm
    cases hm
  | succ n ih =>
    intro v1 v2 H locs ls hP hS hl hm
    rw [M_isThere_L4] at hm
    refine lv_iload_n hx hb dX8_isThere_4 rfl (lv_at hl 2 rfl) ?_
    refine lv_aload_n hx hb dX8_isThere_5 rfl (lv_at hl 0 rfl) ?_
    refine kg (v := .ref (a 1)) hx hb hts hiX8_isThere hown hK hP 0 rfl rfl 0 (by decide) flX8_isThere_7 rfl rfl dX8_isThere_6 ?_
    refine lv_iconst (v := 0) hx hb dX8_isThere_9 (by decide) ?_
    refine k_iald (j := 0) hx hb hK hP 1 0 rfl rfl rfl (vp_lit (by decide)) dX8_isThere_10 ?_
    refine lv_icmp_ge (tgt := 41) hx hb dX8_isThere_11 (by decide) (fun hc => ?_) (fun hc => ?_)
    · have hm := if_t hc hm
      exact hk41 _ _ _ _ hP hS (lv_sub hl [1] rfl) hm
    · have hm := if_f hc hm
      refine lv_iload_n hx hb dX8_isThere_14 rfl (lv_at hl 1 rfl) ?_
      refine lv_if_ne (tgt := 29) hx hb dX8_isThere_15 (by decide) (fun hc => ?_) (fun hc => ?_)
      · have hm := if_f hc hm
        refine lv_iconst (v := 1) hx hb dX8_isThere_29 (by decide) ?_
        refine lv_goto (tgt := 34) hx hb dX8_isThere_30 (by decide) ?_
        refine lv_istore_n (lv' := [(1, .int 1), (0, .ref (a 0)), (2, .int v2)]) hx hb dX8_isThere_34 rfl hl (by decide) rfl (fun ls hl => ?_)
        refine lv_iinc (v := (v2 + 1)) (lv' := [(2, .int (v2 + 1)), (1, .int 1), (0, .ref (a 0))]) hx hb dX8_isThere_35 hl (k := 2) rfl rfl (by decide) rfl (fun ls hl => ?_)
        refine lv_goto (tgt := 4) hx hb dX8_isThere_38 (by decide) ?_
        exact ih _ _ _ _ _ hP hS (lv_sub hl [2, 1, 0] rfl) hm
      · have hm := if_t hc hm
        refine lv_aload_n hx hb dX8_isThere_18 rfl (lv_at hl 0 rfl) ?_
        refine lv_iload_n hx hb dX8_isThere_19 rfl (lv_at hl 2 rfl) ?_
        refine lv_bipush (v := 48) hx hb dX8_isThere_20 (by decide) ?_
        obtain ⟨r22, hq, hm⟩ := bd1_some hm
        refine k_callVI (As := [.int v2, .int 48]) (rest := []) ⟨hx, hb, hml, hown, hts⟩ hK hA hN (c_X8_differ (a := a) hq) (cwV 2 hts gX8_isThere_X8_differ rfl rfl rfl hdX8_differ ⟨Nat.le_of_ble_eq_true rfl, Nat.le_of_ble_eq_true rfl⟩) hP (va_D_re hD rfl) hS 0 8 rfl rfl rfl hl.1 rfl rfl (Nat.le_of_ble_eq_true rfl) ⟨Nat.zero_le _, Nat.zero_le _⟩ dX8_isThere_22 (fun H locs hP hS => ?_)
        refine lv_iconst (v := (-1)) hx hb dX8_isThere_25 (by decide) ?_
        refine lv_icmp_ne (tgt := 33) hx hb dX8_isThere_26 (by decide) (fun hc => ?_) (fun hc => ?_)
        · have hm := if_f hc hm
          refine lv_iconst (v := 0) hx hb dX8_isThere_33 (by decide) ?_
          refine lv_istore_n (lv' := [(1, .int 0), (0, .ref (a 0)), (2, .int v2)]) hx hb dX8_isThere_34 rfl hl (by decide) rfl (fun ls hl => ?_)
          refine lv_iinc (v := (v2 + 1)) (lv' := [(2, .int (v2 + 1)), (1, .int 0), (0, .ref (a 0))]) hx hb dX8_isThere_35 hl (k := 2) rfl rfl (by decide) rfl (fun ls hl => ?_)
          refine lv_goto (tgt := 4) hx hb dX8_isThere_38 (by decide) ?_
          exact ih _ _ _ _ _ hP hS (lv_sub hl [2, 1, 0] rfl) hm
        · have hm := if_t hc hm
          refine lv_iconst (v := 1) hx hb dX8_isThere_29 (by decide) ?_
          refine lv_goto (tgt := 34) hx hb dX8_isThere_30 (by decide) ?_
          refine lv_istore_n (lv' := [(1, .int 1), (0, .ref (a 0)), (2, .int v2)]) hx hb dX8_isThere_34 rfl hl (by decide) rfl (fun ls hl => ?_)
          refine lv_iinc (v := (v2 + 1)) (lv' := [(2, .int (v2 + 1)), (1, .int 1), (0, .ref (a 0))]) hx hb dX8_isThere_35 hl (k := 2) rfl rfl (by decide) rfl (fun ls hl => ?_)
          refine lv_goto (tgt := 4) hx hb dX8_isThere_38 (by decide) ?_
          exact ih _ _ _ _ _ hP hS (lv_sub hl [2, 1, 0] rfl) hm
set_option maxRecDepth 100000 in
set_option maxHeartbeats 4000000 in
theorem c_X8_isThere {l : Launch} {D : va_G} {cI cJ cB cL cS cW : ClassId} {a : Nat → Nat} {m_s m_past m_kept m_refused m_text m_asked m_heads m_forkBit m_forkFrom m_forkTo m_wayPage m_wayKnown m_wayGuess m_wayDiff m_wayRead m_wayPlace m_treeBit m_treeLeft m_treeRight m_treeAbove m_pileFrom m_pileTo m_pileAbove : Nat → Int32} {m_known m_typed m_askedLength m_entries m_forks m_guess m_diff m_read m_placeOf m_treeForks m_treeDeep : Int32} {r : Int32} (hm : M_isThere m_s m_asked m_askedLength = some r) : k_MI l yX8_isThere wsX8_isThere { frames := 3, cells := 0, slots := 0, locals := 68 } D (kT cI cJ cB cL cS cW) [.ref (a 0)] (WM a cI m_s m_past m_kept m_refused m_text m_asked m_heads m_forkBit m_forkFrom m_forkTo m_wayPage m_wayKnown m_wayGuess m_wayDiff m_wayRead m_wayPlace m_treeBit m_treeLeft m_treeRight m_treeAbove m_pileFrom m_pileTo m_pileAbove m_known m_typed m_askedLength m_entries m_forks m_guess m_diff m_read m_placeOf m_treeForks m_treeDeep) r (WM a cI m_s m_past m_kept m_refused m_text m_asked m_heads m_forkBit m_forkFrom m_forkTo m_wayPage m_wayKnown m_wayGuess m_wayDiff m_wayRead m_wayPlace m_treeBit m_treeLeft m_treeRight m_treeAbove m_pileFrom m_pileTo m_pileAbove m_known m_typed m_askedLength m_entries m_forks m_guess m_diff m_read m_placeOf m_treeForks m_treeDeep) := by
  refine k_ofZ (cc := cX8_isThere) (maxL := 3) (own := RX8) (by decide) rfl rfl (Nat.le_of_ble_eq_true rfl) ?_
  intro p e s m args below meth c A Q ls C hP hD hl hret
  have hD : va_D A (WM0 a cI) := va_D_re hD rfl
  have hS : va_S A s.heap s.heap [] := va_S.rf
  have hl : lv_has ls 3 [(0, .ref (a 0))] := hl
  obtain ⟨hx, hb, hml, hr, hown, hts, hlocks, hK, hA, hN⟩ := id C
  rw [M_isThere] at hm
  refine lv_iconst (v := 0) hx hb dX8_isThere_0 (by decide) ?_
  refine lv_istore_n (lv' := [(1, .int 0), (0, .ref (a 0))]) hx hb dX8_isThere_1 rfl hl (by decide) rfl (fun ls hl => ?_)
  refine lv_iconst (v := 0) hx hb dX8_isThere_2 (by decide) ?_
  refine lv_istore_n (lv' := [(2, .int 0), (1, .int 0), (0, .ref (a 0))]) hx hb dX8_isThere_3 rfl hl (by decide) rfl (fun ls hl => ?_)
  refine t_M_isThere_L4 C hD hret ?_ FU _ _ _ _ _ hP hS (lv_sub hl [2, 1, 0] rfl) hm
  · intro v1 H locs ls hP hS hl hm
    try dsimp only at hm
    refine lv_iload_n hx hb dX8_isThere_41 rfl (lv_at hl 0 rfl) ?_
    obtain ⟨hi, hm⟩ := gb_some hm
    obtain rfl := Option.some.inj hm
    exact hret _ _ _ _ dX8_isThere_42 hi hP hS
theorem hdX8_sizeOf : yX8_sizeOf.cls = RX8 ∧ yX8_sizeOf.cls ≠ "java/lang/invoke/MethodHandle" ∧ yX8_sizeOf.cls ≠ "java/lang/invoke/VarHandle" ∧ (parseMethodDescriptor yX8_sizeOf.desc).map (fun d => d.parameters.length) = some 2 := by decide +kernel
theorem hiX8_sizeOf : ∀ w ∈ u_ws RX8 TX8 34, w ∈ wsX8_sizeOf := by decide +kernel
theorem flX8_sizeOf_7 : Cond.fieldLink RX8 7 "BlindPagesModel" "s" "[I" ∈ wsX8_sizeOf := by decide +kernel
def M_sizeOf (m_s : Nat → Int32) (v1 : Int32) (v2 : Int32) : Option (Int32) := ga ((12 + (48 * v1)) + v2) 1552 (some (m_s ((12 + (48 * v1)) + v2).toNatClampNeg))
set_option maxRecDepth 100000 in
set_option maxHeartbeats 4000000 in
theorem c_X8_sizeOf {l : Launch} {D : va_G} {cI cJ cB cL cS cW : ClassId} {a : Nat → Nat} {m_s m_past m_kept m_refused m_text m_asked m_heads m_forkBit m_forkFrom m_forkTo m_wayPage m_wayKnown m_wayGuess m_wayDiff m_wayRead m_wayPlace m_treeBit m_treeLeft m_treeRight m_treeAbove m_pileFrom m_pileTo m_pileAbove : Nat → Int32} {m_known m_typed m_askedLength m_entries m_forks m_guess m_diff m_read m_placeOf m_treeForks m_treeDeep : Int32} {v1 : Int32} {v2 : Int32} {r : Int32} (hm : M_sizeOf m_s v1 v2 = some r) : k_MI l yX8_sizeOf wsX8_sizeOf { frames := 0, cells := 0, slots := 0, locals := 0 } D (kT cI cJ cB cL cS cW) [.ref (a 0), .int v1, .int v2] (WM a cI m_s m_past m_kept m_refused m_text m_asked m_heads m_forkBit m_forkFrom m_forkTo m_wayPage m_wayKnown m_wayGuess m_wayDiff m_wayRead m_wayPlace m_treeBit m_treeLeft m_treeRight m_treeAbove m_pileFrom m_pileTo m_pileAbove m_known m_typed m_askedLength m_entries m_forks m_guess m_diff m_read m_placeOf m_treeForks m_treeDeep) r (WM a cI m_s m_past m_kept m_refused m_text m_asked m_heads m_forkBit m_forkFrom m_forkTo m_wayPage m_wayKnown m_wayGuess m_wayDiff m_wayRead m_wayPlace m_treeBit m_treeLeft m_treeRight m_treeAbove m_pileFrom m_pileTo m_pileAbove m_known m_typed m_askedLength m_entries m_forks m_guess m_diff m_read m_placeOf m_treeForks m_treeDeep) := by
  refine k_ofI (cc := cX8_sizeOf) (maxL := 3) (own := RX8) (by decide) rfl rfl (Nat.le_of_ble_eq_true rfl) ?_
  intro p e s m args below meth c A Q ls C hP hD hl hret
  have hD : va_D A (WM0 a cI) := va_D_re hD rfl
  have hS : va_S A s.heap s.heap [] := va_S.rf
  have hl : lv_has ls 3 [(0, .ref (a 0)), (1, .int v1), (2, .int v2)] := hl
  obtain ⟨hx, hb, hml, hr, hown, hts, hlocks, hK, hA, hN⟩ := id C
  rw [M_sizeOf] at hm
  refine lv_aload_n hx hb dX8_sizeOf_0 rfl (lv_at hl 0 rfl) ?_
  refine kg (v := .ref (a 1)) hx hb hts hiX8_sizeOf hown hK hP 0 rfl rfl 0 (by decide) flX8_sizeOf_7 rfl rfl dX8_sizeOf_1 ?_
  refine lv_bipush (v := 12) hx hb dX8_sizeOf_4 (by decide) ?_
  refine lv_bipush (v := 48) hx hb dX8_sizeOf_6 (by decide) ?_
  refine lv_iload_n hx hb dX8_sizeOf_8 rfl (lv_at hl 1 rfl) ?_
  refine lv_imul hx hb dX8_sizeOf_9 ?_
  refine lv_iadd hx hb dX8_sizeOf_10 ?_
  refine lv_iload_n hx hb dX8_sizeOf_11 rfl (lv_at hl 2 rfl) ?_
  refine lv_iadd hx hb dX8_sizeOf_12 ?_
  obtain ⟨hi, hm⟩ := ga_some hm
  refine k_iald hx hb hK hP 1 0 rfl rfl rfl hi dX8_sizeOf_13 ?_
  obtain rfl := Option.some.inj hm
  exact hret _ _ _ _ dX8_sizeOf_14 hP hS
theorem hdX8_setSize : yX8_setSize.cls = RX8 ∧ yX8_setSize.cls ≠ "java/lang/invoke/MethodHandle" ∧ yX8_setSize.cls ≠ "java/lang/invoke/VarHandle" ∧ (parseMethodDescriptor yX8_setSize.desc).map (fun d => d.parameters.length) = some 3 := by decide +kernel
theorem hiX8_setSize : ∀ w ∈ u_ws RX8 TX8 34, w ∈ wsX8_setSize := by decide +kernel
theorem flX8_setSize_7 : Cond.fieldLink RX8 7 "BlindPagesModel" "s" "[I" ∈ wsX8_setSize := by decide +kernel
def M_setSize (m_s : Nat → Int32) (v1 : Int32) (v2 : Int32) (v3 : Int32) : Option ((Nat → Int32)) := ga ((12 + (48 * v1)) + v2) 1552 (some (upd m_s ((12 + (48 * v1)) + v2).toNatClampNeg v3))
set_option maxRecDepth 100000 in
set_option maxHeartbeats 4000000 in
theorem c_X8_setSize {l : Launch} {D : va_G} {cI cJ cB cL cS cW : ClassId} {a : Nat → Nat} {m_s m_past m_kept m_refused m_text m_asked m_heads m_forkBit m_forkFrom m_forkTo m_wayPage m_wayKnown m_wayGuess m_wayDiff m_wayRead m_wayPlace m_treeBit m_treeLeft m_treeRight m_treeAbove m_pileFrom m_pileTo m_pileAbove : Nat → Int32} {m_known m_typed m_askedLength m_entries m_forks m_guess m_diff m_read m_placeOf m_treeForks m_treeDeep : Int32} {v1 : Int32} {v2 : Int32} {v3 : Int32} {o_s : Nat → Int32} (hm : M_setSize m_s v1 v2 v3 = some o_s) : k_MV l yX8_setSize wsX8_setSize { frames := 0, cells := 0, slots := 0, locals := 0 } D (kT cI cJ cB cL cS cW) [.ref (a 0), .int v1, .int v2, .int v3] (WM a cI m_s m_past m_kept m_refused m_text m_asked m_heads m_forkBit m_forkFrom m_forkTo m_wayPage m_wayKnown m_wayGuess m_wayDiff m_wayRead m_wayPlace m_treeBit m_treeLeft m_treeRight m_treeAbove m_pileFrom m_pileTo m_pileAbove m_known m_typed m_askedLength m_entries m_forks m_guess m_diff m_read m_placeOf m_treeForks m_treeDeep) (WM a cI o_s m_past m_kept m_refused m_text m_asked m_heads m_forkBit m_forkFrom m_forkTo m_wayPage m_wayKnown m_wayGuess m_wayDiff m_wayRead m_wayPlace m_treeBit m_treeLeft m_treeRight m_treeAbove m_pileFrom m_pileTo m_pileAbove m_known m_typed m_askedLength m_entries m_forks m_guess m_diff m_read m_placeOf m_treeForks m_treeDeep) := by
  refine k_ofV (cc := cX8_setSize) (maxL := 4) (own := RX8) (by decide) rfl rfl (Nat.le_of_ble_eq_true rfl) ?_
  intro p e s m args below meth c A Q ls C hP hD hl hret
  have hD : va_D A (WM0 a cI) := va_D_re hD rfl
  have hS : va_S A s.heap s.heap [] := va_S.rf
  have hl : lv_has ls 4 [(0, .ref (a 0)), (1, .int v1), (2, .int v2), (3, .int v3)] := hl
  obtain ⟨hx, hb, hml, hr, hown, hts, hlocks, hK, hA, hN⟩ := id C
  rw [M_setSize] at hm
  refine lv_aload_n hx hb dX8_setSize_0 rfl (lv_at hl 0 rfl) ?_
  refine kg (v := .ref (a 1)) hx hb hts hiX8_setSize hown hK hP 0 rfl rfl 0 (by decide) flX8_setSize_7 rfl rfl dX8_setSize_1 ?_
  refine lv_bipush (v := 12) hx hb dX8_setSize_4 (by decide) ?_
  refine lv_bipush (v := 48) hx hb dX8_setSize_6 (by decide) ?_
  refine lv_iload_n hx hb dX8_setSize_8 rfl (lv_at hl 1 rfl) ?_
  refine lv_imul hx hb dX8_setSize_9 ?_
  refine lv_iadd hx hb dX8_setSize_10 ?_
  refine lv_iload_n hx hb dX8_setSize_11 rfl (lv_at hl 2 rfl) ?_
  refine lv_iadd hx hb dX8_setSize_12 ?_
  refine lv_iload_n hx hb dX8_setSize_13 rfl (lv_at hl 3 rfl) ?_
  obtain ⟨hi, hm⟩ := ga_some hm
  refine k_iast hx hb hK hP (va_D_re hD rfl) hS 1 0 rfl rfl rfl hi dX8_setSize_14 (fun H locs hP hS => ?_)
  have hP : va_P D vwCl (WM a cI (upd m_s ((12 + (48 * v1)) + v2).toNatClampNeg v3) m_past m_kept m_refused m_text m_asked m_heads m_forkBit m_forkFrom m_forkTo m_wayPage m_wayKnown m_wayGuess m_wayDiff m_wayRead m_wayPlace m_treeBit m_treeLeft m_treeRight m_treeAbove m_pileFrom m_pileTo m_pileAbove m_known m_typed m_askedLength m_entries m_forks m_guess m_diff m_read m_placeOf m_treeForks m_treeDeep) H := hP
  obtain rfl := Option.some.inj hm
  exact hret _ _ _ _ dX8_setSize_15 hP hS
