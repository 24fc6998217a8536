theorem hdX8_piles : yX8_piles.cls = RX8 ∧ yX8_piles.cls ≠ "java/lang/invoke/MethodHandle" ∧ yX8_piles.cls ≠ "java/lang/invoke/VarHandle" ∧ (parseMethodDescriptor yX8_piles.desc).map (fun d => d.parameters.length) = some 4 := by decide +kernel
theorem hiX8_piles : ∀ w ∈ u_ws RX8 TX8 34, w ∈ wsX8_piles := by decide +kernel
theorem flX8_piles_70 : Cond.fieldLink RX8 70 "BlindPagesModel" "pileFrom" "[I" ∈ wsX8_piles := by decide +kernel
theorem flX8_piles_73 : Cond.fieldLink RX8 73 "BlindPagesModel" "pileTo" "[I" ∈ wsX8_piles := by decide +kernel
theorem flX8_piles_76 : Cond.fieldLink RX8 76 "BlindPagesModel" "pileAbove" "[I" ∈ wsX8_piles := by decide +kernel
def M_piles (m_pileFrom m_pileTo m_pileAbove : Nat → Int32) (v1 : Int32) (v2 : Int32) (v3 : Int32) (v4 : Int32) : Option ((Nat → Int32) × (Nat → Int32) × (Nat → Int32)) := ga v1 24 (ga v1 24 (ga v1 24 (some ((upd m_pileFrom v1.toNatClampNeg v2), (upd m_pileTo v1.toNatClampNeg v3), (upd m_pileAbove v1.toNatClampNeg v4)))))
set_option maxRecDepth 100000 in
set_option maxHeartbeats 4000000 in
theorem c_X8_piles {l : Launch} {D : va_G} {cI cJ cB cL cS cW : ClassId} {a : Nat → Nat} {m_s m_past m_kept m_refused m_text m_asked m_heads m_forkBit m_forkFrom m_forkTo m_wayPage m_wayKnown m_wayGuess m_wayDiff m_wayRead m_wayPlace m_treeBit m_treeLeft m_treeRight m_treeAbove m_pileFrom m_pileTo m_pileAbove : Nat → Int32} {m_known m_typed m_askedLength m_entries m_forks m_guess m_diff m_read m_placeOf m_treeForks m_treeDeep : Int32} {v1 : Int32} {v2 : Int32} {v3 : Int32} {v4 : Int32} {o_pileFrom : Nat → Int32} {o_pileTo : Nat → Int32} {o_pileAbove : Nat → Int32} (hm : M_piles m_pileFrom m_pileTo m_pileAbove v1 v2 v3 v4 = some (o_pileFrom, o_pileTo, o_pileAbove)) : k_MV l yX8_piles wsX8_piles { frames := 0, cells := 0, slots := 0, locals := 0 } D (kT cI cJ cB cL cS cW) [.ref (a 0), .int v1, .int v2, .int v3, .int v4] (WM a cI m_s m_past m_kept m_refused m_text m_asked m_heads m_forkBit m_forkFrom m_forkTo m_wayPage m_wayKnown m_wayGuess m_wayDiff m_wayRead m_wayPlace m_treeBit m_treeLeft m_treeRight m_treeAbove m_pileFrom m_pileTo m_pileAbove m_known m_typed m_askedLength m_entries m_forks m_guess m_diff m_read m_placeOf m_treeForks m_treeDeep) (WM a cI m_s m_past m_kept m_refused m_text m_asked m_heads m_forkBit m_forkFrom m_forkTo m_wayPage m_wayKnown m_wayGuess m_wayDiff m_wayRead m_wayPlace m_treeBit m_treeLeft m_treeRight m_treeAbove o_pileFrom o_pileTo o_pileAbove m_known m_typed m_askedLength m_entries m_forks m_guess m_diff m_read m_placeOf m_treeForks m_treeDeep) := by
  refine k_ofV (cc := cX8_piles) (maxL := 5) (own := RX8) (by decide) rfl rfl (Nat.le_of_ble_eq_true rfl) ?_
  intro p e s m args below meth c A Q ls C hP hD hl hret
  have hD : va_D A (WM0 a cI) := va_D_re hD rfl
  have hS : va_S A s.heap s.heap [] := va_S.rf
  have hl : lv_has ls 5 [(0, .ref (a 0)), (1, .int v1), (2, .int v2), (3, .int v3), (4, .int v4)] := hl
  obtain ⟨hx, hb, hml, hr, hown, hts, hlocks, hK, hA, hN⟩ := id C
  rw [M_piles] at hm
  refine lv_aload_n hx hb dX8_piles_0 rfl (lv_at hl 0 rfl) ?_
  refine kg (v := .ref (a 21)) hx hb hts hiX8_piles hown hK hP 0 rfl rfl 31 (by decide) flX8_piles_70 rfl rfl dX8_piles_1 ?_
  refine lv_iload_n hx hb dX8_piles_4 rfl (lv_at hl 1 rfl) ?_
  refine lv_iload_n hx hb dX8_piles_5 rfl (lv_at hl 2 rfl) ?_
  obtain ⟨hi, hm⟩ := ga_some hm
  refine k_iast hx hb hK hP (va_D_re hD rfl) hS 21 0 rfl rfl rfl hi dX8_piles_6 (fun H locs hP hS => ?_)
  have hP : va_P D vwCl (WM a cI m_s m_past m_kept m_refused m_text m_asked m_heads m_forkBit m_forkFrom m_forkTo m_wayPage m_wayKnown m_wayGuess m_wayDiff m_wayRead m_wayPlace m_treeBit m_treeLeft m_treeRight m_treeAbove (upd m_pileFrom v1.toNatClampNeg v2) m_pileTo m_pileAbove m_known m_typed m_askedLength m_entries m_forks m_guess m_diff m_read m_placeOf m_treeForks m_treeDeep) H := hP
  refine lv_aload_n hx hb dX8_piles_7 rfl (lv_at hl 0 rfl) ?_
  refine kg (v := .ref (a 22)) hx hb hts hiX8_piles hown hK hP 0 rfl rfl 32 (by decide) flX8_piles_73 rfl rfl dX8_piles_8 ?_
  refine lv_iload_n hx hb dX8_piles_11 rfl (lv_at hl 1 rfl) ?_
  refine lv_iload_n hx hb dX8_piles_12 rfl (lv_at hl 3 rfl) ?_
  obtain ⟨hi, hm⟩ := ga_some hm
  refine k_iast hx hb hK hP (va_D_re hD rfl) hS 22 0 rfl rfl rfl hi dX8_piles_13 (fun H locs hP hS => ?_)
  have hP : va_P D vwCl (WM a cI m_s m_past m_kept m_refused m_text m_asked m_heads m_forkBit m_forkFrom m_forkTo m_wayPage m_wayKnown m_wayGuess m_wayDiff m_wayRead m_wayPlace m_treeBit m_treeLeft m_treeRight m_treeAbove (upd m_pileFrom v1.toNatClampNeg v2) (upd m_pileTo v1.toNatClampNeg v3) m_pileAbove m_known m_typed m_askedLength m_entries m_forks m_guess m_diff m_read m_placeOf m_treeForks m_treeDeep) H := hP
  refine lv_aload_n hx hb dX8_piles_14 rfl (lv_at hl 0 rfl) ?_
  refine kg (v := .ref (a 23)) hx hb hts hiX8_piles hown hK hP 0 rfl rfl 33 (by decide) flX8_piles_76 rfl rfl dX8_piles_15 ?_
  refine lv_iload_n hx hb dX8_piles_18 rfl (lv_at hl 1 rfl) ?_
  refine lv_iload hx hb dX8_piles_19 (lv_at hl 4 rfl) ?_
  obtain ⟨hi, hm⟩ := ga_some hm
  refine k_iast hx hb hK hP (va_D_re hD rfl) hS 23 0 rfl rfl rfl hi dX8_piles_21 (fun H locs hP hS => ?_)
  have hP : va_P D vwCl (WM a cI m_s m_past m_kept m_refused m_text m_asked m_heads m_forkBit m_forkFrom m_forkTo m_wayPage m_wayKnown m_wayGuess m_wayDiff m_wayRead m_wayPlace m_treeBit m_treeLeft m_treeRight m_treeAbove (upd m_pileFrom v1.toNatClampNeg v2) (upd m_pileTo v1.toNatClampNeg v3) (upd m_pileAbove v1.toNatClampNeg v4) m_known m_typed m_askedLength m_entries m_forks m_guess m_diff m_read m_placeOf m_treeForks m_treeDeep) H := hP
  simp only [Option.some.injEq, Prod.mk.injEq] at hm
  obtain ⟨rfl, rfl, rfl⟩ := hm
  exact hret _ _ _ _ dX8_piles_22 hP hS
theorem hdX8_laysTree : yX8_laysTree.cls = RX8 ∧ yX8_laysTree.cls ≠ "java/lang/invoke/MethodHandle" ∧ yX8_laysTree.cls ≠ "java/lang/invoke/VarHandle" ∧ (parseMethodDescriptor yX8_laysTree.desc).map (fun d => d.parameters.length) = some 2 := by decide +kernel
theorem hiX8_laysTree : ∀ w ∈ u_ws RX8 TX8 34, w ∈ wsX8_laysTree := by decide +kernel
theorem flX8_laysTree_251 : Cond.fieldLink RX8 251 "BlindPagesModel" "treeForks" "I" ∈ wsX8_laysTree := by decide +kernel
theorem flX8_laysTree_254 : Cond.fieldLink RX8 254 "BlindPagesModel" "treeDeep" "I" ∈ wsX8_laysTree := by decide +kernel
theorem flX8_laysTree_120 : Cond.fieldLink RX8 120 "BlindPagesModel" "entries" "I" ∈ wsX8_laysTree := by decide +kernel
theorem flX8_laysTree_70 : Cond.fieldLink RX8 70 "BlindPagesModel" "pileFrom" "[I" ∈ wsX8_laysTree := by decide +kernel
theorem flX8_laysTree_73 : Cond.fieldLink RX8 73 "BlindPagesModel" "pileTo" "[I" ∈ wsX8_laysTree := by decide +kernel
theorem flX8_laysTree_76 : Cond.fieldLink RX8 76 "BlindPagesModel" "pileAbove" "[I" ∈ wsX8_laysTree := by decide +kernel
theorem flX8_laysTree_28 : Cond.fieldLink RX8 28 "BlindPagesModel" "heads" "[I" ∈ wsX8_laysTree := by decide +kernel
theorem flX8_laysTree_58 : Cond.fieldLink RX8 58 "BlindPagesModel" "treeBit" "[I" ∈ wsX8_laysTree := by decide +kernel
theorem flX8_laysTree_61 : Cond.fieldLink RX8 61 "BlindPagesModel" "treeLeft" "[I" ∈ wsX8_laysTree := by decide +kernel
theorem flX8_laysTree_64 : Cond.fieldLink RX8 64 "BlindPagesModel" "treeRight" "[I" ∈ wsX8_laysTree := by decide +kernel
theorem flX8_laysTree_67 : Cond.fieldLink RX8 67 "BlindPagesModel" "treeAbove" "[I" ∈ wsX8_laysTree := by decide +kernel
def M_laysTree_J79 (m_s m_asked : Nat → Int32) (m_askedLength : Int32) (v1 : Int32) (v2 : Int32) (k29 : (Nat → Int32) → (Nat → Int32) → (Nat → Int32) → (Nat → Int32) → (Nat → Int32) → (Nat → Int32) → (Nat → Int32) → (Nat → Int32) → Int32 → Int32 → Int32 → Int32 → Option ((Nat → Int32) × (Nat → Int32) × (Nat → Int32) × (Nat → Int32) × (Nat → Int32) × (Nat → Int32) × (Nat → Int32) × (Nat → Int32) × Int32 × Int32 × Int32)) (k219 : (Nat → Int32) → (Nat → Int32) → (Nat → Int32) → (Nat → Int32) → (Nat → Int32) → (Nat → Int32) → (Nat → Int32) → (Nat → Int32) → Int32 → Int32 → Int32 → Option ((Nat → Int32) × (Nat → Int32) × (Nat → Int32) × (Nat → Int32) × (Nat → Int32) × (Nat → Int32) × (Nat → Int32) × (Nat → Int32) × Int32 × Int32 × Int32)) (m_heads : (Nat → Int32)) (m_treeBit : (Nat → Int32)) (m_treeLeft : (Nat → Int32)) (m_treeRight : (Nat → Int32)) (m_treeAbove : (Nat → Int32)) (m_pileFrom : (Nat → Int32)) (m_pileTo : (Nat → Int32)) (m_pileAbove : (Nat → Int32)) (m_entries : Int32) (m_treeForks : Int32) (m_treeDeep : Int32) (v3 : Int32) (v4 : Int32) (v5 : Int32) (v6 : Int32) (t1 : Int32) : Option ((Nat → Int32) × (Nat → Int32) × (Nat → Int32) × (Nat → Int32) × (Nat → Int32) × (Nat → Int32) × (Nat → Int32) × (Nat → Int32) × Int32 × Int32 × Int32) := if (v5 - v4) ≤ 1 then (k29 m_heads m_treeBit m_treeLeft m_treeRight m_treeAbove m_pileFrom m_pileTo m_pileAbove m_entries m_treeForks t1 v3) else (ga v4 10 (ga (v5 - 1) 10 (bd1 (M_differ m_s m_asked m_askedLength (m_heads v4.toNatClampNeg) (m_heads (v5 - 1).toNatClampNeg)) fun r108 => bd1 (M_parting m_s m_asked m_heads m_askedLength v4 v5 r108) fun r120 => ga m_treeForks 10 (ga m_treeForks 10 (ga m_treeForks 10 (ga m_treeForks 10 (bd3 (M_piles m_pileFrom m_pileTo m_pileAbove v3 r120 v5 (v6 + 1)) fun m_pileFrom_195 m_pileTo_195 m_pileAbove_195 => bd3 (M_piles m_pileFrom_195 m_pileTo_195 m_pileAbove_195 (v3 + 1) v4 r120 (v6 + 1)) fun m_pileFrom_210 m_pileTo_210 m_pileAbove_210 => k29 m_heads (upd m_treeBit m_treeForks.toNatClampNeg r108) (upd m_treeLeft m_treeForks.toNatClampNeg (r120 - v4)) (upd m_treeRight m_treeForks.toNatClampNeg (v5 - r120)) (upd m_treeAbove m_treeForks.toNatClampNeg v6) m_pileFrom_210 m_pileTo_210 m_pileAbove_210 m_entries (m_treeForks + 1) t1 (v3 + 2))))))))
def M_laysTree_L29 (m_s m_asked : Nat → Int32) (m_askedLength : Int32) (v1 : Int32) (v2 : Int32) (k219 : (Nat → Int32) → (Nat → Int32) → (Nat → Int32) → (Nat → Int32) → (Nat → Int32) → (Nat → Int32) → (Nat → Int32) → (Nat → Int32) → Int32 → Int32 → Int32 → Option ((Nat → Int32) × (Nat → Int32) × (Nat → Int32) × (Nat → Int32) × (Nat → Int32) × (Nat → Int32) × (Nat → Int32) × (Nat → Int32) × Int32 × Int32 × Int32)) : Nat → (Nat → Int32) → (Nat → Int32) → (Nat → Int32) → (Nat → Int32) → (Nat → Int32) → (Nat → Int32) → (Nat → Int32) → (Nat → Int32) → Int32 → Int32 → Int32 → Int32 → Option ((Nat → Int32) × (Nat → Int32) × (Nat → Int32) × (Nat → Int32) × (Nat → Int32) × (Nat → Int32) × (Nat → Int32) × (Nat → Int32) × Int32 × Int32 × Int32)
  | 0, _, _, _, _, _, _, _, _, _, _, _, _ => none
  | n + 1, m_heads, m_treeBit, m_treeLeft, m_treeRight, m_treeAbove, m_pileFrom, m_pileTo, m_pileAbove, m_entries, m_treeForks, m_treeDeep, v3 => if v3 ≤ 0 then (k219 m_heads m_treeBit m_treeLeft m_treeRight m_treeAbove m_pileFrom m_pileTo m_pileAbove m_entries m_treeForks m_treeDeep) else (ga (v3 + (-1)) 24 (ga (v3 + (-1)) 24 (ga (v3 + (-1)) 24 (if (m_pileAbove (v3 + (-1)).toNatClampNeg) ≤ m_treeDeep then (M_laysTree_J79 m_s m_asked m_askedLength v1 v2 (M_laysTree_L29 m_s m_asked m_askedLength v1 v2 k219 n) k219 m_heads m_treeBit m_treeLeft m_treeRight m_treeAbove m_pileFrom m_pileTo m_pileAbove m_entries m_treeForks m_treeDeep (v3 + (-1)) (m_pileFrom (v3 + (-1)).toNatClampNeg) (m_pileTo (v3 + (-1)).toNatClampNeg) (m_pileAbove (v3 + (-1)).toNatClampNeg) m_treeDeep) else (M_laysTree_J79 m_s m_asked m_askedLength v1 v2 (M_laysTree_L29 m_s m_asked m_askedLength v1 v2 k219 n) k219 m_heads m_treeBit m_treeLeft m_treeRight m_treeAbove m_pileFrom m_pileTo m_pileAbove m_entries m_treeForks m_treeDeep (v3 + (-1)) (m_pileFrom (v3 + (-1)).toNatClampNeg) (m_pileTo (v3 + (-1)).toNatClampNeg) (m_pileAbove (v3 + (-1)).toNatClampNeg) (m_pileAbove (v3 + (-1)).toNatClampNeg))))))
def M_laysTree (m_s m_asked : Nat → Int32) (m_askedLength : Int32) (m_heads m_treeBit m_treeLeft m_treeRight m_treeAbove m_pileFrom m_pileTo m_pileAbove : Nat → Int32) (m_entries m_treeForks m_treeDeep : Int32) (v1 : Int32) (v2 : Int32) : Option ((Nat → Int32) × (Nat → Int32) × (Nat → Int32) × (Nat → Int32) × (Nat → Int32) × (Nat → Int32) × (Nat → Int32) × (Nat → Int32) × Int32 × Int32 × Int32) := bd2 (M_laysHeads m_s m_heads m_entries v1 v2) fun m_heads_3 m_entries_3 => bd3 (M_piles m_pileFrom m_pileTo m_pileAbove 0 0 m_entries_3 0) fun m_pileFrom_26 m_pileTo_26 m_pileAbove_26 => M_laysTree_L29 m_s m_asked m_askedLength v1 v2 (fun m_heads m_treeBit m_treeLeft m_treeRight m_treeAbove m_pileFrom m_pileTo m_pileAbove m_entries m_treeForks m_treeDeep => some (m_heads, m_treeBit, m_treeLeft, m_treeRight, m_treeAbove, m_pileFrom, m_pileTo, m_pileAbove, m_entries, m_treeForks, m_treeDeep)) FU m_heads_3 m_treeBit m_treeLeft m_treeRight m_treeAbove m_pileFrom_26 m_pileTo_26 m_pileAbove_26 m_entries_3 0 0 1
set_option maxRecDepth 100000 in
set_option maxHeartbeats 4000000 in
theorem t_M_laysTree_J79 {p : Program} {l : Launch} {e : Env} {s : State} {m : MethodId} {args : Array Value} {below : List Frame} {meth : Method} {c : Code} {Q : State → Prop} {A : Nat → Prop} {D : va_G} {cI cJ cB cL cS cW : ClassId} {a : Nat → Nat} {m_s m_past m_kept m_refused m_text m_asked m_forkBit m_forkFrom m_forkTo m_wayPage m_wayKnown m_wayGuess m_wayDiff m_wayRead m_wayPlace : Nat → Int32} {m_known m_typed m_askedLength m_forks m_guess m_diff m_read m_placeOf : Int32} {v1 : Int32} {v2 : Int32} {o_heads : Nat → Int32} {o_treeBit : Nat → Int32} {o_treeLeft : Nat → Int32} {o_treeRight : Nat → Int32} {o_treeAbove : Nat → Int32} {o_pileFrom : Nat → Int32} {o_pileTo : Nat → Int32} {o_pileAbove : Nat → Int32} {o_entries : Int32} {o_treeForks : Int32} {o_treeDeep : Int32} (C : k_C p s m args meth c cX8_laysTree 9 none RX8 wsX8_laysTree D (kT cI cJ cB cL cS cW) A) (hD : va_D A (WM0 a cI)) (hret : ∀ (H : Heap) (locs : List Loc) (pc : Nat) (ls : Array Slot), decode cX8_laysTree pc = .ok (.return_, 1) → va_P D vwCl (WM a cI m_s m_past m_kept m_refused m_text m_asked o_heads m_forkBit m_forkFrom m_forkTo m_wayPage m_wayKnown m_wayGuess m_wayDiff m_wayRead m_wayPlace o_treeBit o_treeLeft o_treeRight o_treeAbove o_pileFrom o_pileTo o_pileAbove m_known m_typed m_askedLength o_entries m_forks m_guess m_diff m_read m_placeOf o_treeForks o_treeDeep) H → va_S A s.heap H locs → W p l e { frames := 4, cells := 0, slots := 0, locals := 94 } s m args below meth c H locs 0 0 Q (F0 m pc ls [])) {k29 : (Nat → Int32) → (Nat → Int32) → (Nat → Int32) → (Nat → Int32) → (Nat → Int32) → (Nat → Int32) → (Nat → Int32) → (Nat → Int32) → Int32 → Int32 → Int32 → Int32 → Option ((Nat → Int32) × (Nat → Int32) × (Nat → Int32) × (Nat → Int32) × (Nat → Int32) × (Nat → Int32) × (Nat → Int32) × (Nat → Int32) × Int32 × Int32 × Int32)} (hk29 : ∀ (m_heads : (Nat → Int32)) (m_treeBit : (Nat → Int32)) (m_treeLeft : (Nat → Int32)) (m_treeRight : (Nat → Int32)) (m_treeAbove : (Nat → Int32)) (m_pileFrom : (Nat → Int32)) (m_pileTo : (Nat → Int32)) (m_pileAbove : (Nat → Int32)) (m_entries : Int32) (m_treeForks : Int32) (m_treeDeep : Int32) (v3 : Int32) (H : Heap) (locs : List Loc) (ls : Array Slot), va_P D vwCl (WM a cI m_s m_past m_kept m_refused m_text m_asked m_heads m_forkBit m_forkFrom m_forkTo m_wayPage m_wayKnown m_wayGuess m_wayDiff m_wayRead m_wayPlace m_treeBit m_treeLeft m_treeRight m_treeAbove m_pileFrom m_pileTo m_pileAbove m_known m_typed m_askedLength m_entries m_forks m_guess m_diff m_read m_placeOf m_treeForks m_treeDeep) H → va_S A s.heap H locs → lv_has ls 9 [(0, .ref (a 0)), (3, .int v3)] → k29 m_heads m_treeBit m_treeLeft m_treeRight m_treeAbove m_pileFrom m_pileTo m_pileAbove m_entries m_treeForks m_treeDeep v3 = some (o_heads, o_treeBit, o_treeLeft, o_treeRight, o_treeAbove, o_pileFrom, o_pileTo, o_pileAbove, o_entries, o_treeForks, o_treeDeep) → W p l e { frames := 4, cells := 0, slots := 0, locals := 94 } s m args below meth c H locs 0 0 Q (F0 m 29 ls [])) {k219 : (Nat → Int32) → (Nat → Int32) → (Nat → Int32) → (Nat → Int32) → (Nat → Int32) → (Nat → Int32) → (Nat → Int32) → (Nat → Int32) → Int32 → Int32 → Int32 → Option ((Nat → Int32) × (Nat → Int32) × (Nat → Int32) × (Nat → Int32) × (Nat → Int32) × (Nat → Int32) × (Nat → Int32) × (Nat → Int32) × Int32 × Int32 × Int32)} (hk219 : ∀ (m_heads : (Nat → Int32)) (m_treeBit : (Nat → Int32)) (m_treeLeft : (Nat → Int32)) (m_treeRight : (Nat → Int32)) (m_treeAbove : (Nat → Int32)) (m_pileFrom : (Nat → Int32)) (m_pileTo : (Nat → Int32)) (m_pileAbove : (Nat → Int32)) (m_entries : Int32) (m_treeForks : Int32) (m_treeDeep : Int32) (H : Heap) (locs : List Loc) (ls : Array Slot), va_P D vwCl (WM a cI m_s m_past m_kept m_refused m_text m_asked m_heads m_forkBit m_forkFrom m_forkTo m_wayPage m_wayKnown m_wayGuess m_wayDiff m_wayRead m_wayPlace m_treeBit m_treeLeft m_treeRight m_treeAbove m_pileFrom m_pileTo m_pileAbove m_known m_typed m_askedLength m_entries m_forks m_guess m_diff m_read m_placeOf m_treeForks m_treeDeep) H → va_S A s.heap H locs → lv_has ls 9 [] → k219 m_heads m_treeBit m_treeLeft m_treeRight m_treeAbove m_pileFrom m_pileTo m_pileAbove m_entries m_treeForks m_treeDeep = some (o_heads, o_treeBit, o_treeLeft, o_treeRight, o_treeAbove, o_pileFrom, o_pileTo, o_pileAbove, o_entries, o_treeForks, o_treeDeep) → W p l e { frames := 4, cells := 0, slots := 0, locals := 94 } s m args below meth c H locs 0 0 Q (F0 m 219 ls [])) : ∀ (m_heads : (Nat → Int32)) (m_treeBit : (Nat → Int32)) (m_treeLeft : (Nat → Int32)) (m_treeRight : (Nat → Int32)) (m_treeAbove : (Nat → Int32)) (m_pileFrom : (Nat → Int32)) (m_pileTo : (Nat → Int32)) (m_pileAbove : (Nat → Int32)) (m_entries : Int32) (m_treeForks : Int32) (m_treeDeep : Int32) (v3 : Int32) (v4 : Int32) (v5 : Int32) (v6 : Int32) (t1 : Int32) (H : Heap) (locs : List Loc) (ls : Array Slot), va_P D vwCl (WM a cI m_s m_past m_kept m_refused m_text m_asked m_heads m_forkBit m_forkFrom m_forkTo m_wayPage m_wayKnown m_wayGuess m_wayDiff m_wayRead m_wayPlace m_treeBit m_treeLeft m_treeRight m_treeAbove m_pileFrom m_pileTo m_pileAbove m_known m_typed m_askedLength m_entries m_forks m_guess m_diff m_read m_placeOf m_treeForks m_treeDeep) H → va_S A s.heap H locs → lv_has ls 9 [(0, .ref (a 0)), (3, .int v3), (4, .int v4), (5, .int v5), (6, .int v6)] → M_laysTree_J79 m_s m_asked m_askedLength v1 v2 k29 k219 m_heads m_treeBit m_treeLeft m_treeRight m_treeAbove m_pileFrom m_pileTo m_pileAbove m_entries m_treeForks m_treeDeep v3 v4 v5 v6 t1 = some (o_heads, o_treeBit, o_treeLeft, o_treeRight, o_treeAbove, o_pileFrom, o_pileTo, o_pileAbove, o_entries, o_treeForks, o_treeDeep) → W p l e { frames := 4, cells := 0, slots := 0, locals := 94 } s m args below meth c H locs 0 0 Q (F0 m 79 ls [.int t1, .ref (a 0)]) := by
  obtain ⟨hx, hb, hml, hr, hown, hts, hlocks, hK, hA, hN⟩ := id C
  intro m_heads m_treeBit m_treeLeft m_treeRight m_treeAbove m_pileFrom m_pileTo m_pileAbove m_entries m_treeForks m_treeDeep v3 v4 v5 v6 t1 H locs ls hP hS hl hm
  rw [M_laysTree_J79] at hm
  refine kp hx hb hts hiX8_laysTree tyX8 tyX8_ok nmX8 hown hK hP (va_D_re hD rfl) hS 0 rfl rfl 30 (by decide) flX8_laysTree_254 rfl rfl rfl (Nat.le_of_ble_eq_true rfl) dX8_laysTree_79 (fun H locs hP hS => ?_)
  have hP : va_P D vwCl (WM a cI m_s m_past m_kept m_refused m_text m_asked m_heads m_forkBit m_forkFrom m_forkTo m_wayPage m_wayKnown m_wayGuess m_wayDiff m_wayRead m_wayPlace m_treeBit m_treeLeft m_treeRight m_treeAbove m_pileFrom m_pileTo m_pileAbove m_known m_typed m_askedLength m_entries m_forks m_guess m_diff m_read m_placeOf m_treeForks t1) H := hP
  refine lv_iload hx hb dX8_laysTree_82 (lv_at hl 3 rfl) ?_
  refine lv_iload hx hb dX8_laysTree_84 (lv_at hl 2 rfl) ?_
  refine lv_isub hx hb dX8_laysTree_86 ?_
  refine lv_iconst (v := 1) hx hb dX8_laysTree_87 (by decide) ?_
  refine lv_icmp_le (tgt := 216) hx hb dX8_laysTree_88 (by decide) (fun hc => ?_) (fun hc => ?_)
  · have hm := if_t hc hm
    refine lv_goto (tgt := 29) hx hb dX8_laysTree_216 (by decide) ?_
    exact hk29 _ _ _ _ _ _ _ _ _ _ _ _ _ _ _ hP hS (lv_sub hl [0, 1] rfl) hm
  · have hm := if_f hc hm
    refine lv_aload_n hx hb dX8_laysTree_91 rfl (lv_at hl 0 rfl) ?_
    refine lv_aload_n hx hb dX8_laysTree_92 rfl (lv_at hl 0 rfl) ?_
    refine kg (v := .ref (a 7)) hx hb hts hiX8_laysTree hown hK hP 0 rfl rfl 9 (by decide) flX8_laysTree_28 rfl rfl dX8_laysTree_93 ?_
    refine lv_iload hx hb dX8_laysTree_96 (lv_at hl 2 rfl) ?_
    obtain ⟨hi, hm⟩ := ga_some hm
    refine k_iald hx hb hK hP 7 0 rfl rfl rfl hi dX8_laysTree_98 ?_
    refine lv_aload_n hx hb dX8_laysTree_99 rfl (lv_at hl 0 rfl) ?_
    refine kg (v := .ref (a 7)) hx hb hts hiX8_laysTree hown hK hP 0 rfl rfl 9 (by decide) flX8_laysTree_28 rfl rfl dX8_laysTree_100 ?_
    refine lv_iload hx hb dX8_laysTree_103 (lv_at hl 3 rfl) ?_
    refine lv_iconst (v := 1) hx hb dX8_laysTree_105 (by decide) ?_
    refine lv_isub hx hb dX8_laysTree_106 ?_
    obtain ⟨hi, hm⟩ := ga_some hm
    refine k_iald hx hb hK hP 7 0 rfl rfl rfl hi dX8_laysTree_107 ?_
    obtain ⟨r108, hq, hm⟩ := bd1_some hm
    refine k_callVI (As := [.int (m_heads v4.toNatClampNeg), .int (m_heads (v5 - 1).toNatClampNeg)]) (rest := []) ⟨hx, hb, hml, hown, hts⟩ hK hA hN (c_X8_differ (a := a) hq) (cwV 2 hts gX8_laysTree_X8_differ rfl rfl rfl hdX8_differ ⟨Nat.le_of_ble_eq_true rfl, Nat.le_of_ble_eq_true rfl⟩) hP (va_D_re hD rfl) hS 0 8 rfl rfl rfl hl.1 rfl rfl (Nat.le_of_ble_eq_true rfl) ⟨Nat.zero_le _, Nat.zero_le _⟩ dX8_laysTree_108 (fun H locs hP hS => ?_)
    refine lv_istore (lv' := [(7, .int r108), (0, .ref (a 0)), (3, .int v3), (4, .int v4), (5, .int v5), (6, .int v6)]) hx hb dX8_laysTree_111 hl (by decide) rfl (fun ls hl => ?_)
    refine lv_aload_n hx hb dX8_laysTree_113 rfl (lv_at hl 1 rfl) ?_
    refine lv_iload hx hb dX8_laysTree_114 (lv_at hl 3 rfl) ?_
    refine lv_iload hx hb dX8_laysTree_116 (lv_at hl 4 rfl) ?_
    refine lv_iload hx hb dX8_laysTree_118 (lv_at hl 0 rfl) ?_
    obtain ⟨r120, hq, hm⟩ := bd1_some hm
    refine k_callVI (As := [.int v4, .int v5, .int r108]) (rest := []) ⟨hx, hb, hml, hown, hts⟩ hK hA hN (c_X8_parting (a := a) hq) (cwV 3 hts gX8_laysTree_X8_parting rfl rfl rfl hdX8_parting ⟨Nat.le_of_ble_eq_true rfl, Nat.le_of_ble_eq_true rfl⟩) hP (va_D_re hD rfl) hS 0 8 rfl rfl rfl hl.1 rfl rfl (Nat.le_of_ble_eq_true rfl) ⟨Nat.zero_le _, Nat.zero_le _⟩ dX8_laysTree_120 (fun H locs hP hS => ?_)
    refine lv_istore (lv' := [(8, .int r120), (7, .int r108), (0, .ref (a 0)), (3, .int v3), (4, .int v4), (5, .int v5), (6, .int v6)]) hx hb dX8_laysTree_123 hl (by decide) rfl (fun ls hl => ?_)
    refine lv_aload_n hx hb dX8_laysTree_125 rfl (lv_at hl 2 rfl) ?_
    refine kg (v := .ref (a 17)) hx hb hts hiX8_laysTree hown hK hP 0 rfl rfl 25 (by decide) flX8_laysTree_58 rfl rfl dX8_laysTree_126 ?_
    refine lv_aload_n hx hb dX8_laysTree_129 rfl (lv_at hl 2 rfl) ?_
    refine kg (v := .int m_treeForks) hx hb hts hiX8_laysTree hown hK hP 0 rfl rfl 29 (by decide) flX8_laysTree_251 rfl rfl dX8_laysTree_130 ?_
    refine lv_iload hx hb dX8_laysTree_133 (lv_at hl 1 rfl) ?_
    obtain ⟨hi, hm⟩ := ga_some hm
    refine k_iast hx hb hK hP (va_D_re hD rfl) hS 17 0 rfl rfl rfl hi dX8_laysTree_135 (fun H locs hP hS => ?_)
    have hP : va_P D vwCl (WM a cI m_s m_past m_kept m_refused m_text m_asked m_heads m_forkBit m_forkFrom m_forkTo m_wayPage m_wayKnown m_wayGuess m_wayDiff m_wayRead m_wayPlace (upd m_treeBit m_treeForks.toNatClampNeg r108) m_treeLeft m_treeRight m_treeAbove m_pileFrom m_pileTo m_pileAbove m_known m_typed m_askedLength m_entries m_forks m_guess m_diff m_read m_placeOf m_treeForks t1) H := hP
    refine lv_aload_n hx hb dX8_laysTree_136 rfl (lv_at hl 2 rfl) ?_
    refine kg (v := .ref (a 18)) hx hb hts hiX8_laysTree hown hK hP 0 rfl rfl 26 (by decide) flX8_laysTree_61 rfl rfl dX8_laysTree_137 ?_
    refine lv_aload_n hx hb dX8_laysTree_140 rfl (lv_at hl 2 rfl) ?_
    refine kg (v := .int m_treeForks) hx hb hts hiX8_laysTree hown hK hP 0 rfl rfl 29 (by decide) flX8_laysTree_251 rfl rfl dX8_laysTree_141 ?_
    refine lv_iload hx hb dX8_laysTree_144 (lv_at hl 0 rfl) ?_
    refine lv_iload hx hb dX8_laysTree_146 (lv_at hl 4 rfl) ?_
    refine lv_isub hx hb dX8_laysTree_148 ?_
    obtain ⟨hi, hm⟩ := ga_some hm
    refine k_iast hx hb hK hP (va_D_re hD rfl) hS 18 0 rfl rfl rfl hi dX8_laysTree_149 (fun H locs hP hS => ?_)
    have hP : va_P D vwCl (WM a cI m_s m_past m_kept m_refused m_text m_asked m_heads m_forkBit m_forkFrom m_forkTo m_wayPage m_wayKnown m_wayGuess m_wayDiff m_wayRead m_wayPlace (upd m_treeBit m_treeForks.toNatClampNeg r108) (upd m_treeLeft m_treeForks.toNatClampNeg (r120 - v4)) m_treeRight m_treeAbove m_pileFrom m_pileTo m_pileAbove m_known m_typed m_askedLength m_entries m_forks m_guess m_diff m_read m_placeOf m_treeForks t1) H := hP
    refine lv_aload_n hx hb dX8_laysTree_150 rfl (lv_at hl 2 rfl) ?_
    refine kg (v := .ref (a 19)) hx hb hts hiX8_laysTree hown hK hP 0 rfl rfl 27 (by decide) flX8_laysTree_64 rfl rfl dX8_laysTree_151 ?_
    refine lv_aload_n hx hb dX8_laysTree_154 rfl (lv_at hl 2 rfl) ?_
    refine kg (v := .int m_treeForks) hx hb hts hiX8_laysTree hown hK hP 0 rfl rfl 29 (by decide) flX8_laysTree_251 rfl rfl dX8_laysTree_155 ?_
    refine lv_iload hx hb dX8_laysTree_158 (lv_at hl 5 rfl) ?_
    refine lv_iload hx hb dX8_laysTree_160 (lv_at hl 0 rfl) ?_
    refine lv_isub hx hb dX8_laysTree_162 ?_
    obtain ⟨hi, hm⟩ := ga_some hm
    refine k_iast hx hb hK hP (va_D_re hD rfl) hS 19 0 rfl rfl rfl hi dX8_laysTree_163 (fun H locs hP hS => ?_)
    have hP : va_P D vwCl (WM a cI m_s m_past m_kept m_refused m_text m_asked m_heads m_forkBit m_forkFrom m_forkTo m_wayPage m_wayKnown m_wayGuess m_wayDiff m_wayRead m_wayPlace (upd m_treeBit m_treeForks.toNatClampNeg r108) (upd m_treeLeft m_treeForks.toNatClampNeg (r120 - v4)) (upd m_treeRight m_treeForks.toNatClampNeg (v5 - r120)) m_treeAbove m_pileFrom m_pileTo m_pileAbove m_known m_typed m_askedLength m_entries m_forks m_guess m_diff m_read m_placeOf m_treeForks t1) H := hP
    refine lv_aload_n hx hb dX8_laysTree_164 rfl (lv_at hl 2 rfl) ?_
    refine kg (v := .ref (a 20)) hx hb hts hiX8_laysTree hown hK hP 0 rfl rfl 28 (by decide) flX8_laysTree_67 rfl rfl dX8_laysTree_165 ?_
    refine lv_aload_n hx hb dX8_laysTree_168 rfl (lv_at hl 2 rfl) ?_
    refine kg (v := .int m_treeForks) hx hb hts hiX8_laysTree hown hK hP 0 rfl rfl 29 (by decide) flX8_laysTree_251 rfl rfl dX8_laysTree_169 ?_
    refine lv_iload hx hb dX8_laysTree_172 (lv_at hl 6 rfl) ?_
    obtain ⟨hi, hm⟩ := ga_some hm
    refine k_iast hx hb hK hP (va_D_re hD rfl) hS 20 0 rfl rfl rfl hi dX8_laysTree_174 (fun H locs hP hS => ?_)
    have hP : va_P D vwCl (WM a cI m_s m_past m_kept m_refused m_text m_asked m_heads m_forkBit m_forkFrom m_forkTo m_wayPage m_wayKnown m_wayGuess m_wayDiff m_wayRead m_wayPlace (upd m_treeBit m_treeForks.toNatClampNeg r108) (upd m_treeLeft m_treeForks.toNatClampNeg (r120 - v4)) (upd m_treeRight m_treeForks.toNatClampNeg (v5 - r120)) (upd m_treeAbove m_treeForks.toNatClampNeg v6) m_pileFrom m_pileTo m_pileAbove m_known m_typed m_askedLength m_entries m_forks m_guess m_diff m_read m_placeOf m_treeForks t1) H := hP
    refine lv_aload_n hx hb dX8_laysTree_175 rfl (lv_at hl 2 rfl) ?_
    refine lv_dup hx hb dX8_laysTree_176 rfl ?_
    refine kg (v := .int m_treeForks) hx hb hts hiX8_laysTree hown hK hP 0 rfl rfl 29 (by decide) flX8_laysTree_251 rfl rfl dX8_laysTree_177 ?_
    refine lv_iconst (v := 1) hx hb dX8_laysTree_180 (by decide) ?_
    refine lv_iadd hx hb dX8_laysTree_181 ?_
    refine kp hx hb hts hiX8_laysTree tyX8 tyX8_ok nmX8 hown hK hP (va_D_re hD rfl) hS 0 rfl rfl 29 (by decide) flX8_laysTree_251 rfl rfl rfl (Nat.le_of_ble_eq_true rfl) dX8_laysTree_182 (fun H locs hP hS => ?_)
    have hP : va_P D vwCl (WM a cI m_s m_past m_kept m_refused m_text m_asked m_heads m_forkBit m_forkFrom m_forkTo m_wayPage m_wayKnown m_wayGuess m_wayDiff m_wayRead m_wayPlace (upd m_treeBit m_treeForks.toNatClampNeg r108) (upd m_treeLeft m_treeForks.toNatClampNeg (r120 - v4)) (upd m_treeRight m_treeForks.toNatClampNeg (v5 - r120)) (upd m_treeAbove m_treeForks.toNatClampNeg v6) m_pileFrom m_pileTo m_pileAbove m_known m_typed m_askedLength m_entries m_forks m_guess m_diff m_read m_placeOf (m_treeForks + 1) t1) H := hP
    refine lv_aload_n hx hb dX8_laysTree_185 rfl (lv_at hl 2 rfl) ?_
    refine lv_iload_n hx hb dX8_laysTree_186 rfl (lv_at hl 3 rfl) ?_
    refine lv_iload hx hb dX8_laysTree_187 (lv_at hl 0 rfl) ?_
    refine lv_iload hx hb dX8_laysTree_189 (lv_at hl 5 rfl) ?_
    refine lv_iload hx hb dX8_laysTree_191 (lv_at hl 6 rfl) ?_
    refine lv_iconst (v := 1) hx hb dX8_laysTree_193 (by decide) ?_
    refine lv_iadd hx hb dX8_laysTree_194 ?_
    obtain ⟨m_pileFrom_195, m_pileTo_195, m_pileAbove_195, hq, hm⟩ := bd3_some hm
    refine k_callVV (As := [.int v3, .int r120, .int v5, .int (v6 + 1)]) (rest := []) ⟨hx, hb, hml, hown, hts⟩ hK hA hN (c_X8_piles (a := a) hq) (cwV 4 hts gX8_laysTree_X8_piles rfl rfl rfl hdX8_piles ⟨Nat.le_of_ble_eq_true rfl, Nat.le_of_ble_eq_true rfl⟩) hP (va_D_re hD rfl) hS 0 8 rfl rfl rfl hl.1 rfl rfl (Nat.le_of_ble_eq_true rfl) ⟨Nat.zero_le _, Nat.zero_le _⟩ dX8_laysTree_195 (fun H locs hP hS => ?_)
    refine lv_aload_n hx hb dX8_laysTree_198 rfl (lv_at hl 2 rfl) ?_
    refine lv_iload_n hx hb dX8_laysTree_199 rfl (lv_at hl 3 rfl) ?_
    refine lv_iconst (v := 1) hx hb dX8_laysTree_200 (by decide) ?_
    refine lv_iadd hx hb dX8_laysTree_201 ?_
    refine lv_iload hx hb dX8_laysTree_202 (lv_at hl 4 rfl) ?_
    refine lv_iload hx hb dX8_laysTree_204 (lv_at hl 0 rfl) ?_
    refine lv_iload hx hb dX8_laysTree_206 (lv_at hl 6 rfl) ?_
    refine lv_iconst (v := 1) hx hb dX8_laysTree_208 (by decide) ?_
    refine lv_iadd hx hb dX8_laysTree_209 ?_
    obtain ⟨m_pileFrom_210, m_pileTo_210, m_pileAbove_210, hq, hm⟩ := bd3_some hm
    refine k_callVV (As := [.int (v3 + 1), .int v4, .int r120, .int (v6 + 1)]) (rest := []) ⟨hx, hb, hml, hown, hts⟩ hK hA hN (c_X8_piles (a := a) hq) (cwV 4 hts gX8_laysTree_X8_piles rfl rfl rfl hdX8_piles ⟨Nat.le_of_ble_eq_true rfl, Nat.le_of_ble_eq_true rfl⟩) hP (va_D_re hD rfl) hS 0 8 rfl rfl rfl hl.1 rfl rfl (Nat.le_of_ble_eq_true rfl) ⟨Nat.zero_le _, Nat.zero_le _⟩ dX8_laysTree_210 (fun H locs hP hS => ?_)
    refine lv_iinc (v := (v3 + 2)) (lv' := [(3, .int (v3 + 2)), (8, .int r120), (7, .int r108), (0, .ref (a 0)), (4, .int v4), (5, .int v5), (6, .int v6)]) hx hb dX8_laysTree_213 hl (k := 3) rfl rfl (by decide) rfl (fun ls hl => ?_)
    refine lv_goto (tgt := 29) hx hb dX8_laysTree_216 (by decide) ?_
    exact hk29 _ _ _ _ _ _ _ _ _ _ _ _ _ _ _ hP hS (lv_sub hl [3, 0] rfl) hm
set_option maxRecDepth 100000 in
set_option maxHeartbeats 4000000 in
theorem t_M_laysTree_L29 {p : Program} {l : Launch} {e : Env} {s : State} {m : MethodId} {args : Array Value} {below : List Frame} {meth : Method} {c : Code} {Q : State → Prop} {A : Nat → Prop} {D : va_G} {cI cJ cB cL cS cW : ClassId} {a : Nat → Nat} {m_s m_past m_kept m_refused m_text m_asked m_forkBit m_forkFrom m_forkTo m_wayPage m_wayKnown m_wayGuess m_wayDiff m_wayRead m_wayPlace : Nat → Int32} {m_known m_typed m_askedLength m_forks m_guess m_diff m_read m_placeOf : Int32} {v1 : Int32} {v2 : Int32} {o_heads : Nat → Int32} {o_treeBit : Nat → Int32} {o_treeLeft : Nat → Int32} {o_treeRight : Nat → Int32} {o_treeAbove : Nat → Int32} {o_pileFrom : Nat → Int32} {o_pileTo : Nat → Int32} {o_pileAbove : Nat → Int32} {o_entries : Int32} {o_treeForks : Int32} {o_treeDeep : Int32} (C : k_C p s m args meth c cX8_laysTree 9 none RX8 wsX8_laysTree D (kT cI cJ cB cL cS cW) A) (hD : va_D A (WM0 a cI)) (hret : ∀ (H : Heap) (locs : List Loc) (pc : Nat) (ls : Array Slot), decode cX8_laysTree pc = .ok (.return_, 1) → va_P D vwCl (WM a cI m_s m_past m_kept m_refused m_text m_asked o_heads m_forkBit m_forkFrom m_forkTo m_wayPage m_wayKnown m_wayGuess m_wayDiff m_wayRead m_wayPlace o_treeBit o_treeLeft o_treeRight o_treeAbove o_pileFrom o_pileTo o_pileAbove m_known m_typed m_askedLength o_entries m_forks m_guess m_diff m_read m_placeOf o_treeForks o_treeDeep) H → va_S A s.heap H locs → W p l e { frames := 4, cells := 0, slots := 0, locals := 94 } s m args below meth c H locs 0 0 Q (F0 m pc ls [])) {k219 : (Nat → Int32) → (Nat → Int32) → (Nat → Int32) → (Nat → Int32) → (Nat → Int32) → (Nat → Int32) → (Nat → Int32) → (Nat → Int32) → Int32 → Int32 → Int32 → Option ((Nat → Int32) × (Nat → Int32) × (Nat → Int32) × (Nat → Int32) × (Nat → Int32) × (Nat → Int32) × (Nat → Int32) × (Nat → Int32) × Int32 × Int32 × Int32)} (hk219 : ∀ (m_heads : (Nat → Int32)) (m_treeBit : (Nat → Int32)) (m_treeLeft : (Nat → Int32)) (m_treeRight : (Nat → Int32)) (m_treeAbove : (Nat → Int32)) (m_pileFrom : (Nat → Int32)) (m_pileTo : (Nat → Int32)) (m_pileAbove : (Nat → Int32)) (m_entries : Int32) (m_treeForks : Int32) (m_treeDeep : Int32) (H : Heap) (locs : List Loc) (ls : Array Slot), va_P D vwCl (WM a cI m_s m_past m_kept m_refused m_text m_asked m_heads m_forkBit m_forkFrom m_forkTo m_wayPage m_wayKnown m_wayGuess m_wayDiff m_wayRead m_wayPlace m_treeBit m_treeLeft m_treeRight m_treeAbove m_pileFrom m_pileTo m_pileAbove m_known m_typed m_askedLength m_entries m_forks m_guess m_diff m_read m_placeOf m_treeForks m_treeDeep) H → va_S A s.heap H locs → lv_has ls 9 [] → k219 m_heads m_treeBit m_treeLeft m_treeRight m_treeAbove m_pileFrom m_pileTo m_pileAbove m_entries m_treeForks m_treeDeep = some (o_heads, o_treeBit, o_treeLeft, o_treeRight, o_treeAbove, o_pileFrom, o_pileTo, o_pileAbove, o_entries, o_treeForks, o_treeDeep) → W p l e { frames := 4, cells := 0, slots := 0, locals := 94 } s m args below meth c H locs 0 0 Q (F0 m 219 ls [])) : ∀ n : Nat, ∀ (m_heads : (Nat → Int32)) (m_treeBit : (Nat → Int32)) (m_treeLeft : (Nat → Int32)) (m_treeRight : (Nat → Int32)) (m_treeAbove : (Nat → Int32)) (m_pileFrom : (Nat → Int32)) (m_pileTo : (Nat → Int32)) (m_pileAbove : (Nat → Int32)) (m_entries : Int32) (m_treeForks : Int32) (m_treeDeep : Int32) (v3 : Int32) (H : Heap) (locs : List Loc) (ls : Array Slot), va_P D vwCl (WM a cI m_s m_past m_kept m_refused m_text m_asked m_heads m_forkBit m_forkFrom m_forkTo m_wayPage m_wayKnown m_wayGuess m_wayDiff m_wayRead m_wayPlace m_treeBit m_treeLeft m_treeRight m_treeAbove m_pileFrom m_pileTo m_pileAbove m_known m_typed m_askedLength m_entries m_forks m_guess m_diff m_read m_placeOf m_treeForks m_treeDeep) H → va_S A s.heap H locs → lv_has ls 9 [(0, .ref (a 0)), (3, .int v3)] → (M_laysTree_L29 m_s m_asked m_askedLength v1 v2 k219 n) m_heads m_treeBit m_treeLeft m_treeRight m_treeAbove m_pileFrom m_pileTo m_pileAbove m_entries m_treeForks m_treeDeep v3 = some (o_heads, o_treeBit, o_treeLeft, o_treeRight, o_treeAbove, o_pileFrom, o_pileTo, o_pileAbove, o_entries, o_treeForks, o_treeDeep) → W p l e { frames := 4, cells := 0, slots := 0, locals := 94 } s m args below meth c H locs 0 0 Q (F0 m 29 ls []) := by
  obtain ⟨hx, hb, hml, hr, hown, hts, hlocks, hK, hA, hN⟩ := id C
  intro n
  induction n with
  | zero =>
    intro m_heads m_treeBit m_treeLeft m_treeRight m_treeAbove m_pileFrom m_pileTo m_pileAbove m_entries m_treeForks m_treeDeep v3 H locs ls hP hS hl hm
    cases hm
  | succ n ih =>
    intro m_heads m_treeBit m_treeLeft m_treeRight m_treeAbove m_pileFrom m_pileTo m_pileAbove m_entries m_treeForks m_treeDeep v3 H locs ls hP hS hl hm
    rw [M_laysTree_L29] at hm
    refine lv_iload_n hx hb dX8_laysTree_29 rfl (lv_at hl 1 rfl) ?_
    refine lv_if_le (tgt := 219) hx hb dX8_laysTree_30 (by decide) (fun hc => ?_) (fun hc => ?_)
    · have hm := if_t hc hm
      exact hk219 _ _ _ _ _ _ _ _ _ _ _ _ _ _ hP hS (lv_sub hl [] rfl) hm
    · have hm := if_f hc hm
      refine lv_iinc (v := (v3 + (-1))) (lv' := [(3, .int (v3 + (-1))), (0, .ref (a 0))]) hx hb dX8_laysTree_33 hl (k := 1) rfl rfl (by decide) rfl (fun ls hl => ?_)
      refine lv_aload_n hx hb dX8_laysTree_36 rfl (lv_at hl 1 rfl) ?_
      refine kg (v := .ref (a 21)) hx hb hts hiX8_laysTree hown hK hP 0 rfl rfl 31 (by decide) flX8_laysTree_70 rfl rfl dX8_laysTree_37 ?_
      refine lv_iload_n hx hb dX8_laysTree_40 rfl (lv_at hl 0 rfl) ?_
      obtain ⟨hi, hm⟩ := ga_some hm
      refine k_iald hx hb hK hP 21 0 rfl rfl rfl hi dX8_laysTree_41 ?_
      refine lv_istore (lv' := [(4, .int (m_pileFrom (v3 + (-1)).toNatClampNeg)), (3, .int (v3 + (-1))), (0, .ref (a 0))]) hx hb dX8_laysTree_42 hl (by decide) rfl (fun ls hl => ?_)
      refine lv_aload_n hx hb dX8_laysTree_44 rfl (lv_at hl 2 rfl) ?_
      refine kg (v := .ref (a 22)) hx hb hts hiX8_laysTree hown hK hP 0 rfl rfl 32 (by decide) flX8_laysTree_73 rfl rfl dX8_laysTree_45 ?_
      refine lv_iload_n hx hb dX8_laysTree_48 rfl (lv_at hl 1 rfl) ?_
      obtain ⟨hi, hm⟩ := ga_some hm
      refine k_iald hx hb hK hP 22 0 rfl rfl rfl hi dX8_laysTree_49 ?_
      refine lv_istore (lv' := [(5, .int (m_pileTo (v3 + (-1)).toNatClampNeg)), (4, .int (m_pileFrom (v3 + (-1)).toNatClampNeg)), (3, .int (v3 + (-1))), (0, .ref (a 0))]) hx hb dX8_laysTree_50 hl (by decide) rfl (fun ls hl => ?_)
      refine lv_aload_n hx hb dX8_laysTree_52 rfl (lv_at hl 3 rfl) ?_
      refine kg (v := .ref (a 23)) hx hb hts hiX8_laysTree hown hK hP 0 rfl rfl 33 (by decide) flX8_laysTree_76 rfl rfl dX8_laysTree_53 ?_
      refine lv_iload_n hx hb dX8_laysTree_56 rfl (lv_at hl 2 rfl) ?_
      obtain ⟨hi, hm⟩ := ga_some hm
      refine k_iald hx hb hK hP 23 0 rfl rfl rfl hi dX8_laysTree_57 ?_
      refine lv_istore (lv' := [(6, .int (m_pileAbove (v3 + (-1)).toNatClampNeg)), (5, .int (m_pileTo (v3 + (-1)).toNatClampNeg)), (4, .int (m_pileFrom (v3 + (-1)).toNatClampNeg)), (3, .int (v3 + (-1))), (0, .ref (a 0))]) hx hb dX8_laysTree_58 hl (by decide) rfl (fun ls hl => ?_)
      refine lv_aload_n hx hb dX8_laysTree_60 rfl (lv_at hl 4 rfl) ?_
      refine lv_iload hx hb dX8_laysTree_61 (lv_at hl 0 rfl) ?_
      refine lv_aload_n hx hb dX8_laysTree_63 rfl (lv_at hl 4 rfl) ?_
      refine kg (v := .int m_treeDeep) hx hb hts hiX8_laysTree hown hK hP 0 rfl rfl 30 (by decide) flX8_laysTree_254 rfl rfl dX8_laysTree_64 ?_
      refine lv_icmp_le (tgt := 75) hx hb dX8_laysTree_67 (by decide) (fun hc => ?_) (fun hc => ?_)
      · have hm := if_t hc hm
        refine lv_aload_n hx hb dX8_laysTree_75 rfl (lv_at hl 4 rfl) ?_
        refine kg (v := .int m_treeDeep) hx hb hts hiX8_laysTree hown hK hP 0 rfl rfl 30 (by decide) flX8_laysTree_254 rfl rfl dX8_laysTree_76 ?_
        exact t_M_laysTree_J79 C hD hret ih hk219 _ _ _ _ _ _ _ _ _ _ _ _ _ _ _ _ _ _ _ hP hS (lv_sub hl [4, 3, 2, 1, 0] rfl) hm
      · have hm := if_f hc hm
        refine lv_iload hx hb dX8_laysTree_70 (lv_at hl 0 rfl) ?_
        refine lv_goto (tgt := 79) hx hb dX8_laysTree_72 (by decide) ?_
        exact t_M_laysTree_J79 C hD hret ih hk219 _ _ _ _ _ _ _ _ _ _ _ _ _ _ _ _ _ _ _ hP hS (lv_sub hl [4, 3, 2, 1, 0] rfl) hm
set_option maxRecDepth 100000 in
set_option maxHeartbeats 4000000 in
theorem c_X8_laysTree {l : Launch} {D : va_G} {cI cJ cB cL cS cW : ClassId} {a : Nat → Nat} {m_s m_past m_kept m_refused m_text m_asked m_heads m_forkBit m_forkFrom m_forkTo m_wayPage m_wayKnown m_wayGuess m_wayDiff m_wayRead m_wayPlace m_treeBit m_treeLeft m_treeRight m_treeAbove m_pileFrom m_pileTo m_pileAbove : Nat → Int32} {m_known m_typed m_askedLength m_entries m_forks m_guess m_diff m_read m_placeOf m_treeForks m_treeDeep : Int32} {v1 : Int32} {v2 : Int32} {o_heads : Nat → Int32} {o_treeBit : Nat → Int32} {o_treeLeft : Nat → Int32} {o_treeRight : Nat → Int32} {o_treeAbove : Nat → Int32} {o_pileFrom : Nat → Int32} {o_pileTo : Nat → Int32} {o_pileAbove : Nat → Int32} {o_entries : Int32} {o_treeForks : Int32} {o_treeDeep : Int32} (hm : M_laysTree m_s m_asked m_askedLength m_heads m_treeBit m_treeLeft m_treeRight m_treeAbove m_pileFrom m_pileTo m_pileAbove m_entries m_treeForks m_treeDeep v1 v2 = some (o_heads, o_treeBit, o_treeLeft, o_treeRight, o_treeAbove, o_pileFrom, o_pileTo, o_pileAbove, o_entries, o_treeForks, o_treeDeep)) : k_MV l yX8_laysTree wsX8_laysTree { frames := 4, cells := 0, slots := 0, locals := 94 } D (kT cI cJ cB cL cS cW) [.ref (a 0), .int v1, .int v2] (WM a cI m_s m_past m_kept m_refused m_text m_asked m_heads m_forkBit m_forkFrom m_forkTo m_wayPage m_wayKnown m_wayGuess m_wayDiff m_wayRead m_wayPlace m_treeBit m_treeLeft m_treeRight m_treeAbove m_pileFrom m_pileTo m_pileAbove m_known m_typed m_askedLength m_entries m_forks m_guess m_diff m_read m_placeOf m_treeForks m_treeDeep) (WM a cI m_s m_past m_kept m_refused m_text m_asked o_heads m_forkBit m_forkFrom m_forkTo m_wayPage m_wayKnown m_wayGuess m_wayDiff m_wayRead m_wayPlace o_treeBit o_treeLeft o_treeRight o_treeAbove o_pileFrom o_pileTo o_pileAbove m_known m_typed m_askedLength o_entries m_forks m_guess m_diff m_read m_placeOf o_treeForks o_treeDeep) := by
  refine k_ofV (cc := cX8_laysTree) (maxL := 9) (own := RX8) (by decide) rfl rfl (Nat.le_of_ble_eq_true rfl) ?_
  intro p e s m args below meth c A Q ls C hP hD hl hret
  have hD : va_D A (WM0 a cI) := va_D_re hD rfl
  have hS : va_S A s.heap s.heap [] := va_S.rf
  have hl : lv_has ls 9 [(0, .ref (a 0)), (1, .int v1), (2, .int v2)] := hl
  obtain ⟨hx, hb, hml, hr, hown, hts, hlocks, hK, hA, hN⟩ := id C
  rw [M_laysTree] at hm
  refine lv_aload_n hx hb dX8_laysTree_0 rfl (lv_at hl 0 rfl) ?_
  refine lv_iload_n hx hb dX8_laysTree_1 rfl (lv_at hl 1 rfl) ?_
  refine lv_iload_n hx hb dX8_laysTree_2 rfl (lv_at hl 2 rfl) ?_
  obtain ⟨m_heads_3, m_entries_3, hq, hm⟩ := bd2_some hm
  refine k_callVV (As := [.int v1, .int v2]) (rest := []) ⟨hx, hb, hml, hown, hts⟩ hK hA hN (c_X8_laysHeads (a := a) hq) (cwV 2 hts gX8_laysTree_X8_laysHeads rfl rfl rfl hdX8_laysHeads ⟨Nat.le_of_ble_eq_true rfl, Nat.le_of_ble_eq_true rfl⟩) hP (va_D_re hD rfl) hS 0 8 rfl rfl rfl hl.1 rfl rfl (Nat.le_of_ble_eq_true rfl) ⟨Nat.zero_le _, Nat.zero_le _⟩ dX8_laysTree_3 (fun H locs hP hS => ?_)
  refine lv_aload_n hx hb dX8_laysTree_6 rfl (lv_at hl 0 rfl) ?_
  refine lv_iconst (v := 0) hx hb dX8_laysTree_7 (by decide) ?_
  refine kp hx hb hts hiX8_laysTree tyX8 tyX8_ok nmX8 hown hK hP (va_D_re hD rfl) hS 0 rfl rfl 29 (by decide) flX8_laysTree_251 rfl rfl rfl (Nat.le_of_ble_eq_true rfl) dX8_laysTree_8 (fun H locs hP hS => ?_)
  have hP : va_P D vwCl (WM a cI m_s m_past m_kept m_refused m_text m_asked m_heads_3 m_forkBit m_forkFrom m_forkTo m_wayPage m_wayKnown m_wayGuess m_wayDiff m_wayRead m_wayPlace m_treeBit m_treeLeft m_treeRight m_treeAbove m_pileFrom m_pileTo m_pileAbove m_known m_typed m_askedLength m_entries_3 m_forks m_guess m_diff m_read m_placeOf 0 m_treeDeep) H := hP
  refine lv_aload_n hx hb dX8_laysTree_11 rfl (lv_at hl 0 rfl) ?_
  refine lv_iconst (v := 0) hx hb dX8_laysTree_12 (by decide) ?_
  refine kp hx hb hts hiX8_laysTree tyX8 tyX8_ok nmX8 hown hK hP (va_D_re hD rfl) hS 0 rfl rfl 30 (by decide) flX8_laysTree_254 rfl rfl rfl (Nat.le_of_ble_eq_true rfl) dX8_laysTree_13 (fun H locs hP hS => ?_)
  have hP : va_P D vwCl (WM a cI m_s m_past m_kept m_refused m_text m_asked m_heads_3 m_forkBit m_forkFrom m_forkTo m_wayPage m_wayKnown m_wayGuess m_wayDiff m_wayRead m_wayPlace m_treeBit m_treeLeft m_treeRight m_treeAbove m_pileFrom m_pileTo m_pileAbove m_known m_typed m_askedLength m_entries_3 m_forks m_guess m_diff m_read m_placeOf 0 0) H := hP
  refine lv_iconst (v := 1) hx hb dX8_laysTree_16 (by decide) ?_
  refine lv_istore_n (lv' := [(3, .int 1), (0, .ref (a 0)), (1, .int v1), (2, .int v2)]) hx hb dX8_laysTree_17 rfl hl (by decide) rfl (fun ls hl => ?_)
  refine lv_aload_n hx hb dX8_laysTree_18 rfl (lv_at hl 1 rfl) ?_
  refine lv_iconst (v := 0) hx hb dX8_laysTree_19 (by decide) ?_
  refine lv_iconst (v := 0) hx hb dX8_laysTree_20 (by decide) ?_
  refine lv_aload_n hx hb dX8_laysTree_21 rfl (lv_at hl 1 rfl) ?_
  refine kg (v := .int m_entries_3) hx hb hts hiX8_laysTree hown hK hP 0 rfl rfl 10 (by decide) flX8_laysTree_120 rfl rfl dX8_laysTree_22 ?_
  refine lv_iconst (v := 0) hx hb dX8_laysTree_25 (by decide) ?_
  obtain ⟨m_pileFrom_26, m_pileTo_26, m_pileAbove_26, hq, hm⟩ := bd3_some hm
  refine k_callVV (As := [.int 0, .int 0, .int m_entries_3, .int 0]) (rest := []) ⟨hx, hb, hml, hown, hts⟩ hK hA hN (c_X8_piles (a := a) hq) (cwV 4 hts gX8_laysTree_X8_piles rfl rfl rfl hdX8_piles ⟨Nat.le_of_ble_eq_true rfl, Nat.le_of_ble_eq_true rfl⟩) hP (va_D_re hD rfl) hS 0 8 rfl rfl rfl hl.1 rfl rfl (Nat.le_of_ble_eq_true rfl) ⟨Nat.zero_le _, Nat.zero_le _⟩ dX8_laysTree_26 (fun H locs hP hS => ?_)
  refine t_M_laysTree_L29 C hD hret ?_ FU _ _ _ _ _ _ _ _ _ _ _ _ _ _ _ hP hS (lv_sub hl [1, 0] rfl) hm
  · intro m_heads m_treeBit m_treeLeft m_treeRight m_treeAbove m_pileFrom m_pileTo m_pileAbove m_entries m_treeForks m_treeDeep H locs ls hP hS hl hm
    try dsimp only at hm
    simp only [Option.some.injEq, Prod.mk.injEq] at hm
    obtain ⟨rfl, rfl, rfl, rfl, rfl, rfl, rfl, rfl, rfl, rfl, rfl⟩ := hm
    exact hret _ _ _ _ dX8_laysTree_219 hP hS
theorem hdX8_wordsBeneath : yX8_wordsBeneath.cls = RX8 ∧ yX8_wordsBeneath.cls ≠ "java/lang/invoke/MethodHandle" ∧ yX8_wordsBeneath.cls ≠ "java/lang/invoke/VarHandle" ∧ (parseMethodDescriptor yX8_wordsBeneath.desc).map (fun d => d.parameters.length) = some 2 := by decide +kernel
def M_wordsBeneath (m_s : Nat → Int32) (v1 : Int32) (v2 : Int32) : Option (Int32) := bd1 (M_headOf m_s v1 (v2 + 1)) fun r5 => bd1 (M_headOf m_s v1 v2) fun r11 => some (r5 - r11)
set_option maxRecDepth 100000 in
set_option maxHeartbeats 4000000 in
theorem c_X8_wordsBeneath {l : Launch} {D : va_G} {cI cJ cB cL cS cW : ClassId} {a : Nat → Nat} {m_s m_past m_kept m_refused m_text m_asked m_heads m_forkBit m_forkFrom m_forkTo m_wayPage m_wayKnown m_wayGuess m_wayDiff m_wayRead m_wayPlace m_treeBit m_treeLeft m_treeRight m_treeAbove m_pileFrom m_pileTo m_pileAbove : Nat → Int32} {m_known m_typed m_askedLength m_entries m_forks m_guess m_diff m_read m_placeOf m_treeForks m_treeDeep : Int32} {v1 : Int32} {v2 : Int32} {r : Int32} (hm : M_wordsBeneath m_s v1 v2 = some r) : k_MI l yX8_wordsBeneath wsX8_wordsBeneath { frames := 3, cells := 0, slots := 0, locals := 70 } D (kT cI cJ cB cL cS cW) [.ref (a 0), .int v1, .int v2] (WM a cI m_s m_past m_kept m_refused m_text m_asked m_heads m_forkBit m_forkFrom m_forkTo m_wayPage m_wayKnown m_wayGuess m_wayDiff m_wayRead m_wayPlace m_treeBit m_treeLeft m_treeRight m_treeAbove m_pileFrom m_pileTo m_pileAbove m_known m_typed m_askedLength m_entries m_forks m_guess m_diff m_read m_placeOf m_treeForks m_treeDeep) r (WM a cI m_s m_past m_kept m_refused m_text m_asked m_heads m_forkBit m_forkFrom m_forkTo m_wayPage m_wayKnown m_wayGuess m_wayDiff m_wayRead m_wayPlace m_treeBit m_treeLeft m_treeRight m_treeAbove m_pileFrom m_pileTo m_pileAbove m_known m_typed m_askedLength m_entries m_forks m_guess m_diff m_read m_placeOf m_treeForks m_treeDeep) := by
  refine k_ofI (cc := cX8_wordsBeneath) (maxL := 3) (own := RX8) (by decide) rfl rfl (Nat.le_of_ble_eq_true rfl) ?_
  intro p e s m args below meth c A Q ls C hP hD hl hret
  have hD : va_D A (WM0 a cI) := va_D_re hD rfl
  have hS : va_S A s.heap s.heap [] := va_S.rf
  have hl : lv_has ls 3 [(0, .ref (a 0)), (1, .int v1), (2, .int v2)] := hl
  obtain ⟨hx, hb, hml, hr, hown, hts, hlocks, hK, hA, hN⟩ := id C
  rw [M_wordsBeneath] at hm
  refine lv_aload_n hx hb dX8_wordsBeneath_0 rfl (lv_at hl 0 rfl) ?_
  refine lv_iload_n hx hb dX8_wordsBeneath_1 rfl (lv_at hl 1 rfl) ?_
  refine lv_iload_n hx hb dX8_wordsBeneath_2 rfl (lv_at hl 2 rfl) ?_
  refine lv_iconst (v := 1) hx hb dX8_wordsBeneath_3 (by decide) ?_
  refine lv_iadd hx hb dX8_wordsBeneath_4 ?_
  obtain ⟨r5, hq, hm⟩ := bd1_some hm
  refine k_callVI (As := [.int v1, .int (v2 + 1)]) (rest := []) ⟨hx, hb, hml, hown, hts⟩ hK hA hN (c_X8_headOf (a := a) hq) (cwV 2 hts gX8_wordsBeneath_X8_headOf rfl rfl rfl hdX8_headOf ⟨Nat.le_of_ble_eq_true rfl, Nat.le_of_ble_eq_true rfl⟩) hP (va_D_re hD rfl) hS 0 8 rfl rfl rfl hl.1 rfl rfl (Nat.le_of_ble_eq_true rfl) ⟨Nat.zero_le _, Nat.zero_le _⟩ dX8_wordsBeneath_5 (fun H locs hP hS => ?_)
  refine lv_aload_n hx hb dX8_wordsBeneath_8 rfl (lv_at hl 0 rfl) ?_
  refine lv_iload_n hx hb dX8_wordsBeneath_9 rfl (lv_at hl 1 rfl) ?_
  refine lv_iload_n hx hb dX8_wordsBeneath_10 rfl (lv_at hl 2 rfl) ?_
  obtain ⟨r11, hq, hm⟩ := bd1_some hm
  refine k_callVI (As := [.int v1, .int v2]) (rest := [.int r5]) ⟨hx, hb, hml, hown, hts⟩ hK hA hN (c_X8_headOf (a := a) hq) (cwV 2 hts gX8_wordsBeneath_X8_headOf rfl rfl rfl hdX8_headOf ⟨Nat.le_of_ble_eq_true rfl, Nat.le_of_ble_eq_true rfl⟩) hP (va_D_re hD rfl) hS 0 8 rfl rfl rfl hl.1 rfl rfl (Nat.le_of_ble_eq_true rfl) ⟨Nat.zero_le _, Nat.zero_le _⟩ dX8_wordsBeneath_11 (fun H locs hP hS => ?_)
  refine lv_isub hx hb dX8_wordsBeneath_14 ?_
  obtain rfl := Option.some.inj hm
  exact hret _ _ _ _ dX8_wordsBeneath_15 hP hS
theorem hdX8_weight : yX8_weight.cls = RX8 ∧ yX8_weight.cls ≠ "java/lang/invoke/MethodHandle" ∧ yX8_weight.cls ≠ "java/lang/invoke/VarHandle" ∧ (parseMethodDescriptor yX8_weight.desc).map (fun d => d.parameters.length) = some 2 := by decide +kernel
def M_weight_L13 (m_s : Nat → Int32) (m_askedLength : Int32) (v1 : Int32) (v2 : Int32) (k43 : Int32 → Option (Int32)) : Nat → Int32 → Int32 → Int32 → Option (Int32)
  | 0, _, _, _ => none
  | n + 1, v3, v4, v5 => bd1 (M_wordsBeneath m_s v1 v2) fun r19 => if (v3 + r19) ≤ v5 then (k43 v4) else (bd1 (M_lengthOf m_s m_askedLength v5) fun r31 => M_weight_L13 m_s m_askedLength v1 v2 k43 n v3 (v4 + r31) (v5 + 1))
def M_weight_L83 (m_s : Nat → Int32) (m_askedLength : Int32) (v1 : Int32) (v2 : Int32) (k115 : Int32 → Int32 → Int32 → Int32 → Option (Int32)) : Nat → Int32 → Int32 → Int32 → Int32 → Int32 → Option (Int32)
  | 0, _, _, _, _, _ => none
  | n + 1, v4, v5, v6, v7, v8 => if v6 ≤ v8 then (k115 v4 v5 v6 v7) else (bd1 (M_headOf m_s (v7 - 1) v8) fun r100 => bd1 (M_lengthOf m_s m_askedLength r100) fun r103 => M_weight_L83 m_s m_askedLength v1 v2 k115 n (v4 + r103) v5 v6 v7 (v8 + 1))
def M_weight_L54 (m_s : Nat → Int32) (m_askedLength : Int32) (v1 : Int32) (v2 : Int32) (k121 : Int32 → Option (Int32)) : Nat → Int32 → Int32 → Int32 → Int32 → Option (Int32)
  | 0, _, _, _, _ => none
  | n + 1, v4, v5, v6, v7 => if v7 ≤ 0 then (k121 v4) else (bd1 (M_entriesAhead m_s v7 v5) fun r64 => bd1 (M_entriesAhead m_s v7 v6) fun r74 => M_weight_L83 m_s m_askedLength v1 v2 (fun v4 v5 v6 v7 => M_weight_L54 m_s m_askedLength v1 v2 k121 n v4 v5 v6 (v7 + (-1))) FU v4 r64 r74 v7 r64)
def M_weight (m_s : Nat → Int32) (m_askedLength : Int32) (v1 : Int32) (v2 : Int32) : Option (Int32) := bd1 (M_headOf m_s v1 v2) fun r3 => M_weight_L13 m_s m_askedLength v1 v2 (fun v4 => M_weight_L54 m_s m_askedLength v1 v2 (fun v4 => some v4) FU v4 v2 (v2 + 1) v1) FU r3 0 r3
set_option maxRecDepth 100000 in
set_option maxHeartbeats 4000000 in
theorem t_M_weight_L13 {p : Program} {l : Launch} {e : Env} {s : State} {m : MethodId} {args : Array Value} {below : List Frame} {meth : Method} {c : Code} {Q : State → Prop} {A : Nat → Prop} {D : va_G} {cI cJ cB cL cS cW : ClassId} {a : Nat → Nat} {m_s m_past m_kept m_refused m_text m_asked m_heads m_forkBit m_forkFrom m_forkTo m_wayPage m_wayKnown m_wayGuess m_wayDiff m_wayRead m_wayPlace m_treeBit m_treeLeft m_treeRight m_treeAbove m_pileFrom m_pileTo m_pileAbove : Nat → Int32} {m_known m_typed m_askedLength m_entries m_forks m_guess m_diff m_read m_placeOf m_treeForks m_treeDeep : Int32} {v1 : Int32} {v2 : Int32} {r : Int32} (C : k_C p s m args meth c cX8_weight 9 (some .int) RX8 wsX8_weight D (kT cI cJ cB cL cS cW) A) (hD : va_D A (WM0 a cI)) (hret : ∀ (H : Heap) (locs : List Loc) (pc : Nat) (ls : Array Slot), decode cX8_weight pc = .ok (.ireturn, 1) → va_P D vwCl (WM a cI m_s m_past m_kept m_refused m_text m_asked m_heads m_forkBit m_forkFrom m_forkTo m_wayPage m_wayKnown m_wayGuess m_wayDiff m_wayRead m_wayPlace m_treeBit m_treeLeft m_treeRight m_treeAbove m_pileFrom m_pileTo m_pileAbove m_known m_typed m_askedLength m_entries m_forks m_guess m_diff m_read m_placeOf m_treeForks m_treeDeep) H → va_S A s.heap H locs → W p l e { frames := 4, cells := 0, slots := 0, locals := 92 } s m args below meth c H locs 0 0 Q (F0 m pc ls [.int r])) {k43 : Int32 → Option (Int32)} (hk43 : ∀ (v4 : Int32) (H : Heap) (locs : List Loc) (ls : Array Slot), va_P D vwCl (WM a cI m_s m_past m_kept m_refused m_text m_asked m_heads m_forkBit m_forkFrom m_forkTo m_wayPage m_wayKnown m_wayGuess m_wayDiff m_wayRead m_wayPlace m_treeBit m_treeLeft m_treeRight m_treeAbove m_pileFrom m_pileTo m_pileAbove m_known m_typed m_askedLength m_entries m_forks m_guess m_diff m_read m_placeOf m_treeForks m_treeDeep) H → va_S A s.heap H locs → lv_has ls 9 [(0, .ref (a 0)), (1, .int v1), (2, .int v2), (4, .int v4)] → k43 v4 = some r → W p l e { frames := 4, cells := 0, slots := 0, locals := 92 } s m args below meth c H locs 0 0 Q (F0 m 43 ls [])) : ∀ n : Nat, ∀ (v3 : Int32) (v4 : Int32) (v5 : Int32) (H : Heap) (locs : List Loc) (ls : Array Slot), va_P D vwCl (WM a cI m_s m_past m_kept m_refused m_text m_asked m_heads m_forkBit m_forkFrom m_forkTo m_wayPage m_wayKnown m_wayGuess m_wayDiff m_wayRead m_wayPlace m_treeBit m_treeLeft m_treeRight m_treeAbove m_pileFrom m_pileTo m_pileAbove m_known m_typed m_askedLength m_entries m_forks m_guess m_diff m_read m_placeOf m_treeForks m_treeDeep) H → va_S A s.heap H locs → lv_has ls 9 [(0, .ref (a 0)), (1, .int v1), (2, .int v2), (3, .int v3), (4, .int v4), (5, .int v5)] → (M_weight_L13 m_s m_askedLength v1 v2 k43 n) v3 v4 v5 = some r → W p l e { frames := 4, cells := 0, slots := 0, locals := 92 } s m args below meth c H locs 0 0 Q (F0 m 13 ls []) := by
  obtain ⟨hx, hb, hml, hr, hown, hts, hlocks, hK, hA, hN⟩ := id C
  intro n
  induction n with
  | zero =>
    intro v3 v4 v5 H locs ls hP hS hl hm
    cases hm
  | succ n ih =>
    intro v3 v4 v5 H locs ls hP hS hl hm
    rw [M_weight_L13] at hm
    refine lv_iload hx hb dX8_weight_13 (lv_at hl 5 rfl) ?_
    refine lv_iload_n hx hb dX8_weight_15 rfl (lv_at hl 3 rfl) ?_
    refine lv_aload_n hx hb dX8_weight_16 rfl (lv_at hl 0 rfl) ?_
    refine lv_iload_n hx hb dX8_weight_17 rfl (lv_at hl 1 rfl) ?_
    refine lv_iload_n hx hb dX8_weight_18 rfl (lv_at hl 2 rfl) ?_
    obtain ⟨r19, hq, hm⟩ := bd1_some hm
    refine k_callVI (As := [.int v1, .int v2]) (rest := [.int v3, .int v5]) ⟨hx, hb, hml, hown, hts⟩ hK hA hN (c_X8_wordsBeneath (a := a) hq) (cwV 2 hts gX8_weight_X8_wordsBeneath rfl rfl rfl hdX8_wordsBeneath ⟨Nat.le_of_ble_eq_true rfl, Nat.le_of_ble_eq_true rfl⟩) hP (va_D_re hD rfl) hS 0 8 rfl rfl rfl hl.1 rfl rfl (Nat.le_of_ble_eq_true rfl) ⟨Nat.zero_le _, Nat.zero_le _⟩ dX8_weight_19 (fun H locs hP hS => ?_)
    refine lv_iadd hx hb dX8_weight_22 ?_
    refine lv_icmp_ge (tgt := 43) hx hb dX8_weight_23 (by decide) (fun hc => ?_) (fun hc => ?_)
    · have hm := if_t hc hm
      exact hk43 _ _ _ _ hP hS (lv_sub hl [0, 1, 2, 4] rfl) hm
    · have hm := if_f hc hm
      refine lv_iload hx hb dX8_weight_26 (lv_at hl 4 rfl) ?_
      refine lv_aload_n hx hb dX8_weight_28 rfl (lv_at hl 0 rfl) ?_
      refine lv_iload hx hb dX8_weight_29 (lv_at hl 5 rfl) ?_
      obtain ⟨r31, hq, hm⟩ := bd1_some hm
      refine k_callVI (As := [.int v5]) (rest := [.int v4]) ⟨hx, hb, hml, hown, hts⟩ hK hA hN (c_X8_lengthOf (a := a) hq) (cwV 1 hts gX8_weight_X8_lengthOf rfl rfl rfl hdX8_lengthOf ⟨Nat.le_of_ble_eq_true rfl, Nat.le_of_ble_eq_true rfl⟩) hP (va_D_re hD rfl) hS 0 8 rfl rfl rfl hl.1 rfl rfl (Nat.le_of_ble_eq_true rfl) ⟨Nat.zero_le _, Nat.zero_le _⟩ dX8_weight_31 (fun H locs hP hS => ?_)
      refine lv_iadd hx hb dX8_weight_34 ?_
      refine lv_istore (lv' := [(4, .int (v4 + r31)), (0, .ref (a 0)), (1, .int v1), (2, .int v2), (3, .int v3), (5, .int v5)]) hx hb dX8_weight_35 hl (by decide) rfl (fun ls hl => ?_)
      refine lv_iinc (v := (v5 + 1)) (lv' := [(5, .int (v5 + 1)), (4, .int (v4 + r31)), (0, .ref (a 0)), (1, .int v1), (2, .int v2), (3, .int v3)]) hx hb dX8_weight_37 hl (k := 5) rfl rfl (by decide) rfl (fun ls hl => ?_)
      refine lv_goto (tgt := 13) hx hb dX8_weight_40 (by decide) ?_
      exact ih _ _ _ _ _ _ hP hS (lv_sub hl [2, 3, 4, 5, 1, 0] rfl) hm
set_option maxRecDepth 100000 in
set_option maxHeartbeats 4000000 in
theorem t_M_weight_L83 {p : Program} {l : Launch} {e : Env} {s : State} {m : MethodId} {args : Array Value} {below : List Frame} {meth : Method} {c : Code} {Q : State → Prop} {A : Nat → Prop} {D : va_G} {cI cJ cB cL cS cW : ClassId} {a : Nat → Nat} {m_s m_past m_kept m_refused m_text m_asked m_heads m_forkBit m_forkFrom m_forkTo m_wayPage m_wayKnown m_wayGuess m_wayDiff m_wayRead m_wayPlace m_treeBit m_treeLeft m_treeRight m_treeAbove m_pileFrom m_pileTo m_pileAbove : Nat → Int32} {m_known m_typed m_askedLength m_entries m_forks m_guess m_diff m_read m_placeOf m_treeForks m_treeDeep : Int32} {v1 : Int32} {v2 : Int32} {r : Int32} (C : k_C p s m args meth c cX8_weight 9 (some .int) RX8 wsX8_weight D (kT cI cJ cB cL cS cW) A) (hD : va_D A (WM0 a cI)) (hret : ∀ (H : Heap) (locs : List Loc) (pc : Nat) (ls : Array Slot), decode cX8_weight pc = .ok (.ireturn, 1) → va_P D vwCl (WM a cI m_s m_past m_kept m_refused m_text m_asked m_heads m_forkBit m_forkFrom m_forkTo m_wayPage m_wayKnown m_wayGuess m_wayDiff m_wayRead m_wayPlace m_treeBit m_treeLeft m_treeRight m_treeAbove m_pileFrom m_pileTo m_pileAbove m_known m_typed m_askedLength m_entries m_forks m_guess m_diff m_read m_placeOf m_treeForks m_treeDeep) H → va_S A s.heap H locs → W p l e { frames := 4, cells := 0, slots := 0, locals := 92 } s m args below meth c H locs 0 0 Q (F0 m pc ls [.int r])) {k115 : Int32 → Int32 → Int32 → Int32 → Option (Int32)} (hk115 : ∀ (v4 : Int32) (v5 : Int32) (v6 : Int32) (v7 : Int32) (H : Heap) (locs : List Loc) (ls : Array Slot), va_P D vwCl (WM a cI m_s m_past m_kept m_refused m_text m_asked m_heads m_forkBit m_forkFrom m_forkTo m_wayPage m_wayKnown m_wayGuess m_wayDiff m_wayRead m_wayPlace m_treeBit m_treeLeft m_treeRight m_treeAbove m_pileFrom m_pileTo m_pileAbove m_known m_typed m_askedLength m_entries m_forks m_guess m_diff m_read m_placeOf m_treeForks m_treeDeep) H → va_S A s.heap H locs → lv_has ls 9 [(0, .ref (a 0)), (4, .int v4), (5, .int v5), (6, .int v6), (7, .int v7)] → k115 v4 v5 v6 v7 = some r → W p l e { frames := 4, cells := 0, slots := 0, locals := 92 } s m args below meth c H locs 0 0 Q (F0 m 115 ls [])) : ∀ n : Nat, ∀ (v4 : Int32) (v5 : Int32) (v6 : Int32) (v7 : Int32) (v8 : Int32) (H : Heap) (locs : List Loc) (ls : Array Slot), va_P D vwCl (WM a cI m_s m_past m_kept m_refused m_text m_asked m_heads m_forkBit m_forkFrom m_forkTo m_wayPage m_wayKnown m_wayGuess m_wayDiff m_wayRead m_wayPlace m_treeBit m_treeLeft m_treeRight m_treeAbove m_pileFrom m_pileTo m_pileAbove m_known m_typed m_askedLength m_entries m_forks m_guess m_diff m_read m_placeOf m_treeForks m_treeDeep) H → va_S A s.heap H locs → lv_has ls 9 [(0, .ref (a 0)), (4, .int v4), (5, .int v5), (6, .int v6), (7, .int v7), (8, .int v8)] → (M_weight_L83 m_s m_askedLength v1 v2 k115 n) v4 v5 v6 v7 v8 = some r → W p l e { frames := 4, cells := 0, slots := 0, locals := 92 } s m args below meth c H locs 0 0 Q (F0 m 83 ls []) := by
  obtain ⟨hx, hb, hml, hr, hown, hts, hlocks, hK, hA, hN⟩ := id C
  intro n
  induction n with
  | zero =>
    intro v4 v5 v6 v7 v8 H locs ls hP hS hl hm
    cases hm
  | succ n ih =>
    intro v4 v5 v6 v7 v8 H locs ls hP hS hl hm
    rw [M_weight_L83] at hm
    refine lv_iload hx hb dX8_weight_83 (lv_at hl 5 rfl) ?_
    refine lv_iload hx hb dX8_weight_85 (lv_at hl 3 rfl) ?_
    refine lv_icmp_ge (tgt := 115) hx hb dX8_weight_87 (by decide) (fun hc => ?_) (fun hc => ?_)
    · have hm := if_t hc hm
      exact hk115 _ _ _ _ _ _ _ hP hS (lv_sub hl [0, 1, 2, 3, 4] rfl) hm
    · have hm := if_f hc hm
      refine lv_iload hx hb dX8_weight_90 (lv_at hl 1 rfl) ?_
      refine lv_aload_n hx hb dX8_weight_92 rfl (lv_at hl 0 rfl) ?_
      refine lv_aload_n hx hb dX8_weight_93 rfl (lv_at hl 0 rfl) ?_
      refine lv_iload hx hb dX8_weight_94 (lv_at hl 4 rfl) ?_
      refine lv_iconst (v := 1) hx hb dX8_weight_96 (by decide) ?_
      refine lv_isub hx hb dX8_weight_97 ?_
      refine lv_iload hx hb dX8_weight_98 (lv_at hl 5 rfl) ?_
      obtain ⟨r100, hq, hm⟩ := bd1_some hm
      refine k_callVI (As := [.int (v7 - 1), .int v8]) (rest := [.ref (a 0), .int v4]) ⟨hx, hb, hml, hown, hts⟩ hK hA hN (c_X8_headOf (a := a) hq) (cwV 2 hts gX8_weight_X8_headOf rfl rfl rfl hdX8_headOf ⟨Nat.le_of_ble_eq_true rfl, Nat.le_of_ble_eq_true rfl⟩) hP (va_D_re hD rfl) hS 0 8 rfl rfl rfl hl.1 rfl rfl (Nat.le_of_ble_eq_true rfl) ⟨Nat.zero_le _, Nat.zero_le _⟩ dX8_weight_100 (fun H locs hP hS => ?_)
      obtain ⟨r103, hq, hm⟩ := bd1_some hm
      refine k_callVI (As := [.int r100]) (rest := [.int v4]) ⟨hx, hb, hml, hown, hts⟩ hK hA hN (c_X8_lengthOf (a := a) hq) (cwV 1 hts gX8_weight_X8_lengthOf rfl rfl rfl hdX8_lengthOf ⟨Nat.le_of_ble_eq_true rfl, Nat.le_of_ble_eq_true rfl⟩) hP (va_D_re hD rfl) hS 0 8 rfl rfl rfl hl.1 rfl rfl (Nat.le_of_ble_eq_true rfl) ⟨Nat.zero_le _, Nat.zero_le _⟩ dX8_weight_103 (fun H locs hP hS => ?_)
      refine lv_iadd hx hb dX8_weight_106 ?_
      refine lv_istore (lv' := [(4, .int (v4 + r103)), (0, .ref (a 0)), (5, .int v5), (6, .int v6), (7, .int v7), (8, .int v8)]) hx hb dX8_weight_107 hl (by decide) rfl (fun ls hl => ?_)
      refine lv_iinc (v := (v8 + 1)) (lv' := [(8, .int (v8 + 1)), (4, .int (v4 + r103)), (0, .ref (a 0)), (5, .int v5), (6, .int v6), (7, .int v7)]) hx hb dX8_weight_109 hl (k := 5) rfl rfl (by decide) rfl (fun ls hl => ?_)
      refine lv_goto (tgt := 83) hx hb dX8_weight_112 (by decide) ?_
      exact ih _ _ _ _ _ _ _ _ hP hS (lv_sub hl [2, 1, 3, 4, 5, 0] rfl) hm
set_option maxRecDepth 100000 in
set_option maxHeartbeats 4000000 in
theorem t_M_weight_L54 {p : Program} {l : Launch} {e : Env} {s : State} {m : MethodId} {args : Array Value} {below : List Frame} {meth : Method} {c : Code} {Q : State → Prop} {A : Nat → Prop} {D : va_G} {cI cJ cB cL cS cW : ClassId} {a : Nat → Nat} {m_s m_past m_kept m_refused m_text m_asked m_heads m_forkBit m_forkFrom m_forkTo m_wayPage m_wayKnown m_wayGuess m_wayDiff m_wayRead m_wayPlace m_treeBit m_treeLeft m_treeRight m_treeAbove m_pileFrom m_pileTo m_pileAbove : Nat → Int32} {m_known m_typed m_askedLength m_entries m_forks m_guess m_diff m_read m_placeOf m_treeForks m_treeDeep : Int32} {v1 : Int32} {v2 : Int32} {r : Int32} (C : k_C p s m args meth c cX8_weight 9 (some .int) RX8 wsX8_weight D (kT cI cJ cB cL cS cW) A) (hD : va_D A (WM0 a cI)) (hret : ∀ (H : Heap) (locs : List Loc) (pc : Nat) (ls : Array Slot), decode cX8_weight pc = .ok (.ireturn, 1) → va_P D vwCl (WM a cI m_s m_past m_kept m_refused m_text m_asked m_heads m_forkBit m_forkFrom m_forkTo m_wayPage m_wayKnown m_wayGuess m_wayDiff m_wayRead m_wayPlace m_treeBit m_treeLeft m_treeRight m_treeAbove m_pileFrom m_pileTo m_pileAbove m_known m_typed m_askedLength m_entries m_forks m_guess m_diff m_read m_placeOf m_treeForks m_treeDeep) H → va_S A s.heap H locs → W p l e { frames := 4, cells := 0, slots := 0, locals := 92 } s m args below meth c H locs 0 0 Q (F0 m pc ls [.int r])) {k121 : Int32 → Option (Int32)} (hk121 : ∀ (v4 : Int32) (H : Heap) (locs : List Loc) (ls : Array Slot), va_P D vwCl (WM a cI m_s m_past m_kept m_refused m_text m_asked m_heads m_forkBit m_forkFrom m_forkTo m_wayPage m_wayKnown m_wayGuess m_wayDiff m_wayRead m_wayPlace m_treeBit m_treeLeft m_treeRight m_treeAbove m_pileFrom m_pileTo m_pileAbove m_known m_typed m_askedLength m_entries m_forks m_guess m_diff m_read m_placeOf m_treeForks m_treeDeep) H → va_S A s.heap H locs → lv_has ls 9 [(4, .int v4)] → k121 v4 = some r → W p l e { frames := 4, cells := 0, slots := 0, locals := 92 } s m args below meth c H locs 0 0 Q (F0 m 121 ls [])) : ∀ n : Nat, ∀ (v4 : Int32) (v5 : Int32) (v6 : Int32) (v7 : Int32) (H : Heap) (locs : List Loc) (ls : Array Slot), va_P D vwCl (WM a cI m_s m_past m_kept m_refused m_text m_asked m_heads m_forkBit m_forkFrom m_forkTo m_wayPage m_wayKnown m_wayGuess m_wayDiff m_wayRead m_wayPlace m_treeBit m_treeLeft m_treeRight m_treeAbove m_pileFrom m_pileTo m_pileAbove m_known m_typed m_askedLength m_entries m_forks m_guess m_diff m_read m_placeOf m_treeForks m_treeDeep) H → va_S A s.heap H locs → lv_has ls 9 [(0, .ref (a 0)), (4, .int v4), (5, .int v5), (6, .int v6), (7, .int v7)] → (M_weight_L54 m_s m_askedLength v1 v2 k121 n) v4 v5 v6 v7 = some r → W p l e { frames := 4, cells := 0, slots := 0, locals := 92 } s m args below meth c H locs 0 0 Q (F0 m 54 ls []) := by
  obtain ⟨hx, hb, hml, hr, hown, hts, hlocks, hK, hA, hN⟩ := id C
  intro n
  induction n with
  | zero =>
    intro v4 v5 v6 v7 H locs ls hP hS hl hm
    cases hm
  | succ n ih =>
    intro v4 v5 v6 v7 H locs ls hP hS hl hm
    rw [M_weight_L54] at hm
    refine lv_iload hx hb dX8_weight_54 (lv_at hl 4 rfl) ?_
    refine lv_if_le (tgt := 121) hx hb dX8_weight_56 (by decide) (fun hc => ?_) (fun hc => ?_)
    · have hm := if_t hc hm
      exact hk121 _ _ _ _ hP hS (lv_sub hl [1] rfl) hm
    · have hm := if_f hc hm
      refine lv_aload_n hx hb dX8_weight_59 rfl (lv_at hl 0 rfl) ?_
      refine lv_iload hx hb dX8_weight_60 (lv_at hl 4 rfl) ?_
      refine lv_iload hx hb dX8_weight_62 (lv_at hl 2 rfl) ?_
      obtain ⟨r64, hq, hm⟩ := bd1_some hm
      refine k_callVI (As := [.int v7, .int v5]) (rest := []) ⟨hx, hb, hml, hown, hts⟩ hK hA hN (c_X8_entriesAhead (a := a) hq) (cwV 2 hts gX8_weight_X8_entriesAhead rfl rfl rfl hdX8_entriesAhead ⟨Nat.le_of_ble_eq_true rfl, Nat.le_of_ble_eq_true rfl⟩) hP (va_D_re hD rfl) hS 0 8 rfl rfl rfl hl.1 rfl rfl (Nat.le_of_ble_eq_true rfl) ⟨Nat.zero_le _, Nat.zero_le _⟩ dX8_weight_64 (fun H locs hP hS => ?_)
      refine lv_istore (lv' := [(5, .int r64), (0, .ref (a 0)), (4, .int v4), (6, .int v6), (7, .int v7)]) hx hb dX8_weight_67 hl (by decide) rfl (fun ls hl => ?_)
      refine lv_aload_n hx hb dX8_weight_69 rfl (lv_at hl 1 rfl) ?_
      refine lv_iload hx hb dX8_weight_70 (lv_at hl 4 rfl) ?_
      refine lv_iload hx hb dX8_weight_72 (lv_at hl 3 rfl) ?_
      obtain ⟨r74, hq, hm⟩ := bd1_some hm
      refine k_callVI (As := [.int v7, .int v6]) (rest := []) ⟨hx, hb, hml, hown, hts⟩ hK hA hN (c_X8_entriesAhead (a := a) hq) (cwV 2 hts gX8_weight_X8_entriesAhead rfl rfl rfl hdX8_entriesAhead ⟨Nat.le_of_ble_eq_true rfl, Nat.le_of_ble_eq_true rfl⟩) hP (va_D_re hD rfl) hS 0 8 rfl rfl rfl hl.1 rfl rfl (Nat.le_of_ble_eq_true rfl) ⟨Nat.zero_le _, Nat.zero_le _⟩ dX8_weight_74 (fun H locs hP hS => ?_)
      refine lv_istore (lv' := [(6, .int r74), (5, .int r64), (0, .ref (a 0)), (4, .int v4), (7, .int v7)]) hx hb dX8_weight_77 hl (by decide) rfl (fun ls hl => ?_)
      refine lv_iload hx hb dX8_weight_79 (lv_at hl 1 rfl) ?_
      refine lv_istore (lv' := [(8, .int r64), (6, .int r74), (5, .int r64), (0, .ref (a 0)), (4, .int v4), (7, .int v7)]) hx hb dX8_weight_81 hl (by decide) rfl (fun ls hl => ?_)
      refine t_M_weight_L83 C hD hret ?_ FU _ _ _ _ _ _ _ _ hP hS (lv_sub hl [3, 4, 2, 1, 5, 0] rfl) hm
      · intro v4 v5 v6 v7 H locs ls hP hS hl hm
        try dsimp only at hm
        refine lv_iinc (v := (v7 + (-1))) (lv' := [(7, .int (v7 + (-1))), (0, .ref (a 0)), (4, .int v4), (5, .int v5), (6, .int v6)]) hx hb dX8_weight_115 hl (k := 4) rfl rfl (by decide) rfl (fun ls hl => ?_)
        refine lv_goto (tgt := 54) hx hb dX8_weight_118 (by decide) ?_
        exact ih _ _ _ _ _ _ _ hP hS (lv_sub hl [1, 2, 3, 4, 0] rfl) hm
set_option maxRecDepth 100000 in
set_option maxHeartbeats 4000000 in
theorem c_X8_weight {l : Launch} {D : va_G} {cI cJ cB cL cS cW : ClassId} {a : Nat → Nat} {m_s m_past m_kept m_refused m_text m_asked m_heads m_forkBit m_forkFrom m_forkTo m_wayPage m_wayKnown m_wayGuess m_wayDiff m_wayRead m_wayPlace m_treeBit m_treeLeft m_treeRight m_treeAbove m_pileFrom m_pileTo m_pileAbove : Nat → Int32} {m_known m_typed m_askedLength m_entries m_forks m_guess m_diff m_read m_placeOf m_treeForks m_treeDeep : Int32} {v1 : Int32} {v2 : Int32} {r : Int32} (hm : M_weight m_s m_askedLength v1 v2 = some r) : k_MI l yX8_weight wsX8_weight { frames := 4, cells := 0, slots := 0, locals := 92 } D (kT cI cJ cB cL cS cW) [.ref (a 0), .int v1, .int v2] (WM a cI m_s m_past m_kept m_refused m_text m_asked m_heads m_forkBit m_forkFrom m_forkTo m_wayPage m_wayKnown m_wayGuess m_wayDiff m_wayRead m_wayPlace m_treeBit m_treeLeft m_treeRight m_treeAbove m_pileFrom m_pileTo m_pileAbove m_known m_typed m_askedLength m_entries m_forks m_guess m_diff m_read m_placeOf m_treeForks m_treeDeep) r (WM a cI m_s m_past m_kept m_refused m_text m_asked m_heads m_forkBit m_forkFrom m_forkTo m_wayPage m_wayKnown m_wayGuess m_wayDiff m_wayRead m_wayPlace m_treeBit m_treeLeft m_treeRight m_treeAbove m_pileFrom m_pileTo m_pileAbove m_known m_typed m_askedLength m_entries m_forks m_guess m_diff m_read m_placeOf m_treeForks m_treeDeep) := by
  refine k_ofI (cc := cX8_weight) (maxL := 9) (own := RX8) (by decide) rfl rfl (Nat.le_of_ble_eq_true rfl) ?_
  intro p e s m args below meth c A Q ls C hP hD hl hret
  have hD : va_D A (WM0 a cI) := va_D_re hD rfl
  have hS : va_S A s.heap s.heap [] := va_S.rf
  have hl : lv_has ls 9 [(0, .ref (a 0)), (1, .int v1), (2, .int v2)] := hl
  obtain ⟨hx, hb, hml, hr, hown, hts, hlocks, hK, hA, hN⟩ := id C
  rw [M_weight] at hm
  refine lv_aload_n hx hb dX8_weight_0 rfl (lv_at hl 0 rfl) ?_
  refine lv_iload_n hx hb dX8_weight_1 rfl (lv_at hl 1 rfl) ?_
  refine lv_iload_n hx hb dX8_weight_2 rfl (lv_at hl 2 rfl) ?_
  obtain ⟨r3, hq, hm⟩ := bd1_some hm
  refine k_callVI (As := [.int v1, .int v2]) (rest := []) ⟨hx, hb, hml, hown, hts⟩ hK hA hN (c_X8_headOf (a := a) hq) (cwV 2 hts gX8_weight_X8_headOf rfl rfl rfl hdX8_headOf ⟨Nat.le_of_ble_eq_true rfl, Nat.le_of_ble_eq_true rfl⟩) hP (va_D_re hD rfl) hS 0 8 rfl rfl rfl hl.1 rfl rfl (Nat.le_of_ble_eq_true rfl) ⟨Nat.zero_le _, Nat.zero_le _⟩ dX8_weight_3 (fun H locs hP hS => ?_)
  refine lv_istore_n (lv' := [(3, .int r3), (0, .ref (a 0)), (1, .int v1), (2, .int v2)]) hx hb dX8_weight_6 rfl hl (by decide) rfl (fun ls hl => ?_)
  refine lv_iconst (v := 0) hx hb dX8_weight_7 (by decide) ?_
  refine lv_istore (lv' := [(4, .int 0), (3, .int r3), (0, .ref (a 0)), (1, .int v1), (2, .int v2)]) hx hb dX8_weight_8 hl (by decide) rfl (fun ls hl => ?_)
  refine lv_iload_n hx hb dX8_weight_10 rfl (lv_at hl 1 rfl) ?_
  refine lv_istore (lv' := [(5, .int r3), (4, .int 0), (3, .int r3), (0, .ref (a 0)), (1, .int v1), (2, .int v2)]) hx hb dX8_weight_11 hl (by decide) rfl (fun ls hl => ?_)
  refine t_M_weight_L13 C hD hret ?_ FU _ _ _ _ _ _ hP hS (lv_sub hl [3, 4, 5, 2, 1, 0] rfl) hm
  · intro v4 H locs ls hP hS hl hm
    try dsimp only at hm
    refine lv_iload_n hx hb dX8_weight_43 rfl (lv_at hl 2 rfl) ?_
    refine lv_istore (lv' := [(5, .int v2), (0, .ref (a 0)), (1, .int v1), (2, .int v2), (4, .int v4)]) hx hb dX8_weight_44 hl (by decide) rfl (fun ls hl => ?_)
    refine lv_iload_n hx hb dX8_weight_46 rfl (lv_at hl 3 rfl) ?_
    refine lv_iconst (v := 1) hx hb dX8_weight_47 (by decide) ?_
    refine lv_iadd hx hb dX8_weight_48 ?_
    refine lv_istore (lv' := [(6, .int (v2 + 1)), (5, .int v2), (0, .ref (a 0)), (1, .int v1), (2, .int v2), (4, .int v4)]) hx hb dX8_weight_49 hl (by decide) rfl (fun ls hl => ?_)
    refine lv_iload_n hx hb dX8_weight_51 rfl (lv_at hl 3 rfl) ?_
    refine lv_istore (lv' := [(7, .int v1), (6, .int (v2 + 1)), (5, .int v2), (0, .ref (a 0)), (1, .int v1), (2, .int v2), (4, .int v4)]) hx hb dX8_weight_52 hl (by decide) rfl (fun ls hl => ?_)
    refine t_M_weight_L54 C hD hret ?_ FU _ _ _ _ _ _ _ hP hS (lv_sub hl [3, 6, 2, 1, 0] rfl) hm
    · intro v4 H locs ls hP hS hl hm
      try dsimp only at hm
      refine lv_iload hx hb dX8_weight_121 (lv_at hl 0 rfl) ?_
      obtain rfl := Option.some.inj hm
      exact hret _ _ _ _ dX8_weight_123 hP hS
theorem hdX8_pageFact : yX8_pageFact.cls = RX8 ∧ yX8_pageFact.cls ≠ "java/lang/invoke/MethodHandle" ∧ yX8_pageFact.cls ≠ "java/lang/invoke/VarHandle" ∧ (parseMethodDescriptor yX8_pageFact.desc).map (fun d => d.parameters.length) = some 3 := by decide +kernel
theorem hiX8_pageFact : ∀ w ∈ u_ws RX8 TX8 34, w ∈ wsX8_pageFact := by decide +kernel
theorem flX8_pageFact_254 : Cond.fieldLink RX8 254 "BlindPagesModel" "treeDeep" "I" ∈ wsX8_pageFact := by decide +kernel
def M_pageFact (m_s m_asked : Nat → Int32) (m_askedLength : Int32) (m_heads m_treeBit m_treeLeft m_treeRight m_treeAbove m_pileFrom m_pileTo m_pileAbove : Nat → Int32) (m_entries m_treeForks m_treeDeep : Int32) (v1 : Int32) (v2 : Int32) (v3 : Int32) : Option (Int32 × (Nat → Int32) × (Nat → Int32) × (Nat → Int32) × (Nat → Int32) × (Nat → Int32) × (Nat → Int32) × (Nat → Int32) × (Nat → Int32) × Int32 × Int32 × Int32) := if v3 = 0 then (some (v1, m_heads, m_treeBit, m_treeLeft, m_treeRight, m_treeAbove, m_pileFrom, m_pileTo, m_pileAbove, m_entries, m_treeForks, m_treeDeep)) else if v3 = 1 then (bd1 (M_sizeOf m_s v1 v2) fun r45 => some (r45, m_heads, m_treeBit, m_treeLeft, m_treeRight, m_treeAbove, m_pileFrom, m_pileTo, m_pileAbove, m_entries, m_treeForks, m_treeDeep)) else if v3 = 2 then (bd1 (M_wordsBeneath m_s v1 v2) fun r52 => some (r52, m_heads, m_treeBit, m_treeLeft, m_treeRight, m_treeAbove, m_pileFrom, m_pileTo, m_pileAbove, m_entries, m_treeForks, m_treeDeep)) else if v3 = 3 then (bd1 (M_headOf m_s v1 v2) fun r59 => some (r59, m_heads, m_treeBit, m_treeLeft, m_treeRight, m_treeAbove, m_pileFrom, m_pileTo, m_pileAbove, m_entries, m_treeForks, m_treeDeep)) else if v3 = 4 then (bd1 (M_topLevel m_s) fun r65 => if v1 = r65 then (some ((-1), m_heads, m_treeBit, m_treeLeft, m_treeRight, m_treeAbove, m_pileFrom, m_pileTo, m_pileAbove, m_entries, m_treeForks, m_treeDeep)) else (bd1 (M_over m_s v1 v2) fun r82 => bd1 (M_numberOf m_s (v1 + 1) r82) fun r85 => some (r85, m_heads, m_treeBit, m_treeLeft, m_treeRight, m_treeAbove, m_pileFrom, m_pileTo, m_pileAbove, m_entries, m_treeForks, m_treeDeep))) else if v3 = 5 then (bd11 (M_laysTree m_s m_asked m_askedLength m_heads m_treeBit m_treeLeft m_treeRight m_treeAbove m_pileFrom m_pileTo m_pileAbove m_entries m_treeForks m_treeDeep v1 v2) fun m_heads_92 m_treeBit_92 m_treeLeft_92 m_treeRight_92 m_treeAbove_92 m_pileFrom_92 m_pileTo_92 m_pileAbove_92 m_entries_92 m_treeForks_92 m_treeDeep_92 => some (m_treeDeep_92, m_heads_92, m_treeBit_92, m_treeLeft_92, m_treeRight_92, m_treeAbove_92, m_pileFrom_92, m_pileTo_92, m_pileAbove_92, m_entries_92, m_treeForks_92, m_treeDeep_92)) else (bd1 (M_weight m_s m_askedLength v1 v2) fun r103 => some (r103, m_heads, m_treeBit, m_treeLeft, m_treeRight, m_treeAbove, m_pileFrom, m_pileTo, m_pileAbove, m_entries, m_treeForks, m_treeDeep))
set_option maxRecDepth 100000 in
set_option maxHeartbeats 4000000 in
theorem c_X8_pageFact {l : Launch} {D : va_G} {cI cJ cB cL cS cW : ClassId} {a : Nat → Nat} {m_s m_past m_kept m_refused m_text m_asked m_heads m_forkBit m_forkFrom m_forkTo m_wayPage m_wayKnown m_wayGuess m_wayDiff m_wayRead m_wayPlace m_treeBit m_treeLeft m_treeRight m_treeAbove m_pileFrom m_pileTo m_pileAbove : Nat → Int32} {m_known m_typed m_askedLength m_entries m_forks m_guess m_diff m_read m_placeOf m_treeForks m_treeDeep : Int32} {v1 : Int32} {v2 : Int32} {v3 : Int32} {r : Int32} {o_heads : Nat → Int32} {o_treeBit : Nat → Int32} {o_treeLeft : Nat → Int32} {o_treeRight : Nat → Int32} {o_treeAbove : Nat → Int32} {o_pileFrom : Nat → Int32} {o_pileTo : Nat → Int32} {o_pileAbove : Nat → Int32} {o_entries : Int32} {o_treeForks : Int32} {o_treeDeep : Int32} (hm : M_pageFact m_s m_asked m_askedLength m_heads m_treeBit m_treeLeft m_treeRight m_treeAbove m_pileFrom m_pileTo m_pileAbove m_entries m_treeForks m_treeDeep v1 v2 v3 = some (r, o_heads, o_treeBit, o_treeLeft, o_treeRight, o_treeAbove, o_pileFrom, o_pileTo, o_pileAbove, o_entries, o_treeForks, o_treeDeep)) : k_MI l yX8_pageFact wsX8_pageFact { frames := 5, cells := 0, slots := 0, locals := 122 } D (kT cI cJ cB cL cS cW) [.ref (a 0), .int v1, .int v2, .int v3] (WM a cI m_s m_past m_kept m_refused m_text m_asked m_heads m_forkBit m_forkFrom m_forkTo m_wayPage m_wayKnown m_wayGuess m_wayDiff m_wayRead m_wayPlace m_treeBit m_treeLeft m_treeRight m_treeAbove m_pileFrom m_pileTo m_pileAbove m_known m_typed m_askedLength m_entries m_forks m_guess m_diff m_read m_placeOf m_treeForks m_treeDeep) r (WM a cI m_s m_past m_kept m_refused m_text m_asked o_heads m_forkBit m_forkFrom m_forkTo m_wayPage m_wayKnown m_wayGuess m_wayDiff m_wayRead m_wayPlace o_treeBit o_treeLeft o_treeRight o_treeAbove o_pileFrom o_pileTo o_pileAbove m_known m_typed m_askedLength o_entries m_forks m_guess m_diff m_read m_placeOf o_treeForks o_treeDeep) := by
  refine k_ofI (cc := cX8_pageFact) (maxL := 4) (own := RX8) (by decide) rfl rfl (Nat.le_of_ble_eq_true rfl) ?_
  intro p e s m args below meth c A Q ls C hP hD hl hret
  have hD : va_D A (WM0 a cI) := va_D_re hD rfl
  have hS : va_S A s.heap s.heap [] := va_S.rf
  have hl : lv_has ls 4 [(0, .ref (a 0)), (1, .int v1), (2, .int v2), (3, .int v3)] := hl
  obtain ⟨hx, hb, hml, hr, hown, hts, hlocks, hK, hA, hN⟩ := id C
  rw [M_pageFact] at hm
  refine lv_iload_n hx hb dX8_pageFact_0 rfl (lv_at hl 3 rfl) ?_
  by_cases hc0 : v3 = 0
  · have hm := if_t hc0 hm
    refine lv_tableIn (tgt := 40) (off := 39) hx hb dX8_pageFact_1 (by rw [hc0]; decide) (by rw [hc0]; decide) (by rw [hc0]; rfl) (by decide) ?_
    refine lv_iload_n hx hb dX8_pageFact_40 rfl (lv_at hl 1 rfl) ?_
    simp only [Option.some.injEq, Prod.mk.injEq] at hm
    obtain ⟨rfl, rfl, rfl, rfl, rfl, rfl, rfl, rfl, rfl, rfl, rfl, rfl⟩ := hm
    exact hret _ _ _ _ dX8_pageFact_41 hP hS
  have hm := if_f hc0 hm
  by_cases hc1 : v3 = 1
  · have hm := if_t hc1 hm
    refine lv_tableIn (tgt := 42) (off := 41) hx hb dX8_pageFact_1 (by rw [hc1]; decide) (by rw [hc1]; decide) (by rw [hc1]; rfl) (by decide) ?_
    refine lv_aload_n hx hb dX8_pageFact_42 rfl (lv_at hl 0 rfl) ?_
    refine lv_iload_n hx hb dX8_pageFact_43 rfl (lv_at hl 1 rfl) ?_
    refine lv_iload_n hx hb dX8_pageFact_44 rfl (lv_at hl 2 rfl) ?_
    obtain ⟨r45, hq, hm⟩ := bd1_some hm
    refine k_callVI (As := [.int v1, .int v2]) (rest := []) ⟨hx, hb, hml, hown, hts⟩ hK hA hN (c_X8_sizeOf (a := a) hq) (cwV 2 hts gX8_pageFact_X8_sizeOf rfl rfl rfl hdX8_sizeOf ⟨Nat.le_of_ble_eq_true rfl, Nat.le_of_ble_eq_true rfl⟩) hP (va_D_re hD rfl) hS 0 8 rfl rfl rfl hl.1 rfl rfl (Nat.le_of_ble_eq_true rfl) ⟨Nat.zero_le _, Nat.zero_le _⟩ dX8_pageFact_45 (fun H locs hP hS => ?_)
    simp only [Option.some.injEq, Prod.mk.injEq] at hm
    obtain ⟨rfl, rfl, rfl, rfl, rfl, rfl, rfl, rfl, rfl, rfl, rfl, rfl⟩ := hm
    exact hret _ _ _ _ dX8_pageFact_48 hP hS
  have hm := if_f hc1 hm
  by_cases hc2 : v3 = 2
  · have hm := if_t hc2 hm
    refine lv_tableIn (tgt := 49) (off := 48) hx hb dX8_pageFact_1 (by rw [hc2]; decide) (by rw [hc2]; decide) (by rw [hc2]; rfl) (by decide) ?_
    refine lv_aload_n hx hb dX8_pageFact_49 rfl (lv_at hl 0 rfl) ?_
    refine lv_iload_n hx hb dX8_pageFact_50 rfl (lv_at hl 1 rfl) ?_
    refine lv_iload_n hx hb dX8_pageFact_51 rfl (lv_at hl 2 rfl) ?_
    obtain ⟨r52, hq, hm⟩ := bd1_some hm
    refine k_callVI (As := [.int v1, .int v2]) (rest := []) ⟨hx, hb, hml, hown, hts⟩ hK hA hN (c_X8_wordsBeneath (a := a) hq) (cwV 2 hts gX8_pageFact_X8_wordsBeneath rfl rfl rfl hdX8_wordsBeneath ⟨Nat.le_of_ble_eq_true rfl, Nat.le_of_ble_eq_true rfl⟩) hP (va_D_re hD rfl) hS 0 8 rfl rfl rfl hl.1 rfl rfl (Nat.le_of_ble_eq_true rfl) ⟨Nat.zero_le _, Nat.zero_le _⟩ dX8_pageFact_52 (fun H locs hP hS => ?_)
    simp only [Option.some.injEq, Prod.mk.injEq] at hm
    obtain ⟨rfl, rfl, rfl, rfl, rfl, rfl, rfl, rfl, rfl, rfl, rfl, rfl⟩ := hm
    exact hret _ _ _ _ dX8_pageFact_55 hP hS
  have hm := if_f hc2 hm
  by_cases hc3 : v3 = 3
  · have hm := if_t hc3 hm
    refine lv_tableIn (tgt := 56) (off := 55) hx hb dX8_pageFact_1 (by rw [hc3]; decide) (by rw [hc3]; decide) (by rw [hc3]; rfl) (by decide) ?_
    refine lv_aload_n hx hb dX8_pageFact_56 rfl (lv_at hl 0 rfl) ?_
    refine lv_iload_n hx hb dX8_pageFact_57 rfl (lv_at hl 1 rfl) ?_
    refine lv_iload_n hx hb dX8_pageFact_58 rfl (lv_at hl 2 rfl) ?_
    obtain ⟨r59, hq, hm⟩ := bd1_some hm
    refine k_callVI (As := [.int v1, .int v2]) (rest := []) ⟨hx, hb, hml, hown, hts⟩ hK hA hN (c_X8_headOf (a := a) hq) (cwV 2 hts gX8_pageFact_X8_headOf rfl rfl rfl hdX8_headOf ⟨Nat.le_of_ble_eq_true rfl, Nat.le_of_ble_eq_true rfl⟩) hP (va_D_re hD rfl) hS 0 8 rfl rfl rfl hl.1 rfl rfl (Nat.le_of_ble_eq_true rfl) ⟨Nat.zero_le _, Nat.zero_le _⟩ dX8_pageFact_59 (fun H locs hP hS => ?_)
    simp only [Option.some.injEq, Prod.mk.injEq] at hm
    obtain ⟨rfl, rfl, rfl, rfl, rfl, rfl, rfl, rfl, rfl, rfl, rfl, rfl⟩ := hm
    exact hret _ _ _ _ dX8_pageFact_62 hP hS
  have hm := if_f hc3 hm
  by_cases hc4 : v3 = 4
  · have hm := if_t hc4 hm
    refine lv_tableIn (tgt := 63) (off := 62) hx hb dX8_pageFact_1 (by rw [hc4]; decide) (by rw [hc4]; decide) (by rw [hc4]; rfl) (by decide) ?_
    refine lv_iload_n hx hb dX8_pageFact_63 rfl (lv_at hl 1 rfl) ?_
    refine lv_aload_n hx hb dX8_pageFact_64 rfl (lv_at hl 0 rfl) ?_
    obtain ⟨r65, hq, hm⟩ := bd1_some hm
    refine k_callVI (As := []) (rest := [.int v1]) ⟨hx, hb, hml, hown, hts⟩ hK hA hN (c_X8_topLevel (a := a) hq) (cwV 0 hts gX8_pageFact_X8_topLevel rfl rfl rfl hdX8_topLevel ⟨Nat.le_of_ble_eq_true rfl, Nat.le_of_ble_eq_true rfl⟩) hP (va_D_re hD rfl) hS 0 8 rfl rfl rfl hl.1 rfl rfl (Nat.le_of_ble_eq_true rfl) ⟨Nat.zero_le _, Nat.zero_le _⟩ dX8_pageFact_65 (fun H locs hP hS => ?_)
    refine lv_icmp_ne (tgt := 75) hx hb dX8_pageFact_68 (by decide) (fun hc => ?_) (fun hc => ?_)
    · have hm := if_f hc hm
      refine lv_aload_n hx hb dX8_pageFact_75 rfl (lv_at hl 0 rfl) ?_
      refine lv_iload_n hx hb dX8_pageFact_76 rfl (lv_at hl 1 rfl) ?_
      refine lv_iconst (v := 1) hx hb dX8_pageFact_77 (by decide) ?_
      refine lv_iadd hx hb dX8_pageFact_78 ?_
      refine lv_aload_n hx hb dX8_pageFact_79 rfl (lv_at hl 0 rfl) ?_
      refine lv_iload_n hx hb dX8_pageFact_80 rfl (lv_at hl 1 rfl) ?_
      refine lv_iload_n hx hb dX8_pageFact_81 rfl (lv_at hl 2 rfl) ?_
      obtain ⟨r82, hq, hm⟩ := bd1_some hm
      refine k_callVI (As := [.int v1, .int v2]) (rest := [.int (v1 + 1), .ref (a 0)]) ⟨hx, hb, hml, hown, hts⟩ hK hA hN (c_X8_over (a := a) hq) (cwV 2 hts gX8_pageFact_X8_over rfl rfl rfl hdX8_over ⟨Nat.le_of_ble_eq_true rfl, Nat.le_of_ble_eq_true rfl⟩) hP (va_D_re hD rfl) hS 0 8 rfl rfl rfl hl.1 rfl rfl (Nat.le_of_ble_eq_true rfl) ⟨Nat.zero_le _, Nat.zero_le _⟩ dX8_pageFact_82 (fun H locs hP hS => ?_)
      obtain ⟨r85, hq, hm⟩ := bd1_some hm
      refine k_callVI (As := [.int (v1 + 1), .int r82]) (rest := []) ⟨hx, hb, hml, hown, hts⟩ hK hA hN (c_X8_numberOf (a := a) hq) (cwV 2 hts gX8_pageFact_X8_numberOf rfl rfl rfl hdX8_numberOf ⟨Nat.le_of_ble_eq_true rfl, Nat.le_of_ble_eq_true rfl⟩) hP (va_D_re hD rfl) hS 0 8 rfl rfl rfl hl.1 rfl rfl (Nat.le_of_ble_eq_true rfl) ⟨Nat.zero_le _, Nat.zero_le _⟩ dX8_pageFact_85 (fun H locs hP hS => ?_)
      simp only [Option.some.injEq, Prod.mk.injEq] at hm
      obtain ⟨rfl, rfl, rfl, rfl, rfl, rfl, rfl, rfl, rfl, rfl, rfl, rfl⟩ := hm
      exact hret _ _ _ _ dX8_pageFact_88 hP hS
    · have hm := if_t hc hm
      refine lv_iconst (v := (-1)) hx hb dX8_pageFact_71 (by decide) ?_
      refine lv_goto (tgt := 88) hx hb dX8_pageFact_72 (by decide) ?_
      simp only [Option.some.injEq, Prod.mk.injEq] at hm
      obtain ⟨rfl, rfl, rfl, rfl, rfl, rfl, rfl, rfl, rfl, rfl, rfl, rfl⟩ := hm
      exact hret _ _ _ _ dX8_pageFact_88 hP hS
  have hm := if_f hc4 hm
  by_cases hc5 : v3 = 5
  · have hm := if_t hc5 hm
    refine lv_tableIn (tgt := 89) (off := 88) hx hb dX8_pageFact_1 (by rw [hc5]; decide) (by rw [hc5]; decide) (by rw [hc5]; rfl) (by decide) ?_
    refine lv_aload_n hx hb dX8_pageFact_89 rfl (lv_at hl 0 rfl) ?_
    refine lv_iload_n hx hb dX8_pageFact_90 rfl (lv_at hl 1 rfl) ?_
    refine lv_iload_n hx hb dX8_pageFact_91 rfl (lv_at hl 2 rfl) ?_
    obtain ⟨m_heads_92, m_treeBit_92, m_treeLeft_92, m_treeRight_92, m_treeAbove_92, m_pileFrom_92, m_pileTo_92, m_pileAbove_92, m_entries_92, m_treeForks_92, m_treeDeep_92, hq, hm⟩ := bd11_some hm
    refine k_callVV (As := [.int v1, .int v2]) (rest := []) ⟨hx, hb, hml, hown, hts⟩ hK hA hN (c_X8_laysTree (a := a) hq) (cwV 2 hts gX8_pageFact_X8_laysTree rfl rfl rfl hdX8_laysTree ⟨Nat.le_of_ble_eq_true rfl, Nat.le_of_ble_eq_true rfl⟩) hP (va_D_re hD rfl) hS 0 8 rfl rfl rfl hl.1 rfl rfl (Nat.le_of_ble_eq_true rfl) ⟨Nat.zero_le _, Nat.zero_le _⟩ dX8_pageFact_92 (fun H locs hP hS => ?_)
    refine lv_aload_n hx hb dX8_pageFact_95 rfl (lv_at hl 0 rfl) ?_
    refine kg (v := .int m_treeDeep_92) hx hb hts hiX8_pageFact hown hK hP 0 rfl rfl 30 (by decide) flX8_pageFact_254 rfl rfl dX8_pageFact_96 ?_
    simp only [Option.some.injEq, Prod.mk.injEq] at hm
    obtain ⟨rfl, rfl, rfl, rfl, rfl, rfl, rfl, rfl, rfl, rfl, rfl, rfl⟩ := hm
    exact hret _ _ _ _ dX8_pageFact_99 hP hS
  have hm := if_f hc5 hm
  refine lv_tableOut (tgt := 100) hx hb dX8_pageFact_1 (sw_out0_5 hc0 hc1 hc2 hc3 hc4 hc5) (by decide) ?_
  refine lv_aload_n hx hb dX8_pageFact_100 rfl (lv_at hl 0 rfl) ?_
  refine lv_iload_n hx hb dX8_pageFact_101 rfl (lv_at hl 1 rfl) ?_
  refine lv_iload_n hx hb dX8_pageFact_102 rfl (lv_at hl 2 rfl) ?_
  obtain ⟨r103, hq, hm⟩ := bd1_some hm
  refine k_callVI (As := [.int v1, .int v2]) (rest := []) ⟨hx, hb, hml, hown, hts⟩ hK hA hN (c_X8_weight (a := a) hq) (cwV 2 hts gX8_pageFact_X8_weight rfl rfl rfl hdX8_weight ⟨Nat.le_of_ble_eq_true rfl, Nat.le_of_ble_eq_true rfl⟩) hP (va_D_re hD rfl) hS 0 8 rfl rfl rfl hl.1 rfl rfl (Nat.le_of_ble_eq_true rfl) ⟨Nat.zero_le _, Nat.zero_le _⟩ dX8_pageFact_103 (fun H locs hP hS => ?_)
  simp only [Option.some.injEq, Prod.mk.injEq] at hm
  obtain ⟨rfl, rfl, rfl, rfl, rfl, rfl, rfl, rfl, rfl, rfl, rfl, rfl⟩ := hm
  exact hret _ _ _ _ dX8_pageFact_106 hP hS
