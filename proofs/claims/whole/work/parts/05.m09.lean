theorem hdX8_dealt : yX8_dealt.cls = RX8 ∧ yX8_dealt.cls ≠ "java/lang/invoke/MethodHandle" ∧ yX8_dealt.cls ≠ "java/lang/invoke/VarHandle" ∧ (parseMethodDescriptor yX8_dealt.desc).map (fun d => d.parameters.length) = some 2 := by decide +kernel
theorem hiX8_dealt : ∀ w ∈ u_ws RX8 TX8 34, w ∈ wsX8_dealt := by decide +kernel
theorem flX8_dealt_7 : Cond.fieldLink RX8 7 "BlindPagesModel" "s" "[I" ∈ wsX8_dealt := by decide +kernel
def M_dealt_J47 (v1 : Int32) (v2 : Int32) (k21 : (Nat → Int32) → Int32 → Int32 → Option (Int32 × (Nat → Int32))) (k57 : (Nat → Int32) → Int32 → Option (Int32 × (Nat → Int32))) (m_s : (Nat → Int32)) (v3 : Int32) (v4 : Int32) (t1 : Int32) (t2 : Int32) (t3 : Int32) (t4 : Int32) : Option (Int32 × (Nat → Int32)) := bd1 (M_setSize m_s t1 t2 (t3 + t4)) fun m_s_48 => k21 m_s_48 v3 (v4 + 1)
def M_dealt_L21 (v1 : Int32) (v2 : Int32) (k57 : (Nat → Int32) → Int32 → Option (Int32 × (Nat → Int32))) : Nat → (Nat → Int32) → Int32 → Int32 → Option (Int32 × (Nat → Int32))
  | 0, _, _, _ => none
  | n + 1, m_s, v3, v4 => if v3 ≤ v4 then (k57 m_s v3) else (gz v3 (gz v3 (if (v2 - v2 / v3 * v3) ≤ v4 then (M_dealt_J47 v1 v2 (M_dealt_L21 v1 v2 k57 n) k57 m_s v3 v4 v1 v4 (v2 / v3) 0) else (M_dealt_J47 v1 v2 (M_dealt_L21 v1 v2 k57 n) k57 m_s v3 v4 v1 v4 (v2 / v3) 1))))
def M_dealt (m_s : Nat → Int32) (v1 : Int32) (v2 : Int32) : Option (Int32 × (Nat → Int32)) := gz (m_s 1) (M_dealt_L21 v1 v2 (fun m_s v3 => ga (3 + v1) 1552 (some (v3, (upd m_s (3 + v1).toNatClampNeg v3)))) FU m_s (((v2 + (m_s 1)) - 1) / (m_s 1)) 0)
set_option maxRecDepth 100000 in
set_option maxHeartbeats 4000000 in
theorem t_M_dealt_J47 {p : Program} {l : Launch} {e : Env} {s : State} {m : MethodId} {args : Array Value} {below : List Frame} {meth : Method} {c : Code} {Q : State → Prop} {A : Nat → Prop} {D : va_G} {cI cJ cB cL cS cW : ClassId} {a : Nat → Nat} {m_past m_kept m_refused m_text m_asked m_heads m_forkBit m_forkFrom m_forkTo m_wayPage m_wayKnown m_wayGuess m_wayDiff m_wayRead m_wayPlace m_treeBit m_treeLeft m_treeRight m_treeAbove m_pileFrom m_pileTo m_pileAbove : Nat → Int32} {m_known m_typed m_askedLength m_entries m_forks m_guess m_diff m_read m_placeOf m_treeForks m_treeDeep : Int32} {v1 : Int32} {v2 : Int32} {r : Int32} {o_s : Nat → Int32} (C : k_C p s m args meth c cX8_dealt 5 (some .int) RX8 wsX8_dealt D (kT cI cJ cB cL cS cW) A) (hD : va_D A (WM0 a cI)) (hret : ∀ (H : Heap) (locs : List Loc) (pc : Nat) (ls : Array Slot), decode cX8_dealt pc = .ok (.ireturn, 1) → va_P D vwCl (WM a cI o_s m_past m_kept m_refused m_text m_asked m_heads m_forkBit m_forkFrom m_forkTo m_wayPage m_wayKnown m_wayGuess m_wayDiff m_wayRead m_wayPlace m_treeBit m_treeLeft m_treeRight m_treeAbove m_pileFrom m_pileTo m_pileAbove m_known m_typed m_askedLength m_entries m_forks m_guess m_diff m_read m_placeOf m_treeForks m_treeDeep) H → va_S A s.heap H locs → W p l e { frames := 1, cells := 0, slots := 0, locals := 23 } s m args below meth c H locs 0 0 Q (F0 m pc ls [.int r])) {k21 : (Nat → Int32) → Int32 → Int32 → Option (Int32 × (Nat → Int32))} (hk21 : ∀ (m_s : (Nat → Int32)) (v3 : Int32) (v4 : Int32) (H : Heap) (locs : List Loc) (ls : Array Slot), va_P D vwCl (WM a cI m_s m_past m_kept m_refused m_text m_asked m_heads m_forkBit m_forkFrom m_forkTo m_wayPage m_wayKnown m_wayGuess m_wayDiff m_wayRead m_wayPlace m_treeBit m_treeLeft m_treeRight m_treeAbove m_pileFrom m_pileTo m_pileAbove m_known m_typed m_askedLength m_entries m_forks m_guess m_diff m_read m_placeOf m_treeForks m_treeDeep) H → va_S A s.heap H locs → lv_has ls 5 [(0, .ref (a 0)), (1, .int v1), (2, .int v2), (3, .int v3), (4, .int v4)] → k21 m_s v3 v4 = some (r, o_s) → W p l e { frames := 1, cells := 0, slots := 0, locals := 23 } s m args below meth c H locs 0 0 Q (F0 m 21 ls [])) {k57 : (Nat → Int32) → Int32 → Option (Int32 × (Nat → Int32))} (hk57 : ∀ (m_s : (Nat → Int32)) (v3 : Int32) (H : Heap) (locs : List Loc) (ls : Array Slot), va_P D vwCl (WM a cI m_s m_past m_kept m_refused m_text m_asked m_heads m_forkBit m_forkFrom m_forkTo m_wayPage m_wayKnown m_wayGuess m_wayDiff m_wayRead m_wayPlace m_treeBit m_treeLeft m_treeRight m_treeAbove m_pileFrom m_pileTo m_pileAbove m_known m_typed m_askedLength m_entries m_forks m_guess m_diff m_read m_placeOf m_treeForks m_treeDeep) H → va_S A s.heap H locs → lv_has ls 5 [(0, .ref (a 0)), (1, .int v1), (3, .int v3)] → k57 m_s v3 = some (r, o_s) → W p l e { frames := 1, cells := 0, slots := 0, locals := 23 } s m args below meth c H locs 0 0 Q (F0 m 57 ls [])) : ∀ (m_s : (Nat → Int32)) (v3 : Int32) (v4 : Int32) (t1 : Int32) (t2 : Int32) (t3 : Int32) (t4 : Int32) (H : Heap) (locs : List Loc) (ls : Array Slot), va_P D vwCl (WM a cI m_s m_past m_kept m_refused m_text m_asked m_heads m_forkBit m_forkFrom m_forkTo m_wayPage m_wayKnown m_wayGuess m_wayDiff m_wayRead m_wayPlace m_treeBit m_treeLeft m_treeRight m_treeAbove m_pileFrom m_pileTo m_pileAbove m_known m_typed m_askedLength m_entries m_forks m_guess m_diff m_read m_placeOf m_treeForks m_treeDeep) H → va_S A s.heap H locs → lv_has ls 5 [(0, .ref (a 0)), (1, .int v1), (2, .int v2), (3, .int v3), (4, .int v4)] → M_dealt_J47 v1 v2 k21 k57 m_s v3 v4 t1 t2 t3 t4 = some (r, o_s) → W p l e { frames := 1, cells := 0, slots := 0, locals := 23 } s m args below meth c H locs 0 0 Q (F0 m 47 ls [.int t4, .int t3, .int t2, .int t1, .ref (a 0)]) := by
  obtain ⟨hx, hb, hml, hr, hown, hts, hlocks, hK, hA, hN⟩ := id C
  intro m_s v3 v4 t1 t2 t3 t4 H locs ls hP hS hl hm
  rw [M_dealt_J47] at hm
  refine lv_iadd hx hb dX8_dealt_47 ?_
  obtain ⟨m_s_48, hq, hm⟩ := bd1_some hm
  refine k_callVV (As := [.int t1, .int t2, .int (t3 + t4)]) (rest := []) ⟨hx, hb, hml, hown, hts⟩ hK hA hN (c_X8_setSize (a := a) hq) (cwV 3 hts gX8_dealt_X8_setSize rfl rfl rfl hdX8_setSize ⟨Nat.le_of_ble_eq_true rfl, Nat.le_of_ble_eq_true rfl⟩) hP (va_D_re hD rfl) hS 0 8 rfl rfl rfl hl.1 rfl rfl (Nat.le_of_ble_eq_true rfl) ⟨Nat.zero_le _, Nat.zero_le _⟩ dX8_dealt_48 (fun H locs hP hS => ?_)
  refine lv_iinc (v := (v4 + 1)) (lv' := [(4, .int (v4 + 1)), (0, .ref (a 0)), (1, .int v1), (2, .int v2), (3, .int v3)]) hx hb dX8_dealt_51 hl (k := 4) rfl rfl (by decide) rfl (fun ls hl => ?_)
  refine lv_goto (tgt := 21) hx hb dX8_dealt_54 (by decide) ?_
  exact hk21 _ _ _ _ _ _ hP hS (lv_sub hl [1, 2, 3, 4, 0] rfl) hm
set_option maxRecDepth 100000 in
set_option maxHeartbeats 4000000 in
theorem t_M_dealt_L21 {p : Program} {l : Launch} {e : Env} {s : State} {m : MethodId} {args : Array Value} {below : List Frame} {meth : Method} {c : Code} {Q : State → Prop} {A : Nat → Prop} {D : va_G} {cI cJ cB cL cS cW : ClassId} {a : Nat → Nat} {m_past m_kept m_refused m_text m_asked m_heads m_forkBit m_forkFrom m_forkTo m_wayPage m_wayKnown m_wayGuess m_wayDiff m_wayRead m_wayPlace m_treeBit m_treeLeft m_treeRight m_treeAbove m_pileFrom m_pileTo m_pileAbove : Nat → Int32} {m_known m_typed m_askedLength m_entries m_forks m_guess m_diff m_read m_placeOf m_treeForks m_treeDeep : Int32} {v1 : Int32} {v2 : Int32} {r : Int32} {o_s : Nat → Int32} (C : k_C p s m args meth c cX8_dealt 5 (some .int) RX8 wsX8_dealt D (kT cI cJ cB cL cS cW) A) (hD : va_D A (WM0 a cI)) (hret : ∀ (H : Heap) (locs : List Loc) (pc : Nat) (ls : Array Slot), decode cX8_dealt pc = .ok (.ireturn, 1) → va_P D vwCl (WM a cI o_s m_past m_kept m_refused m_text m_asked m_heads m_forkBit m_forkFrom m_forkTo m_wayPage m_wayKnown m_wayGuess m_wayDiff m_wayRead m_wayPlace m_treeBit m_treeLeft m_treeRight m_treeAbove m_pileFrom m_pileTo m_pileAbove m_known m_typed m_askedLength m_entries m_forks m_guess m_diff m_read m_placeOf m_treeForks m_treeDeep) H → va_S A s.heap H locs → W p l e { frames := 1, cells := 0, slots := 0, locals := 23 } s m args below meth c H locs 0 0 Q (F0 m pc ls [.int r])) {k57 : (Nat → Int32) → Int32 → Option (Int32 × (Nat → Int32))} (hk57 : ∀ (m_s : (Nat → Int32)) (v3 : Int32) (H : Heap) (locs : List Loc) (ls : Array Slot), va_P D vwCl (WM a cI m_s m_past m_kept m_refused m_text m_asked m_heads m_forkBit m_forkFrom m_forkTo m_wayPage m_wayKnown m_wayGuess m_wayDiff m_wayRead m_wayPlace m_treeBit m_treeLeft m_treeRight m_treeAbove m_pileFrom m_pileTo m_pileAbove m_known m_typed m_askedLength m_entries m_forks m_guess m_diff m_read m_placeOf m_treeForks m_treeDeep) H → va_S A s.heap H locs → lv_has ls 5 [(0, .ref (a 0)), (1, .int v1), (3, .int v3)] → k57 m_s v3 = some (r, o_s) → W p l e { frames := 1, cells := 0, slots := 0, locals := 23 } s m args below meth c H locs 0 0 Q (F0 m 57 ls [])) : ∀ n : Nat, ∀ (m_s : (Nat → Int32)) (v3 : Int32) (v4 : Int32) (H : Heap) (locs : List Loc) (ls : Array Slot), va_P D vwCl (WM a cI m_s m_past m_kept m_refused m_text m_asked m_heads m_forkBit m_forkFrom m_forkTo m_wayPage m_wayKnown m_wayGuess m_wayDiff m_wayRead m_wayPlace m_treeBit m_treeLeft m_treeRight m_treeAbove m_pileFrom m_pileTo m_pileAbove m_known m_typed m_askedLength m_entries m_forks m_guess m_diff m_read m_placeOf m_treeForks m_treeDeep) H → va_S A s.heap H locs → lv_has ls 5 [(0, .ref (a 0)), (1, .int v1), (2, .int v2), (3, .int v3), (4, .int v4)] → (M_dealt_L21 v1 v2 k57 n) m_s v3 v4 = some (r, o_s) → W p l e { frames := 1, cells := 0, slots := 0, locals := 23 } s m args below meth c H locs 0 0 Q (F0 m 21 ls []) := by
  obtain ⟨hx, hb, hml, hr, hown, hts, hlocks, hK, hA, hN⟩ := id C
  intro n
  induction n with
  | zero =>
    intro m_s v3 v4 H locs ls hP hS hl hm
    cases hm
  | succ n ih =>
    intro m_s v3 v4 H locs ls hP hS hl hm
    rw [M_dealt_L21] at hm
    refine lv_iload hx hb dX8_dealt_21 (lv_at hl 4 rfl) ?_
    refine lv_iload_n hx hb dX8_dealt_23 rfl (lv_at hl 3 rfl) ?_
    refine lv_icmp_ge (tgt := 57) hx hb dX8_dealt_24 (by decide) (fun hc => ?_) (fun hc => ?_)
    · have hm := if_t hc hm
      exact hk57 _ _ _ _ _ hP hS (lv_sub hl [0, 1, 3] rfl) hm
    · have hm := if_f hc hm
      refine lv_aload_n hx hb dX8_dealt_27 rfl (lv_at hl 0 rfl) ?_
      refine lv_iload_n hx hb dX8_dealt_28 rfl (lv_at hl 1 rfl) ?_
      refine lv_iload hx hb dX8_dealt_29 (lv_at hl 4 rfl) ?_
      refine lv_iload_n hx hb dX8_dealt_31 rfl (lv_at hl 2 rfl) ?_
      refine lv_iload_n hx hb dX8_dealt_32 rfl (lv_at hl 3 rfl) ?_
      obtain ⟨hi, hm⟩ := gz_some hm
      refine lv_idiv hx hb dX8_dealt_33 hi ?_
      refine lv_iload hx hb dX8_dealt_34 (lv_at hl 4 rfl) ?_
      refine lv_iload_n hx hb dX8_dealt_36 rfl (lv_at hl 2 rfl) ?_
      refine lv_iload_n hx hb dX8_dealt_37 rfl (lv_at hl 3 rfl) ?_
      obtain ⟨hi, hm⟩ := gz_some hm
      refine lv_irem hx hb dX8_dealt_38 hi ?_
      refine lv_icmp_ge (tgt := 46) hx hb dX8_dealt_39 (by decide) (fun hc => ?_) (fun hc => ?_)
      · have hm := if_t hc hm
        refine lv_iconst (v := 0) hx hb dX8_dealt_46 (by decide) ?_
        exact t_M_dealt_J47 C hD hret ih hk57 _ _ _ _ _ _ _ _ _ _ hP hS (lv_sub hl [0, 1, 2, 3, 4] rfl) hm
      · have hm := if_f hc hm
        refine lv_iconst (v := 1) hx hb dX8_dealt_42 (by decide) ?_
        refine lv_goto (tgt := 47) hx hb dX8_dealt_43 (by decide) ?_
        exact t_M_dealt_J47 C hD hret ih hk57 _ _ _ _ _ _ _ _ _ _ hP hS (lv_sub hl [0, 1, 2, 3, 4] rfl) hm
set_option maxRecDepth 100000 in
set_option maxHeartbeats 4000000 in
theorem c_X8_dealt {l : Launch} {D : va_G} {cI cJ cB cL cS cW : ClassId} {a : Nat → Nat} {m_s m_past m_kept m_refused m_text m_asked m_heads m_forkBit m_forkFrom m_forkTo m_wayPage m_wayKnown m_wayGuess m_wayDiff m_wayRead m_wayPlace m_treeBit m_treeLeft m_treeRight m_treeAbove m_pileFrom m_pileTo m_pileAbove : Nat → Int32} {m_known m_typed m_askedLength m_entries m_forks m_guess m_diff m_read m_placeOf m_treeForks m_treeDeep : Int32} {v1 : Int32} {v2 : Int32} {r : Int32} {o_s : Nat → Int32} (hm : M_dealt m_s v1 v2 = some (r, o_s)) : k_MI l yX8_dealt wsX8_dealt { frames := 1, cells := 0, slots := 0, locals := 23 } D (kT cI cJ cB cL cS cW) [.ref (a 0), .int v1, .int v2] (WM a cI m_s m_past m_kept m_refused m_text m_asked m_heads m_forkBit m_forkFrom m_forkTo m_wayPage m_wayKnown m_wayGuess m_wayDiff m_wayRead m_wayPlace m_treeBit m_treeLeft m_treeRight m_treeAbove m_pileFrom m_pileTo m_pileAbove m_known m_typed m_askedLength m_entries m_forks m_guess m_diff m_read m_placeOf m_treeForks m_treeDeep) r (WM a cI o_s m_past m_kept m_refused m_text m_asked m_heads m_forkBit m_forkFrom m_forkTo m_wayPage m_wayKnown m_wayGuess m_wayDiff m_wayRead m_wayPlace m_treeBit m_treeLeft m_treeRight m_treeAbove m_pileFrom m_pileTo m_pileAbove m_known m_typed m_askedLength m_entries m_forks m_guess m_diff m_read m_placeOf m_treeForks m_treeDeep) := by
  refine k_ofI (cc := cX8_dealt) (maxL := 5) (own := RX8) (by decide) rfl rfl (Nat.le_of_ble_eq_true rfl) ?_
  intro p e s m args below meth c A Q ls C hP hD hl hret
  have hD : va_D A (WM0 a cI) := va_D_re hD rfl
  have hS : va_S A s.heap s.heap [] := va_S.rf
  have hl : lv_has ls 5 [(0, .ref (a 0)), (1, .int v1), (2, .int v2)] := hl
  obtain ⟨hx, hb, hml, hr, hown, hts, hlocks, hK, hA, hN⟩ := id C
  rw [M_dealt] at hm
  refine lv_iload_n hx hb dX8_dealt_0 rfl (lv_at hl 2 rfl) ?_
  refine lv_aload_n hx hb dX8_dealt_1 rfl (lv_at hl 0 rfl) ?_
  refine kg (v := .ref (a 1)) hx hb hts hiX8_dealt hown hK hP 0 rfl rfl 0 (by decide) flX8_dealt_7 rfl rfl dX8_dealt_2 ?_
  refine lv_iconst (v := 1) hx hb dX8_dealt_5 (by decide) ?_
  refine k_iald (j := 1) hx hb hK hP 1 0 rfl rfl rfl (vp_lit (by decide)) dX8_dealt_6 ?_
  refine lv_iadd hx hb dX8_dealt_7 ?_
  refine lv_iconst (v := 1) hx hb dX8_dealt_8 (by decide) ?_
  refine lv_isub hx hb dX8_dealt_9 ?_
  refine lv_aload_n hx hb dX8_dealt_10 rfl (lv_at hl 0 rfl) ?_
  refine kg (v := .ref (a 1)) hx hb hts hiX8_dealt hown hK hP 0 rfl rfl 0 (by decide) flX8_dealt_7 rfl rfl dX8_dealt_11 ?_
  refine lv_iconst (v := 1) hx hb dX8_dealt_14 (by decide) ?_
  refine k_iald (j := 1) hx hb hK hP 1 0 rfl rfl rfl (vp_lit (by decide)) dX8_dealt_15 ?_
  obtain ⟨hi, hm⟩ := gz_some hm
  refine lv_idiv hx hb dX8_dealt_16 hi ?_
  refine lv_istore_n (lv' := [(3, .int (((v2 + (m_s 1)) - 1) / (m_s 1))), (0, .ref (a 0)), (1, .int v1), (2, .int v2)]) hx hb dX8_dealt_17 rfl hl (by decide) rfl (fun ls hl => ?_)
  refine lv_iconst (v := 0) hx hb dX8_dealt_18 (by decide) ?_
  refine lv_istore (lv' := [(4, .int 0), (3, .int (((v2 + (m_s 1)) - 1) / (m_s 1))), (0, .ref (a 0)), (1, .int v1), (2, .int v2)]) hx hb dX8_dealt_19 hl (by decide) rfl (fun ls hl => ?_)
  refine t_M_dealt_L21 C hD hret ?_ FU _ _ _ _ _ _ hP hS (lv_sub hl [2, 3, 4, 1, 0] rfl) hm
  · intro m_s v3 H locs ls hP hS hl hm
    try dsimp only at hm
    refine lv_aload_n hx hb dX8_dealt_57 rfl (lv_at hl 0 rfl) ?_
    refine kg (v := .ref (a 1)) hx hb hts hiX8_dealt hown hK hP 0 rfl rfl 0 (by decide) flX8_dealt_7 rfl rfl dX8_dealt_58 ?_
    refine lv_iconst (v := 3) hx hb dX8_dealt_61 (by decide) ?_
    refine lv_iload_n hx hb dX8_dealt_62 rfl (lv_at hl 1 rfl) ?_
    refine lv_iadd hx hb dX8_dealt_63 ?_
    refine lv_iload_n hx hb dX8_dealt_64 rfl (lv_at hl 2 rfl) ?_
    obtain ⟨hi, hm⟩ := ga_some hm
    refine k_iast hx hb hK hP (va_D_re hD rfl) hS 1 0 rfl rfl rfl hi dX8_dealt_65 (fun H locs hP hS => ?_)
    have hP : va_P D vwCl (WM a cI (upd m_s (3 + v1).toNatClampNeg v3) m_past m_kept m_refused m_text m_asked m_heads m_forkBit m_forkFrom m_forkTo m_wayPage m_wayKnown m_wayGuess m_wayDiff m_wayRead m_wayPlace m_treeBit m_treeLeft m_treeRight m_treeAbove m_pileFrom m_pileTo m_pileAbove m_known m_typed m_askedLength m_entries m_forks m_guess m_diff m_read m_placeOf m_treeForks m_treeDeep) H := hP
    refine lv_iload_n hx hb dX8_dealt_66 rfl (lv_at hl 2 rfl) ?_
    simp only [Option.some.injEq, Prod.mk.injEq] at hm
    obtain ⟨rfl, rfl⟩ := hm
    exact hret _ _ _ _ dX8_dealt_67 hP hS
theorem hdX8_deals : yX8_deals.cls = RX8 ∧ yX8_deals.cls ≠ "java/lang/invoke/MethodHandle" ∧ yX8_deals.cls ≠ "java/lang/invoke/VarHandle" ∧ (parseMethodDescriptor yX8_deals.desc).map (fun d => d.parameters.length) = some 1 := by decide +kernel
theorem hiX8_deals : ∀ w ∈ u_ws RX8 TX8 34, w ∈ wsX8_deals := by decide +kernel
theorem flX8_deals_7 : Cond.fieldLink RX8 7 "BlindPagesModel" "s" "[I" ∈ wsX8_deals := by decide +kernel
def M_deals_L52 (v1 : Int32) (k92 : (Nat → Int32) → (Nat → Int32) → (Nat → Int32) → (Nat → Int32) → Int32 → Option (Int32 × (Nat → Int32) × (Nat → Int32) × (Nat → Int32) × (Nat → Int32) × Int32)) : Nat → (Nat → Int32) → (Nat → Int32) → (Nat → Int32) → (Nat → Int32) → Int32 → Int32 → Int32 → Option (Int32 × (Nat → Int32) × (Nat → Int32) × (Nat → Int32) × (Nat → Int32) × Int32)
  | 0, _, _, _, _, _, _, _ => none
  | n + 1, m_s, m_past, m_kept, m_refused, m_known, v2, v3 => if v3 = 0 then (k92 m_s m_past m_kept m_refused m_known) else (bd2 (M_dealt m_s (m_s 2) v2) fun r64 m_s_64 => if r64 ≤ 1 then (M_deals_L52 v1 k92 n (upd m_s_64 2 ((m_s_64 2) + 1)) m_past m_kept m_refused m_known r64 0) else (M_deals_L52 v1 k92 n (upd m_s_64 2 ((m_s_64 2) + 1)) m_past m_kept m_refused m_known r64 1))
def M_deals (m_s m_past m_kept m_refused : Nat → Int32) (m_known : Int32) (v1 : Int32) : Option (Int32 × (Nat → Int32) × (Nat → Int32) × (Nat → Int32) × (Nat → Int32) × Int32) := bd1 (M_in v1 4 8) fun r4 => if r4 = 0 then (bd2 (M_refuses m_refused (-2)) fun r13 m_refused_13 => some (r13, m_s, m_past, m_kept, m_refused_13, m_known)) else (bd1 (M_aside m_s m_kept) fun m_kept_18 => if ((upd (upd m_s 1 v1) 2 0) 0) ≤ 0 then (M_deals_L52 v1 (fun m_s m_past m_kept m_refused m_known => bd2 (M_keeps m_kept m_past m_known) fun m_past_93 m_known_93 => bd1 (M_manyPages m_s) fun r97 => some (r97, m_s, m_past_93, m_kept, m_refused, m_known_93)) FU (upd (upd m_s 1 v1) 2 0) m_past m_kept_18 m_refused m_known ((upd (upd m_s 1 v1) 2 0) 0) 0) else (M_deals_L52 v1 (fun m_s m_past m_kept m_refused m_known => bd2 (M_keeps m_kept m_past m_known) fun m_past_93 m_known_93 => bd1 (M_manyPages m_s) fun r97 => some (r97, m_s, m_past_93, m_kept, m_refused, m_known_93)) FU (upd (upd m_s 1 v1) 2 0) m_past m_kept_18 m_refused m_known ((upd (upd m_s 1 v1) 2 0) 0) 1))
set_option maxRecDepth 100000 in
set_option maxHeartbeats 4000000 in
theorem t_M_deals_L52 {p : Program} {l : Launch} {e : Env} {s : State} {m : MethodId} {args : Array Value} {below : List Frame} {meth : Method} {c : Code} {Q : State → Prop} {A : Nat → Prop} {D : va_G} {cI cJ cB cL cS cW : ClassId} {a : Nat → Nat} {m_text m_asked m_heads m_forkBit m_forkFrom m_forkTo m_wayPage m_wayKnown m_wayGuess m_wayDiff m_wayRead m_wayPlace m_treeBit m_treeLeft m_treeRight m_treeAbove m_pileFrom m_pileTo m_pileAbove : Nat → Int32} {m_typed m_askedLength m_entries m_forks m_guess m_diff m_read m_placeOf m_treeForks m_treeDeep : Int32} {v1 : Int32} {r : Int32} {o_s : Nat → Int32} {o_past : Nat → Int32} {o_kept : Nat → Int32} {o_refused : Nat → Int32} {o_known : Int32} (C : k_C p s m args meth c cX8_deals 4 (some .int) RX8 wsX8_deals D (kT cI cJ cB cL cS cW) A) (hD : va_D A (WM0 a cI)) (hret : ∀ (H : Heap) (locs : List Loc) (pc : Nat) (ls : Array Slot), decode cX8_deals pc = .ok (.ireturn, 1) → va_P D vwCl (WM a cI o_s o_past o_kept o_refused m_text m_asked m_heads m_forkBit m_forkFrom m_forkTo m_wayPage m_wayKnown m_wayGuess m_wayDiff m_wayRead m_wayPlace m_treeBit m_treeLeft m_treeRight m_treeAbove m_pileFrom m_pileTo m_pileAbove o_known m_typed m_askedLength m_entries m_forks m_guess m_diff m_read m_placeOf m_treeForks m_treeDeep) H → va_S A s.heap H locs → W p l e { frames := 2, cells := 0, slots := 0, locals := 47 } s m args below meth c H locs 0 0 Q (F0 m pc ls [.int r])) {k92 : (Nat → Int32) → (Nat → Int32) → (Nat → Int32) → (Nat → Int32) → Int32 → Option (Int32 × (Nat → Int32) × (Nat → Int32) × (Nat → Int32) × (Nat → Int32) × Int32)} (hk92 : ∀ (m_s : (Nat → Int32)) (m_past : (Nat → Int32)) (m_kept : (Nat → Int32)) (m_refused : (Nat → Int32)) (m_known : Int32) (H : Heap) (locs : List Loc) (ls : Array Slot), va_P D vwCl (WM a cI m_s m_past m_kept m_refused m_text m_asked m_heads m_forkBit m_forkFrom m_forkTo m_wayPage m_wayKnown m_wayGuess m_wayDiff m_wayRead m_wayPlace m_treeBit m_treeLeft m_treeRight m_treeAbove m_pileFrom m_pileTo m_pileAbove m_known m_typed m_askedLength m_entries m_forks m_guess m_diff m_read m_placeOf m_treeForks m_treeDeep) H → va_S A s.heap H locs → lv_has ls 4 [(0, .ref (a 0))] → k92 m_s m_past m_kept m_refused m_known = some (r, o_s, o_past, o_kept, o_refused, o_known) → W p l e { frames := 2, cells := 0, slots := 0, locals := 47 } s m args below meth c H locs 0 0 Q (F0 m 92 ls [])) : ∀ n : Nat, ∀ (m_s : (Nat → Int32)) (m_past : (Nat → Int32)) (m_kept : (Nat → Int32)) (m_refused : (Nat → Int32)) (m_known : Int32) (v2 : Int32) (v3 : Int32) (H : Heap) (locs : List Loc) (ls : Array Slot), va_P D vwCl (WM a cI m_s m_past m_kept m_refused m_text m_asked m_heads m_forkBit m_forkFrom m_forkTo m_wayPage m_wayKnown m_wayGuess m_wayDiff m_wayRead m_wayPlace m_treeBit m_treeLeft m_treeRight m_treeAbove m_pileFrom m_pileTo m_pileAbove m_known m_typed m_askedLength m_entries m_forks m_guess m_diff m_read m_placeOf m_treeForks m_treeDeep) H → va_S A s.heap H locs → lv_has ls 4 [(0, .ref (a 0)), (2, .int v2), (3, .int v3)] → (M_deals_L52 v1 k92 n) m_s m_past m_kept m_refused m_known v2 v3 = some (r, o_s, o_past, o_kept, o_refused, o_known) → W p l e { frames := 2, cells := 0, slots := 0, locals := 47 } s m args below meth c H locs 0 0 Q (F0 m 52 ls []) := by
  obtain ⟨hx, hb, hml, hr, hown, hts, hlocks, hK, hA, hN⟩ := id C
  intro n
  induction n with
  | zero =>
    intro m_s m_past m_kept m_refused m_known v2 v3 H locs ls hP hS hl hm
    cases hm
  | succ n ih =>
    intro m_s m_past m_kept m_refused m_known v2 v3 H locs ls hP hS hl hm
    rw [M_deals_L52] at hm
    refine lv_iload_n hx hb dX8_deals_52 rfl (lv_at hl 2 rfl) ?_
    refine lv_if_eq (tgt := 92) hx hb dX8_deals_53 (by decide) (fun hc => ?_) (fun hc => ?_)
    · have hm := if_t hc hm
      exact hk92 _ _ _ _ _ _ _ _ hP hS (lv_sub hl [0] rfl) hm
    · have hm := if_f hc hm
      refine lv_aload_n hx hb dX8_deals_56 rfl (lv_at hl 0 rfl) ?_
      refine lv_aload_n hx hb dX8_deals_57 rfl (lv_at hl 0 rfl) ?_
      refine kg (v := .ref (a 1)) hx hb hts hiX8_deals hown hK hP 0 rfl rfl 0 (by decide) flX8_deals_7 rfl rfl dX8_deals_58 ?_
      refine lv_iconst (v := 2) hx hb dX8_deals_61 (by decide) ?_
      refine k_iald (j := 2) hx hb hK hP 1 0 rfl rfl rfl (vp_lit (by decide)) dX8_deals_62 ?_
      refine lv_iload_n hx hb dX8_deals_63 rfl (lv_at hl 1 rfl) ?_
      obtain ⟨r64, m_s_64, hq, hm⟩ := bd2_some hm
      refine k_callVI (As := [.int (m_s 2), .int v2]) (rest := []) ⟨hx, hb, hml, hown, hts⟩ hK hA hN (c_X8_dealt (a := a) hq) (cwV 2 hts gX8_deals_X8_dealt rfl rfl rfl hdX8_dealt ⟨Nat.le_of_ble_eq_true rfl, Nat.le_of_ble_eq_true rfl⟩) hP (va_D_re hD rfl) hS 0 8 rfl rfl rfl hl.1 rfl rfl (Nat.le_of_ble_eq_true rfl) ⟨Nat.zero_le _, Nat.zero_le _⟩ dX8_deals_64 (fun H locs hP hS => ?_)
      refine lv_istore_n (lv' := [(2, .int r64), (0, .ref (a 0)), (3, .int v3)]) hx hb dX8_deals_67 rfl hl (by decide) rfl (fun ls hl => ?_)
      refine lv_aload_n hx hb dX8_deals_68 rfl (lv_at hl 1 rfl) ?_
      refine kg (v := .ref (a 1)) hx hb hts hiX8_deals hown hK hP 0 rfl rfl 0 (by decide) flX8_deals_7 rfl rfl dX8_deals_69 ?_
      refine lv_iconst (v := 2) hx hb dX8_deals_72 (by decide) ?_
      refine lv_dup2_11 hx hb dX8_deals_73 rfl rfl ?_
      refine k_iald (j := 2) hx hb hK hP 1 0 rfl rfl rfl (vp_lit (by decide)) dX8_deals_74 ?_
      refine lv_iconst (v := 1) hx hb dX8_deals_75 (by decide) ?_
      refine lv_iadd hx hb dX8_deals_76 ?_
      refine k_iast (j := 2) hx hb hK hP (va_D_re hD rfl) hS 1 0 rfl rfl rfl (vp_lit (by decide)) dX8_deals_77 (fun H locs hP hS => ?_)
      have hP : va_P D vwCl (WM a cI (upd m_s_64 2 ((m_s_64 2) + 1)) m_past m_kept m_refused m_text m_asked m_heads m_forkBit m_forkFrom m_forkTo m_wayPage m_wayKnown m_wayGuess m_wayDiff m_wayRead m_wayPlace m_treeBit m_treeLeft m_treeRight m_treeAbove m_pileFrom m_pileTo m_pileAbove m_known m_typed m_askedLength m_entries m_forks m_guess m_diff m_read m_placeOf m_treeForks m_treeDeep) H := hP
      refine lv_iload_n hx hb dX8_deals_78 rfl (lv_at hl 0 rfl) ?_
      refine lv_iconst (v := 1) hx hb dX8_deals_79 (by decide) ?_
      refine lv_icmp_le (tgt := 87) hx hb dX8_deals_80 (by decide) (fun hc => ?_) (fun hc => ?_)
      · have hm := if_t hc hm
        refine lv_iconst (v := 0) hx hb dX8_deals_87 (by decide) ?_
        refine lv_istore_n (lv' := [(3, .int 0), (2, .int r64), (0, .ref (a 0))]) hx hb dX8_deals_88 rfl hl (by decide) rfl (fun ls hl => ?_)
        refine lv_goto (tgt := 52) hx hb dX8_deals_89 (by decide) ?_
        exact ih _ _ _ _ _ _ _ _ _ _ hP hS (lv_sub hl [2, 1, 0] rfl) hm
      · have hm := if_f hc hm
        refine lv_iconst (v := 1) hx hb dX8_deals_83 (by decide) ?_
        refine lv_goto (tgt := 88) hx hb dX8_deals_84 (by decide) ?_
        refine lv_istore_n (lv' := [(3, .int 1), (2, .int r64), (0, .ref (a 0))]) hx hb dX8_deals_88 rfl hl (by decide) rfl (fun ls hl => ?_)
        refine lv_goto (tgt := 52) hx hb dX8_deals_89 (by decide) ?_
        exact ih _ _ _ _ _ _ _ _ _ _ hP hS (lv_sub hl [2, 1, 0] rfl) hm
set_option maxRecDepth 100000 in
set_option maxHeartbeats 4000000 in
theorem c_X8_deals {l : Launch} {D : va_G} {cI cJ cB cL cS cW : ClassId} {a : Nat → Nat} {m_s m_past m_kept m_refused m_text m_asked m_heads m_forkBit m_forkFrom m_forkTo m_wayPage m_wayKnown m_wayGuess m_wayDiff m_wayRead m_wayPlace m_treeBit m_treeLeft m_treeRight m_treeAbove m_pileFrom m_pileTo m_pileAbove : Nat → Int32} {m_known m_typed m_askedLength m_entries m_forks m_guess m_diff m_read m_placeOf m_treeForks m_treeDeep : Int32} {v1 : Int32} {r : Int32} {o_s : Nat → Int32} {o_past : Nat → Int32} {o_kept : Nat → Int32} {o_refused : Nat → Int32} {o_known : Int32} (hm : M_deals m_s m_past m_kept m_refused m_known v1 = some (r, o_s, o_past, o_kept, o_refused, o_known)) : k_MI l yX8_deals wsX8_deals { frames := 2, cells := 0, slots := 0, locals := 47 } D (kT cI cJ cB cL cS cW) [.ref (a 0), .int v1] (WM a cI m_s m_past m_kept m_refused m_text m_asked m_heads m_forkBit m_forkFrom m_forkTo m_wayPage m_wayKnown m_wayGuess m_wayDiff m_wayRead m_wayPlace m_treeBit m_treeLeft m_treeRight m_treeAbove m_pileFrom m_pileTo m_pileAbove m_known m_typed m_askedLength m_entries m_forks m_guess m_diff m_read m_placeOf m_treeForks m_treeDeep) r (WM a cI o_s o_past o_kept o_refused m_text m_asked m_heads m_forkBit m_forkFrom m_forkTo m_wayPage m_wayKnown m_wayGuess m_wayDiff m_wayRead m_wayPlace m_treeBit m_treeLeft m_treeRight m_treeAbove m_pileFrom m_pileTo m_pileAbove o_known m_typed m_askedLength m_entries m_forks m_guess m_diff m_read m_placeOf m_treeForks m_treeDeep) := by
  refine k_ofI (cc := cX8_deals) (maxL := 4) (own := RX8) (by decide) rfl rfl (Nat.le_of_ble_eq_true rfl) ?_
  intro p e s m args below meth c A Q ls C hP hD hl hret
  have hD : va_D A (WM0 a cI) := va_D_re hD rfl
  have hS : va_S A s.heap s.heap [] := va_S.rf
  have hl : lv_has ls 4 [(0, .ref (a 0)), (1, .int v1)] := hl
  obtain ⟨hx, hb, hml, hr, hown, hts, hlocks, hK, hA, hN⟩ := id C
  rw [M_deals] at hm
  refine lv_iload_n hx hb dX8_deals_0 rfl (lv_at hl 1 rfl) ?_
  refine lv_iconst (v := 4) hx hb dX8_deals_1 (by decide) ?_
  refine lv_bipush (v := 8) hx hb dX8_deals_2 (by decide) ?_
  obtain ⟨r4, hq, hm⟩ := bd1_some hm
  refine k_callSI (As := [.int v1, .int 4, .int 8]) (rest := []) ⟨hx, hb, hml, hown, hts⟩ hK hA hN (c_X8_in (a := a) hq) (va_cwS 3 hts gX8_deals_X8_in rfl rfl rfl hdX8_in ⟨Nat.le_of_ble_eq_true rfl, Nat.le_of_ble_eq_true rfl⟩) hP (va_D_re hD rfl) hS hl.1 rfl rfl (Nat.le_of_ble_eq_true rfl) ⟨Nat.zero_le _, Nat.zero_le _⟩ dX8_deals_4 (fun H locs hP hS => ?_)
  refine lv_if_ne (tgt := 17) hx hb dX8_deals_7 (by decide) (fun hc => ?_) (fun hc => ?_)
  · have hm := if_f hc hm
    refine lv_aload_n hx hb dX8_deals_17 rfl (lv_at hl 0 rfl) ?_
    obtain ⟨m_kept_18, hq, hm⟩ := bd1_some hm
    refine k_callVV (As := []) (rest := []) ⟨hx, hb, hml, hown, hts⟩ hK hA hN (c_X8_aside (a := a) hq) (cwV 0 hts gX8_deals_X8_aside rfl rfl rfl hdX8_aside ⟨Nat.le_of_ble_eq_true rfl, Nat.le_of_ble_eq_true rfl⟩) hP (va_D_re hD rfl) hS 0 8 rfl rfl rfl hl.1 rfl rfl (Nat.le_of_ble_eq_true rfl) ⟨Nat.zero_le _, Nat.zero_le _⟩ dX8_deals_18 (fun H locs hP hS => ?_)
    refine lv_aload_n hx hb dX8_deals_21 rfl (lv_at hl 0 rfl) ?_
    refine kg (v := .ref (a 1)) hx hb hts hiX8_deals hown hK hP 0 rfl rfl 0 (by decide) flX8_deals_7 rfl rfl dX8_deals_22 ?_
    refine lv_iconst (v := 1) hx hb dX8_deals_25 (by decide) ?_
    refine lv_iload_n hx hb dX8_deals_26 rfl (lv_at hl 1 rfl) ?_
    refine k_iast (j := 1) hx hb hK hP (va_D_re hD rfl) hS 1 0 rfl rfl rfl (vp_lit (by decide)) dX8_deals_27 (fun H locs hP hS => ?_)
    have hP : va_P D vwCl (WM a cI (upd m_s 1 v1) m_past m_kept_18 m_refused m_text m_asked m_heads m_forkBit m_forkFrom m_forkTo m_wayPage m_wayKnown m_wayGuess m_wayDiff m_wayRead m_wayPlace m_treeBit m_treeLeft m_treeRight m_treeAbove m_pileFrom m_pileTo m_pileAbove m_known m_typed m_askedLength m_entries m_forks m_guess m_diff m_read m_placeOf m_treeForks m_treeDeep) H := hP
    refine lv_aload_n hx hb dX8_deals_28 rfl (lv_at hl 0 rfl) ?_
    refine kg (v := .ref (a 1)) hx hb hts hiX8_deals hown hK hP 0 rfl rfl 0 (by decide) flX8_deals_7 rfl rfl dX8_deals_29 ?_
    refine lv_iconst (v := 2) hx hb dX8_deals_32 (by decide) ?_
    refine lv_iconst (v := 0) hx hb dX8_deals_33 (by decide) ?_
    refine k_iast (j := 2) hx hb hK hP (va_D_re hD rfl) hS 1 0 rfl rfl rfl (vp_lit (by decide)) dX8_deals_34 (fun H locs hP hS => ?_)
    have hP : va_P D vwCl (WM a cI (upd (upd m_s 1 v1) 2 0) m_past m_kept_18 m_refused m_text m_asked m_heads m_forkBit m_forkFrom m_forkTo m_wayPage m_wayKnown m_wayGuess m_wayDiff m_wayRead m_wayPlace m_treeBit m_treeLeft m_treeRight m_treeAbove m_pileFrom m_pileTo m_pileAbove m_known m_typed m_askedLength m_entries m_forks m_guess m_diff m_read m_placeOf m_treeForks m_treeDeep) H := hP
    refine lv_aload_n hx hb dX8_deals_35 rfl (lv_at hl 0 rfl) ?_
    refine kg (v := .ref (a 1)) hx hb hts hiX8_deals hown hK hP 0 rfl rfl 0 (by decide) flX8_deals_7 rfl rfl dX8_deals_36 ?_
    refine lv_iconst (v := 0) hx hb dX8_deals_39 (by decide) ?_
    refine k_iald (j := 0) hx hb hK hP 1 0 rfl rfl rfl (vp_lit (by decide)) dX8_deals_40 ?_
    refine lv_istore_n (lv' := [(2, .int ((upd (upd m_s 1 v1) 2 0) 0)), (0, .ref (a 0)), (1, .int v1)]) hx hb dX8_deals_41 rfl hl (by decide) rfl (fun ls hl => ?_)
    refine lv_iload_n hx hb dX8_deals_42 rfl (lv_at hl 0 rfl) ?_
    refine lv_if_le (tgt := 50) hx hb dX8_deals_43 (by decide) (fun hc => ?_) (fun hc => ?_)
    · have hm := if_t hc hm
      refine lv_iconst (v := 0) hx hb dX8_deals_50 (by decide) ?_
      refine lv_istore_n (lv' := [(3, .int 0), (2, .int ((upd (upd m_s 1 v1) 2 0) 0)), (0, .ref (a 0)), (1, .int v1)]) hx hb dX8_deals_51 rfl hl (by decide) rfl (fun ls hl => ?_)
      refine t_M_deals_L52 C hD hret ?_ FU _ _ _ _ _ _ _ _ _ _ hP hS (lv_sub hl [2, 1, 0] rfl) hm
      · intro m_s m_past m_kept m_refused m_known H locs ls hP hS hl hm
        try dsimp only at hm
        refine lv_aload_n hx hb dX8_deals_92 rfl (lv_at hl 0 rfl) ?_
        obtain ⟨m_past_93, m_known_93, hq, hm⟩ := bd2_some hm
        refine k_callVV (As := []) (rest := []) ⟨hx, hb, hml, hown, hts⟩ hK hA hN (c_X8_keeps (a := a) hq) (cwV 0 hts gX8_deals_X8_keeps rfl rfl rfl hdX8_keeps ⟨Nat.le_of_ble_eq_true rfl, Nat.le_of_ble_eq_true rfl⟩) hP (va_D_re hD rfl) hS 0 8 rfl rfl rfl hl.1 rfl rfl (Nat.le_of_ble_eq_true rfl) ⟨Nat.zero_le _, Nat.zero_le _⟩ dX8_deals_93 (fun H locs hP hS => ?_)
        refine lv_aload_n hx hb dX8_deals_96 rfl (lv_at hl 0 rfl) ?_
        obtain ⟨r97, hq, hm⟩ := bd1_some hm
        refine k_callVI (As := []) (rest := []) ⟨hx, hb, hml, hown, hts⟩ hK hA hN (c_X8_manyPages (a := a) hq) (cwV 0 hts gX8_deals_X8_manyPages rfl rfl rfl hdX8_manyPages ⟨Nat.le_of_ble_eq_true rfl, Nat.le_of_ble_eq_true rfl⟩) hP (va_D_re hD rfl) hS 0 8 rfl rfl rfl hl.1 rfl rfl (Nat.le_of_ble_eq_true rfl) ⟨Nat.zero_le _, Nat.zero_le _⟩ dX8_deals_97 (fun H locs hP hS => ?_)
        simp only [Option.some.injEq, Prod.mk.injEq] at hm
        obtain ⟨rfl, rfl, rfl, rfl, rfl, rfl⟩ := hm
        exact hret _ _ _ _ dX8_deals_100 hP hS
    · have hm := if_f hc hm
      refine lv_iconst (v := 1) hx hb dX8_deals_46 (by decide) ?_
      refine lv_goto (tgt := 51) hx hb dX8_deals_47 (by decide) ?_
      refine lv_istore_n (lv' := [(3, .int 1), (2, .int ((upd (upd m_s 1 v1) 2 0) 0)), (0, .ref (a 0)), (1, .int v1)]) hx hb dX8_deals_51 rfl hl (by decide) rfl (fun ls hl => ?_)
      refine t_M_deals_L52 C hD hret ?_ FU _ _ _ _ _ _ _ _ _ _ hP hS (lv_sub hl [2, 1, 0] rfl) hm
      · intro m_s m_past m_kept m_refused m_known H locs ls hP hS hl hm
        try dsimp only at hm
        refine lv_aload_n hx hb dX8_deals_92 rfl (lv_at hl 0 rfl) ?_
        obtain ⟨m_past_93, m_known_93, hq, hm⟩ := bd2_some hm
        refine k_callVV (As := []) (rest := []) ⟨hx, hb, hml, hown, hts⟩ hK hA hN (c_X8_keeps (a := a) hq) (cwV 0 hts gX8_deals_X8_keeps rfl rfl rfl hdX8_keeps ⟨Nat.le_of_ble_eq_true rfl, Nat.le_of_ble_eq_true rfl⟩) hP (va_D_re hD rfl) hS 0 8 rfl rfl rfl hl.1 rfl rfl (Nat.le_of_ble_eq_true rfl) ⟨Nat.zero_le _, Nat.zero_le _⟩ dX8_deals_93 (fun H locs hP hS => ?_)
        refine lv_aload_n hx hb dX8_deals_96 rfl (lv_at hl 0 rfl) ?_
        obtain ⟨r97, hq, hm⟩ := bd1_some hm
        refine k_callVI (As := []) (rest := []) ⟨hx, hb, hml, hown, hts⟩ hK hA hN (c_X8_manyPages (a := a) hq) (cwV 0 hts gX8_deals_X8_manyPages rfl rfl rfl hdX8_manyPages ⟨Nat.le_of_ble_eq_true rfl, Nat.le_of_ble_eq_true rfl⟩) hP (va_D_re hD rfl) hS 0 8 rfl rfl rfl hl.1 rfl rfl (Nat.le_of_ble_eq_true rfl) ⟨Nat.zero_le _, Nat.zero_le _⟩ dX8_deals_97 (fun H locs hP hS => ?_)
        simp only [Option.some.injEq, Prod.mk.injEq] at hm
        obtain ⟨rfl, rfl, rfl, rfl, rfl, rfl⟩ := hm
        exact hret _ _ _ _ dX8_deals_100 hP hS
  · have hm := if_t hc hm
    refine lv_aload_n hx hb dX8_deals_10 rfl (lv_at hl 0 rfl) ?_
    refine lv_bipush (v := (-2)) hx hb dX8_deals_11 (by decide) ?_
    obtain ⟨r13, m_refused_13, hq, hm⟩ := bd2_some hm
    refine k_callVI (As := [.int (-2)]) (rest := []) ⟨hx, hb, hml, hown, hts⟩ hK hA hN (c_X8_refuses (a := a) hq) (cwV 1 hts gX8_deals_X8_refuses rfl rfl rfl hdX8_refuses ⟨Nat.le_of_ble_eq_true rfl, Nat.le_of_ble_eq_true rfl⟩) hP (va_D_re hD rfl) hS 0 8 rfl rfl rfl hl.1 rfl rfl (Nat.le_of_ble_eq_true rfl) ⟨Nat.zero_le _, Nat.zero_le _⟩ dX8_deals_13 (fun H locs hP hS => ?_)
    simp only [Option.some.injEq, Prod.mk.injEq] at hm
    obtain ⟨rfl, rfl, rfl, rfl, rfl, rfl⟩ := hm
    exact hret _ _ _ _ dX8_deals_16 hP hS
theorem hdX8_anew : yX8_anew.cls = RX8 ∧ yX8_anew.cls ≠ "java/lang/invoke/MethodHandle" ∧ yX8_anew.cls ≠ "java/lang/invoke/VarHandle" ∧ (parseMethodDescriptor yX8_anew.desc).map (fun d => d.parameters.length) = some 0 := by decide +kernel
theorem hiX8_anew : ∀ w ∈ u_ws RX8 TX8 34, w ∈ wsX8_anew := by decide +kernel
theorem flX8_anew_7 : Cond.fieldLink RX8 7 "BlindPagesModel" "s" "[I" ∈ wsX8_anew := by decide +kernel
def M_anew (m_s m_past m_kept : Nat → Int32) (m_known : Int32) : Option (Int32 × (Nat → Int32) × (Nat → Int32) × (Nat → Int32) × Int32) := bd1 (M_aside m_s m_kept) fun m_kept_1 => bd2 (M_keeps m_kept_1 m_past m_known) fun m_past_33 m_known_33 => some ((m_s 0), (upd (upd (upd m_s 0 0) 2 0) 1 4), m_past_33, m_kept_1, m_known_33)
set_option maxRecDepth 100000 in
set_option maxHeartbeats 4000000 in
theorem c_X8_anew {l : Launch} {D : va_G} {cI cJ cB cL cS cW : ClassId} {a : Nat → Nat} {m_s m_past m_kept m_refused m_text m_asked m_heads m_forkBit m_forkFrom m_forkTo m_wayPage m_wayKnown m_wayGuess m_wayDiff m_wayRead m_wayPlace m_treeBit m_treeLeft m_treeRight m_treeAbove m_pileFrom m_pileTo m_pileAbove : Nat → Int32} {m_known m_typed m_askedLength m_entries m_forks m_guess m_diff m_read m_placeOf m_treeForks m_treeDeep : Int32} {r : Int32} {o_s : Nat → Int32} {o_past : Nat → Int32} {o_kept : Nat → Int32} {o_known : Int32} (hm : M_anew m_s m_past m_kept m_known = some (r, o_s, o_past, o_kept, o_known)) : k_MI l yX8_anew wsX8_anew { frames := 1, cells := 0, slots := 0, locals := 21 } D (kT cI cJ cB cL cS cW) [.ref (a 0)] (WM a cI m_s m_past m_kept m_refused m_text m_asked m_heads m_forkBit m_forkFrom m_forkTo m_wayPage m_wayKnown m_wayGuess m_wayDiff m_wayRead m_wayPlace m_treeBit m_treeLeft m_treeRight m_treeAbove m_pileFrom m_pileTo m_pileAbove m_known m_typed m_askedLength m_entries m_forks m_guess m_diff m_read m_placeOf m_treeForks m_treeDeep) r (WM a cI o_s o_past o_kept m_refused m_text m_asked m_heads m_forkBit m_forkFrom m_forkTo m_wayPage m_wayKnown m_wayGuess m_wayDiff m_wayRead m_wayPlace m_treeBit m_treeLeft m_treeRight m_treeAbove m_pileFrom m_pileTo m_pileAbove o_known m_typed m_askedLength m_entries m_forks m_guess m_diff m_read m_placeOf m_treeForks m_treeDeep) := by
  refine k_ofI (cc := cX8_anew) (maxL := 2) (own := RX8) (by decide) rfl rfl (Nat.le_of_ble_eq_true rfl) ?_
  intro p e s m args below meth c A Q ls C hP hD hl hret
  have hD : va_D A (WM0 a cI) := va_D_re hD rfl
  have hS : va_S A s.heap s.heap [] := va_S.rf
  have hl : lv_has ls 2 [(0, .ref (a 0))] := hl
  obtain ⟨hx, hb, hml, hr, hown, hts, hlocks, hK, hA, hN⟩ := id C
  rw [M_anew] at hm
  refine lv_aload_n hx hb dX8_anew_0 rfl (lv_at hl 0 rfl) ?_
  obtain ⟨m_kept_1, hq, hm⟩ := bd1_some hm
  refine k_callVV (As := []) (rest := []) ⟨hx, hb, hml, hown, hts⟩ hK hA hN (c_X8_aside (a := a) hq) (cwV 0 hts gX8_anew_X8_aside rfl rfl rfl hdX8_aside ⟨Nat.le_of_ble_eq_true rfl, Nat.le_of_ble_eq_true rfl⟩) hP (va_D_re hD rfl) hS 0 8 rfl rfl rfl hl.1 rfl rfl (Nat.le_of_ble_eq_true rfl) ⟨Nat.zero_le _, Nat.zero_le _⟩ dX8_anew_1 (fun H locs hP hS => ?_)
  refine lv_aload_n hx hb dX8_anew_4 rfl (lv_at hl 0 rfl) ?_
  refine kg (v := .ref (a 1)) hx hb hts hiX8_anew hown hK hP 0 rfl rfl 0 (by decide) flX8_anew_7 rfl rfl dX8_anew_5 ?_
  refine lv_iconst (v := 0) hx hb dX8_anew_8 (by decide) ?_
  refine k_iald (j := 0) hx hb hK hP 1 0 rfl rfl rfl (vp_lit (by decide)) dX8_anew_9 ?_
  refine lv_istore_n (lv' := [(1, .int (m_s 0)), (0, .ref (a 0))]) hx hb dX8_anew_10 rfl hl (by decide) rfl (fun ls hl => ?_)
  refine lv_aload_n hx hb dX8_anew_11 rfl (lv_at hl 1 rfl) ?_
  refine kg (v := .ref (a 1)) hx hb hts hiX8_anew hown hK hP 0 rfl rfl 0 (by decide) flX8_anew_7 rfl rfl dX8_anew_12 ?_
  refine lv_iconst (v := 0) hx hb dX8_anew_15 (by decide) ?_
  refine lv_iconst (v := 0) hx hb dX8_anew_16 (by decide) ?_
  refine k_iast (j := 0) hx hb hK hP (va_D_re hD rfl) hS 1 0 rfl rfl rfl (vp_lit (by decide)) dX8_anew_17 (fun H locs hP hS => ?_)
  have hP : va_P D vwCl (WM a cI (upd m_s 0 0) m_past m_kept_1 m_refused m_text m_asked m_heads m_forkBit m_forkFrom m_forkTo m_wayPage m_wayKnown m_wayGuess m_wayDiff m_wayRead m_wayPlace m_treeBit m_treeLeft m_treeRight m_treeAbove m_pileFrom m_pileTo m_pileAbove m_known m_typed m_askedLength m_entries m_forks m_guess m_diff m_read m_placeOf m_treeForks m_treeDeep) H := hP
  refine lv_aload_n hx hb dX8_anew_18 rfl (lv_at hl 1 rfl) ?_
  refine kg (v := .ref (a 1)) hx hb hts hiX8_anew hown hK hP 0 rfl rfl 0 (by decide) flX8_anew_7 rfl rfl dX8_anew_19 ?_
  refine lv_iconst (v := 2) hx hb dX8_anew_22 (by decide) ?_
  refine lv_iconst (v := 0) hx hb dX8_anew_23 (by decide) ?_
  refine k_iast (j := 2) hx hb hK hP (va_D_re hD rfl) hS 1 0 rfl rfl rfl (vp_lit (by decide)) dX8_anew_24 (fun H locs hP hS => ?_)
  have hP : va_P D vwCl (WM a cI (upd (upd m_s 0 0) 2 0) m_past m_kept_1 m_refused m_text m_asked m_heads m_forkBit m_forkFrom m_forkTo m_wayPage m_wayKnown m_wayGuess m_wayDiff m_wayRead m_wayPlace m_treeBit m_treeLeft m_treeRight m_treeAbove m_pileFrom m_pileTo m_pileAbove m_known m_typed m_askedLength m_entries m_forks m_guess m_diff m_read m_placeOf m_treeForks m_treeDeep) H := hP
  refine lv_aload_n hx hb dX8_anew_25 rfl (lv_at hl 1 rfl) ?_
  refine kg (v := .ref (a 1)) hx hb hts hiX8_anew hown hK hP 0 rfl rfl 0 (by decide) flX8_anew_7 rfl rfl dX8_anew_26 ?_
  refine lv_iconst (v := 1) hx hb dX8_anew_29 (by decide) ?_
  refine lv_iconst (v := 4) hx hb dX8_anew_30 (by decide) ?_
  refine k_iast (j := 1) hx hb hK hP (va_D_re hD rfl) hS 1 0 rfl rfl rfl (vp_lit (by decide)) dX8_anew_31 (fun H locs hP hS => ?_)
  have hP : va_P D vwCl (WM a cI (upd (upd (upd m_s 0 0) 2 0) 1 4) m_past m_kept_1 m_refused m_text m_asked m_heads m_forkBit m_forkFrom m_forkTo m_wayPage m_wayKnown m_wayGuess m_wayDiff m_wayRead m_wayPlace m_treeBit m_treeLeft m_treeRight m_treeAbove m_pileFrom m_pileTo m_pileAbove m_known m_typed m_askedLength m_entries m_forks m_guess m_diff m_read m_placeOf m_treeForks m_treeDeep) H := hP
  refine lv_aload_n hx hb dX8_anew_32 rfl (lv_at hl 1 rfl) ?_
  obtain ⟨m_past_33, m_known_33, hq, hm⟩ := bd2_some hm
  refine k_callVV (As := []) (rest := []) ⟨hx, hb, hml, hown, hts⟩ hK hA hN (c_X8_keeps (a := a) hq) (cwV 0 hts gX8_anew_X8_keeps rfl rfl rfl hdX8_keeps ⟨Nat.le_of_ble_eq_true rfl, Nat.le_of_ble_eq_true rfl⟩) hP (va_D_re hD rfl) hS 0 8 rfl rfl rfl hl.1 rfl rfl (Nat.le_of_ble_eq_true rfl) ⟨Nat.zero_le _, Nat.zero_le _⟩ dX8_anew_33 (fun H locs hP hS => ?_)
  refine lv_iload_n hx hb dX8_anew_36 rfl (lv_at hl 0 rfl) ?_
  simp only [Option.some.injEq, Prod.mk.injEq] at hm
  obtain ⟨rfl, rfl, rfl, rfl, rfl⟩ := hm
  exact hret _ _ _ _ dX8_anew_37 hP hS
theorem hdX8_finds : yX8_finds.cls = RX8 ∧ yX8_finds.cls ≠ "java/lang/invoke/MethodHandle" ∧ yX8_finds.cls ≠ "java/lang/invoke/VarHandle" ∧ (parseMethodDescriptor yX8_finds.desc).map (fun d => d.parameters.length) = some 1 := by decide +kernel
def M_finds (m_s m_text : Nat → Int32) (m_typed : Int32) (m_refused m_asked m_heads m_forkBit m_forkFrom m_forkTo m_wayPage m_wayKnown m_wayGuess m_wayDiff m_wayRead m_wayPlace : Nat → Int32) (m_askedLength m_entries m_forks m_guess m_diff m_read m_placeOf : Int32) (v1 : Int32) : Option (Int32 × (Nat → Int32) × (Nat → Int32) × (Nat → Int32) × (Nat → Int32) × (Nat → Int32) × (Nat → Int32) × (Nat → Int32) × (Nat → Int32) × (Nat → Int32) × (Nat → Int32) × (Nat → Int32) × (Nat → Int32) × Int32 × Int32 × Int32 × Int32 × Int32 × Int32 × Int32) := bd1 (M_in v1 0 2) fun r3 => if r3 = 0 then (bd2 (M_refuses m_refused (-2)) fun r12 m_refused_12 => some (r12, m_refused_12, m_asked, m_heads, m_forkBit, m_forkFrom, m_forkTo, m_wayPage, m_wayKnown, m_wayGuess, m_wayDiff, m_wayRead, m_wayPlace, m_askedLength, m_entries, m_forks, m_guess, m_diff, m_read, m_placeOf)) else (bd3 (M_isWord m_text m_typed m_asked m_askedLength) fun r17 m_asked_17 m_askedLength_17 => if r17 = 0 then (bd2 (M_refuses m_refused (-3)) fun r26 m_refused_26 => some (r26, m_refused_26, m_asked_17, m_heads, m_forkBit, m_forkFrom, m_forkTo, m_wayPage, m_wayKnown, m_wayGuess, m_wayDiff, m_wayRead, m_wayPlace, m_askedLength_17, m_entries, m_forks, m_guess, m_diff, m_read, m_placeOf)) else (if v1 = 0 then (bd1 (M_ahead m_s m_asked_17 m_askedLength_17) fun r35 => bd1 (M_isThere m_s m_asked_17 m_askedLength_17) fun r39 => if r39 = 0 then (some ((r35 + 0), m_refused, m_asked_17, m_heads, m_forkBit, m_forkFrom, m_forkTo, m_wayPage, m_wayKnown, m_wayGuess, m_wayDiff, m_wayRead, m_wayPlace, m_askedLength_17, m_entries, m_forks, m_guess, m_diff, m_read, m_placeOf)) else (some ((r35 + 1), m_refused, m_asked_17, m_heads, m_forkBit, m_forkFrom, m_forkTo, m_wayPage, m_wayKnown, m_wayGuess, m_wayDiff, m_wayRead, m_wayPlace, m_askedLength_17, m_entries, m_forks, m_guess, m_diff, m_read, m_placeOf))) else (if v1 = 1 then (bd1 (M_isThere m_s m_asked_17 m_askedLength_17) fun r60 => if r60 = 0 then (some (0, m_refused, m_asked_17, m_heads, m_forkBit, m_forkFrom, m_forkTo, m_wayPage, m_wayKnown, m_wayGuess, m_wayDiff, m_wayRead, m_wayPlace, m_askedLength_17, m_entries, m_forks, m_guess, m_diff, m_read, m_placeOf)) else (some (1, m_refused, m_asked_17, m_heads, m_forkBit, m_forkFrom, m_forkTo, m_wayPage, m_wayKnown, m_wayGuess, m_wayDiff, m_wayRead, m_wayPlace, m_askedLength_17, m_entries, m_forks, m_guess, m_diff, m_read, m_placeOf))) else (bd17 (M_cost m_s m_asked_17 m_askedLength_17 m_heads m_forkBit m_forkFrom m_forkTo m_wayPage m_wayKnown m_wayGuess m_wayDiff m_wayRead m_wayPlace m_entries m_forks m_guess m_diff m_read m_placeOf) fun r75 m_heads_75 m_forkBit_75 m_forkFrom_75 m_forkTo_75 m_wayPage_75 m_wayKnown_75 m_wayGuess_75 m_wayDiff_75 m_wayRead_75 m_wayPlace_75 m_entries_75 m_forks_75 m_guess_75 m_diff_75 m_read_75 m_placeOf_75 => some (r75, m_refused, m_asked_17, m_heads_75, m_forkBit_75, m_forkFrom_75, m_forkTo_75, m_wayPage_75, m_wayKnown_75, m_wayGuess_75, m_wayDiff_75, m_wayRead_75, m_wayPlace_75, m_askedLength_17, m_entries_75, m_forks_75, m_guess_75, m_diff_75, m_read_75, m_placeOf_75)))))
set_option maxRecDepth 100000 in
set_option maxHeartbeats 4000000 in
theorem c_X8_finds {l : Launch} {D : va_G} {cI cJ cB cL cS cW : ClassId} {a : Nat → Nat} {m_s m_past m_kept m_refused m_text m_asked m_heads m_forkBit m_forkFrom m_forkTo m_wayPage m_wayKnown m_wayGuess m_wayDiff m_wayRead m_wayPlace m_treeBit m_treeLeft m_treeRight m_treeAbove m_pileFrom m_pileTo m_pileAbove : Nat → Int32} {m_known m_typed m_askedLength m_entries m_forks m_guess m_diff m_read m_placeOf m_treeForks m_treeDeep : Int32} {v1 : Int32} {r : Int32} {o_refused : Nat → Int32} {o_asked : Nat → Int32} {o_heads : Nat → Int32} {o_forkBit : Nat → Int32} {o_forkFrom : Nat → Int32} {o_forkTo : Nat → Int32} {o_wayPage : Nat → Int32} {o_wayKnown : Nat → Int32} {o_wayGuess : Nat → Int32} {o_wayDiff : Nat → Int32} {o_wayRead : Nat → Int32} {o_wayPlace : Nat → Int32} {o_askedLength : Int32} {o_entries : Int32} {o_forks : Int32} {o_guess : Int32} {o_diff : Int32} {o_read : Int32} {o_placeOf : Int32} (hm : M_finds m_s m_text m_typed m_refused m_asked m_heads m_forkBit m_forkFrom m_forkTo m_wayPage m_wayKnown m_wayGuess m_wayDiff m_wayRead m_wayPlace m_askedLength m_entries m_forks m_guess m_diff m_read m_placeOf v1 = some (r, o_refused, o_asked, o_heads, o_forkBit, o_forkFrom, o_forkTo, o_wayPage, o_wayKnown, o_wayGuess, o_wayDiff, o_wayRead, o_wayPlace, o_askedLength, o_entries, o_forks, o_guess, o_diff, o_read, o_placeOf)) : k_MI l yX8_finds wsX8_finds { frames := 7, cells := 0, slots := 0, locals := 170 } D (kT cI cJ cB cL cS cW) [.ref (a 0), .int v1] (WM a cI m_s m_past m_kept m_refused m_text m_asked m_heads m_forkBit m_forkFrom m_forkTo m_wayPage m_wayKnown m_wayGuess m_wayDiff m_wayRead m_wayPlace m_treeBit m_treeLeft m_treeRight m_treeAbove m_pileFrom m_pileTo m_pileAbove m_known m_typed m_askedLength m_entries m_forks m_guess m_diff m_read m_placeOf m_treeForks m_treeDeep) r (WM a cI m_s m_past m_kept o_refused m_text o_asked o_heads o_forkBit o_forkFrom o_forkTo o_wayPage o_wayKnown o_wayGuess o_wayDiff o_wayRead o_wayPlace m_treeBit m_treeLeft m_treeRight m_treeAbove m_pileFrom m_pileTo m_pileAbove m_known m_typed o_askedLength o_entries o_forks o_guess o_diff o_read o_placeOf m_treeForks m_treeDeep) := by
  refine k_ofI (cc := cX8_finds) (maxL := 2) (own := RX8) (by decide) rfl rfl (Nat.le_of_ble_eq_true rfl) ?_
  intro p e s m args below meth c A Q ls C hP hD hl hret
  have hD : va_D A (WM0 a cI) := va_D_re hD rfl
  have hS : va_S A s.heap s.heap [] := va_S.rf
  have hl : lv_has ls 2 [(0, .ref (a 0)), (1, .int v1)] := hl
  obtain ⟨hx, hb, hml, hr, hown, hts, hlocks, hK, hA, hN⟩ := id C
  rw [M_finds] at hm
  refine lv_iload_n hx hb dX8_finds_0 rfl (lv_at hl 1 rfl) ?_
  refine lv_iconst (v := 0) hx hb dX8_finds_1 (by decide) ?_
  refine lv_iconst (v := 2) hx hb dX8_finds_2 (by decide) ?_
  obtain ⟨r3, hq, hm⟩ := bd1_some hm
  refine k_callSI (As := [.int v1, .int 0, .int 2]) (rest := []) ⟨hx, hb, hml, hown, hts⟩ hK hA hN (c_X8_in (a := a) hq) (va_cwS 3 hts gX8_finds_X8_in rfl rfl rfl hdX8_in ⟨Nat.le_of_ble_eq_true rfl, Nat.le_of_ble_eq_true rfl⟩) hP (va_D_re hD rfl) hS hl.1 rfl rfl (Nat.le_of_ble_eq_true rfl) ⟨Nat.zero_le _, Nat.zero_le _⟩ dX8_finds_3 (fun H locs hP hS => ?_)
  refine lv_if_ne (tgt := 16) hx hb dX8_finds_6 (by decide) (fun hc => ?_) (fun hc => ?_)
  · have hm := if_f hc hm
    refine lv_aload_n hx hb dX8_finds_16 rfl (lv_at hl 0 rfl) ?_
    obtain ⟨r17, m_asked_17, m_askedLength_17, hq, hm⟩ := bd3_some hm
    refine k_callVI (As := []) (rest := []) ⟨hx, hb, hml, hown, hts⟩ hK hA hN (c_X8_isWord (a := a) hq) (cwV 0 hts gX8_finds_X8_isWord rfl rfl rfl hdX8_isWord ⟨Nat.le_of_ble_eq_true rfl, Nat.le_of_ble_eq_true rfl⟩) hP (va_D_re hD rfl) hS 0 8 rfl rfl rfl hl.1 rfl rfl (Nat.le_of_ble_eq_true rfl) ⟨Nat.zero_le _, Nat.zero_le _⟩ dX8_finds_17 (fun H locs hP hS => ?_)
    refine lv_if_ne (tgt := 30) hx hb dX8_finds_20 (by decide) (fun hc => ?_) (fun hc => ?_)
    · have hm := if_f hc hm
      refine lv_iload_n hx hb dX8_finds_30 rfl (lv_at hl 1 rfl) ?_
      refine lv_if_ne (tgt := 54) hx hb dX8_finds_31 (by decide) (fun hc => ?_) (fun hc => ?_)
      · have hm := if_f hc hm
        refine lv_iload_n hx hb dX8_finds_54 rfl (lv_at hl 1 rfl) ?_
        refine lv_iconst (v := 1) hx hb dX8_finds_55 (by decide) ?_
        refine lv_icmp_ne (tgt := 74) hx hb dX8_finds_56 (by decide) (fun hc => ?_) (fun hc => ?_)
        · have hm := if_f hc hm
          refine lv_aload_n hx hb dX8_finds_74 rfl (lv_at hl 0 rfl) ?_
          obtain ⟨r75, m_heads_75, m_forkBit_75, m_forkFrom_75, m_forkTo_75, m_wayPage_75, m_wayKnown_75, m_wayGuess_75, m_wayDiff_75, m_wayRead_75, m_wayPlace_75, m_entries_75, m_forks_75, m_guess_75, m_diff_75, m_read_75, m_placeOf_75, hq, hm⟩ := bd17_some hm
          refine k_callVI (As := []) (rest := []) ⟨hx, hb, hml, hown, hts⟩ hK hA hN (c_X8_cost (a := a) hq) (cwV 0 hts gX8_finds_X8_cost rfl rfl rfl hdX8_cost ⟨Nat.le_of_ble_eq_true rfl, Nat.le_of_ble_eq_true rfl⟩) hP (va_D_re hD rfl) hS 0 8 rfl rfl rfl hl.1 rfl rfl (Nat.le_of_ble_eq_true rfl) ⟨Nat.zero_le _, Nat.zero_le _⟩ dX8_finds_75 (fun H locs hP hS => ?_)
          simp only [Option.some.injEq, Prod.mk.injEq] at hm
          obtain ⟨rfl, rfl, rfl, rfl, rfl, rfl, rfl, rfl, rfl, rfl, rfl, rfl, rfl, rfl, rfl, rfl, rfl, rfl, rfl, rfl⟩ := hm
          exact hret _ _ _ _ dX8_finds_78 hP hS
        · have hm := if_t hc hm
          refine lv_aload_n hx hb dX8_finds_59 rfl (lv_at hl 0 rfl) ?_
          obtain ⟨r60, hq, hm⟩ := bd1_some hm
          refine k_callVI (As := []) (rest := []) ⟨hx, hb, hml, hown, hts⟩ hK hA hN (c_X8_isThere (a := a) hq) (cwV 0 hts gX8_finds_X8_isThere rfl rfl rfl hdX8_isThere ⟨Nat.le_of_ble_eq_true rfl, Nat.le_of_ble_eq_true rfl⟩) hP (va_D_re hD rfl) hS 0 8 rfl rfl rfl hl.1 rfl rfl (Nat.le_of_ble_eq_true rfl) ⟨Nat.zero_le _, Nat.zero_le _⟩ dX8_finds_60 (fun H locs hP hS => ?_)
          refine lv_if_eq (tgt := 70) hx hb dX8_finds_63 (by decide) (fun hc => ?_) (fun hc => ?_)
          · have hm := if_t hc hm
            refine lv_iconst (v := 0) hx hb dX8_finds_70 (by decide) ?_
            refine lv_goto (tgt := 78) hx hb dX8_finds_71 (by decide) ?_
            simp only [Option.some.injEq, Prod.mk.injEq] at hm
            obtain ⟨rfl, rfl, rfl, rfl, rfl, rfl, rfl, rfl, rfl, rfl, rfl, rfl, rfl, rfl, rfl, rfl, rfl, rfl, rfl, rfl⟩ := hm
            exact hret _ _ _ _ dX8_finds_78 hP hS
          · have hm := if_f hc hm
            refine lv_iconst (v := 1) hx hb dX8_finds_66 (by decide) ?_
            refine lv_goto (tgt := 78) hx hb dX8_finds_67 (by decide) ?_
            simp only [Option.some.injEq, Prod.mk.injEq] at hm
            obtain ⟨rfl, rfl, rfl, rfl, rfl, rfl, rfl, rfl, rfl, rfl, rfl, rfl, rfl, rfl, rfl, rfl, rfl, rfl, rfl, rfl⟩ := hm
            exact hret _ _ _ _ dX8_finds_78 hP hS
      · have hm := if_t hc hm
        refine lv_aload_n hx hb dX8_finds_34 rfl (lv_at hl 0 rfl) ?_
        obtain ⟨r35, hq, hm⟩ := bd1_some hm
        refine k_callVI (As := []) (rest := []) ⟨hx, hb, hml, hown, hts⟩ hK hA hN (c_X8_ahead (a := a) hq) (cwV 0 hts gX8_finds_X8_ahead rfl rfl rfl hdX8_ahead ⟨Nat.le_of_ble_eq_true rfl, Nat.le_of_ble_eq_true rfl⟩) hP (va_D_re hD rfl) hS 0 8 rfl rfl rfl hl.1 rfl rfl (Nat.le_of_ble_eq_true rfl) ⟨Nat.zero_le _, Nat.zero_le _⟩ dX8_finds_35 (fun H locs hP hS => ?_)
        refine lv_aload_n hx hb dX8_finds_38 rfl (lv_at hl 0 rfl) ?_
        obtain ⟨r39, hq, hm⟩ := bd1_some hm
        refine k_callVI (As := []) (rest := [.int r35]) ⟨hx, hb, hml, hown, hts⟩ hK hA hN (c_X8_isThere (a := a) hq) (cwV 0 hts gX8_finds_X8_isThere rfl rfl rfl hdX8_isThere ⟨Nat.le_of_ble_eq_true rfl, Nat.le_of_ble_eq_true rfl⟩) hP (va_D_re hD rfl) hS 0 8 rfl rfl rfl hl.1 rfl rfl (Nat.le_of_ble_eq_true rfl) ⟨Nat.zero_le _, Nat.zero_le _⟩ dX8_finds_39 (fun H locs hP hS => ?_)
        refine lv_if_eq (tgt := 49) hx hb dX8_finds_42 (by decide) (fun hc => ?_) (fun hc => ?_)
        · have hm := if_t hc hm
          refine lv_iconst (v := 0) hx hb dX8_finds_49 (by decide) ?_
          refine lv_iadd hx hb dX8_finds_50 ?_
          refine lv_goto (tgt := 78) hx hb dX8_finds_51 (by decide) ?_
          simp only [Option.some.injEq, Prod.mk.injEq] at hm
          obtain ⟨rfl, rfl, rfl, rfl, rfl, rfl, rfl, rfl, rfl, rfl, rfl, rfl, rfl, rfl, rfl, rfl, rfl, rfl, rfl, rfl⟩ := hm
          exact hret _ _ _ _ dX8_finds_78 hP hS
        · have hm := if_f hc hm
          refine lv_iconst (v := 1) hx hb dX8_finds_45 (by decide) ?_
          refine lv_goto (tgt := 50) hx hb dX8_finds_46 (by decide) ?_
          refine lv_iadd hx hb dX8_finds_50 ?_
          refine lv_goto (tgt := 78) hx hb dX8_finds_51 (by decide) ?_
          simp only [Option.some.injEq, Prod.mk.injEq] at hm
          obtain ⟨rfl, rfl, rfl, rfl, rfl, rfl, rfl, rfl, rfl, rfl, rfl, rfl, rfl, rfl, rfl, rfl, rfl, rfl, rfl, rfl⟩ := hm
          exact hret _ _ _ _ dX8_finds_78 hP hS
    · have hm := if_t hc hm
      refine lv_aload_n hx hb dX8_finds_23 rfl (lv_at hl 0 rfl) ?_
      refine lv_bipush (v := (-3)) hx hb dX8_finds_24 (by decide) ?_
      obtain ⟨r26, m_refused_26, hq, hm⟩ := bd2_some hm
      refine k_callVI (As := [.int (-3)]) (rest := []) ⟨hx, hb, hml, hown, hts⟩ hK hA hN (c_X8_refuses (a := a) hq) (cwV 1 hts gX8_finds_X8_refuses rfl rfl rfl hdX8_refuses ⟨Nat.le_of_ble_eq_true rfl, Nat.le_of_ble_eq_true rfl⟩) hP (va_D_re hD rfl) hS 0 8 rfl rfl rfl hl.1 rfl rfl (Nat.le_of_ble_eq_true rfl) ⟨Nat.zero_le _, Nat.zero_le _⟩ dX8_finds_26 (fun H locs hP hS => ?_)
      simp only [Option.some.injEq, Prod.mk.injEq] at hm
      obtain ⟨rfl, rfl, rfl, rfl, rfl, rfl, rfl, rfl, rfl, rfl, rfl, rfl, rfl, rfl, rfl, rfl, rfl, rfl, rfl, rfl⟩ := hm
      exact hret _ _ _ _ dX8_finds_29 hP hS
  · have hm := if_t hc hm
    refine lv_aload_n hx hb dX8_finds_9 rfl (lv_at hl 0 rfl) ?_
    refine lv_bipush (v := (-2)) hx hb dX8_finds_10 (by decide) ?_
    obtain ⟨r12, m_refused_12, hq, hm⟩ := bd2_some hm
    refine k_callVI (As := [.int (-2)]) (rest := []) ⟨hx, hb, hml, hown, hts⟩ hK hA hN (c_X8_refuses (a := a) hq) (cwV 1 hts gX8_finds_X8_refuses rfl rfl rfl hdX8_refuses ⟨Nat.le_of_ble_eq_true rfl, Nat.le_of_ble_eq_true rfl⟩) hP (va_D_re hD rfl) hS 0 8 rfl rfl rfl hl.1 rfl rfl (Nat.le_of_ble_eq_true rfl) ⟨Nat.zero_le _, Nat.zero_le _⟩ dX8_finds_12 (fun H locs hP hS => ?_)
    simp only [Option.some.injEq, Prod.mk.injEq] at hm
    obtain ⟨rfl, rfl, rfl, rfl, rfl, rfl, rfl, rfl, rfl, rfl, rfl, rfl, rfl, rfl, rfl, rfl, rfl, rfl, rfl, rfl⟩ := hm
    exact hret _ _ _ _ dX8_finds_15 hP hS
theorem hdX8_way : yX8_way.cls = RX8 ∧ yX8_way.cls ≠ "java/lang/invoke/MethodHandle" ∧ yX8_way.cls ≠ "java/lang/invoke/VarHandle" ∧ (parseMethodDescriptor yX8_way.desc).map (fun d => d.parameters.length) = some 2 := by decide +kernel
theorem hiX8_way : ∀ w ∈ u_ws RX8 TX8 34, w ∈ wsX8_way := by decide +kernel
theorem flX8_way_40 : Cond.fieldLink RX8 40 "BlindPagesModel" "wayPage" "[I" ∈ wsX8_way := by decide +kernel
theorem flX8_way_43 : Cond.fieldLink RX8 43 "BlindPagesModel" "wayKnown" "[I" ∈ wsX8_way := by decide +kernel
theorem flX8_way_46 : Cond.fieldLink RX8 46 "BlindPagesModel" "wayGuess" "[I" ∈ wsX8_way := by decide +kernel
theorem flX8_way_49 : Cond.fieldLink RX8 49 "BlindPagesModel" "wayDiff" "[I" ∈ wsX8_way := by decide +kernel
theorem flX8_way_52 : Cond.fieldLink RX8 52 "BlindPagesModel" "wayRead" "[I" ∈ wsX8_way := by decide +kernel
theorem flX8_way_55 : Cond.fieldLink RX8 55 "BlindPagesModel" "wayPlace" "[I" ∈ wsX8_way := by decide +kernel
def M_way_J21 (m_s m_text : Nat → Int32) (m_typed : Int32) (v1 : Int32) (v2 : Int32) (m_refused : (Nat → Int32)) (m_asked : (Nat → Int32)) (m_heads : (Nat → Int32)) (m_forkBit : (Nat → Int32)) (m_forkFrom : (Nat → Int32)) (m_forkTo : (Nat → Int32)) (m_wayPage : (Nat → Int32)) (m_wayKnown : (Nat → Int32)) (m_wayGuess : (Nat → Int32)) (m_wayDiff : (Nat → Int32)) (m_wayRead : (Nat → Int32)) (m_wayPlace : (Nat → Int32)) (m_askedLength : Int32) (m_entries : Int32) (m_forks : Int32) (m_guess : Int32) (m_diff : Int32) (m_read : Int32) (m_placeOf : Int32) : Option (Int32 × (Nat → Int32) × (Nat → Int32) × (Nat → Int32) × (Nat → Int32) × (Nat → Int32) × (Nat → Int32) × (Nat → Int32) × (Nat → Int32) × (Nat → Int32) × (Nat → Int32) × (Nat → Int32) × (Nat → Int32) × Int32 × Int32 × Int32 × Int32 × Int32 × Int32 × Int32) := bd2 (M_refuses m_refused (-2)) fun r24 m_refused_24 => some (r24, m_refused_24, m_asked, m_heads, m_forkBit, m_forkFrom, m_forkTo, m_wayPage, m_wayKnown, m_wayGuess, m_wayDiff, m_wayRead, m_wayPlace, m_askedLength, m_entries, m_forks, m_guess, m_diff, m_read, m_placeOf)
def M_way (m_s m_text : Nat → Int32) (m_typed : Int32) (m_refused m_asked m_heads m_forkBit m_forkFrom m_forkTo m_wayPage m_wayKnown m_wayGuess m_wayDiff m_wayRead m_wayPlace : Nat → Int32) (m_askedLength m_entries m_forks m_guess m_diff m_read m_placeOf : Int32) (v1 : Int32) (v2 : Int32) : Option (Int32 × (Nat → Int32) × (Nat → Int32) × (Nat → Int32) × (Nat → Int32) × (Nat → Int32) × (Nat → Int32) × (Nat → Int32) × (Nat → Int32) × (Nat → Int32) × (Nat → Int32) × (Nat → Int32) × (Nat → Int32) × Int32 × Int32 × Int32 × Int32 × Int32 × Int32 × Int32) := bd1 (M_topLevel m_s) fun r3 => bd1 (M_in v1 0 r3) fun r6 => if r6 = 0 then (M_way_J21 m_s m_text m_typed v1 v2 m_refused m_asked m_heads m_forkBit m_forkFrom m_forkTo m_wayPage m_wayKnown m_wayGuess m_wayDiff m_wayRead m_wayPlace m_askedLength m_entries m_forks m_guess m_diff m_read m_placeOf) else (bd1 (M_in v2 0 5) fun r15 => if r15 = 0 then (M_way_J21 m_s m_text m_typed v1 v2 m_refused m_asked m_heads m_forkBit m_forkFrom m_forkTo m_wayPage m_wayKnown m_wayGuess m_wayDiff m_wayRead m_wayPlace m_askedLength m_entries m_forks m_guess m_diff m_read m_placeOf) else (bd3 (M_isWord m_text m_typed m_asked m_askedLength) fun r29 m_asked_29 m_askedLength_29 => if r29 = 0 then (bd2 (M_refuses m_refused (-3)) fun r38 m_refused_38 => some (r38, m_refused_38, m_asked_29, m_heads, m_forkBit, m_forkFrom, m_forkTo, m_wayPage, m_wayKnown, m_wayGuess, m_wayDiff, m_wayRead, m_wayPlace, m_askedLength_29, m_entries, m_forks, m_guess, m_diff, m_read, m_placeOf)) else (bd16 (M_goes m_s m_asked_29 m_askedLength_29 m_heads m_forkBit m_forkFrom m_forkTo m_wayPage m_wayKnown m_wayGuess m_wayDiff m_wayRead m_wayPlace m_entries m_forks m_guess m_diff m_read m_placeOf) fun m_heads_43 m_forkBit_43 m_forkFrom_43 m_forkTo_43 m_wayPage_43 m_wayKnown_43 m_wayGuess_43 m_wayDiff_43 m_wayRead_43 m_wayPlace_43 m_entries_43 m_forks_43 m_guess_43 m_diff_43 m_read_43 m_placeOf_43 => if v2 = 0 then (ga v1 8 (bd1 (M_numberOf m_s v1 (m_wayPage_43 v1.toNatClampNeg)) fun r88 => some (r88, m_refused, m_asked_29, m_heads_43, m_forkBit_43, m_forkFrom_43, m_forkTo_43, m_wayPage_43, m_wayKnown_43, m_wayGuess_43, m_wayDiff_43, m_wayRead_43, m_wayPlace_43, m_askedLength_29, m_entries_43, m_forks_43, m_guess_43, m_diff_43, m_read_43, m_placeOf_43))) else if v2 = 1 then (ga v1 8 (some ((m_wayKnown_43 v1.toNatClampNeg), m_refused, m_asked_29, m_heads_43, m_forkBit_43, m_forkFrom_43, m_forkTo_43, m_wayPage_43, m_wayKnown_43, m_wayGuess_43, m_wayDiff_43, m_wayRead_43, m_wayPlace_43, m_askedLength_29, m_entries_43, m_forks_43, m_guess_43, m_diff_43, m_read_43, m_placeOf_43))) else if v2 = 2 then (ga v1 8 (some ((m_wayGuess_43 v1.toNatClampNeg), m_refused, m_asked_29, m_heads_43, m_forkBit_43, m_forkFrom_43, m_forkTo_43, m_wayPage_43, m_wayKnown_43, m_wayGuess_43, m_wayDiff_43, m_wayRead_43, m_wayPlace_43, m_askedLength_29, m_entries_43, m_forks_43, m_guess_43, m_diff_43, m_read_43, m_placeOf_43))) else if v2 = 3 then (ga v1 8 (some ((m_wayDiff_43 v1.toNatClampNeg), m_refused, m_asked_29, m_heads_43, m_forkBit_43, m_forkFrom_43, m_forkTo_43, m_wayPage_43, m_wayKnown_43, m_wayGuess_43, m_wayDiff_43, m_wayRead_43, m_wayPlace_43, m_askedLength_29, m_entries_43, m_forks_43, m_guess_43, m_diff_43, m_read_43, m_placeOf_43))) else if v2 = 4 then (ga v1 8 (some ((m_wayRead_43 v1.toNatClampNeg), m_refused, m_asked_29, m_heads_43, m_forkBit_43, m_forkFrom_43, m_forkTo_43, m_wayPage_43, m_wayKnown_43, m_wayGuess_43, m_wayDiff_43, m_wayRead_43, m_wayPlace_43, m_askedLength_29, m_entries_43, m_forks_43, m_guess_43, m_diff_43, m_read_43, m_placeOf_43))) else (ga v1 8 (some ((m_wayPlace_43 v1.toNatClampNeg), m_refused, m_asked_29, m_heads_43, m_forkBit_43, m_forkFrom_43, m_forkTo_43, m_wayPage_43, m_wayKnown_43, m_wayGuess_43, m_wayDiff_43, m_wayRead_43, m_wayPlace_43, m_askedLength_29, m_entries_43, m_forks_43, m_guess_43, m_diff_43, m_read_43, m_placeOf_43))))))
set_option maxRecDepth 100000 in
set_option maxHeartbeats 4000000 in
theorem t_M_way_J21 {p : Program} {l : Launch} {e : Env} {s : State} {m : MethodId} {args : Array Value} {below : List Frame} {meth : Method} {c : Code} {Q : State → Prop} {A : Nat → Prop} {D : va_G} {cI cJ cB cL cS cW : ClassId} {a : Nat → Nat} {m_s m_past m_kept m_text m_treeBit m_treeLeft m_treeRight m_treeAbove m_pileFrom m_pileTo m_pileAbove : Nat → Int32} {m_known m_typed m_treeForks m_treeDeep : Int32} {v1 : Int32} {v2 : Int32} {r : Int32} {o_refused : Nat → Int32} {o_asked : Nat → Int32} {o_heads : Nat → Int32} {o_forkBit : Nat → Int32} {o_forkFrom : Nat → Int32} {o_forkTo : Nat → Int32} {o_wayPage : Nat → Int32} {o_wayKnown : Nat → Int32} {o_wayGuess : Nat → Int32} {o_wayDiff : Nat → Int32} {o_wayRead : Nat → Int32} {o_wayPlace : Nat → Int32} {o_askedLength : Int32} {o_entries : Int32} {o_forks : Int32} {o_guess : Int32} {o_diff : Int32} {o_read : Int32} {o_placeOf : Int32} (C : k_C p s m args meth c cX8_way 3 (some .int) RX8 wsX8_way D (kT cI cJ cB cL cS cW) A) (hD : va_D A (WM0 a cI)) (hret : ∀ (H : Heap) (locs : List Loc) (pc : Nat) (ls : Array Slot), decode cX8_way pc = .ok (.ireturn, 1) → va_P D vwCl (WM a cI m_s m_past m_kept o_refused m_text o_asked o_heads o_forkBit o_forkFrom o_forkTo o_wayPage o_wayKnown o_wayGuess o_wayDiff o_wayRead o_wayPlace m_treeBit m_treeLeft m_treeRight m_treeAbove m_pileFrom m_pileTo m_pileAbove m_known m_typed o_askedLength o_entries o_forks o_guess o_diff o_read o_placeOf m_treeForks m_treeDeep) H → va_S A s.heap H locs → W p l e { frames := 6, cells := 0, slots := 0, locals := 148 } s m args below meth c H locs 0 0 Q (F0 m pc ls [.int r])) : ∀ (m_refused : (Nat → Int32)) (m_asked : (Nat → Int32)) (m_heads : (Nat → Int32)) (m_forkBit : (Nat → Int32)) (m_forkFrom : (Nat → Int32)) (m_forkTo : (Nat → Int32)) (m_wayPage : (Nat → Int32)) (m_wayKnown : (Nat → Int32)) (m_wayGuess : (Nat → Int32)) (m_wayDiff : (Nat → Int32)) (m_wayRead : (Nat → Int32)) (m_wayPlace : (Nat → Int32)) (m_askedLength : Int32) (m_entries : Int32) (m_forks : Int32) (m_guess : Int32) (m_diff : Int32) (m_read : Int32) (m_placeOf : Int32) (H : Heap) (locs : List Loc) (ls : Array Slot), va_P D vwCl (WM a cI m_s m_past m_kept m_refused m_text m_asked m_heads m_forkBit m_forkFrom m_forkTo m_wayPage m_wayKnown m_wayGuess m_wayDiff m_wayRead m_wayPlace m_treeBit m_treeLeft m_treeRight m_treeAbove m_pileFrom m_pileTo m_pileAbove m_known m_typed m_askedLength m_entries m_forks m_guess m_diff m_read m_placeOf m_treeForks m_treeDeep) H → va_S A s.heap H locs → lv_has ls 3 [(0, .ref (a 0))] → M_way_J21 m_s m_text m_typed v1 v2 m_refused m_asked m_heads m_forkBit m_forkFrom m_forkTo m_wayPage m_wayKnown m_wayGuess m_wayDiff m_wayRead m_wayPlace m_askedLength m_entries m_forks m_guess m_diff m_read m_placeOf = some (r, o_refused, o_asked, o_heads, o_forkBit, o_forkFrom, o_forkTo, o_wayPage, o_wayKnown, o_wayGuess, o_wayDiff, o_wayRead, o_wayPlace, o_askedLength, o_entries, o_forks, o_guess, o_diff, o_read, o_placeOf) → W p l e { frames := 6, cells := 0, slots := 0, locals := 148 } s m args below meth c H locs 0 0 Q (F0 m 21 ls []) := by
  obtain ⟨hx, hb, hml, hr, hown, hts, hlocks, hK, hA, hN⟩ := id C
  intro m_refused m_asked m_heads m_forkBit m_forkFrom m_forkTo m_wayPage m_wayKnown m_wayGuess m_wayDiff m_wayRead m_wayPlace m_askedLength m_entries m_forks m_guess m_diff m_read m_placeOf H locs ls hP hS hl hm
  rw [M_way_J21] at hm
  refine lv_aload_n hx hb dX8_way_21 rfl (lv_at hl 0 rfl) ?_
  refine lv_bipush (v := (-2)) hx hb dX8_way_22 (by decide) ?_
  obtain ⟨r24, m_refused_24, hq, hm⟩ := bd2_some hm
  refine k_callVI (As := [.int (-2)]) (rest := []) ⟨hx, hb, hml, hown, hts⟩ hK hA hN (c_X8_refuses (a := a) hq) (cwV 1 hts gX8_way_X8_refuses rfl rfl rfl hdX8_refuses ⟨Nat.le_of_ble_eq_true rfl, Nat.le_of_ble_eq_true rfl⟩) hP (va_D_re hD rfl) hS 0 8 rfl rfl rfl hl.1 rfl rfl (Nat.le_of_ble_eq_true rfl) ⟨Nat.zero_le _, Nat.zero_le _⟩ dX8_way_24 (fun H locs hP hS => ?_)
  simp only [Option.some.injEq, Prod.mk.injEq] at hm
  obtain ⟨rfl, rfl, rfl, rfl, rfl, rfl, rfl, rfl, rfl, rfl, rfl, rfl, rfl, rfl, rfl, rfl, rfl, rfl, rfl, rfl⟩ := hm
  exact hret _ _ _ _ dX8_way_27 hP hS
set_option maxRecDepth 100000 in
set_option maxHeartbeats 4000000 in
theorem c_X8_way {l : Launch} {D : va_G} {cI cJ cB cL cS cW : ClassId} {a : Nat → Nat} {m_s m_past m_kept m_refused m_text m_asked m_heads m_forkBit m_forkFrom m_forkTo m_wayPage m_wayKnown m_wayGuess m_wayDiff m_wayRead m_wayPlace m_treeBit m_treeLeft m_treeRight m_treeAbove m_pileFrom m_pileTo m_pileAbove : Nat → Int32} {m_known m_typed m_askedLength m_entries m_forks m_guess m_diff m_read m_placeOf m_treeForks m_treeDeep : Int32} {v1 : Int32} {v2 : Int32} {r : Int32} {o_refused : Nat → Int32} {o_asked : Nat → Int32} {o_heads : Nat → Int32} {o_forkBit : Nat → Int32} {o_forkFrom : Nat → Int32} {o_forkTo : Nat → Int32} {o_wayPage : Nat → Int32} {o_wayKnown : Nat → Int32} {o_wayGuess : Nat → Int32} {o_wayDiff : Nat → Int32} {o_wayRead : Nat → Int32} {o_wayPlace : Nat → Int32} {o_askedLength : Int32} {o_entries : Int32} {o_forks : Int32} {o_guess : Int32} {o_diff : Int32} {o_read : Int32} {o_placeOf : Int32} (hm : M_way m_s m_text m_typed m_refused m_asked m_heads m_forkBit m_forkFrom m_forkTo m_wayPage m_wayKnown m_wayGuess m_wayDiff m_wayRead m_wayPlace m_askedLength m_entries m_forks m_guess m_diff m_read m_placeOf v1 v2 = some (r, o_refused, o_asked, o_heads, o_forkBit, o_forkFrom, o_forkTo, o_wayPage, o_wayKnown, o_wayGuess, o_wayDiff, o_wayRead, o_wayPlace, o_askedLength, o_entries, o_forks, o_guess, o_diff, o_read, o_placeOf)) : k_MI l yX8_way wsX8_way { frames := 6, cells := 0, slots := 0, locals := 148 } D (kT cI cJ cB cL cS cW) [.ref (a 0), .int v1, .int v2] (WM a cI m_s m_past m_kept m_refused m_text m_asked m_heads m_forkBit m_forkFrom m_forkTo m_wayPage m_wayKnown m_wayGuess m_wayDiff m_wayRead m_wayPlace m_treeBit m_treeLeft m_treeRight m_treeAbove m_pileFrom m_pileTo m_pileAbove m_known m_typed m_askedLength m_entries m_forks m_guess m_diff m_read m_placeOf m_treeForks m_treeDeep) r (WM a cI m_s m_past m_kept o_refused m_text o_asked o_heads o_forkBit o_forkFrom o_forkTo o_wayPage o_wayKnown o_wayGuess o_wayDiff o_wayRead o_wayPlace m_treeBit m_treeLeft m_treeRight m_treeAbove m_pileFrom m_pileTo m_pileAbove m_known m_typed o_askedLength o_entries o_forks o_guess o_diff o_read o_placeOf m_treeForks m_treeDeep) := by
  refine k_ofI (cc := cX8_way) (maxL := 3) (own := RX8) (by decide) rfl rfl (Nat.le_of_ble_eq_true rfl) ?_
  intro p e s m args below meth c A Q ls C hP hD hl hret
  have hD : va_D A (WM0 a cI) := va_D_re hD rfl
  have hS : va_S A s.heap s.heap [] := va_S.rf
  have hl : lv_has ls 3 [(0, .ref (a 0)), (1, .int v1), (2, .int v2)] := hl
  obtain ⟨hx, hb, hml, hr, hown, hts, hlocks, hK, hA, hN⟩ := id C
  rw [M_way] at hm
  refine lv_iload_n hx hb dX8_way_0 rfl (lv_at hl 1 rfl) ?_
  refine lv_iconst (v := 0) hx hb dX8_way_1 (by decide) ?_
  refine lv_aload_n hx hb dX8_way_2 rfl (lv_at hl 0 rfl) ?_
  obtain ⟨r3, hq, hm⟩ := bd1_some hm
  refine k_callVI (As := []) (rest := [.int 0, .int v1]) ⟨hx, hb, hml, hown, hts⟩ hK hA hN (c_X8_topLevel (a := a) hq) (cwV 0 hts gX8_way_X8_topLevel rfl rfl rfl hdX8_topLevel ⟨Nat.le_of_ble_eq_true rfl, Nat.le_of_ble_eq_true rfl⟩) hP (va_D_re hD rfl) hS 0 8 rfl rfl rfl hl.1 rfl rfl (Nat.le_of_ble_eq_true rfl) ⟨Nat.zero_le _, Nat.zero_le _⟩ dX8_way_3 (fun H locs hP hS => ?_)
  obtain ⟨r6, hq, hm⟩ := bd1_some hm
  refine k_callSI (As := [.int v1, .int 0, .int r3]) (rest := []) ⟨hx, hb, hml, hown, hts⟩ hK hA hN (c_X8_in (a := a) hq) (va_cwS 3 hts gX8_way_X8_in rfl rfl rfl hdX8_in ⟨Nat.le_of_ble_eq_true rfl, Nat.le_of_ble_eq_true rfl⟩) hP (va_D_re hD rfl) hS hl.1 rfl rfl (Nat.le_of_ble_eq_true rfl) ⟨Nat.zero_le _, Nat.zero_le _⟩ dX8_way_6 (fun H locs hP hS => ?_)
  refine lv_if_eq (tgt := 21) hx hb dX8_way_9 (by decide) (fun hc => ?_) (fun hc => ?_)
  · have hm := if_t hc hm
    exact t_M_way_J21 C hD hret _ _ _ _ _ _ _ _ _ _ _ _ _ _ _ _ _ _ _ _ _ _ hP hS (lv_sub hl [0] rfl) hm
  · have hm := if_f hc hm
    refine lv_iload_n hx hb dX8_way_12 rfl (lv_at hl 2 rfl) ?_
    refine lv_iconst (v := 0) hx hb dX8_way_13 (by decide) ?_
    refine lv_iconst (v := 5) hx hb dX8_way_14 (by decide) ?_
    obtain ⟨r15, hq, hm⟩ := bd1_some hm
    refine k_callSI (As := [.int v2, .int 0, .int 5]) (rest := []) ⟨hx, hb, hml, hown, hts⟩ hK hA hN (c_X8_in (a := a) hq) (va_cwS 3 hts gX8_way_X8_in rfl rfl rfl hdX8_in ⟨Nat.le_of_ble_eq_true rfl, Nat.le_of_ble_eq_true rfl⟩) hP (va_D_re hD rfl) hS hl.1 rfl rfl (Nat.le_of_ble_eq_true rfl) ⟨Nat.zero_le _, Nat.zero_le _⟩ dX8_way_15 (fun H locs hP hS => ?_)
    refine lv_if_ne (tgt := 28) hx hb dX8_way_18 (by decide) (fun hc => ?_) (fun hc => ?_)
    · have hm := if_f hc hm
      refine lv_aload_n hx hb dX8_way_28 rfl (lv_at hl 0 rfl) ?_
      obtain ⟨r29, m_asked_29, m_askedLength_29, hq, hm⟩ := bd3_some hm
      refine k_callVI (As := []) (rest := []) ⟨hx, hb, hml, hown, hts⟩ hK hA hN (c_X8_isWord (a := a) hq) (cwV 0 hts gX8_way_X8_isWord rfl rfl rfl hdX8_isWord ⟨Nat.le_of_ble_eq_true rfl, Nat.le_of_ble_eq_true rfl⟩) hP (va_D_re hD rfl) hS 0 8 rfl rfl rfl hl.1 rfl rfl (Nat.le_of_ble_eq_true rfl) ⟨Nat.zero_le _, Nat.zero_le _⟩ dX8_way_29 (fun H locs hP hS => ?_)
      refine lv_if_ne (tgt := 42) hx hb dX8_way_32 (by decide) (fun hc => ?_) (fun hc => ?_)
      · have hm := if_f hc hm
        refine lv_aload_n hx hb dX8_way_42 rfl (lv_at hl 0 rfl) ?_
        obtain ⟨m_heads_43, m_forkBit_43, m_forkFrom_43, m_forkTo_43, m_wayPage_43, m_wayKnown_43, m_wayGuess_43, m_wayDiff_43, m_wayRead_43, m_wayPlace_43, m_entries_43, m_forks_43, m_guess_43, m_diff_43, m_read_43, m_placeOf_43, hq, hm⟩ := bd16_some hm
        refine k_callVV (As := []) (rest := []) ⟨hx, hb, hml, hown, hts⟩ hK hA hN (c_X8_goes (a := a) hq) (cwV 0 hts gX8_way_X8_goes rfl rfl rfl hdX8_goes ⟨Nat.le_of_ble_eq_true rfl, Nat.le_of_ble_eq_true rfl⟩) hP (va_D_re hD rfl) hS 0 8 rfl rfl rfl hl.1 rfl rfl (Nat.le_of_ble_eq_true rfl) ⟨Nat.zero_le _, Nat.zero_le _⟩ dX8_way_43 (fun H locs hP hS => ?_)
        refine lv_iload_n hx hb dX8_way_46 rfl (lv_at hl 2 rfl) ?_
        by_cases hc0 : v2 = 0
        · have hm := if_t hc0 hm
          refine lv_tableIn (tgt := 80) (off := 33) hx hb dX8_way_47 (by rw [hc0]; decide) (by rw [hc0]; decide) (by rw [hc0]; rfl) (by decide) ?_
          refine lv_aload_n hx hb dX8_way_80 rfl (lv_at hl 0 rfl) ?_
          refine lv_iload_n hx hb dX8_way_81 rfl (lv_at hl 1 rfl) ?_
          refine lv_aload_n hx hb dX8_way_82 rfl (lv_at hl 0 rfl) ?_
          refine kg (v := .ref (a 11)) hx hb hts hiX8_way hown hK hP 0 rfl rfl 19 (by decide) flX8_way_40 rfl rfl dX8_way_83 ?_
          refine lv_iload_n hx hb dX8_way_86 rfl (lv_at hl 1 rfl) ?_
          obtain ⟨hi, hm⟩ := ga_some hm
          refine k_iald hx hb hK hP 11 0 rfl rfl rfl hi dX8_way_87 ?_
          obtain ⟨r88, hq, hm⟩ := bd1_some hm
          refine k_callVI (As := [.int v1, .int (m_wayPage_43 v1.toNatClampNeg)]) (rest := []) ⟨hx, hb, hml, hown, hts⟩ hK hA hN (c_X8_numberOf (a := a) hq) (cwV 2 hts gX8_way_X8_numberOf rfl rfl rfl hdX8_numberOf ⟨Nat.le_of_ble_eq_true rfl, Nat.le_of_ble_eq_true rfl⟩) hP (va_D_re hD rfl) hS 0 8 rfl rfl rfl hl.1 rfl rfl (Nat.le_of_ble_eq_true rfl) ⟨Nat.zero_le _, Nat.zero_le _⟩ dX8_way_88 (fun H locs hP hS => ?_)
          simp only [Option.some.injEq, Prod.mk.injEq] at hm
          obtain ⟨rfl, rfl, rfl, rfl, rfl, rfl, rfl, rfl, rfl, rfl, rfl, rfl, rfl, rfl, rfl, rfl, rfl, rfl, rfl, rfl⟩ := hm
          exact hret _ _ _ _ dX8_way_91 hP hS
        have hm := if_f hc0 hm
        by_cases hc1 : v2 = 1
        · have hm := if_t hc1 hm
          refine lv_tableIn (tgt := 92) (off := 45) hx hb dX8_way_47 (by rw [hc1]; decide) (by rw [hc1]; decide) (by rw [hc1]; rfl) (by decide) ?_
          refine lv_aload_n hx hb dX8_way_92 rfl (lv_at hl 0 rfl) ?_
          refine kg (v := .ref (a 12)) hx hb hts hiX8_way hown hK hP 0 rfl rfl 20 (by decide) flX8_way_43 rfl rfl dX8_way_93 ?_
          refine lv_iload_n hx hb dX8_way_96 rfl (lv_at hl 1 rfl) ?_
          obtain ⟨hi, hm⟩ := ga_some hm
          refine k_iald hx hb hK hP 12 0 rfl rfl rfl hi dX8_way_97 ?_
          simp only [Option.some.injEq, Prod.mk.injEq] at hm
          obtain ⟨rfl, rfl, rfl, rfl, rfl, rfl, rfl, rfl, rfl, rfl, rfl, rfl, rfl, rfl, rfl, rfl, rfl, rfl, rfl, rfl⟩ := hm
          exact hret _ _ _ _ dX8_way_98 hP hS
        have hm := if_f hc1 hm
        by_cases hc2 : v2 = 2
        · have hm := if_t hc2 hm
          refine lv_tableIn (tgt := 99) (off := 52) hx hb dX8_way_47 (by rw [hc2]; decide) (by rw [hc2]; decide) (by rw [hc2]; rfl) (by decide) ?_
          refine lv_aload_n hx hb dX8_way_99 rfl (lv_at hl 0 rfl) ?_
          refine kg (v := .ref (a 13)) hx hb hts hiX8_way hown hK hP 0 rfl rfl 21 (by decide) flX8_way_46 rfl rfl dX8_way_100 ?_
          refine lv_iload_n hx hb dX8_way_103 rfl (lv_at hl 1 rfl) ?_
          obtain ⟨hi, hm⟩ := ga_some hm
          refine k_iald hx hb hK hP 13 0 rfl rfl rfl hi dX8_way_104 ?_
          simp only [Option.some.injEq, Prod.mk.injEq] at hm
          obtain ⟨rfl, rfl, rfl, rfl, rfl, rfl, rfl, rfl, rfl, rfl, rfl, rfl, rfl, rfl, rfl, rfl, rfl, rfl, rfl, rfl⟩ := hm
          exact hret _ _ _ _ dX8_way_105 hP hS
        have hm := if_f hc2 hm
        by_cases hc3 : v2 = 3
        · have hm := if_t hc3 hm
          refine lv_tableIn (tgt := 106) (off := 59) hx hb dX8_way_47 (by rw [hc3]; decide) (by rw [hc3]; decide) (by rw [hc3]; rfl) (by decide) ?_
          refine lv_aload_n hx hb dX8_way_106 rfl (lv_at hl 0 rfl) ?_
          refine kg (v := .ref (a 14)) hx hb hts hiX8_way hown hK hP 0 rfl rfl 22 (by decide) flX8_way_49 rfl rfl dX8_way_107 ?_
          refine lv_iload_n hx hb dX8_way_110 rfl (lv_at hl 1 rfl) ?_
          obtain ⟨hi, hm⟩ := ga_some hm
          refine k_iald hx hb hK hP 14 0 rfl rfl rfl hi dX8_way_111 ?_
          simp only [Option.some.injEq, Prod.mk.injEq] at hm
          obtain ⟨rfl, rfl, rfl, rfl, rfl, rfl, rfl, rfl, rfl, rfl, rfl, rfl, rfl, rfl, rfl, rfl, rfl, rfl, rfl, rfl⟩ := hm
          exact hret _ _ _ _ dX8_way_112 hP hS
        have hm := if_f hc3 hm
        by_cases hc4 : v2 = 4
        · have hm := if_t hc4 hm
          refine lv_tableIn (tgt := 113) (off := 66) hx hb dX8_way_47 (by rw [hc4]; decide) (by rw [hc4]; decide) (by rw [hc4]; rfl) (by decide) ?_
          refine lv_aload_n hx hb dX8_way_113 rfl (lv_at hl 0 rfl) ?_
          refine kg (v := .ref (a 15)) hx hb hts hiX8_way hown hK hP 0 rfl rfl 23 (by decide) flX8_way_52 rfl rfl dX8_way_114 ?_
          refine lv_iload_n hx hb dX8_way_117 rfl (lv_at hl 1 rfl) ?_
          obtain ⟨hi, hm⟩ := ga_some hm
          refine k_iald hx hb hK hP 15 0 rfl rfl rfl hi dX8_way_118 ?_
          simp only [Option.some.injEq, Prod.mk.injEq] at hm
          obtain ⟨rfl, rfl, rfl, rfl, rfl, rfl, rfl, rfl, rfl, rfl, rfl, rfl, rfl, rfl, rfl, rfl, rfl, rfl, rfl, rfl⟩ := hm
          exact hret _ _ _ _ dX8_way_119 hP hS
        have hm := if_f hc4 hm
        refine lv_tableOut (tgt := 120) hx hb dX8_way_47 (sw_out0_4 hc0 hc1 hc2 hc3 hc4) (by decide) ?_
        refine lv_aload_n hx hb dX8_way_120 rfl (lv_at hl 0 rfl) ?_
        refine kg (v := .ref (a 16)) hx hb hts hiX8_way hown hK hP 0 rfl rfl 24 (by decide) flX8_way_55 rfl rfl dX8_way_121 ?_
        refine lv_iload_n hx hb dX8_way_124 rfl (lv_at hl 1 rfl) ?_
        obtain ⟨hi, hm⟩ := ga_some hm
        refine k_iald hx hb hK hP 16 0 rfl rfl rfl hi dX8_way_125 ?_
        simp only [Option.some.injEq, Prod.mk.injEq] at hm
        obtain ⟨rfl, rfl, rfl, rfl, rfl, rfl, rfl, rfl, rfl, rfl, rfl, rfl, rfl, rfl, rfl, rfl, rfl, rfl, rfl, rfl⟩ := hm
        exact hret _ _ _ _ dX8_way_126 hP hS
      · have hm := if_t hc hm
        refine lv_aload_n hx hb dX8_way_35 rfl (lv_at hl 0 rfl) ?_
        refine lv_bipush (v := (-3)) hx hb dX8_way_36 (by decide) ?_
        obtain ⟨r38, m_refused_38, hq, hm⟩ := bd2_some hm
        refine k_callVI (As := [.int (-3)]) (rest := []) ⟨hx, hb, hml, hown, hts⟩ hK hA hN (c_X8_refuses (a := a) hq) (cwV 1 hts gX8_way_X8_refuses rfl rfl rfl hdX8_refuses ⟨Nat.le_of_ble_eq_true rfl, Nat.le_of_ble_eq_true rfl⟩) hP (va_D_re hD rfl) hS 0 8 rfl rfl rfl hl.1 rfl rfl (Nat.le_of_ble_eq_true rfl) ⟨Nat.zero_le _, Nat.zero_le _⟩ dX8_way_38 (fun H locs hP hS => ?_)
        simp only [Option.some.injEq, Prod.mk.injEq] at hm
        obtain ⟨rfl, rfl, rfl, rfl, rfl, rfl, rfl, rfl, rfl, rfl, rfl, rfl, rfl, rfl, rfl, rfl, rfl, rfl, rfl, rfl⟩ := hm
        exact hret _ _ _ _ dX8_way_41 hP hS
    · have hm := if_t hc hm
      exact t_M_way_J21 C hD hret _ _ _ _ _ _ _ _ _ _ _ _ _ _ _ _ _ _ _ _ _ _ hP hS (lv_sub hl [0] rfl) hm
theorem hdX8_isPage : yX8_isPage.cls = RX8 ∧ yX8_isPage.cls ≠ "java/lang/invoke/MethodHandle" ∧ yX8_isPage.cls ≠ "java/lang/invoke/VarHandle" ∧ (parseMethodDescriptor yX8_isPage.desc).map (fun d => d.parameters.length) = some 1 := by decide +kernel
def M_isPage (m_s : Nat → Int32) (v1 : Int32) : Option (Int32) := bd1 (M_manyPages m_s) fun r3 => bd1 (M_in v1 0 (r3 - 1)) fun r8 => gb r8 (some r8)
set_option maxRecDepth 100000 in
set_option maxHeartbeats 4000000 in
theorem c_X8_isPage {l : Launch} {D : va_G} {cI cJ cB cL cS cW : ClassId} {a : Nat → Nat} {m_s m_past m_kept m_refused m_text m_asked m_heads m_forkBit m_forkFrom m_forkTo m_wayPage m_wayKnown m_wayGuess m_wayDiff m_wayRead m_wayPlace m_treeBit m_treeLeft m_treeRight m_treeAbove m_pileFrom m_pileTo m_pileAbove : Nat → Int32} {m_known m_typed m_askedLength m_entries m_forks m_guess m_diff m_read m_placeOf m_treeForks m_treeDeep : Int32} {v1 : Int32} {r : Int32} (hm : M_isPage m_s v1 = some r) : k_MI l yX8_isPage wsX8_isPage { frames := 1, cells := 0, slots := 0, locals := 22 } D (kT cI cJ cB cL cS cW) [.ref (a 0), .int v1] (WM a cI m_s m_past m_kept m_refused m_text m_asked m_heads m_forkBit m_forkFrom m_forkTo m_wayPage m_wayKnown m_wayGuess m_wayDiff m_wayRead m_wayPlace m_treeBit m_treeLeft m_treeRight m_treeAbove m_pileFrom m_pileTo m_pileAbove m_known m_typed m_askedLength m_entries m_forks m_guess m_diff m_read m_placeOf m_treeForks m_treeDeep) r (WM a cI m_s m_past m_kept m_refused m_text m_asked m_heads m_forkBit m_forkFrom m_forkTo m_wayPage m_wayKnown m_wayGuess m_wayDiff m_wayRead m_wayPlace m_treeBit m_treeLeft m_treeRight m_treeAbove m_pileFrom m_pileTo m_pileAbove m_known m_typed m_askedLength m_entries m_forks m_guess m_diff m_read m_placeOf m_treeForks m_treeDeep) := by
  refine k_ofZ (cc := cX8_isPage) (maxL := 2) (own := RX8) (by decide) rfl rfl (Nat.le_of_ble_eq_true rfl) ?_
  intro p e s m args below meth c A Q ls C hP hD hl hret
  have hD : va_D A (WM0 a cI) := va_D_re hD rfl
  have hS : va_S A s.heap s.heap [] := va_S.rf
  have hl : lv_has ls 2 [(0, .ref (a 0)), (1, .int v1)] := hl
  obtain ⟨hx, hb, hml, hr, hown, hts, hlocks, hK, hA, hN⟩ := id C
  rw [M_isPage] at hm
  refine lv_iload_n hx hb dX8_isPage_0 rfl (lv_at hl 1 rfl) ?_
  refine lv_iconst (v := 0) hx hb dX8_isPage_1 (by decide) ?_
  refine lv_aload_n hx hb dX8_isPage_2 rfl (lv_at hl 0 rfl) ?_
  obtain ⟨r3, hq, hm⟩ := bd1_some hm
  refine k_callVI (As := []) (rest := [.int 0, .int v1]) ⟨hx, hb, hml, hown, hts⟩ hK hA hN (c_X8_manyPages (a := a) hq) (cwV 0 hts gX8_isPage_X8_manyPages rfl rfl rfl hdX8_manyPages ⟨Nat.le_of_ble_eq_true rfl, Nat.le_of_ble_eq_true rfl⟩) hP (va_D_re hD rfl) hS 0 8 rfl rfl rfl hl.1 rfl rfl (Nat.le_of_ble_eq_true rfl) ⟨Nat.zero_le _, Nat.zero_le _⟩ dX8_isPage_3 (fun H locs hP hS => ?_)
  refine lv_iconst (v := 1) hx hb dX8_isPage_6 (by decide) ?_
  refine lv_isub hx hb dX8_isPage_7 ?_
  obtain ⟨r8, hq, hm⟩ := bd1_some hm
  refine k_callSI (As := [.int v1, .int 0, .int (r3 - 1)]) (rest := []) ⟨hx, hb, hml, hown, hts⟩ hK hA hN (c_X8_in (a := a) hq) (va_cwS 3 hts gX8_isPage_X8_in rfl rfl rfl hdX8_in ⟨Nat.le_of_ble_eq_true rfl, Nat.le_of_ble_eq_true rfl⟩) hP (va_D_re hD rfl) hS hl.1 rfl rfl (Nat.le_of_ble_eq_true rfl) ⟨Nat.zero_le _, Nat.zero_le _⟩ dX8_isPage_8 (fun H locs hP hS => ?_)
  obtain ⟨hi, hm⟩ := gb_some hm
  obtain rfl := Option.some.inj hm
  exact hret _ _ _ _ dX8_isPage_11 hi hP hS
