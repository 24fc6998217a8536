theorem hdX8_entriesAhead : yX8_entriesAhead.cls = RX8 ∧ yX8_entriesAhead.cls ≠ "java/lang/invoke/MethodHandle" ∧ yX8_entriesAhead.cls ≠ "java/lang/invoke/VarHandle" ∧ (parseMethodDescriptor yX8_entriesAhead.desc).map (fun d => d.parameters.length) = some 2 := by decide +kernel
def M_entriesAhead_L5 (m_s : Nat → Int32) (v1 : Int32) (v2 : Int32) (k27 : Int32 → Option (Int32)) : Nat → Int32 → Int32 → Option (Int32)
  | 0, _, _ => none
  | n + 1, v3, v4 => if v2 ≤ v4 then (k27 v3) else (bd1 (M_sizeOf m_s v1 v4) fun r16 => M_entriesAhead_L5 m_s v1 v2 k27 n (v3 + r16) (v4 + 1))
def M_entriesAhead (m_s : Nat → Int32) (v1 : Int32) (v2 : Int32) : Option (Int32) := M_entriesAhead_L5 m_s v1 v2 (fun v3 => some v3) FU 0 0
set_option maxRecDepth 100000 in
set_option maxHeartbeats 4000000 in
theorem t_M_entriesAhead_L5 {p : Program} {l : Launch} {e : Env} {s : State} {m : MethodId} {args : Array Value} {below : List Frame} {meth : Method} {c : Code} {Q : State → Prop} {A : Nat → Prop} {D : va_G} {cI cJ cB cL cS cW : ClassId} {a : Nat → Nat} {m_s m_past m_kept m_refused m_text m_asked m_heads m_forkBit m_forkFrom m_forkTo m_wayPage m_wayKnown m_wayGuess m_wayDiff m_wayRead m_wayPlace m_treeBit m_treeLeft m_treeRight m_treeAbove m_pileFrom m_pileTo m_pileAbove : Nat → Int32} {m_known m_typed m_askedLength m_entries m_forks m_guess m_diff m_read m_placeOf m_treeForks m_treeDeep : Int32} {v1 : Int32} {v2 : Int32} {r : Int32} (C : k_C p s m args meth c cX8_entriesAhead 5 (some .int) RX8 wsX8_entriesAhead D (kT cI cJ cB cL cS cW) A) (hD : va_D A (WM0 a cI)) (hret : ∀ (H : Heap) (locs : List Loc) (pc : Nat) (ls : Array Slot), decode cX8_entriesAhead pc = .ok (.ireturn, 1) → va_P D vwCl (WM a cI m_s m_past m_kept m_refused m_text m_asked m_heads m_forkBit m_forkFrom m_forkTo m_wayPage m_wayKnown m_wayGuess m_wayDiff m_wayRead m_wayPlace m_treeBit m_treeLeft m_treeRight m_treeAbove m_pileFrom m_pileTo m_pileAbove m_known m_typed m_askedLength m_entries m_forks m_guess m_diff m_read m_placeOf m_treeForks m_treeDeep) H → va_S A s.heap H locs → W p l e { frames := 1, cells := 0, slots := 0, locals := 22 } s m args below meth c H locs 0 0 Q (F0 m pc ls [.int r])) {k27 : Int32 → Option (Int32)} (hk27 : ∀ (v3 : Int32) (H : Heap) (locs : List Loc) (ls : Array Slot), va_P D vwCl (WM a cI m_s m_past m_kept m_refused m_text m_asked m_heads m_forkBit m_forkFrom m_forkTo m_wayPage m_wayKnown m_wayGuess m_wayDiff m_wayRead m_wayPlace m_treeBit m_treeLeft m_treeRight m_treeAbove m_pileFrom m_pileTo m_pileAbove m_known m_typed m_askedLength m_entries m_forks m_guess m_diff m_read m_placeOf m_treeForks m_treeDeep) H → va_S A s.heap H locs → lv_has ls 5 [(3, .int v3)] → k27 v3 = some r → W p l e { frames := 1, cells := 0, slots := 0, locals := 22 } s m args below meth c H locs 0 0 Q (F0 m 27 ls [])) : ∀ n : Nat, ∀ (v3 : Int32) (v4 : Int32) (H : Heap) (locs : List Loc) (ls : Array Slot), va_P D vwCl (WM a cI m_s m_past m_kept m_refused m_text m_asked m_heads m_forkBit m_forkFrom m_forkTo m_wayPage m_wayKnown m_wayGuess m_wayDiff m_wayRead m_wayPlace m_treeBit m_treeLeft m_treeRight m_treeAbove m_pileFrom m_pileTo m_pileAbove m_known m_typed m_askedLength m_entries m_forks m_guess m_diff m_read m_placeOf m_treeForks m_treeDeep) H → va_S A s.heap H locs → lv_has ls 5 [(0, .ref (a 0)), (1, .int v1), (2, .int v2), (3, .int v3), (4, .int v4)] → (M_entriesAhead_L5 m_s v1 v2 k27 n) v3 v4 = some r → W p l e { frames := 1, cells := 0, slots := 0, locals := 22 } s m args below meth c H locs 0 0 Q (F0 m 5 ls []) := by
  obtain ⟨hx, hb, hml, hr, hown, hts, hlocks, hK, hA, hN⟩ := id C
  intro n
  induction n with
  | zero =>
    intro v3 v4 H locs ls hP hS hl hm
    cases hm
  | succ n ih =>
    intro v3 v4 H locs ls hP hS hl hm
    rw [M_entriesAhead_L5] at hm
    refine lv_iload hx hb dX8_entriesAhead_5 (lv_at hl 4 rfl) ?_
    refine lv_iload_n hx hb dX8_entriesAhead_7 rfl (lv_at hl 2 rfl) ?_
    refine lv_icmp_ge (tgt := 27) hx hb dX8_entriesAhead_8 (by decide) (fun hc => ?_) (fun hc => ?_)
    · have hm := if_t hc hm
      exact hk27 _ _ _ _ hP hS (lv_sub hl [3] rfl) hm
    · have hm := if_f hc hm
      refine lv_iload_n hx hb dX8_entriesAhead_11 rfl (lv_at hl 3 rfl) ?_
      refine lv_aload_n hx hb dX8_entriesAhead_12 rfl (lv_at hl 0 rfl) ?_
      refine lv_iload_n hx hb dX8_entriesAhead_13 rfl (lv_at hl 1 rfl) ?_
      refine lv_iload hx hb dX8_entriesAhead_14 (lv_at hl 4 rfl) ?_
      obtain ⟨r16, hq, hm⟩ := bd1_some hm
      refine k_callVI (As := [.int v1, .int v4]) (rest := [.int v3]) ⟨hx, hb, hml, hown, hts⟩ hK hA hN (c_X8_sizeOf (a := a) hq) (cwV 2 hts gX8_entriesAhead_X8_sizeOf rfl rfl rfl hdX8_sizeOf ⟨Nat.le_of_ble_eq_true rfl, Nat.le_of_ble_eq_true rfl⟩) hP (va_D_re hD rfl) hS 0 8 rfl rfl rfl hl.1 rfl rfl (Nat.le_of_ble_eq_true rfl) ⟨Nat.zero_le _, Nat.zero_le _⟩ dX8_entriesAhead_16 (fun H locs hP hS => ?_)
      refine lv_iadd hx hb dX8_entriesAhead_19 ?_
      refine lv_istore_n (lv' := [(3, .int (v3 + r16)), (0, .ref (a 0)), (1, .int v1), (2, .int v2), (4, .int v4)]) hx hb dX8_entriesAhead_20 rfl hl (by decide) rfl (fun ls hl => ?_)
      refine lv_iinc (v := (v4 + 1)) (lv' := [(4, .int (v4 + 1)), (3, .int (v3 + r16)), (0, .ref (a 0)), (1, .int v1), (2, .int v2)]) hx hb dX8_entriesAhead_21 hl (k := 4) rfl rfl (by decide) rfl (fun ls hl => ?_)
      refine lv_goto (tgt := 5) hx hb dX8_entriesAhead_24 (by decide) ?_
      exact ih _ _ _ _ _ hP hS (lv_sub hl [2, 3, 4, 1, 0] rfl) hm
set_option maxRecDepth 100000 in
set_option maxHeartbeats 4000000 in
theorem c_X8_entriesAhead {l : Launch} {D : va_G} {cI cJ cB cL cS cW : ClassId} {a : Nat → Nat} {m_s m_past m_kept m_refused m_text m_asked m_heads m_forkBit m_forkFrom m_forkTo m_wayPage m_wayKnown m_wayGuess m_wayDiff m_wayRead m_wayPlace m_treeBit m_treeLeft m_treeRight m_treeAbove m_pileFrom m_pileTo m_pileAbove : Nat → Int32} {m_known m_typed m_askedLength m_entries m_forks m_guess m_diff m_read m_placeOf m_treeForks m_treeDeep : Int32} {v1 : Int32} {v2 : Int32} {r : Int32} (hm : M_entriesAhead m_s v1 v2 = some r) : k_MI l yX8_entriesAhead wsX8_entriesAhead { frames := 1, cells := 0, slots := 0, locals := 22 } D (kT cI cJ cB cL cS cW) [.ref (a 0), .int v1, .int v2] (WM a cI m_s m_past m_kept m_refused m_text m_asked m_heads m_forkBit m_forkFrom m_forkTo m_wayPage m_wayKnown m_wayGuess m_wayDiff m_wayRead m_wayPlace m_treeBit m_treeLeft m_treeRight m_treeAbove m_pileFrom m_pileTo m_pileAbove m_known m_typed m_askedLength m_entries m_forks m_guess m_diff m_read m_placeOf m_treeForks m_treeDeep) r (WM a cI m_s m_past m_kept m_refused m_text m_asked m_heads m_forkBit m_forkFrom m_forkTo m_wayPage m_wayKnown m_wayGuess m_wayDiff m_wayRead m_wayPlace m_treeBit m_treeLeft m_treeRight m_treeAbove m_pileFrom m_pileTo m_pileAbove m_known m_typed m_askedLength m_entries m_forks m_guess m_diff m_read m_placeOf m_treeForks m_treeDeep) := by
  refine k_ofI (cc := cX8_entriesAhead) (maxL := 5) (own := RX8) (by decide) rfl rfl (Nat.le_of_ble_eq_true rfl) ?_
  intro p e s m args below meth c A Q ls C hP hD hl hret
  have hD : va_D A (WM0 a cI) := va_D_re hD rfl
  have hS : va_S A s.heap s.heap [] := va_S.rf
  have hl : lv_has ls 5 [(0, .ref (a 0)), (1, .int v1), (2, .int v2)] := hl
  obtain ⟨hx, hb, hml, hr, hown, hts, hlocks, hK, hA, hN⟩ := id C
  rw [M_entriesAhead] at hm
  refine lv_iconst (v := 0) hx hb dX8_entriesAhead_0 (by decide) ?_
  refine lv_istore_n (lv' := [(3, .int 0), (0, .ref (a 0)), (1, .int v1), (2, .int v2)]) hx hb dX8_entriesAhead_1 rfl hl (by decide) rfl (fun ls hl => ?_)
  refine lv_iconst (v := 0) hx hb dX8_entriesAhead_2 (by decide) ?_
  refine lv_istore (lv' := [(4, .int 0), (3, .int 0), (0, .ref (a 0)), (1, .int v1), (2, .int v2)]) hx hb dX8_entriesAhead_3 hl (by decide) rfl (fun ls hl => ?_)
  refine t_M_entriesAhead_L5 C hD hret ?_ FU _ _ _ _ _ hP hS (lv_sub hl [2, 3, 4, 1, 0] rfl) hm
  · intro v3 H locs ls hP hS hl hm
    try dsimp only at hm
    refine lv_iload_n hx hb dX8_entriesAhead_27 rfl (lv_at hl 0 rfl) ?_
    obtain rfl := Option.some.inj hm
    exact hret _ _ _ _ dX8_entriesAhead_28 hP hS
theorem hdX8_headOf : yX8_headOf.cls = RX8 ∧ yX8_headOf.cls ≠ "java/lang/invoke/MethodHandle" ∧ yX8_headOf.cls ≠ "java/lang/invoke/VarHandle" ∧ (parseMethodDescriptor yX8_headOf.desc).map (fun d => d.parameters.length) = some 2 := by decide +kernel
def M_headOf_L5 (m_s : Nat → Int32) (v1 : Int32) (v2 : Int32) (k24 : Int32 → Option (Int32)) : Nat → Int32 → Int32 → Option (Int32)
  | 0, _, _ => none
  | n + 1, v3, v4 => if v4 < 0 then (k24 v3) else (bd1 (M_entriesAhead m_s v4 v3) fun r14 => M_headOf_L5 m_s v1 v2 k24 n r14 (v4 + (-1)))
def M_headOf (m_s : Nat → Int32) (v1 : Int32) (v2 : Int32) : Option (Int32) := M_headOf_L5 m_s v1 v2 (fun v3 => some v3) FU v2 v1
set_option maxRecDepth 100000 in
set_option maxHeartbeats 4000000 in
theorem t_M_headOf_L5 {p : Program} {l : Launch} {e : Env} {s : State} {m : MethodId} {args : Array Value} {below : List Frame} {meth : Method} {c : Code} {Q : State → Prop} {A : Nat → Prop} {D : va_G} {cI cJ cB cL cS cW : ClassId} {a : Nat → Nat} {m_s m_past m_kept m_refused m_text m_asked m_heads m_forkBit m_forkFrom m_forkTo m_wayPage m_wayKnown m_wayGuess m_wayDiff m_wayRead m_wayPlace m_treeBit m_treeLeft m_treeRight m_treeAbove m_pileFrom m_pileTo m_pileAbove : Nat → Int32} {m_known m_typed m_askedLength m_entries m_forks m_guess m_diff m_read m_placeOf m_treeForks m_treeDeep : Int32} {v1 : Int32} {v2 : Int32} {r : Int32} (C : k_C p s m args meth c cX8_headOf 5 (some .int) RX8 wsX8_headOf D (kT cI cJ cB cL cS cW) A) (hD : va_D A (WM0 a cI)) (hret : ∀ (H : Heap) (locs : List Loc) (pc : Nat) (ls : Array Slot), decode cX8_headOf pc = .ok (.ireturn, 1) → va_P D vwCl (WM a cI m_s m_past m_kept m_refused m_text m_asked m_heads m_forkBit m_forkFrom m_forkTo m_wayPage m_wayKnown m_wayGuess m_wayDiff m_wayRead m_wayPlace m_treeBit m_treeLeft m_treeRight m_treeAbove m_pileFrom m_pileTo m_pileAbove m_known m_typed m_askedLength m_entries m_forks m_guess m_diff m_read m_placeOf m_treeForks m_treeDeep) H → va_S A s.heap H locs → W p l e { frames := 2, cells := 0, slots := 0, locals := 46 } s m args below meth c H locs 0 0 Q (F0 m pc ls [.int r])) {k24 : Int32 → Option (Int32)} (hk24 : ∀ (v3 : Int32) (H : Heap) (locs : List Loc) (ls : Array Slot), va_P D vwCl (WM a cI m_s m_past m_kept m_refused m_text m_asked m_heads m_forkBit m_forkFrom m_forkTo m_wayPage m_wayKnown m_wayGuess m_wayDiff m_wayRead m_wayPlace m_treeBit m_treeLeft m_treeRight m_treeAbove m_pileFrom m_pileTo m_pileAbove m_known m_typed m_askedLength m_entries m_forks m_guess m_diff m_read m_placeOf m_treeForks m_treeDeep) H → va_S A s.heap H locs → lv_has ls 5 [(3, .int v3)] → k24 v3 = some r → W p l e { frames := 2, cells := 0, slots := 0, locals := 46 } s m args below meth c H locs 0 0 Q (F0 m 24 ls [])) : ∀ n : Nat, ∀ (v3 : Int32) (v4 : Int32) (H : Heap) (locs : List Loc) (ls : Array Slot), va_P D vwCl (WM a cI m_s m_past m_kept m_refused m_text m_asked m_heads m_forkBit m_forkFrom m_forkTo m_wayPage m_wayKnown m_wayGuess m_wayDiff m_wayRead m_wayPlace m_treeBit m_treeLeft m_treeRight m_treeAbove m_pileFrom m_pileTo m_pileAbove m_known m_typed m_askedLength m_entries m_forks m_guess m_diff m_read m_placeOf m_treeForks m_treeDeep) H → va_S A s.heap H locs → lv_has ls 5 [(0, .ref (a 0)), (3, .int v3), (4, .int v4)] → (M_headOf_L5 m_s v1 v2 k24 n) v3 v4 = some r → W p l e { frames := 2, cells := 0, slots := 0, locals := 46 } s m args below meth c H locs 0 0 Q (F0 m 5 ls []) := by
  obtain ⟨hx, hb, hml, hr, hown, hts, hlocks, hK, hA, hN⟩ := id C
  intro n
  induction n with
  | zero =>
    intro v3 v4 H locs ls hP hS hl hm
    cases hm
  | succ n ih =>
    intro v3 v4 H locs ls hP hS hl hm
    rw [M_headOf_L5] at hm
    refine lv_iload hx hb dX8_headOf_5 (lv_at hl 2 rfl) ?_
    refine lv_if_lt (tgt := 24) hx hb dX8_headOf_7 (by decide) (fun hc => ?_) (fun hc => ?_)
    · have hm := if_t hc hm
      exact hk24 _ _ _ _ hP hS (lv_sub hl [1] rfl) hm
    · have hm := if_f hc hm
      refine lv_aload_n hx hb dX8_headOf_10 rfl (lv_at hl 0 rfl) ?_
      refine lv_iload hx hb dX8_headOf_11 (lv_at hl 2 rfl) ?_
      refine lv_iload_n hx hb dX8_headOf_13 rfl (lv_at hl 1 rfl) ?_
      obtain ⟨r14, hq, hm⟩ := bd1_some hm
      refine k_callVI (As := [.int v4, .int v3]) (rest := []) ⟨hx, hb, hml, hown, hts⟩ hK hA hN (c_X8_entriesAhead (a := a) hq) (cwV 2 hts gX8_headOf_X8_entriesAhead rfl rfl rfl hdX8_entriesAhead ⟨Nat.le_of_ble_eq_true rfl, Nat.le_of_ble_eq_true rfl⟩) hP (va_D_re hD rfl) hS 0 8 rfl rfl rfl hl.1 rfl rfl (Nat.le_of_ble_eq_true rfl) ⟨Nat.zero_le _, Nat.zero_le _⟩ dX8_headOf_14 (fun H locs hP hS => ?_)
      refine lv_istore_n (lv' := [(3, .int r14), (0, .ref (a 0)), (4, .int v4)]) hx hb dX8_headOf_17 rfl hl (by decide) rfl (fun ls hl => ?_)
      refine lv_iinc (v := (v4 + (-1))) (lv' := [(4, .int (v4 + (-1))), (3, .int r14), (0, .ref (a 0))]) hx hb dX8_headOf_18 hl (k := 2) rfl rfl (by decide) rfl (fun ls hl => ?_)
      refine lv_goto (tgt := 5) hx hb dX8_headOf_21 (by decide) ?_
      exact ih _ _ _ _ _ hP hS (lv_sub hl [2, 1, 0] rfl) hm
set_option maxRecDepth 100000 in
set_option maxHeartbeats 4000000 in
theorem c_X8_headOf {l : Launch} {D : va_G} {cI cJ cB cL cS cW : ClassId} {a : Nat → Nat} {m_s m_past m_kept m_refused m_text m_asked m_heads m_forkBit m_forkFrom m_forkTo m_wayPage m_wayKnown m_wayGuess m_wayDiff m_wayRead m_wayPlace m_treeBit m_treeLeft m_treeRight m_treeAbove m_pileFrom m_pileTo m_pileAbove : Nat → Int32} {m_known m_typed m_askedLength m_entries m_forks m_guess m_diff m_read m_placeOf m_treeForks m_treeDeep : Int32} {v1 : Int32} {v2 : Int32} {r : Int32} (hm : M_headOf m_s v1 v2 = some r) : k_MI l yX8_headOf wsX8_headOf { frames := 2, cells := 0, slots := 0, locals := 46 } D (kT cI cJ cB cL cS cW) [.ref (a 0), .int v1, .int v2] (WM a cI m_s m_past m_kept m_refused m_text m_asked m_heads m_forkBit m_forkFrom m_forkTo m_wayPage m_wayKnown m_wayGuess m_wayDiff m_wayRead m_wayPlace m_treeBit m_treeLeft m_treeRight m_treeAbove m_pileFrom m_pileTo m_pileAbove m_known m_typed m_askedLength m_entries m_forks m_guess m_diff m_read m_placeOf m_treeForks m_treeDeep) r (WM a cI m_s m_past m_kept m_refused m_text m_asked m_heads m_forkBit m_forkFrom m_forkTo m_wayPage m_wayKnown m_wayGuess m_wayDiff m_wayRead m_wayPlace m_treeBit m_treeLeft m_treeRight m_treeAbove m_pileFrom m_pileTo m_pileAbove m_known m_typed m_askedLength m_entries m_forks m_guess m_diff m_read m_placeOf m_treeForks m_treeDeep) := by
  refine k_ofI (cc := cX8_headOf) (maxL := 5) (own := RX8) (by decide) rfl rfl (Nat.le_of_ble_eq_true rfl) ?_
  intro p e s m args below meth c A Q ls C hP hD hl hret
  have hD : va_D A (WM0 a cI) := va_D_re hD rfl
  have hS : va_S A s.heap s.heap [] := va_S.rf
  have hl : lv_has ls 5 [(0, .ref (a 0)), (1, .int v1), (2, .int v2)] := hl
  obtain ⟨hx, hb, hml, hr, hown, hts, hlocks, hK, hA, hN⟩ := id C
  rw [M_headOf] at hm
  refine lv_iload_n hx hb dX8_headOf_0 rfl (lv_at hl 2 rfl) ?_
  refine lv_istore_n (lv' := [(3, .int v2), (0, .ref (a 0)), (1, .int v1), (2, .int v2)]) hx hb dX8_headOf_1 rfl hl (by decide) rfl (fun ls hl => ?_)
  refine lv_iload_n hx hb dX8_headOf_2 rfl (lv_at hl 2 rfl) ?_
  refine lv_istore (lv' := [(4, .int v1), (3, .int v2), (0, .ref (a 0)), (1, .int v1), (2, .int v2)]) hx hb dX8_headOf_3 hl (by decide) rfl (fun ls hl => ?_)
  refine t_M_headOf_L5 C hD hret ?_ FU _ _ _ _ _ hP hS (lv_sub hl [2, 1, 0] rfl) hm
  · intro v3 H locs ls hP hS hl hm
    try dsimp only at hm
    refine lv_iload_n hx hb dX8_headOf_24 rfl (lv_at hl 0 rfl) ?_
    obtain rfl := Option.some.inj hm
    exact hret _ _ _ _ dX8_headOf_25 hP hS
theorem hdX8_topLevel : yX8_topLevel.cls = RX8 ∧ yX8_topLevel.cls ≠ "java/lang/invoke/MethodHandle" ∧ yX8_topLevel.cls ≠ "java/lang/invoke/VarHandle" ∧ (parseMethodDescriptor yX8_topLevel.desc).map (fun d => d.parameters.length) = some 0 := by decide +kernel
theorem hiX8_topLevel : ∀ w ∈ u_ws RX8 TX8 34, w ∈ wsX8_topLevel := by decide +kernel
theorem flX8_topLevel_7 : Cond.fieldLink RX8 7 "BlindPagesModel" "s" "[I" ∈ wsX8_topLevel := by decide +kernel
def M_topLevel (m_s : Nat → Int32) : Option (Int32) := some ((m_s 2) - 1)
set_option maxRecDepth 100000 in
set_option maxHeartbeats 4000000 in
theorem c_X8_topLevel {l : Launch} {D : va_G} {cI cJ cB cL cS cW : ClassId} {a : Nat → Nat} {m_s m_past m_kept m_refused m_text m_asked m_heads m_forkBit m_forkFrom m_forkTo m_wayPage m_wayKnown m_wayGuess m_wayDiff m_wayRead m_wayPlace m_treeBit m_treeLeft m_treeRight m_treeAbove m_pileFrom m_pileTo m_pileAbove : Nat → Int32} {m_known m_typed m_askedLength m_entries m_forks m_guess m_diff m_read m_placeOf m_treeForks m_treeDeep : Int32} {r : Int32} (hm : M_topLevel m_s = some r) : k_MI l yX8_topLevel wsX8_topLevel { frames := 0, cells := 0, slots := 0, locals := 0 } D (kT cI cJ cB cL cS cW) [.ref (a 0)] (WM a cI m_s m_past m_kept m_refused m_text m_asked m_heads m_forkBit m_forkFrom m_forkTo m_wayPage m_wayKnown m_wayGuess m_wayDiff m_wayRead m_wayPlace m_treeBit m_treeLeft m_treeRight m_treeAbove m_pileFrom m_pileTo m_pileAbove m_known m_typed m_askedLength m_entries m_forks m_guess m_diff m_read m_placeOf m_treeForks m_treeDeep) r (WM a cI m_s m_past m_kept m_refused m_text m_asked m_heads m_forkBit m_forkFrom m_forkTo m_wayPage m_wayKnown m_wayGuess m_wayDiff m_wayRead m_wayPlace m_treeBit m_treeLeft m_treeRight m_treeAbove m_pileFrom m_pileTo m_pileAbove m_known m_typed m_askedLength m_entries m_forks m_guess m_diff m_read m_placeOf m_treeForks m_treeDeep) := by
  refine k_ofI (cc := cX8_topLevel) (maxL := 1) (own := RX8) (by decide) rfl rfl (Nat.le_of_ble_eq_true rfl) ?_
  intro p e s m args below meth c A Q ls C hP hD hl hret
  have hD : va_D A (WM0 a cI) := va_D_re hD rfl
  have hS : va_S A s.heap s.heap [] := va_S.rf
  have hl : lv_has ls 1 [(0, .ref (a 0))] := hl
  obtain ⟨hx, hb, hml, hr, hown, hts, hlocks, hK, hA, hN⟩ := id C
  rw [M_topLevel] at hm
  refine lv_aload_n hx hb dX8_topLevel_0 rfl (lv_at hl 0 rfl) ?_
  refine kg (v := .ref (a 1)) hx hb hts hiX8_topLevel hown hK hP 0 rfl rfl 0 (by decide) flX8_topLevel_7 rfl rfl dX8_topLevel_1 ?_
  refine lv_iconst (v := 2) hx hb dX8_topLevel_4 (by decide) ?_
  refine k_iald (j := 2) hx hb hK hP 1 0 rfl rfl rfl (vp_lit (by decide)) dX8_topLevel_5 ?_
  refine lv_iconst (v := 1) hx hb dX8_topLevel_6 (by decide) ?_
  refine lv_isub hx hb dX8_topLevel_7 ?_
  obtain rfl := Option.some.inj hm
  exact hret _ _ _ _ dX8_topLevel_8 hP hS
theorem hdX8_numberOf : yX8_numberOf.cls = RX8 ∧ yX8_numberOf.cls ≠ "java/lang/invoke/MethodHandle" ∧ yX8_numberOf.cls ≠ "java/lang/invoke/VarHandle" ∧ (parseMethodDescriptor yX8_numberOf.desc).map (fun d => d.parameters.length) = some 2 := by decide +kernel
theorem hiX8_numberOf : ∀ w ∈ u_ws RX8 TX8 34, w ∈ wsX8_numberOf := by decide +kernel
theorem flX8_numberOf_7 : Cond.fieldLink RX8 7 "BlindPagesModel" "s" "[I" ∈ wsX8_numberOf := by decide +kernel
def M_numberOf_L7 (m_s : Nat → Int32) (v1 : Int32) (v2 : Int32) (k36 : Int32 → Option (Int32)) : Nat → Int32 → Int32 → Option (Int32)
  | 0, _, _ => none
  | n + 1, v3, v4 => if (m_s 2) ≤ v4 then (k36 v3) else (ga (3 + v4) 1552 (M_numberOf_L7 m_s v1 v2 k36 n (v3 + (m_s (3 + v4).toNatClampNeg)) (v4 + 1)))
def M_numberOf (m_s : Nat → Int32) (v1 : Int32) (v2 : Int32) : Option (Int32) := M_numberOf_L7 m_s v1 v2 (fun v3 => some v3) FU v2 (v1 + 1)
set_option maxRecDepth 100000 in
set_option maxHeartbeats 4000000 in
theorem t_M_numberOf_L7 {p : Program} {l : Launch} {e : Env} {s : State} {m : MethodId} {args : Array Value} {below : List Frame} {meth : Method} {c : Code} {Q : State → Prop} {A : Nat → Prop} {D : va_G} {cI cJ cB cL cS cW : ClassId} {a : Nat → Nat} {m_s m_past m_kept m_refused m_text m_asked m_heads m_forkBit m_forkFrom m_forkTo m_wayPage m_wayKnown m_wayGuess m_wayDiff m_wayRead m_wayPlace m_treeBit m_treeLeft m_treeRight m_treeAbove m_pileFrom m_pileTo m_pileAbove : Nat → Int32} {m_known m_typed m_askedLength m_entries m_forks m_guess m_diff m_read m_placeOf m_treeForks m_treeDeep : Int32} {v1 : Int32} {v2 : Int32} {r : Int32} (C : k_C p s m args meth c cX8_numberOf 5 (some .int) RX8 wsX8_numberOf D (kT cI cJ cB cL cS cW) A) (hD : va_D A (WM0 a cI)) (hret : ∀ (H : Heap) (locs : List Loc) (pc : Nat) (ls : Array Slot), decode cX8_numberOf pc = .ok (.ireturn, 1) → va_P D vwCl (WM a cI m_s m_past m_kept m_refused m_text m_asked m_heads m_forkBit m_forkFrom m_forkTo m_wayPage m_wayKnown m_wayGuess m_wayDiff m_wayRead m_wayPlace m_treeBit m_treeLeft m_treeRight m_treeAbove m_pileFrom m_pileTo m_pileAbove m_known m_typed m_askedLength m_entries m_forks m_guess m_diff m_read m_placeOf m_treeForks m_treeDeep) H → va_S A s.heap H locs → W p l e { frames := 0, cells := 0, slots := 0, locals := 0 } s m args below meth c H locs 0 0 Q (F0 m pc ls [.int r])) {k36 : Int32 → Option (Int32)} (hk36 : ∀ (v3 : Int32) (H : Heap) (locs : List Loc) (ls : Array Slot), va_P D vwCl (WM a cI m_s m_past m_kept m_refused m_text m_asked m_heads m_forkBit m_forkFrom m_forkTo m_wayPage m_wayKnown m_wayGuess m_wayDiff m_wayRead m_wayPlace m_treeBit m_treeLeft m_treeRight m_treeAbove m_pileFrom m_pileTo m_pileAbove m_known m_typed m_askedLength m_entries m_forks m_guess m_diff m_read m_placeOf m_treeForks m_treeDeep) H → va_S A s.heap H locs → lv_has ls 5 [(3, .int v3)] → k36 v3 = some r → W p l e { frames := 0, cells := 0, slots := 0, locals := 0 } s m args below meth c H locs 0 0 Q (F0 m 36 ls [])) : ∀ n : Nat, ∀ (v3 : Int32) (v4 : Int32) (H : Heap) (locs : List Loc) (ls : Array Slot), va_P D vwCl (WM a cI m_s m_past m_kept m_refused m_text m_asked m_heads m_forkBit m_forkFrom m_forkTo m_wayPage m_wayKnown m_wayGuess m_wayDiff m_wayRead m_wayPlace m_treeBit m_treeLeft m_treeRight m_treeAbove m_pileFrom m_pileTo m_pileAbove m_known m_typed m_askedLength m_entries m_forks m_guess m_diff m_read m_placeOf m_treeForks m_treeDeep) H → va_S A s.heap H locs → lv_has ls 5 [(0, .ref (a 0)), (3, .int v3), (4, .int v4)] → (M_numberOf_L7 m_s v1 v2 k36 n) v3 v4 = some r → W p l e { frames := 0, cells := 0, slots := 0, locals := 0 } s m args below meth c H locs 0 0 Q (F0 m 7 ls []) := by
  obtain ⟨hx, hb, hml, hr, hown, hts, hlocks, hK, hA, hN⟩ := id C
  intro n
  induction n with
  | zero =>
    intro v3 v4 H locs ls hP hS hl hm
    cases hm
  | succ n ih =>
    intro v3 v4 H locs ls hP hS hl hm
    rw [M_numberOf_L7] at hm
    refine lv_iload hx hb dX8_numberOf_7 (lv_at hl 2 rfl) ?_
    refine lv_aload_n hx hb dX8_numberOf_9 rfl (lv_at hl 0 rfl) ?_
    refine kg (v := .ref (a 1)) hx hb hts hiX8_numberOf hown hK hP 0 rfl rfl 0 (by decide) flX8_numberOf_7 rfl rfl dX8_numberOf_10 ?_
    refine lv_iconst (v := 2) hx hb dX8_numberOf_13 (by decide) ?_
    refine k_iald (j := 2) hx hb hK hP 1 0 rfl rfl rfl (vp_lit (by decide)) dX8_numberOf_14 ?_
    refine lv_icmp_ge (tgt := 36) hx hb dX8_numberOf_15 (by decide) (fun hc => ?_) (fun hc => ?_)
    · have hm := if_t hc hm
      exact hk36 _ _ _ _ hP hS (lv_sub hl [1] rfl) hm
    · have hm := if_f hc hm
      refine lv_iload_n hx hb dX8_numberOf_18 rfl (lv_at hl 1 rfl) ?_
      refine lv_aload_n hx hb dX8_numberOf_19 rfl (lv_at hl 0 rfl) ?_
      refine kg (v := .ref (a 1)) hx hb hts hiX8_numberOf hown hK hP 0 rfl rfl 0 (by decide) flX8_numberOf_7 rfl rfl dX8_numberOf_20 ?_
      refine lv_iconst (v := 3) hx hb dX8_numberOf_23 (by decide) ?_
      refine lv_iload hx hb dX8_numberOf_24 (lv_at hl 2 rfl) ?_
      refine lv_iadd hx hb dX8_numberOf_26 ?_
      obtain ⟨hi, hm⟩ := ga_some hm
      refine k_iald hx hb hK hP 1 0 rfl rfl rfl hi dX8_numberOf_27 ?_
      refine lv_iadd hx hb dX8_numberOf_28 ?_
      refine lv_istore_n (lv' := [(3, .int (v3 + (m_s (3 + v4).toNatClampNeg))), (0, .ref (a 0)), (4, .int v4)]) hx hb dX8_numberOf_29 rfl hl (by decide) rfl (fun ls hl => ?_)
      refine lv_iinc (v := (v4 + 1)) (lv' := [(4, .int (v4 + 1)), (3, .int (v3 + (m_s (3 + v4).toNatClampNeg))), (0, .ref (a 0))]) hx hb dX8_numberOf_30 hl (k := 2) rfl rfl (by decide) rfl (fun ls hl => ?_)
      refine lv_goto (tgt := 7) hx hb dX8_numberOf_33 (by decide) ?_
      exact ih _ _ _ _ _ hP hS (lv_sub hl [2, 1, 0] rfl) hm
set_option maxRecDepth 100000 in
set_option maxHeartbeats 4000000 in
theorem c_X8_numberOf {l : Launch} {D : va_G} {cI cJ cB cL cS cW : ClassId} {a : Nat → Nat} {m_s m_past m_kept m_refused m_text m_asked m_heads m_forkBit m_forkFrom m_forkTo m_wayPage m_wayKnown m_wayGuess m_wayDiff m_wayRead m_wayPlace m_treeBit m_treeLeft m_treeRight m_treeAbove m_pileFrom m_pileTo m_pileAbove : Nat → Int32} {m_known m_typed m_askedLength m_entries m_forks m_guess m_diff m_read m_placeOf m_treeForks m_treeDeep : Int32} {v1 : Int32} {v2 : Int32} {r : Int32} (hm : M_numberOf m_s v1 v2 = some r) : k_MI l yX8_numberOf wsX8_numberOf { frames := 0, cells := 0, slots := 0, locals := 0 } D (kT cI cJ cB cL cS cW) [.ref (a 0), .int v1, .int v2] (WM a cI m_s m_past m_kept m_refused m_text m_asked m_heads m_forkBit m_forkFrom m_forkTo m_wayPage m_wayKnown m_wayGuess m_wayDiff m_wayRead m_wayPlace m_treeBit m_treeLeft m_treeRight m_treeAbove m_pileFrom m_pileTo m_pileAbove m_known m_typed m_askedLength m_entries m_forks m_guess m_diff m_read m_placeOf m_treeForks m_treeDeep) r (WM a cI m_s m_past m_kept m_refused m_text m_asked m_heads m_forkBit m_forkFrom m_forkTo m_wayPage m_wayKnown m_wayGuess m_wayDiff m_wayRead m_wayPlace m_treeBit m_treeLeft m_treeRight m_treeAbove m_pileFrom m_pileTo m_pileAbove m_known m_typed m_askedLength m_entries m_forks m_guess m_diff m_read m_placeOf m_treeForks m_treeDeep) := by
  refine k_ofI (cc := cX8_numberOf) (maxL := 5) (own := RX8) (by decide) rfl rfl (Nat.le_of_ble_eq_true rfl) ?_
  intro p e s m args below meth c A Q ls C hP hD hl hret
  have hD : va_D A (WM0 a cI) := va_D_re hD rfl
  have hS : va_S A s.heap s.heap [] := va_S.rf
  have hl : lv_has ls 5 [(0, .ref (a 0)), (1, .int v1), (2, .int v2)] := hl
  obtain ⟨hx, hb, hml, hr, hown, hts, hlocks, hK, hA, hN⟩ := id C
  rw [M_numberOf] at hm
  refine lv_iload_n hx hb dX8_numberOf_0 rfl (lv_at hl 2 rfl) ?_
  refine lv_istore_n (lv' := [(3, .int v2), (0, .ref (a 0)), (1, .int v1), (2, .int v2)]) hx hb dX8_numberOf_1 rfl hl (by decide) rfl (fun ls hl => ?_)
  refine lv_iload_n hx hb dX8_numberOf_2 rfl (lv_at hl 2 rfl) ?_
  refine lv_iconst (v := 1) hx hb dX8_numberOf_3 (by decide) ?_
  refine lv_iadd hx hb dX8_numberOf_4 ?_
  refine lv_istore (lv' := [(4, .int (v1 + 1)), (3, .int v2), (0, .ref (a 0)), (1, .int v1), (2, .int v2)]) hx hb dX8_numberOf_5 hl (by decide) rfl (fun ls hl => ?_)
  refine t_M_numberOf_L7 C hD hret ?_ FU _ _ _ _ _ hP hS (lv_sub hl [2, 1, 0] rfl) hm
  · intro v3 H locs ls hP hS hl hm
    try dsimp only at hm
    refine lv_iload_n hx hb dX8_numberOf_36 rfl (lv_at hl 0 rfl) ?_
    obtain rfl := Option.some.inj hm
    exact hret _ _ _ _ dX8_numberOf_37 hP hS
theorem hdX8_manyPages : yX8_manyPages.cls = RX8 ∧ yX8_manyPages.cls ≠ "java/lang/invoke/MethodHandle" ∧ yX8_manyPages.cls ≠ "java/lang/invoke/VarHandle" ∧ (parseMethodDescriptor yX8_manyPages.desc).map (fun d => d.parameters.length) = some 0 := by decide +kernel
theorem hiX8_manyPages : ∀ w ∈ u_ws RX8 TX8 34, w ∈ wsX8_manyPages := by decide +kernel
theorem flX8_manyPages_7 : Cond.fieldLink RX8 7 "BlindPagesModel" "s" "[I" ∈ wsX8_manyPages := by decide +kernel
def M_manyPages_L4 (m_s : Nat → Int32) (k31 : Int32 → Option (Int32)) : Nat → Int32 → Int32 → Option (Int32)
  | 0, _, _ => none
  | n + 1, v1, v2 => if (m_s 2) ≤ v2 then (k31 v1) else (ga (3 + v2) 1552 (M_manyPages_L4 m_s k31 n (v1 + (m_s (3 + v2).toNatClampNeg)) (v2 + 1)))
def M_manyPages (m_s : Nat → Int32) : Option (Int32) := M_manyPages_L4 m_s (fun v1 => some v1) FU 0 0
set_option maxRecDepth 100000 in
set_option maxHeartbeats 4000000 in
theorem t_M_manyPages_L4 {p : Program} {l : Launch} {e : Env} {s : State} {m : MethodId} {args : Array Value} {below : List Frame} {meth : Method} {c : Code} {Q : State → Prop} {A : Nat → Prop} {D : va_G} {cI cJ cB cL cS cW : ClassId} {a : Nat → Nat} {m_s m_past m_kept m_refused m_text m_asked m_heads m_forkBit m_forkFrom m_forkTo m_wayPage m_wayKnown m_wayGuess m_wayDiff m_wayRead m_wayPlace m_treeBit m_treeLeft m_treeRight m_treeAbove m_pileFrom m_pileTo m_pileAbove : Nat → Int32} {m_known m_typed m_askedLength m_entries m_forks m_guess m_diff m_read m_placeOf m_treeForks m_treeDeep : Int32} {r : Int32} (C : k_C p s m args meth c cX8_manyPages 3 (some .int) RX8 wsX8_manyPages D (kT cI cJ cB cL cS cW) A) (hD : va_D A (WM0 a cI)) (hret : ∀ (H : Heap) (locs : List Loc) (pc : Nat) (ls : Array Slot), decode cX8_manyPages pc = .ok (.ireturn, 1) → va_P D vwCl (WM a cI m_s m_past m_kept m_refused m_text m_asked m_heads m_forkBit m_forkFrom m_forkTo m_wayPage m_wayKnown m_wayGuess m_wayDiff m_wayRead m_wayPlace m_treeBit m_treeLeft m_treeRight m_treeAbove m_pileFrom m_pileTo m_pileAbove m_known m_typed m_askedLength m_entries m_forks m_guess m_diff m_read m_placeOf m_treeForks m_treeDeep) H → va_S A s.heap H locs → W p l e { frames := 0, cells := 0, slots := 0, locals := 0 } s m args below meth c H locs 0 0 Q (F0 m pc ls [.int r])) {k31 : Int32 → Option (Int32)} (hk31 : ∀ (v1 : Int32) (H : Heap) (locs : List Loc) (ls : Array Slot), va_P D vwCl (WM a cI m_s m_past m_kept m_refused m_text m_asked m_heads m_forkBit m_forkFrom m_forkTo m_wayPage m_wayKnown m_wayGuess m_wayDiff m_wayRead m_wayPlace m_treeBit m_treeLeft m_treeRight m_treeAbove m_pileFrom m_pileTo m_pileAbove m_known m_typed m_askedLength m_entries m_forks m_guess m_diff m_read m_placeOf m_treeForks m_treeDeep) H → va_S A s.heap H locs → lv_has ls 3 [(1, .int v1)] → k31 v1 = some r → W p l e { frames := 0, cells := 0, slots := 0, locals := 0 } s m args below meth c H locs 0 0 Q (F0 m 31 ls [])) : ∀ n : Nat, ∀ (v1 : Int32) (v2 : Int32) (H : Heap) (locs : List Loc) (ls : Array Slot), va_P D vwCl (WM a cI m_s m_past m_kept m_refused m_text m_asked m_heads m_forkBit m_forkFrom m_forkTo m_wayPage m_wayKnown m_wayGuess m_wayDiff m_wayRead m_wayPlace m_treeBit m_treeLeft m_treeRight m_treeAbove m_pileFrom m_pileTo m_pileAbove m_known m_typed m_askedLength m_entries m_forks m_guess m_diff m_read m_placeOf m_treeForks m_treeDeep) H → va_S A s.heap H locs → lv_has ls 3 [(0, .ref (a 0)), (1, .int v1), (2, .int v2)] → (M_manyPages_L4 m_s k31 n) v1 v2 = some r → W p l e { frames := 0, cells := 0, slots := 0, locals := 0 } s m args below meth c H locs 0 0 Q (F0 m 4 ls []) := by
  obtain ⟨hx, hb, hml, hr, hown, hts, hlocks, hK, hA, hN⟩ := id C
  intro n
  induction n with
  | zero =>
    intro v1 v2 H locs ls hP hS hl hm
    cases hm
  | succ n ih =>
    intro v1 v2 H locs ls hP hS hl hm
    rw [M_manyPages_L4] at hm
    refine lv_iload_n hx hb dX8_manyPages_4 rfl (lv_at hl 2 rfl) ?_
    refine lv_aload_n hx hb dX8_manyPages_5 rfl (lv_at hl 0 rfl) ?_
    refine kg (v := .ref (a 1)) hx hb hts hiX8_manyPages hown hK hP 0 rfl rfl 0 (by decide) flX8_manyPages_7 rfl rfl dX8_manyPages_6 ?_
    refine lv_iconst (v := 2) hx hb dX8_manyPages_9 (by decide) ?_
    refine k_iald (j := 2) hx hb hK hP 1 0 rfl rfl rfl (vp_lit (by decide)) dX8_manyPages_10 ?_
    refine lv_icmp_ge (tgt := 31) hx hb dX8_manyPages_11 (by decide) (fun hc => ?_) (fun hc => ?_)
    · have hm := if_t hc hm
      exact hk31 _ _ _ _ hP hS (lv_sub hl [1] rfl) hm
    · have hm := if_f hc hm
      refine lv_iload_n hx hb dX8_manyPages_14 rfl (lv_at hl 1 rfl) ?_
      refine lv_aload_n hx hb dX8_manyPages_15 rfl (lv_at hl 0 rfl) ?_
      refine kg (v := .ref (a 1)) hx hb hts hiX8_manyPages hown hK hP 0 rfl rfl 0 (by decide) flX8_manyPages_7 rfl rfl dX8_manyPages_16 ?_
      refine lv_iconst (v := 3) hx hb dX8_manyPages_19 (by decide) ?_
      refine lv_iload_n hx hb dX8_manyPages_20 rfl (lv_at hl 2 rfl) ?_
      refine lv_iadd hx hb dX8_manyPages_21 ?_
      obtain ⟨hi, hm⟩ := ga_some hm
      refine k_iald hx hb hK hP 1 0 rfl rfl rfl hi dX8_manyPages_22 ?_
      refine lv_iadd hx hb dX8_manyPages_23 ?_
      refine lv_istore_n (lv' := [(1, .int (v1 + (m_s (3 + v2).toNatClampNeg))), (0, .ref (a 0)), (2, .int v2)]) hx hb dX8_manyPages_24 rfl hl (by decide) rfl (fun ls hl => ?_)
      refine lv_iinc (v := (v2 + 1)) (lv' := [(2, .int (v2 + 1)), (1, .int (v1 + (m_s (3 + v2).toNatClampNeg))), (0, .ref (a 0))]) hx hb dX8_manyPages_25 hl (k := 2) rfl rfl (by decide) rfl (fun ls hl => ?_)
      refine lv_goto (tgt := 4) hx hb dX8_manyPages_28 (by decide) ?_
      exact ih _ _ _ _ _ hP hS (lv_sub hl [2, 1, 0] rfl) hm
set_option maxRecDepth 100000 in
set_option maxHeartbeats 4000000 in
theorem c_X8_manyPages {l : Launch} {D : va_G} {cI cJ cB cL cS cW : ClassId} {a : Nat → Nat} {m_s m_past m_kept m_refused m_text m_asked m_heads m_forkBit m_forkFrom m_forkTo m_wayPage m_wayKnown m_wayGuess m_wayDiff m_wayRead m_wayPlace m_treeBit m_treeLeft m_treeRight m_treeAbove m_pileFrom m_pileTo m_pileAbove : Nat → Int32} {m_known m_typed m_askedLength m_entries m_forks m_guess m_diff m_read m_placeOf m_treeForks m_treeDeep : Int32} {r : Int32} (hm : M_manyPages m_s = some r) : k_MI l yX8_manyPages wsX8_manyPages { frames := 0, cells := 0, slots := 0, locals := 0 } D (kT cI cJ cB cL cS cW) [.ref (a 0)] (WM a cI m_s m_past m_kept m_refused m_text m_asked m_heads m_forkBit m_forkFrom m_forkTo m_wayPage m_wayKnown m_wayGuess m_wayDiff m_wayRead m_wayPlace m_treeBit m_treeLeft m_treeRight m_treeAbove m_pileFrom m_pileTo m_pileAbove m_known m_typed m_askedLength m_entries m_forks m_guess m_diff m_read m_placeOf m_treeForks m_treeDeep) r (WM a cI m_s m_past m_kept m_refused m_text m_asked m_heads m_forkBit m_forkFrom m_forkTo m_wayPage m_wayKnown m_wayGuess m_wayDiff m_wayRead m_wayPlace m_treeBit m_treeLeft m_treeRight m_treeAbove m_pileFrom m_pileTo m_pileAbove m_known m_typed m_askedLength m_entries m_forks m_guess m_diff m_read m_placeOf m_treeForks m_treeDeep) := by
  refine k_ofI (cc := cX8_manyPages) (maxL := 3) (own := RX8) (by decide) rfl rfl (Nat.le_of_ble_eq_true rfl) ?_
  intro p e s m args below meth c A Q ls C hP hD hl hret
  have hD : va_D A (WM0 a cI) := va_D_re hD rfl
  have hS : va_S A s.heap s.heap [] := va_S.rf
  have hl : lv_has ls 3 [(0, .ref (a 0))] := hl
  obtain ⟨hx, hb, hml, hr, hown, hts, hlocks, hK, hA, hN⟩ := id C
  rw [M_manyPages] at hm
  refine lv_iconst (v := 0) hx hb dX8_manyPages_0 (by decide) ?_
  refine lv_istore_n (lv' := [(1, .int 0), (0, .ref (a 0))]) hx hb dX8_manyPages_1 rfl hl (by decide) rfl (fun ls hl => ?_)
  refine lv_iconst (v := 0) hx hb dX8_manyPages_2 (by decide) ?_
  refine lv_istore_n (lv' := [(2, .int 0), (1, .int 0), (0, .ref (a 0))]) hx hb dX8_manyPages_3 rfl hl (by decide) rfl (fun ls hl => ?_)
  refine t_M_manyPages_L4 C hD hret ?_ FU _ _ _ _ _ hP hS (lv_sub hl [2, 1, 0] rfl) hm
  · intro v1 H locs ls hP hS hl hm
    try dsimp only at hm
    refine lv_iload_n hx hb dX8_manyPages_31 rfl (lv_at hl 0 rfl) ?_
    obtain rfl := Option.some.inj hm
    exact hret _ _ _ _ dX8_manyPages_32 hP hS
theorem hdX8_levelOf : yX8_levelOf.cls = RX8 ∧ yX8_levelOf.cls ≠ "java/lang/invoke/MethodHandle" ∧ yX8_levelOf.cls ≠ "java/lang/invoke/VarHandle" ∧ (parseMethodDescriptor yX8_levelOf.desc).map (fun d => d.parameters.length) = some 1 := by decide +kernel
theorem hiX8_levelOf : ∀ w ∈ u_ws RX8 TX8 34, w ∈ wsX8_levelOf := by decide +kernel
theorem flX8_levelOf_7 : Cond.fieldLink RX8 7 "BlindPagesModel" "s" "[I" ∈ wsX8_levelOf := by decide +kernel
def M_levelOf_L7 (m_s : Nat → Int32) (v1 : Int32) (k36 : Int32 → Option (Int32)) : Nat → Int32 → Int32 → Option (Int32)
  | 0, _, _ => none
  | n + 1, v2, v3 => ga (3 + v2) 1552 (if v3 < (m_s (3 + v2).toNatClampNeg) then (k36 v2) else (ga (3 + v2) 1552 (M_levelOf_L7 m_s v1 k36 n (v2 + (-1)) (v3 - (m_s (3 + v2).toNatClampNeg)))))
def M_levelOf (m_s : Nat → Int32) (v1 : Int32) : Option (Int32) := bd1 (M_topLevel m_s) fun r1 => M_levelOf_L7 m_s v1 (fun v2 => some v2) FU r1 v1
set_option maxRecDepth 100000 in
set_option maxHeartbeats 4000000 in
theorem t_M_levelOf_L7 {p : Program} {l : Launch} {e : Env} {s : State} {m : MethodId} {args : Array Value} {below : List Frame} {meth : Method} {c : Code} {Q : State → Prop} {A : Nat → Prop} {D : va_G} {cI cJ cB cL cS cW : ClassId} {a : Nat → Nat} {m_s m_past m_kept m_refused m_text m_asked m_heads m_forkBit m_forkFrom m_forkTo m_wayPage m_wayKnown m_wayGuess m_wayDiff m_wayRead m_wayPlace m_treeBit m_treeLeft m_treeRight m_treeAbove m_pileFrom m_pileTo m_pileAbove : Nat → Int32} {m_known m_typed m_askedLength m_entries m_forks m_guess m_diff m_read m_placeOf m_treeForks m_treeDeep : Int32} {v1 : Int32} {r : Int32} (C : k_C p s m args meth c cX8_levelOf 4 (some .int) RX8 wsX8_levelOf D (kT cI cJ cB cL cS cW) A) (hD : va_D A (WM0 a cI)) (hret : ∀ (H : Heap) (locs : List Loc) (pc : Nat) (ls : Array Slot), decode cX8_levelOf pc = .ok (.ireturn, 1) → va_P D vwCl (WM a cI m_s m_past m_kept m_refused m_text m_asked m_heads m_forkBit m_forkFrom m_forkTo m_wayPage m_wayKnown m_wayGuess m_wayDiff m_wayRead m_wayPlace m_treeBit m_treeLeft m_treeRight m_treeAbove m_pileFrom m_pileTo m_pileAbove m_known m_typed m_askedLength m_entries m_forks m_guess m_diff m_read m_placeOf m_treeForks m_treeDeep) H → va_S A s.heap H locs → W p l e { frames := 1, cells := 0, slots := 0, locals := 20 } s m args below meth c H locs 0 0 Q (F0 m pc ls [.int r])) {k36 : Int32 → Option (Int32)} (hk36 : ∀ (v2 : Int32) (H : Heap) (locs : List Loc) (ls : Array Slot), va_P D vwCl (WM a cI m_s m_past m_kept m_refused m_text m_asked m_heads m_forkBit m_forkFrom m_forkTo m_wayPage m_wayKnown m_wayGuess m_wayDiff m_wayRead m_wayPlace m_treeBit m_treeLeft m_treeRight m_treeAbove m_pileFrom m_pileTo m_pileAbove m_known m_typed m_askedLength m_entries m_forks m_guess m_diff m_read m_placeOf m_treeForks m_treeDeep) H → va_S A s.heap H locs → lv_has ls 4 [(2, .int v2)] → k36 v2 = some r → W p l e { frames := 1, cells := 0, slots := 0, locals := 20 } s m args below meth c H locs 0 0 Q (F0 m 36 ls [])) : ∀ n : Nat, ∀ (v2 : Int32) (v3 : Int32) (H : Heap) (locs : List Loc) (ls : Array Slot), va_P D vwCl (WM a cI m_s m_past m_kept m_refused m_text m_asked m_heads m_forkBit m_forkFrom m_forkTo m_wayPage m_wayKnown m_wayGuess m_wayDiff m_wayRead m_wayPlace m_treeBit m_treeLeft m_treeRight m_treeAbove m_pileFrom m_pileTo m_pileAbove m_known m_typed m_askedLength m_entries m_forks m_guess m_diff m_read m_placeOf m_treeForks m_treeDeep) H → va_S A s.heap H locs → lv_has ls 4 [(0, .ref (a 0)), (2, .int v2), (3, .int v3)] → (M_levelOf_L7 m_s v1 k36 n) v2 v3 = some r → W p l e { frames := 1, cells := 0, slots := 0, locals := 20 } s m args below meth c H locs 0 0 Q (F0 m 7 ls []) := by
  obtain ⟨hx, hb, hml, hr, hown, hts, hlocks, hK, hA, hN⟩ := id C
  intro n
  induction n with
  | zero =>
    intro v2 v3 H locs ls hP hS hl hm
    cases hm
  | succ n ih =>
    intro v2 v3 H locs ls hP hS hl hm
    rw [M_levelOf_L7] at hm
    refine lv_iload_n hx hb dX8_levelOf_7 rfl (lv_at hl 2 rfl) ?_
    refine lv_aload_n hx hb dX8_levelOf_8 rfl (lv_at hl 0 rfl) ?_
    refine kg (v := .ref (a 1)) hx hb hts hiX8_levelOf hown hK hP 0 rfl rfl 0 (by decide) flX8_levelOf_7 rfl rfl dX8_levelOf_9 ?_
    refine lv_iconst (v := 3) hx hb dX8_levelOf_12 (by decide) ?_
    refine lv_iload_n hx hb dX8_levelOf_13 rfl (lv_at hl 1 rfl) ?_
    refine lv_iadd hx hb dX8_levelOf_14 ?_
    obtain ⟨hi, hm⟩ := ga_some hm
    refine k_iald hx hb hK hP 1 0 rfl rfl rfl hi dX8_levelOf_15 ?_
    refine lv_icmp_lt (tgt := 36) hx hb dX8_levelOf_16 (by decide) (fun hc => ?_) (fun hc => ?_)
    · have hm := if_t hc hm
      exact hk36 _ _ _ _ hP hS (lv_sub hl [1] rfl) hm
    · have hm := if_f hc hm
      refine lv_iload_n hx hb dX8_levelOf_19 rfl (lv_at hl 2 rfl) ?_
      refine lv_aload_n hx hb dX8_levelOf_20 rfl (lv_at hl 0 rfl) ?_
      refine kg (v := .ref (a 1)) hx hb hts hiX8_levelOf hown hK hP 0 rfl rfl 0 (by decide) flX8_levelOf_7 rfl rfl dX8_levelOf_21 ?_
      refine lv_iconst (v := 3) hx hb dX8_levelOf_24 (by decide) ?_
      refine lv_iload_n hx hb dX8_levelOf_25 rfl (lv_at hl 1 rfl) ?_
      refine lv_iadd hx hb dX8_levelOf_26 ?_
      obtain ⟨hi, hm⟩ := ga_some hm
      refine k_iald hx hb hK hP 1 0 rfl rfl rfl hi dX8_levelOf_27 ?_
      refine lv_isub hx hb dX8_levelOf_28 ?_
      refine lv_istore_n (lv' := [(3, .int (v3 - (m_s (3 + v2).toNatClampNeg))), (0, .ref (a 0)), (2, .int v2)]) hx hb dX8_levelOf_29 rfl hl (by decide) rfl (fun ls hl => ?_)
      refine lv_iinc (v := (v2 + (-1))) (lv' := [(2, .int (v2 + (-1))), (3, .int (v3 - (m_s (3 + v2).toNatClampNeg))), (0, .ref (a 0))]) hx hb dX8_levelOf_30 hl (k := 2) rfl rfl (by decide) rfl (fun ls hl => ?_)
      refine lv_goto (tgt := 7) hx hb dX8_levelOf_33 (by decide) ?_
      exact ih _ _ _ _ _ hP hS (lv_sub hl [2, 0, 1] rfl) hm
set_option maxRecDepth 100000 in
set_option maxHeartbeats 4000000 in
theorem c_X8_levelOf {l : Launch} {D : va_G} {cI cJ cB cL cS cW : ClassId} {a : Nat → Nat} {m_s m_past m_kept m_refused m_text m_asked m_heads m_forkBit m_forkFrom m_forkTo m_wayPage m_wayKnown m_wayGuess m_wayDiff m_wayRead m_wayPlace m_treeBit m_treeLeft m_treeRight m_treeAbove m_pileFrom m_pileTo m_pileAbove : Nat → Int32} {m_known m_typed m_askedLength m_entries m_forks m_guess m_diff m_read m_placeOf m_treeForks m_treeDeep : Int32} {v1 : Int32} {r : Int32} (hm : M_levelOf m_s v1 = some r) : k_MI l yX8_levelOf wsX8_levelOf { frames := 1, cells := 0, slots := 0, locals := 20 } D (kT cI cJ cB cL cS cW) [.ref (a 0), .int v1] (WM a cI m_s m_past m_kept m_refused m_text m_asked m_heads m_forkBit m_forkFrom m_forkTo m_wayPage m_wayKnown m_wayGuess m_wayDiff m_wayRead m_wayPlace m_treeBit m_treeLeft m_treeRight m_treeAbove m_pileFrom m_pileTo m_pileAbove m_known m_typed m_askedLength m_entries m_forks m_guess m_diff m_read m_placeOf m_treeForks m_treeDeep) r (WM a cI m_s m_past m_kept m_refused m_text m_asked m_heads m_forkBit m_forkFrom m_forkTo m_wayPage m_wayKnown m_wayGuess m_wayDiff m_wayRead m_wayPlace m_treeBit m_treeLeft m_treeRight m_treeAbove m_pileFrom m_pileTo m_pileAbove m_known m_typed m_askedLength m_entries m_forks m_guess m_diff m_read m_placeOf m_treeForks m_treeDeep) := by
  refine k_ofI (cc := cX8_levelOf) (maxL := 4) (own := RX8) (by decide) rfl rfl (Nat.le_of_ble_eq_true rfl) ?_
  intro p e s m args below meth c A Q ls C hP hD hl hret
  have hD : va_D A (WM0 a cI) := va_D_re hD rfl
  have hS : va_S A s.heap s.heap [] := va_S.rf
  have hl : lv_has ls 4 [(0, .ref (a 0)), (1, .int v1)] := hl
  obtain ⟨hx, hb, hml, hr, hown, hts, hlocks, hK, hA, hN⟩ := id C
  rw [M_levelOf] at hm
  refine lv_aload_n hx hb dX8_levelOf_0 rfl (lv_at hl 0 rfl) ?_
  obtain ⟨r1, hq, hm⟩ := bd1_some hm
  refine k_callVI (As := []) (rest := []) ⟨hx, hb, hml, hown, hts⟩ hK hA hN (c_X8_topLevel (a := a) hq) (cwV 0 hts gX8_levelOf_X8_topLevel rfl rfl rfl hdX8_topLevel ⟨Nat.le_of_ble_eq_true rfl, Nat.le_of_ble_eq_true rfl⟩) hP (va_D_re hD rfl) hS 0 8 rfl rfl rfl hl.1 rfl rfl (Nat.le_of_ble_eq_true rfl) ⟨Nat.zero_le _, Nat.zero_le _⟩ dX8_levelOf_1 (fun H locs hP hS => ?_)
  refine lv_istore_n (lv' := [(2, .int r1), (0, .ref (a 0)), (1, .int v1)]) hx hb dX8_levelOf_4 rfl hl (by decide) rfl (fun ls hl => ?_)
  refine lv_iload_n hx hb dX8_levelOf_5 rfl (lv_at hl 2 rfl) ?_
  refine lv_istore_n (lv' := [(3, .int v1), (2, .int r1), (0, .ref (a 0)), (1, .int v1)]) hx hb dX8_levelOf_6 rfl hl (by decide) rfl (fun ls hl => ?_)
  refine t_M_levelOf_L7 C hD hret ?_ FU _ _ _ _ _ hP hS (lv_sub hl [2, 1, 0] rfl) hm
  · intro v2 H locs ls hP hS hl hm
    try dsimp only at hm
    refine lv_iload_n hx hb dX8_levelOf_36 rfl (lv_at hl 0 rfl) ?_
    obtain rfl := Option.some.inj hm
    exact hret _ _ _ _ dX8_levelOf_37 hP hS
theorem hdX8_pageOf : yX8_pageOf.cls = RX8 ∧ yX8_pageOf.cls ≠ "java/lang/invoke/MethodHandle" ∧ yX8_pageOf.cls ≠ "java/lang/invoke/VarHandle" ∧ (parseMethodDescriptor yX8_pageOf.desc).map (fun d => d.parameters.length) = some 1 := by decide +kernel
def M_pageOf (m_s : Nat → Int32) (v1 : Int32) : Option (Int32) := bd1 (M_levelOf m_s v1) fun r4 => bd1 (M_numberOf m_s r4 0) fun r8 => some (v1 - r8)
set_option maxRecDepth 100000 in
set_option maxHeartbeats 4000000 in
theorem c_X8_pageOf {l : Launch} {D : va_G} {cI cJ cB cL cS cW : ClassId} {a : Nat → Nat} {m_s m_past m_kept m_refused m_text m_asked m_heads m_forkBit m_forkFrom m_forkTo m_wayPage m_wayKnown m_wayGuess m_wayDiff m_wayRead m_wayPlace m_treeBit m_treeLeft m_treeRight m_treeAbove m_pileFrom m_pileTo m_pileAbove : Nat → Int32} {m_known m_typed m_askedLength m_entries m_forks m_guess m_diff m_read m_placeOf m_treeForks m_treeDeep : Int32} {v1 : Int32} {r : Int32} (hm : M_pageOf m_s v1 = some r) : k_MI l yX8_pageOf wsX8_pageOf { frames := 2, cells := 0, slots := 0, locals := 43 } D (kT cI cJ cB cL cS cW) [.ref (a 0), .int v1] (WM a cI m_s m_past m_kept m_refused m_text m_asked m_heads m_forkBit m_forkFrom m_forkTo m_wayPage m_wayKnown m_wayGuess m_wayDiff m_wayRead m_wayPlace m_treeBit m_treeLeft m_treeRight m_treeAbove m_pileFrom m_pileTo m_pileAbove m_known m_typed m_askedLength m_entries m_forks m_guess m_diff m_read m_placeOf m_treeForks m_treeDeep) r (WM a cI m_s m_past m_kept m_refused m_text m_asked m_heads m_forkBit m_forkFrom m_forkTo m_wayPage m_wayKnown m_wayGuess m_wayDiff m_wayRead m_wayPlace m_treeBit m_treeLeft m_treeRight m_treeAbove m_pileFrom m_pileTo m_pileAbove m_known m_typed m_askedLength m_entries m_forks m_guess m_diff m_read m_placeOf m_treeForks m_treeDeep) := by
  refine k_ofI (cc := cX8_pageOf) (maxL := 2) (own := RX8) (by decide) rfl rfl (Nat.le_of_ble_eq_true rfl) ?_
  intro p e s m args below meth c A Q ls C hP hD hl hret
  have hD : va_D A (WM0 a cI) := va_D_re hD rfl
  have hS : va_S A s.heap s.heap [] := va_S.rf
  have hl : lv_has ls 2 [(0, .ref (a 0)), (1, .int v1)] := hl
  obtain ⟨hx, hb, hml, hr, hown, hts, hlocks, hK, hA, hN⟩ := id C
  rw [M_pageOf] at hm
  refine lv_iload_n hx hb dX8_pageOf_0 rfl (lv_at hl 1 rfl) ?_
  refine lv_aload_n hx hb dX8_pageOf_1 rfl (lv_at hl 0 rfl) ?_
  refine lv_aload_n hx hb dX8_pageOf_2 rfl (lv_at hl 0 rfl) ?_
  refine lv_iload_n hx hb dX8_pageOf_3 rfl (lv_at hl 1 rfl) ?_
  obtain ⟨r4, hq, hm⟩ := bd1_some hm
  refine k_callVI (As := [.int v1]) (rest := [.ref (a 0), .int v1]) ⟨hx, hb, hml, hown, hts⟩ hK hA hN (c_X8_levelOf (a := a) hq) (cwV 1 hts gX8_pageOf_X8_levelOf rfl rfl rfl hdX8_levelOf ⟨Nat.le_of_ble_eq_true rfl, Nat.le_of_ble_eq_true rfl⟩) hP (va_D_re hD rfl) hS 0 8 rfl rfl rfl hl.1 rfl rfl (Nat.le_of_ble_eq_true rfl) ⟨Nat.zero_le _, Nat.zero_le _⟩ dX8_pageOf_4 (fun H locs hP hS => ?_)
  refine lv_iconst (v := 0) hx hb dX8_pageOf_7 (by decide) ?_
  obtain ⟨r8, hq, hm⟩ := bd1_some hm
  refine k_callVI (As := [.int r4, .int 0]) (rest := [.int v1]) ⟨hx, hb, hml, hown, hts⟩ hK hA hN (c_X8_numberOf (a := a) hq) (cwV 2 hts gX8_pageOf_X8_numberOf rfl rfl rfl hdX8_numberOf ⟨Nat.le_of_ble_eq_true rfl, Nat.le_of_ble_eq_true rfl⟩) hP (va_D_re hD rfl) hS 0 8 rfl rfl rfl hl.1 rfl rfl (Nat.le_of_ble_eq_true rfl) ⟨Nat.zero_le _, Nat.zero_le _⟩ dX8_pageOf_8 (fun H locs hP hS => ?_)
  refine lv_isub hx hb dX8_pageOf_11 ?_
  obtain rfl := Option.some.inj hm
  exact hret _ _ _ _ dX8_pageOf_12 hP hS
theorem hdX8_over : yX8_over.cls = RX8 ∧ yX8_over.cls ≠ "java/lang/invoke/MethodHandle" ∧ yX8_over.cls ≠ "java/lang/invoke/VarHandle" ∧ (parseMethodDescriptor yX8_over.desc).map (fun d => d.parameters.length) = some 2 := by decide +kernel
def M_over_L2 (m_s : Nat → Int32) (v1 : Int32) (v2 : Int32) (k22 : Int32 → Option (Int32)) : Nat → Int32 → Option (Int32)
  | 0, _ => none
  | n + 1, v3 => bd1 (M_entriesAhead m_s (v1 + 1) (v3 + 1)) fun r9 => if v2 < r9 then (k22 v3) else (M_over_L2 m_s v1 v2 k22 n (v3 + 1))
def M_over (m_s : Nat → Int32) (v1 : Int32) (v2 : Int32) : Option (Int32) := M_over_L2 m_s v1 v2 (fun v3 => some v3) FU 0
set_option maxRecDepth 100000 in
set_option maxHeartbeats 4000000 in
theorem t_M_over_L2 {p : Program} {l : Launch} {e : Env} {s : State} {m : MethodId} {args : Array Value} {below : List Frame} {meth : Method} {c : Code} {Q : State → Prop} {A : Nat → Prop} {D : va_G} {cI cJ cB cL cS cW : ClassId} {a : Nat → Nat} {m_s m_past m_kept m_refused m_text m_asked m_heads m_forkBit m_forkFrom m_forkTo m_wayPage m_wayKnown m_wayGuess m_wayDiff m_wayRead m_wayPlace m_treeBit m_treeLeft m_treeRight m_treeAbove m_pileFrom m_pileTo m_pileAbove : Nat → Int32} {m_known m_typed m_askedLength m_entries m_forks m_guess m_diff m_read m_placeOf m_treeForks m_treeDeep : Int32} {v1 : Int32} {v2 : Int32} {r : Int32} (C : k_C p s m args meth c cX8_over 4 (some .int) RX8 wsX8_over D (kT cI cJ cB cL cS cW) A) (hD : va_D A (WM0 a cI)) (hret : ∀ (H : Heap) (locs : List Loc) (pc : Nat) (ls : Array Slot), decode cX8_over pc = .ok (.ireturn, 1) → va_P D vwCl (WM a cI m_s m_past m_kept m_refused m_text m_asked m_heads m_forkBit m_forkFrom m_forkTo m_wayPage m_wayKnown m_wayGuess m_wayDiff m_wayRead m_wayPlace m_treeBit m_treeLeft m_treeRight m_treeAbove m_pileFrom m_pileTo m_pileAbove m_known m_typed m_askedLength m_entries m_forks m_guess m_diff m_read m_placeOf m_treeForks m_treeDeep) H → va_S A s.heap H locs → W p l e { frames := 2, cells := 0, slots := 0, locals := 46 } s m args below meth c H locs 0 0 Q (F0 m pc ls [.int r])) {k22 : Int32 → Option (Int32)} (hk22 : ∀ (v3 : Int32) (H : Heap) (locs : List Loc) (ls : Array Slot), va_P D vwCl (WM a cI m_s m_past m_kept m_refused m_text m_asked m_heads m_forkBit m_forkFrom m_forkTo m_wayPage m_wayKnown m_wayGuess m_wayDiff m_wayRead m_wayPlace m_treeBit m_treeLeft m_treeRight m_treeAbove m_pileFrom m_pileTo m_pileAbove m_known m_typed m_askedLength m_entries m_forks m_guess m_diff m_read m_placeOf m_treeForks m_treeDeep) H → va_S A s.heap H locs → lv_has ls 4 [(3, .int v3)] → k22 v3 = some r → W p l e { frames := 2, cells := 0, slots := 0, locals := 46 } s m args below meth c H locs 0 0 Q (F0 m 22 ls [])) : ∀ n : Nat, ∀ (v3 : Int32) (H : Heap) (locs : List Loc) (ls : Array Slot), va_P D vwCl (WM a cI m_s m_past m_kept m_refused m_text m_asked m_heads m_forkBit m_forkFrom m_forkTo m_wayPage m_wayKnown m_wayGuess m_wayDiff m_wayRead m_wayPlace m_treeBit m_treeLeft m_treeRight m_treeAbove m_pileFrom m_pileTo m_pileAbove m_known m_typed m_askedLength m_entries m_forks m_guess m_diff m_read m_placeOf m_treeForks m_treeDeep) H → va_S A s.heap H locs → lv_has ls 4 [(0, .ref (a 0)), (1, .int v1), (2, .int v2), (3, .int v3)] → (M_over_L2 m_s v1 v2 k22 n) v3 = some r → W p l e { frames := 2, cells := 0, slots := 0, locals := 46 } s m args below meth c H locs 0 0 Q (F0 m 2 ls []) := by
  obtain ⟨hx, hb, hml, hr, hown, hts, hlocks, hK, hA, hN⟩ := id C
  intro n
  induction n with
  | zero =>
    intro v3 H locs ls hP hS hl hm
    cases hm
  | succ n ih =>
    intro v3 H locs ls hP hS hl hm
    rw [M_over_L2] at hm
    refine lv_aload_n hx hb dX8_over_2 rfl (lv_at hl 0 rfl) ?_
    refine lv_iload_n hx hb dX8_over_3 rfl (lv_at hl 1 rfl) ?_
    refine lv_iconst (v := 1) hx hb dX8_over_4 (by decide) ?_
    refine lv_iadd hx hb dX8_over_5 ?_
    refine lv_iload_n hx hb dX8_over_6 rfl (lv_at hl 3 rfl) ?_
    refine lv_iconst (v := 1) hx hb dX8_over_7 (by decide) ?_
    refine lv_iadd hx hb dX8_over_8 ?_
    obtain ⟨r9, hq, hm⟩ := bd1_some hm
    refine k_callVI (As := [.int (v1 + 1), .int (v3 + 1)]) (rest := []) ⟨hx, hb, hml, hown, hts⟩ hK hA hN (c_X8_entriesAhead (a := a) hq) (cwV 2 hts gX8_over_X8_entriesAhead rfl rfl rfl hdX8_entriesAhead ⟨Nat.le_of_ble_eq_true rfl, Nat.le_of_ble_eq_true rfl⟩) hP (va_D_re hD rfl) hS 0 8 rfl rfl rfl hl.1 rfl rfl (Nat.le_of_ble_eq_true rfl) ⟨Nat.zero_le _, Nat.zero_le _⟩ dX8_over_9 (fun H locs hP hS => ?_)
    refine lv_iload_n hx hb dX8_over_12 rfl (lv_at hl 2 rfl) ?_
    refine lv_icmp_gt (tgt := 22) hx hb dX8_over_13 (by decide) (fun hc => ?_) (fun hc => ?_)
    · have hm := if_t hc hm
      exact hk22 _ _ _ _ hP hS (lv_sub hl [3] rfl) hm
    · have hm := if_f hc hm
      refine lv_iinc (v := (v3 + 1)) (lv' := [(3, .int (v3 + 1)), (0, .ref (a 0)), (1, .int v1), (2, .int v2)]) hx hb dX8_over_16 hl (k := 3) rfl rfl (by decide) rfl (fun ls hl => ?_)
      refine lv_goto (tgt := 2) hx hb dX8_over_19 (by decide) ?_
      exact ih _ _ _ _ hP hS (lv_sub hl [1, 2, 3, 0] rfl) hm
set_option maxRecDepth 100000 in
set_option maxHeartbeats 4000000 in
theorem c_X8_over {l : Launch} {D : va_G} {cI cJ cB cL cS cW : ClassId} {a : Nat → Nat} {m_s m_past m_kept m_refused m_text m_asked m_heads m_forkBit m_forkFrom m_forkTo m_wayPage m_wayKnown m_wayGuess m_wayDiff m_wayRead m_wayPlace m_treeBit m_treeLeft m_treeRight m_treeAbove m_pileFrom m_pileTo m_pileAbove : Nat → Int32} {m_known m_typed m_askedLength m_entries m_forks m_guess m_diff m_read m_placeOf m_treeForks m_treeDeep : Int32} {v1 : Int32} {v2 : Int32} {r : Int32} (hm : M_over m_s v1 v2 = some r) : k_MI l yX8_over wsX8_over { frames := 2, cells := 0, slots := 0, locals := 46 } D (kT cI cJ cB cL cS cW) [.ref (a 0), .int v1, .int v2] (WM a cI m_s m_past m_kept m_refused m_text m_asked m_heads m_forkBit m_forkFrom m_forkTo m_wayPage m_wayKnown m_wayGuess m_wayDiff m_wayRead m_wayPlace m_treeBit m_treeLeft m_treeRight m_treeAbove m_pileFrom m_pileTo m_pileAbove m_known m_typed m_askedLength m_entries m_forks m_guess m_diff m_read m_placeOf m_treeForks m_treeDeep) r (WM a cI m_s m_past m_kept m_refused m_text m_asked m_heads m_forkBit m_forkFrom m_forkTo m_wayPage m_wayKnown m_wayGuess m_wayDiff m_wayRead m_wayPlace m_treeBit m_treeLeft m_treeRight m_treeAbove m_pileFrom m_pileTo m_pileAbove m_known m_typed m_askedLength m_entries m_forks m_guess m_diff m_read m_placeOf m_treeForks m_treeDeep) := by
  refine k_ofI (cc := cX8_over) (maxL := 4) (own := RX8) (by decide) rfl rfl (Nat.le_of_ble_eq_true rfl) ?_
  intro p e s m args below meth c A Q ls C hP hD hl hret
  have hD : va_D A (WM0 a cI) := va_D_re hD rfl
  have hS : va_S A s.heap s.heap [] := va_S.rf
  have hl : lv_has ls 4 [(0, .ref (a 0)), (1, .int v1), (2, .int v2)] := hl
  obtain ⟨hx, hb, hml, hr, hown, hts, hlocks, hK, hA, hN⟩ := id C
  rw [M_over] at hm
  refine lv_iconst (v := 0) hx hb dX8_over_0 (by decide) ?_
  refine lv_istore_n (lv' := [(3, .int 0), (0, .ref (a 0)), (1, .int v1), (2, .int v2)]) hx hb dX8_over_1 rfl hl (by decide) rfl (fun ls hl => ?_)
  refine t_M_over_L2 C hD hret ?_ FU _ _ _ _ hP hS (lv_sub hl [1, 2, 3, 0] rfl) hm
  · intro v3 H locs ls hP hS hl hm
    try dsimp only at hm
    refine lv_iload_n hx hb dX8_over_22 rfl (lv_at hl 0 rfl) ?_
    obtain rfl := Option.some.inj hm
    exact hret _ _ _ _ dX8_over_23 hP hS
theorem hdX8_laysHeads : yX8_laysHeads.cls = RX8 ∧ yX8_laysHeads.cls ≠ "java/lang/invoke/MethodHandle" ∧ yX8_laysHeads.cls ≠ "java/lang/invoke/VarHandle" ∧ (parseMethodDescriptor yX8_laysHeads.desc).map (fun d => d.parameters.length) = some 2 := by decide +kernel
theorem hiX8_laysHeads : ∀ w ∈ u_ws RX8 TX8 34, w ∈ wsX8_laysHeads := by decide +kernel
theorem flX8_laysHeads_120 : Cond.fieldLink RX8 120 "BlindPagesModel" "entries" "I" ∈ wsX8_laysHeads := by decide +kernel
theorem flX8_laysHeads_28 : Cond.fieldLink RX8 28 "BlindPagesModel" "heads" "[I" ∈ wsX8_laysHeads := by decide +kernel
def M_laysHeads_L20 (m_s : Nat → Int32) (v1 : Int32) (v2 : Int32) (k64 : (Nat → Int32) → Int32 → Option ((Nat → Int32) × Int32)) : Nat → (Nat → Int32) → Int32 → Int32 → Int32 → Option ((Nat → Int32) × Int32)
  | 0, _, _, _, _ => none
  | n + 1, m_heads, m_entries, v3, v4 => if m_entries ≤ v4 then (k64 m_heads m_entries) else (if v1 = 0 then (ga v4 10 (M_laysHeads_L20 m_s v1 v2 k64 n (upd m_heads v4.toNatClampNeg (v3 + v4)) m_entries v3 (v4 + 1))) else (bd1 (M_headOf m_s (v1 - 1) (v3 + v4)) fun r54 => ga v4 10 (M_laysHeads_L20 m_s v1 v2 k64 n (upd m_heads v4.toNatClampNeg r54) m_entries v3 (v4 + 1))))
def M_laysHeads (m_s : Nat → Int32) (m_heads : Nat → Int32) (m_entries : Int32) (v1 : Int32) (v2 : Int32) : Option ((Nat → Int32) × Int32) := bd1 (M_sizeOf m_s v1 v2) fun r4 => bd1 (M_entriesAhead m_s v1 v2) fun r13 => M_laysHeads_L20 m_s v1 v2 (fun m_heads m_entries => some (m_heads, m_entries)) FU m_heads r4 r13 0
set_option maxRecDepth 100000 in
set_option maxHeartbeats 4000000 in
theorem t_M_laysHeads_L20 {p : Program} {l : Launch} {e : Env} {s : State} {m : MethodId} {args : Array Value} {below : List Frame} {meth : Method} {c : Code} {Q : State → Prop} {A : Nat → Prop} {D : va_G} {cI cJ cB cL cS cW : ClassId} {a : Nat → Nat} {m_s m_past m_kept m_refused m_text m_asked m_forkBit m_forkFrom m_forkTo m_wayPage m_wayKnown m_wayGuess m_wayDiff m_wayRead m_wayPlace m_treeBit m_treeLeft m_treeRight m_treeAbove m_pileFrom m_pileTo m_pileAbove : Nat → Int32} {m_known m_typed m_askedLength m_forks m_guess m_diff m_read m_placeOf m_treeForks m_treeDeep : Int32} {v1 : Int32} {v2 : Int32} {o_heads : Nat → Int32} {o_entries : Int32} (C : k_C p s m args meth c cX8_laysHeads 5 none RX8 wsX8_laysHeads D (kT cI cJ cB cL cS cW) A) (hD : va_D A (WM0 a cI)) (hret : ∀ (H : Heap) (locs : List Loc) (pc : Nat) (ls : Array Slot), decode cX8_laysHeads pc = .ok (.return_, 1) → va_P D vwCl (WM a cI m_s m_past m_kept m_refused m_text m_asked o_heads m_forkBit m_forkFrom m_forkTo m_wayPage m_wayKnown m_wayGuess m_wayDiff m_wayRead m_wayPlace m_treeBit m_treeLeft m_treeRight m_treeAbove m_pileFrom m_pileTo m_pileAbove m_known m_typed m_askedLength o_entries m_forks m_guess m_diff m_read m_placeOf m_treeForks m_treeDeep) H → va_S A s.heap H locs → W p l e { frames := 3, cells := 0, slots := 0, locals := 70 } s m args below meth c H locs 0 0 Q (F0 m pc ls [])) {k64 : (Nat → Int32) → Int32 → Option ((Nat → Int32) × Int32)} (hk64 : ∀ (m_heads : (Nat → Int32)) (m_entries : Int32) (H : Heap) (locs : List Loc) (ls : Array Slot), va_P D vwCl (WM a cI m_s m_past m_kept m_refused m_text m_asked m_heads m_forkBit m_forkFrom m_forkTo m_wayPage m_wayKnown m_wayGuess m_wayDiff m_wayRead m_wayPlace m_treeBit m_treeLeft m_treeRight m_treeAbove m_pileFrom m_pileTo m_pileAbove m_known m_typed m_askedLength m_entries m_forks m_guess m_diff m_read m_placeOf m_treeForks m_treeDeep) H → va_S A s.heap H locs → lv_has ls 5 [] → k64 m_heads m_entries = some (o_heads, o_entries) → W p l e { frames := 3, cells := 0, slots := 0, locals := 70 } s m args below meth c H locs 0 0 Q (F0 m 64 ls [])) : ∀ n : Nat, ∀ (m_heads : (Nat → Int32)) (m_entries : Int32) (v3 : Int32) (v4 : Int32) (H : Heap) (locs : List Loc) (ls : Array Slot), va_P D vwCl (WM a cI m_s m_past m_kept m_refused m_text m_asked m_heads m_forkBit m_forkFrom m_forkTo m_wayPage m_wayKnown m_wayGuess m_wayDiff m_wayRead m_wayPlace m_treeBit m_treeLeft m_treeRight m_treeAbove m_pileFrom m_pileTo m_pileAbove m_known m_typed m_askedLength m_entries m_forks m_guess m_diff m_read m_placeOf m_treeForks m_treeDeep) H → va_S A s.heap H locs → lv_has ls 5 [(0, .ref (a 0)), (1, .int v1), (3, .int v3), (4, .int v4)] → (M_laysHeads_L20 m_s v1 v2 k64 n) m_heads m_entries v3 v4 = some (o_heads, o_entries) → W p l e { frames := 3, cells := 0, slots := 0, locals := 70 } s m args below meth c H locs 0 0 Q (F0 m 20 ls []) := by
  obtain ⟨hx, hb, hml, hr, hown, hts, hlocks, hK, hA, hN⟩ := id C
  intro n
  induction n with
  | zero =>
    intro m_heads m_entries v3 v4 H locs ls hP hS hl hm
    cases hm
  | succ n ih =>
    intro m_heads m_entries v3 v4 H locs ls hP hS hl hm
    rw [M_laysHeads_L20] at hm
    refine lv_iload hx hb dX8_laysHeads_20 (lv_at hl 3 rfl) ?_
    refine lv_aload_n hx hb dX8_laysHeads_22 rfl (lv_at hl 0 rfl) ?_
    refine kg (v := .int m_entries) hx hb hts hiX8_laysHeads hown hK hP 0 rfl rfl 10 (by decide) flX8_laysHeads_120 rfl rfl dX8_laysHeads_23 ?_
    refine lv_icmp_ge (tgt := 64) hx hb dX8_laysHeads_26 (by decide) (fun hc => ?_) (fun hc => ?_)
    · have hm := if_t hc hm
      exact hk64 _ _ _ _ _ hP hS (lv_sub hl [] rfl) hm
    · have hm := if_f hc hm
      refine lv_aload_n hx hb dX8_laysHeads_29 rfl (lv_at hl 0 rfl) ?_
      refine kg (v := .ref (a 7)) hx hb hts hiX8_laysHeads hown hK hP 0 rfl rfl 9 (by decide) flX8_laysHeads_28 rfl rfl dX8_laysHeads_30 ?_
      refine lv_iload hx hb dX8_laysHeads_33 (lv_at hl 3 rfl) ?_
      refine lv_iload_n hx hb dX8_laysHeads_35 rfl (lv_at hl 1 rfl) ?_
      refine lv_if_ne (tgt := 46) hx hb dX8_laysHeads_36 (by decide) (fun hc => ?_) (fun hc => ?_)
      · have hm := if_f hc hm
        refine lv_aload_n hx hb dX8_laysHeads_46 rfl (lv_at hl 0 rfl) ?_
        refine lv_iload_n hx hb dX8_laysHeads_47 rfl (lv_at hl 1 rfl) ?_
        refine lv_iconst (v := 1) hx hb dX8_laysHeads_48 (by decide) ?_
        refine lv_isub hx hb dX8_laysHeads_49 ?_
        refine lv_iload_n hx hb dX8_laysHeads_50 rfl (lv_at hl 2 rfl) ?_
        refine lv_iload hx hb dX8_laysHeads_51 (lv_at hl 3 rfl) ?_
        refine lv_iadd hx hb dX8_laysHeads_53 ?_
        obtain ⟨r54, hq, hm⟩ := bd1_some hm
        refine k_callVI (As := [.int (v1 - 1), .int (v3 + v4)]) (rest := [.int v4, .ref (a 7)]) ⟨hx, hb, hml, hown, hts⟩ hK hA hN (c_X8_headOf (a := a) hq) (cwV 2 hts gX8_laysHeads_X8_headOf rfl rfl rfl hdX8_headOf ⟨Nat.le_of_ble_eq_true rfl, Nat.le_of_ble_eq_true rfl⟩) hP (va_D_re hD rfl) hS 0 8 rfl rfl rfl hl.1 rfl rfl (Nat.le_of_ble_eq_true rfl) ⟨Nat.zero_le _, Nat.zero_le _⟩ dX8_laysHeads_54 (fun H locs hP hS => ?_)
        obtain ⟨hi, hm⟩ := ga_some hm
        refine k_iast hx hb hK hP (va_D_re hD rfl) hS 7 0 rfl rfl rfl hi dX8_laysHeads_57 (fun H locs hP hS => ?_)
        have hP : va_P D vwCl (WM a cI m_s m_past m_kept m_refused m_text m_asked (upd m_heads v4.toNatClampNeg r54) m_forkBit m_forkFrom m_forkTo m_wayPage m_wayKnown m_wayGuess m_wayDiff m_wayRead m_wayPlace m_treeBit m_treeLeft m_treeRight m_treeAbove m_pileFrom m_pileTo m_pileAbove m_known m_typed m_askedLength m_entries m_forks m_guess m_diff m_read m_placeOf m_treeForks m_treeDeep) H := hP
        refine lv_iinc (v := (v4 + 1)) (lv' := [(4, .int (v4 + 1)), (0, .ref (a 0)), (1, .int v1), (3, .int v3)]) hx hb dX8_laysHeads_58 hl (k := 3) rfl rfl (by decide) rfl (fun ls hl => ?_)
        refine lv_goto (tgt := 20) hx hb dX8_laysHeads_61 (by decide) ?_
        exact ih _ _ _ _ _ _ _ hP hS (lv_sub hl [1, 2, 3, 0] rfl) hm
      · have hm := if_t hc hm
        refine lv_iload_n hx hb dX8_laysHeads_39 rfl (lv_at hl 2 rfl) ?_
        refine lv_iload hx hb dX8_laysHeads_40 (lv_at hl 3 rfl) ?_
        refine lv_iadd hx hb dX8_laysHeads_42 ?_
        refine lv_goto (tgt := 57) hx hb dX8_laysHeads_43 (by decide) ?_
        obtain ⟨hi, hm⟩ := ga_some hm
        refine k_iast hx hb hK hP (va_D_re hD rfl) hS 7 0 rfl rfl rfl hi dX8_laysHeads_57 (fun H locs hP hS => ?_)
        have hP : va_P D vwCl (WM a cI m_s m_past m_kept m_refused m_text m_asked (upd m_heads v4.toNatClampNeg (v3 + v4)) m_forkBit m_forkFrom m_forkTo m_wayPage m_wayKnown m_wayGuess m_wayDiff m_wayRead m_wayPlace m_treeBit m_treeLeft m_treeRight m_treeAbove m_pileFrom m_pileTo m_pileAbove m_known m_typed m_askedLength m_entries m_forks m_guess m_diff m_read m_placeOf m_treeForks m_treeDeep) H := hP
        refine lv_iinc (v := (v4 + 1)) (lv' := [(4, .int (v4 + 1)), (0, .ref (a 0)), (1, .int v1), (3, .int v3)]) hx hb dX8_laysHeads_58 hl (k := 3) rfl rfl (by decide) rfl (fun ls hl => ?_)
        refine lv_goto (tgt := 20) hx hb dX8_laysHeads_61 (by decide) ?_
        exact ih _ _ _ _ _ _ _ hP hS (lv_sub hl [1, 2, 3, 0] rfl) hm
set_option maxRecDepth 100000 in
set_option maxHeartbeats 4000000 in
theorem c_X8_laysHeads {l : Launch} {D : va_G} {cI cJ cB cL cS cW : ClassId} {a : Nat → Nat} {m_s m_past m_kept m_refused m_text m_asked m_heads m_forkBit m_forkFrom m_forkTo m_wayPage m_wayKnown m_wayGuess m_wayDiff m_wayRead m_wayPlace m_treeBit m_treeLeft m_treeRight m_treeAbove m_pileFrom m_pileTo m_pileAbove : Nat → Int32} {m_known m_typed m_askedLength m_entries m_forks m_guess m_diff m_read m_placeOf m_treeForks m_treeDeep : Int32} {v1 : Int32} {v2 : Int32} {o_heads : Nat → Int32} {o_entries : Int32} (hm : M_laysHeads m_s m_heads m_entries v1 v2 = some (o_heads, o_entries)) : k_MV l yX8_laysHeads wsX8_laysHeads { frames := 3, cells := 0, slots := 0, locals := 70 } D (kT cI cJ cB cL cS cW) [.ref (a 0), .int v1, .int v2] (WM a cI m_s m_past m_kept m_refused m_text m_asked m_heads m_forkBit m_forkFrom m_forkTo m_wayPage m_wayKnown m_wayGuess m_wayDiff m_wayRead m_wayPlace m_treeBit m_treeLeft m_treeRight m_treeAbove m_pileFrom m_pileTo m_pileAbove m_known m_typed m_askedLength m_entries m_forks m_guess m_diff m_read m_placeOf m_treeForks m_treeDeep) (WM a cI m_s m_past m_kept m_refused m_text m_asked o_heads m_forkBit m_forkFrom m_forkTo m_wayPage m_wayKnown m_wayGuess m_wayDiff m_wayRead m_wayPlace m_treeBit m_treeLeft m_treeRight m_treeAbove m_pileFrom m_pileTo m_pileAbove m_known m_typed m_askedLength o_entries m_forks m_guess m_diff m_read m_placeOf m_treeForks m_treeDeep) := by
  refine k_ofV (cc := cX8_laysHeads) (maxL := 5) (own := RX8) (by decide) rfl rfl (Nat.le_of_ble_eq_true rfl) ?_
  intro p e s m args below meth c A Q ls C hP hD hl hret
  have hD : va_D A (WM0 a cI) := va_D_re hD rfl
  have hS : va_S A s.heap s.heap [] := va_S.rf
  have hl : lv_has ls 5 [(0, .ref (a 0)), (1, .int v1), (2, .int v2)] := hl
  obtain ⟨hx, hb, hml, hr, hown, hts, hlocks, hK, hA, hN⟩ := id C
  rw [M_laysHeads] at hm
  refine lv_aload_n hx hb dX8_laysHeads_0 rfl (lv_at hl 0 rfl) ?_
  refine lv_aload_n hx hb dX8_laysHeads_1 rfl (lv_at hl 0 rfl) ?_
  refine lv_iload_n hx hb dX8_laysHeads_2 rfl (lv_at hl 1 rfl) ?_
  refine lv_iload_n hx hb dX8_laysHeads_3 rfl (lv_at hl 2 rfl) ?_
  obtain ⟨r4, hq, hm⟩ := bd1_some hm
  refine k_callVI (As := [.int v1, .int v2]) (rest := [.ref (a 0)]) ⟨hx, hb, hml, hown, hts⟩ hK hA hN (c_X8_sizeOf (a := a) hq) (cwV 2 hts gX8_laysHeads_X8_sizeOf rfl rfl rfl hdX8_sizeOf ⟨Nat.le_of_ble_eq_true rfl, Nat.le_of_ble_eq_true rfl⟩) hP (va_D_re hD rfl) hS 0 8 rfl rfl rfl hl.1 rfl rfl (Nat.le_of_ble_eq_true rfl) ⟨Nat.zero_le _, Nat.zero_le _⟩ dX8_laysHeads_4 (fun H locs hP hS => ?_)
  refine kp hx hb hts hiX8_laysHeads tyX8 tyX8_ok nmX8 hown hK hP (va_D_re hD rfl) hS 0 rfl rfl 10 (by decide) flX8_laysHeads_120 rfl rfl rfl (Nat.le_of_ble_eq_true rfl) dX8_laysHeads_7 (fun H locs hP hS => ?_)
  have hP : va_P D vwCl (WM a cI m_s m_past m_kept m_refused m_text m_asked m_heads m_forkBit m_forkFrom m_forkTo m_wayPage m_wayKnown m_wayGuess m_wayDiff m_wayRead m_wayPlace m_treeBit m_treeLeft m_treeRight m_treeAbove m_pileFrom m_pileTo m_pileAbove m_known m_typed m_askedLength r4 m_forks m_guess m_diff m_read m_placeOf m_treeForks m_treeDeep) H := hP
  refine lv_aload_n hx hb dX8_laysHeads_10 rfl (lv_at hl 0 rfl) ?_
  refine lv_iload_n hx hb dX8_laysHeads_11 rfl (lv_at hl 1 rfl) ?_
  refine lv_iload_n hx hb dX8_laysHeads_12 rfl (lv_at hl 2 rfl) ?_
  obtain ⟨r13, hq, hm⟩ := bd1_some hm
  refine k_callVI (As := [.int v1, .int v2]) (rest := []) ⟨hx, hb, hml, hown, hts⟩ hK hA hN (c_X8_entriesAhead (a := a) hq) (cwV 2 hts gX8_laysHeads_X8_entriesAhead rfl rfl rfl hdX8_entriesAhead ⟨Nat.le_of_ble_eq_true rfl, Nat.le_of_ble_eq_true rfl⟩) hP (va_D_re hD rfl) hS 0 8 rfl rfl rfl hl.1 rfl rfl (Nat.le_of_ble_eq_true rfl) ⟨Nat.zero_le _, Nat.zero_le _⟩ dX8_laysHeads_13 (fun H locs hP hS => ?_)
  refine lv_istore_n (lv' := [(3, .int r13), (0, .ref (a 0)), (1, .int v1), (2, .int v2)]) hx hb dX8_laysHeads_16 rfl hl (by decide) rfl (fun ls hl => ?_)
  refine lv_iconst (v := 0) hx hb dX8_laysHeads_17 (by decide) ?_
  refine lv_istore (lv' := [(4, .int 0), (3, .int r13), (0, .ref (a 0)), (1, .int v1), (2, .int v2)]) hx hb dX8_laysHeads_18 hl (by decide) rfl (fun ls hl => ?_)
  refine t_M_laysHeads_L20 C hD hret ?_ FU _ _ _ _ _ _ _ hP hS (lv_sub hl [2, 3, 1, 0] rfl) hm
  · intro m_heads m_entries H locs ls hP hS hl hm
    try dsimp only at hm
    simp only [Option.some.injEq, Prod.mk.injEq] at hm
    obtain ⟨rfl, rfl⟩ := hm
    exact hret _ _ _ _ dX8_laysHeads_64 hP hS
theorem hdX8_parting : yX8_parting.cls = RX8 ∧ yX8_parting.cls ≠ "java/lang/invoke/MethodHandle" ∧ yX8_parting.cls ≠ "java/lang/invoke/VarHandle" ∧ (parseMethodDescriptor yX8_parting.desc).map (fun d => d.parameters.length) = some 3 := by decide +kernel
theorem hiX8_parting : ∀ w ∈ u_ws RX8 TX8 34, w ∈ wsX8_parting := by decide +kernel
theorem flX8_parting_28 : Cond.fieldLink RX8 28 "BlindPagesModel" "heads" "[I" ∈ wsX8_parting := by decide +kernel
def M_parting_L3 (m_s m_asked m_heads : Nat → Int32) (m_askedLength : Int32) (v1 : Int32) (v2 : Int32) (v3 : Int32) (k30 : Int32 → Option (Int32)) : Nat → Int32 → Option (Int32)
  | 0, _ => none
  | n + 1, v4 => if v2 ≤ v4 then (k30 v4) else (ga v4 10 (bd1 (M_bitOf m_s m_asked m_askedLength (m_heads v4.toNatClampNeg) v3) fun r18 => if r18 = 0 then (M_parting_L3 m_s m_asked m_heads m_askedLength v1 v2 v3 k30 n (v4 + 1)) else (k30 v4)))
def M_parting (m_s m_asked m_heads : Nat → Int32) (m_askedLength : Int32) (v1 : Int32) (v2 : Int32) (v3 : Int32) : Option (Int32) := M_parting_L3 m_s m_asked m_heads m_askedLength v1 v2 v3 (fun v4 => some v4) FU v1
set_option maxRecDepth 100000 in
set_option maxHeartbeats 4000000 in
theorem t_M_parting_L3 {p : Program} {l : Launch} {e : Env} {s : State} {m : MethodId} {args : Array Value} {below : List Frame} {meth : Method} {c : Code} {Q : State → Prop} {A : Nat → Prop} {D : va_G} {cI cJ cB cL cS cW : ClassId} {a : Nat → Nat} {m_s m_past m_kept m_refused m_text m_asked m_heads m_forkBit m_forkFrom m_forkTo m_wayPage m_wayKnown m_wayGuess m_wayDiff m_wayRead m_wayPlace m_treeBit m_treeLeft m_treeRight m_treeAbove m_pileFrom m_pileTo m_pileAbove : Nat → Int32} {m_known m_typed m_askedLength m_entries m_forks m_guess m_diff m_read m_placeOf m_treeForks m_treeDeep : Int32} {v1 : Int32} {v2 : Int32} {v3 : Int32} {r : Int32} (C : k_C p s m args meth c cX8_parting 5 (some .int) RX8 wsX8_parting D (kT cI cJ cB cL cS cW) A) (hD : va_D A (WM0 a cI)) (hret : ∀ (H : Heap) (locs : List Loc) (pc : Nat) (ls : Array Slot), decode cX8_parting pc = .ok (.ireturn, 1) → va_P D vwCl (WM a cI m_s m_past m_kept m_refused m_text m_asked m_heads m_forkBit m_forkFrom m_forkTo m_wayPage m_wayKnown m_wayGuess m_wayDiff m_wayRead m_wayPlace m_treeBit m_treeLeft m_treeRight m_treeAbove m_pileFrom m_pileTo m_pileAbove m_known m_typed m_askedLength m_entries m_forks m_guess m_diff m_read m_placeOf m_treeForks m_treeDeep) H → va_S A s.heap H locs → W p l e { frames := 2, cells := 0, slots := 0, locals := 44 } s m args below meth c H locs 0 0 Q (F0 m pc ls [.int r])) {k30 : Int32 → Option (Int32)} (hk30 : ∀ (v4 : Int32) (H : Heap) (locs : List Loc) (ls : Array Slot), va_P D vwCl (WM a cI m_s m_past m_kept m_refused m_text m_asked m_heads m_forkBit m_forkFrom m_forkTo m_wayPage m_wayKnown m_wayGuess m_wayDiff m_wayRead m_wayPlace m_treeBit m_treeLeft m_treeRight m_treeAbove m_pileFrom m_pileTo m_pileAbove m_known m_typed m_askedLength m_entries m_forks m_guess m_diff m_read m_placeOf m_treeForks m_treeDeep) H → va_S A s.heap H locs → lv_has ls 5 [(4, .int v4)] → k30 v4 = some r → W p l e { frames := 2, cells := 0, slots := 0, locals := 44 } s m args below meth c H locs 0 0 Q (F0 m 30 ls [])) : ∀ n : Nat, ∀ (v4 : Int32) (H : Heap) (locs : List Loc) (ls : Array Slot), va_P D vwCl (WM a cI m_s m_past m_kept m_refused m_text m_asked m_heads m_forkBit m_forkFrom m_forkTo m_wayPage m_wayKnown m_wayGuess m_wayDiff m_wayRead m_wayPlace m_treeBit m_treeLeft m_treeRight m_treeAbove m_pileFrom m_pileTo m_pileAbove m_known m_typed m_askedLength m_entries m_forks m_guess m_diff m_read m_placeOf m_treeForks m_treeDeep) H → va_S A s.heap H locs → lv_has ls 5 [(0, .ref (a 0)), (2, .int v2), (3, .int v3), (4, .int v4)] → (M_parting_L3 m_s m_asked m_heads m_askedLength v1 v2 v3 k30 n) v4 = some r → W p l e { frames := 2, cells := 0, slots := 0, locals := 44 } s m args below meth c H locs 0 0 Q (F0 m 3 ls []) := by
  obtain ⟨hx, hb, hml, hr, hown, hts, hlocks, hK, hA, hN⟩ := id C
  intro n
  induction n with
  | zero =>
    intro v4 H locs ls hP hS hl hm
    cases hm
  | succ n ih =>
    intro v4 H locs ls hP hS hl hm
    rw [M_parting_L3] at hm
    refine lv_iload hx hb dX8_parting_3 (lv_at hl 3 rfl) ?_
    refine lv_iload_n hx hb dX8_parting_5 rfl (lv_at hl 1 rfl) ?_
    refine lv_icmp_ge (tgt := 30) hx hb dX8_parting_6 (by decide) (fun hc => ?_) (fun hc => ?_)
    · have hm := if_t hc hm
      exact hk30 _ _ _ _ hP hS (lv_sub hl [3] rfl) hm
    · have hm := if_f hc hm
      refine lv_aload_n hx hb dX8_parting_9 rfl (lv_at hl 0 rfl) ?_
      refine lv_aload_n hx hb dX8_parting_10 rfl (lv_at hl 0 rfl) ?_
      refine kg (v := .ref (a 7)) hx hb hts hiX8_parting hown hK hP 0 rfl rfl 9 (by decide) flX8_parting_28 rfl rfl dX8_parting_11 ?_
      refine lv_iload hx hb dX8_parting_14 (lv_at hl 3 rfl) ?_
      obtain ⟨hi, hm⟩ := ga_some hm
      refine k_iald hx hb hK hP 7 0 rfl rfl rfl hi dX8_parting_16 ?_
      refine lv_iload_n hx hb dX8_parting_17 rfl (lv_at hl 2 rfl) ?_
      obtain ⟨r18, hq, hm⟩ := bd1_some hm
      refine k_callVI (As := [.int (m_heads v4.toNatClampNeg), .int v3]) (rest := []) ⟨hx, hb, hml, hown, hts⟩ hK hA hN (c_X8_bitOf (a := a) hq) (cwV 2 hts gX8_parting_X8_bitOf rfl rfl rfl hdX8_bitOf ⟨Nat.le_of_ble_eq_true rfl, Nat.le_of_ble_eq_true rfl⟩) hP (va_D_re hD rfl) hS 0 8 rfl rfl rfl hl.1 rfl rfl (Nat.le_of_ble_eq_true rfl) ⟨Nat.zero_le _, Nat.zero_le _⟩ dX8_parting_18 (fun H locs hP hS => ?_)
      refine lv_if_ne (tgt := 30) hx hb dX8_parting_21 (by decide) (fun hc => ?_) (fun hc => ?_)
      · have hm := if_f hc hm
        exact hk30 _ _ _ _ hP hS (lv_sub hl [3] rfl) hm
      · have hm := if_t hc hm
        refine lv_iinc (v := (v4 + 1)) (lv' := [(4, .int (v4 + 1)), (0, .ref (a 0)), (2, .int v2), (3, .int v3)]) hx hb dX8_parting_24 hl (k := 3) rfl rfl (by decide) rfl (fun ls hl => ?_)
        refine lv_goto (tgt := 3) hx hb dX8_parting_27 (by decide) ?_
        exact ih _ _ _ _ hP hS (lv_sub hl [1, 2, 3, 0] rfl) hm
set_option maxRecDepth 100000 in
set_option maxHeartbeats 4000000 in
theorem c_X8_parting {l : Launch} {D : va_G} {cI cJ cB cL cS cW : ClassId} {a : Nat → Nat} {m_s m_past m_kept m_refused m_text m_asked m_heads m_forkBit m_forkFrom m_forkTo m_wayPage m_wayKnown m_wayGuess m_wayDiff m_wayRead m_wayPlace m_treeBit m_treeLeft m_treeRight m_treeAbove m_pileFrom m_pileTo m_pileAbove : Nat → Int32} {m_known m_typed m_askedLength m_entries m_forks m_guess m_diff m_read m_placeOf m_treeForks m_treeDeep : Int32} {v1 : Int32} {v2 : Int32} {v3 : Int32} {r : Int32} (hm : M_parting m_s m_asked m_heads m_askedLength v1 v2 v3 = some r) : k_MI l yX8_parting wsX8_parting { frames := 2, cells := 0, slots := 0, locals := 44 } D (kT cI cJ cB cL cS cW) [.ref (a 0), .int v1, .int v2, .int v3] (WM a cI m_s m_past m_kept m_refused m_text m_asked m_heads m_forkBit m_forkFrom m_forkTo m_wayPage m_wayKnown m_wayGuess m_wayDiff m_wayRead m_wayPlace m_treeBit m_treeLeft m_treeRight m_treeAbove m_pileFrom m_pileTo m_pileAbove m_known m_typed m_askedLength m_entries m_forks m_guess m_diff m_read m_placeOf m_treeForks m_treeDeep) r (WM a cI m_s m_past m_kept m_refused m_text m_asked m_heads m_forkBit m_forkFrom m_forkTo m_wayPage m_wayKnown m_wayGuess m_wayDiff m_wayRead m_wayPlace m_treeBit m_treeLeft m_treeRight m_treeAbove m_pileFrom m_pileTo m_pileAbove m_known m_typed m_askedLength m_entries m_forks m_guess m_diff m_read m_placeOf m_treeForks m_treeDeep) := by
  refine k_ofI (cc := cX8_parting) (maxL := 5) (own := RX8) (by decide) rfl rfl (Nat.le_of_ble_eq_true rfl) ?_
  intro p e s m args below meth c A Q ls C hP hD hl hret
  have hD : va_D A (WM0 a cI) := va_D_re hD rfl
  have hS : va_S A s.heap s.heap [] := va_S.rf
  have hl : lv_has ls 5 [(0, .ref (a 0)), (1, .int v1), (2, .int v2), (3, .int v3)] := hl
  obtain ⟨hx, hb, hml, hr, hown, hts, hlocks, hK, hA, hN⟩ := id C
  rw [M_parting] at hm
  refine lv_iload_n hx hb dX8_parting_0 rfl (lv_at hl 1 rfl) ?_
  refine lv_istore (lv' := [(4, .int v1), (0, .ref (a 0)), (1, .int v1), (2, .int v2), (3, .int v3)]) hx hb dX8_parting_1 hl (by decide) rfl (fun ls hl => ?_)
  refine t_M_parting_L3 C hD hret ?_ FU _ _ _ _ hP hS (lv_sub hl [1, 3, 4, 0] rfl) hm
  · intro v4 H locs ls hP hS hl hm
    try dsimp only at hm
    refine lv_iload hx hb dX8_parting_30 (lv_at hl 0 rfl) ?_
    obtain rfl := Option.some.inj hm
    exact hret _ _ _ _ dX8_parting_32 hP hS
