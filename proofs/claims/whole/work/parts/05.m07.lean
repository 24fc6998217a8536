theorem hdX8_faultOf : yX8_faultOf.cls = RX8 ∧ yX8_faultOf.cls ≠ "java/lang/invoke/MethodHandle" ∧ yX8_faultOf.cls ≠ "java/lang/invoke/VarHandle" ∧ (parseMethodDescriptor yX8_faultOf.desc).map (fun d => d.parameters.length) = some 0 := by decide +kernel
theorem hiX8_faultOf : ∀ w ∈ u_ws RX8 TX8 34, w ∈ wsX8_faultOf := by decide +kernel
theorem flX8_faultOf_182 : Cond.fieldLink RX8 182 "BlindPagesModel" "typed" "I" ∈ wsX8_faultOf := by decide +kernel
theorem flX8_faultOf_22 : Cond.fieldLink RX8 22 "BlindPagesModel" "text" "[I" ∈ wsX8_faultOf := by decide +kernel
def M_faultOf_L52 (m_text : Nat → Int32) (m_typed : Int32) (k86 : Int32 → Int32 → Option (Int32)) : Nat → Int32 → Int32 → Option (Int32)
  | 0, _, _ => none
  | n + 1, v2, v3 => if m_typed ≤ v3 then (k86 v2 v3) else (if 24 ≤ (v3 - v2) then (k86 v2 v3) else (ga v3 120 (bd1 (M_isSign (m_text v3.toNatClampNeg)) fun r74 => if r74 = 0 then (k86 v2 v3) else (M_faultOf_L52 m_text m_typed k86 n v2 (v3 + 1)))))
def M_faultOf_J86 (m_text : Nat → Int32) (m_typed : Int32) (k2 : Int32 → Option (Int32)) (k44 : Int32 → Option (Int32)) (k110 : Int32 → Option (Int32)) (k119 : Option (Int32)) (v2 : Int32) (v3 : Int32) : Option (Int32) := if v3 = v2 then (k110 v3) else (if v3 = m_typed then (k110 v3) else (ga v3 120 (if (m_text v3.toNatClampNeg) = 59 then (k2 (v3 + 1)) else (k110 v3))))
def M_faultOf_J14 (m_text : Nat → Int32) (m_typed : Int32) (k2 : Int32 → Option (Int32)) (k44 : Int32 → Option (Int32)) (k110 : Int32 → Option (Int32)) (k119 : Option (Int32)) (v1 : Int32) : Option (Int32) := if v1 = m_typed then (k44 v1) else (ga v1 120 (if (m_text v1.toNatClampNeg) = 43 then (M_faultOf_L52 m_text m_typed (fun v2 v3 => M_faultOf_J86 m_text m_typed k2 k44 k110 k119 v2 v3) FU (v1 + 1) (v1 + 1)) else (ga v1 120 (if (m_text v1.toNatClampNeg) = 45 then (M_faultOf_L52 m_text m_typed (fun v2 v3 => M_faultOf_J86 m_text m_typed k2 k44 k110 k119 v2 v3) FU (v1 + 1) (v1 + 1)) else (k44 v1)))))
def M_faultOf_L2 (m_text : Nat → Int32) (m_typed : Int32) (k44 : Int32 → Option (Int32)) (k110 : Int32 → Option (Int32)) (k119 : Option (Int32)) : Nat → Int32 → Option (Int32)
  | 0, _ => none
  | n + 1, v1 => if v1 < m_typed then (M_faultOf_J14 m_text m_typed (M_faultOf_L2 m_text m_typed k44 k110 k119 n) k44 k110 k119 v1) else (if v1 = 0 then (M_faultOf_J14 m_text m_typed (M_faultOf_L2 m_text m_typed k44 k110 k119 n) k44 k110 k119 v1) else k119)
def M_faultOf (m_text : Nat → Int32) (m_typed : Int32) : Option (Int32) := M_faultOf_L2 m_text m_typed (fun v1 => some v1) (fun v3 => some v3) (some (-1)) FU 0
set_option maxRecDepth 100000 in
set_option maxHeartbeats 4000000 in
theorem t_M_faultOf_L52 {p : Program} {l : Launch} {e : Env} {s : State} {m : MethodId} {args : Array Value} {below : List Frame} {meth : Method} {c : Code} {Q : State → Prop} {A : Nat → Prop} {D : va_G} {cI cJ cB cL cS cW : ClassId} {a : Nat → Nat} {m_s m_past m_kept m_refused m_text m_asked m_heads m_forkBit m_forkFrom m_forkTo m_wayPage m_wayKnown m_wayGuess m_wayDiff m_wayRead m_wayPlace m_treeBit m_treeLeft m_treeRight m_treeAbove m_pileFrom m_pileTo m_pileAbove : Nat → Int32} {m_known m_typed m_askedLength m_entries m_forks m_guess m_diff m_read m_placeOf m_treeForks m_treeDeep : Int32} {r : Int32} (C : k_C p s m args meth c cX8_faultOf 4 (some .int) RX8 wsX8_faultOf D (kT cI cJ cB cL cS cW) A) (hD : va_D A (WM0 a cI)) (hret : ∀ (H : Heap) (locs : List Loc) (pc : Nat) (ls : Array Slot), decode cX8_faultOf pc = .ok (.ireturn, 1) → va_P D vwCl (WM a cI m_s m_past m_kept m_refused m_text m_asked m_heads m_forkBit m_forkFrom m_forkTo m_wayPage m_wayKnown m_wayGuess m_wayDiff m_wayRead m_wayPlace m_treeBit m_treeLeft m_treeRight m_treeAbove m_pileFrom m_pileTo m_pileAbove m_known m_typed m_askedLength m_entries m_forks m_guess m_diff m_read m_placeOf m_treeForks m_treeDeep) H → va_S A s.heap H locs → W p l e { frames := 2, cells := 0, slots := 0, locals := 42 } s m args below meth c H locs 0 0 Q (F0 m pc ls [.int r])) {k86 : Int32 → Int32 → Option (Int32)} (hk86 : ∀ (v2 : Int32) (v3 : Int32) (H : Heap) (locs : List Loc) (ls : Array Slot), va_P D vwCl (WM a cI m_s m_past m_kept m_refused m_text m_asked m_heads m_forkBit m_forkFrom m_forkTo m_wayPage m_wayKnown m_wayGuess m_wayDiff m_wayRead m_wayPlace m_treeBit m_treeLeft m_treeRight m_treeAbove m_pileFrom m_pileTo m_pileAbove m_known m_typed m_askedLength m_entries m_forks m_guess m_diff m_read m_placeOf m_treeForks m_treeDeep) H → va_S A s.heap H locs → lv_has ls 4 [(0, .ref (a 0)), (2, .int v2), (3, .int v3)] → k86 v2 v3 = some r → W p l e { frames := 2, cells := 0, slots := 0, locals := 42 } s m args below meth c H locs 0 0 Q (F0 m 86 ls [])) : ∀ n : Nat, ∀ (v2 : Int32) (v3 : Int32) (H : Heap) (locs : List Loc) (ls : Array Slot), va_P D vwCl (WM a cI m_s m_past m_kept m_refused m_text m_asked m_heads m_forkBit m_forkFrom m_forkTo m_wayPage m_wayKnown m_wayGuess m_wayDiff m_wayRead m_wayPlace m_treeBit m_treeLeft m_treeRight m_treeAbove m_pileFrom m_pileTo m_pileAbove m_known m_typed m_askedLength m_entries m_forks m_guess m_diff m_read m_placeOf m_treeForks m_treeDeep) H → va_S A s.heap H locs → lv_has ls 4 [(0, .ref (a 0)), (2, .int v2), (3, .int v3)] → (M_faultOf_L52 m_text m_typed k86 n) v2 v3 = some r → W p l e { frames := 2, cells := 0, slots := 0, locals := 42 } s m args below meth c H locs 0 0 Q (F0 m 52 ls []) := by
  obtain ⟨hx, hb, hml, hr, hown, hts, hlocks, hK, hA, hN⟩ := id C
  intro n
  induction n with
  | zero =>
    intro v2 v3 H locs ls hP hS hl hm
    cases hm
  | succ n ih =>
    intro v2 v3 H locs ls hP hS hl hm
    rw [M_faultOf_L52] at hm
    refine lv_iload_n hx hb dX8_faultOf_52 rfl (lv_at hl 2 rfl) ?_
    refine lv_aload_n hx hb dX8_faultOf_53 rfl (lv_at hl 0 rfl) ?_
    refine kg (v := .int m_typed) hx hb hts hiX8_faultOf hown hK hP 0 rfl rfl 6 (by decide) flX8_faultOf_182 rfl rfl dX8_faultOf_54 ?_
    refine lv_icmp_ge (tgt := 86) hx hb dX8_faultOf_57 (by decide) (fun hc => ?_) (fun hc => ?_)
    · have hm := if_t hc hm
      exact hk86 _ _ _ _ _ hP hS (lv_sub hl [0, 1, 2] rfl) hm
    · have hm := if_f hc hm
      refine lv_iload_n hx hb dX8_faultOf_60 rfl (lv_at hl 2 rfl) ?_
      refine lv_iload_n hx hb dX8_faultOf_61 rfl (lv_at hl 1 rfl) ?_
      refine lv_isub hx hb dX8_faultOf_62 ?_
      refine lv_bipush (v := 24) hx hb dX8_faultOf_63 (by decide) ?_
      refine lv_icmp_ge (tgt := 86) hx hb dX8_faultOf_65 (by decide) (fun hc => ?_) (fun hc => ?_)
      · have hm := if_t hc hm
        exact hk86 _ _ _ _ _ hP hS (lv_sub hl [0, 1, 2] rfl) hm
      · have hm := if_f hc hm
        refine lv_aload_n hx hb dX8_faultOf_68 rfl (lv_at hl 0 rfl) ?_
        refine kg (v := .ref (a 5)) hx hb hts hiX8_faultOf hown hK hP 0 rfl rfl 5 (by decide) flX8_faultOf_22 rfl rfl dX8_faultOf_69 ?_
        refine lv_iload_n hx hb dX8_faultOf_72 rfl (lv_at hl 2 rfl) ?_
        obtain ⟨hi, hm⟩ := ga_some hm
        refine k_iald hx hb hK hP 5 0 rfl rfl rfl hi dX8_faultOf_73 ?_
        obtain ⟨r74, hq, hm⟩ := bd1_some hm
        refine k_callSI (As := [.int (m_text v3.toNatClampNeg)]) (rest := []) ⟨hx, hb, hml, hown, hts⟩ hK hA hN (c_X8_isSign (a := a) hq) (va_cwS 1 hts gX8_faultOf_X8_isSign rfl rfl rfl hdX8_isSign ⟨Nat.le_of_ble_eq_true rfl, Nat.le_of_ble_eq_true rfl⟩) hP (va_D_re hD rfl) hS hl.1 rfl rfl (Nat.le_of_ble_eq_true rfl) ⟨Nat.zero_le _, Nat.zero_le _⟩ dX8_faultOf_74 (fun H locs hP hS => ?_)
        refine lv_if_eq (tgt := 86) hx hb dX8_faultOf_77 (by decide) (fun hc => ?_) (fun hc => ?_)
        · have hm := if_t hc hm
          exact hk86 _ _ _ _ _ hP hS (lv_sub hl [0, 1, 2] rfl) hm
        · have hm := if_f hc hm
          refine lv_iinc (v := (v3 + 1)) (lv' := [(3, .int (v3 + 1)), (0, .ref (a 0)), (2, .int v2)]) hx hb dX8_faultOf_80 hl (k := 2) rfl rfl (by decide) rfl (fun ls hl => ?_)
          refine lv_goto (tgt := 52) hx hb dX8_faultOf_83 (by decide) ?_
          exact ih _ _ _ _ _ hP hS (lv_sub hl [1, 2, 0] rfl) hm
set_option maxRecDepth 100000 in
set_option maxHeartbeats 4000000 in
theorem t_M_faultOf_J86 {p : Program} {l : Launch} {e : Env} {s : State} {m : MethodId} {args : Array Value} {below : List Frame} {meth : Method} {c : Code} {Q : State → Prop} {A : Nat → Prop} {D : va_G} {cI cJ cB cL cS cW : ClassId} {a : Nat → Nat} {m_s m_past m_kept m_refused m_text m_asked m_heads m_forkBit m_forkFrom m_forkTo m_wayPage m_wayKnown m_wayGuess m_wayDiff m_wayRead m_wayPlace m_treeBit m_treeLeft m_treeRight m_treeAbove m_pileFrom m_pileTo m_pileAbove : Nat → Int32} {m_known m_typed m_askedLength m_entries m_forks m_guess m_diff m_read m_placeOf m_treeForks m_treeDeep : Int32} {r : Int32} (C : k_C p s m args meth c cX8_faultOf 4 (some .int) RX8 wsX8_faultOf D (kT cI cJ cB cL cS cW) A) (hD : va_D A (WM0 a cI)) (hret : ∀ (H : Heap) (locs : List Loc) (pc : Nat) (ls : Array Slot), decode cX8_faultOf pc = .ok (.ireturn, 1) → va_P D vwCl (WM a cI m_s m_past m_kept m_refused m_text m_asked m_heads m_forkBit m_forkFrom m_forkTo m_wayPage m_wayKnown m_wayGuess m_wayDiff m_wayRead m_wayPlace m_treeBit m_treeLeft m_treeRight m_treeAbove m_pileFrom m_pileTo m_pileAbove m_known m_typed m_askedLength m_entries m_forks m_guess m_diff m_read m_placeOf m_treeForks m_treeDeep) H → va_S A s.heap H locs → W p l e { frames := 2, cells := 0, slots := 0, locals := 42 } s m args below meth c H locs 0 0 Q (F0 m pc ls [.int r])) {k2 : Int32 → Option (Int32)} (hk2 : ∀ (v1 : Int32) (H : Heap) (locs : List Loc) (ls : Array Slot), va_P D vwCl (WM a cI m_s m_past m_kept m_refused m_text m_asked m_heads m_forkBit m_forkFrom m_forkTo m_wayPage m_wayKnown m_wayGuess m_wayDiff m_wayRead m_wayPlace m_treeBit m_treeLeft m_treeRight m_treeAbove m_pileFrom m_pileTo m_pileAbove m_known m_typed m_askedLength m_entries m_forks m_guess m_diff m_read m_placeOf m_treeForks m_treeDeep) H → va_S A s.heap H locs → lv_has ls 4 [(0, .ref (a 0)), (1, .int v1)] → k2 v1 = some r → W p l e { frames := 2, cells := 0, slots := 0, locals := 42 } s m args below meth c H locs 0 0 Q (F0 m 2 ls [])) {k44 : Int32 → Option (Int32)} (hk44 : ∀ (v1 : Int32) (H : Heap) (locs : List Loc) (ls : Array Slot), va_P D vwCl (WM a cI m_s m_past m_kept m_refused m_text m_asked m_heads m_forkBit m_forkFrom m_forkTo m_wayPage m_wayKnown m_wayGuess m_wayDiff m_wayRead m_wayPlace m_treeBit m_treeLeft m_treeRight m_treeAbove m_pileFrom m_pileTo m_pileAbove m_known m_typed m_askedLength m_entries m_forks m_guess m_diff m_read m_placeOf m_treeForks m_treeDeep) H → va_S A s.heap H locs → lv_has ls 4 [(1, .int v1)] → k44 v1 = some r → W p l e { frames := 2, cells := 0, slots := 0, locals := 42 } s m args below meth c H locs 0 0 Q (F0 m 44 ls [])) {k110 : Int32 → Option (Int32)} (hk110 : ∀ (v3 : Int32) (H : Heap) (locs : List Loc) (ls : Array Slot), va_P D vwCl (WM a cI m_s m_past m_kept m_refused m_text m_asked m_heads m_forkBit m_forkFrom m_forkTo m_wayPage m_wayKnown m_wayGuess m_wayDiff m_wayRead m_wayPlace m_treeBit m_treeLeft m_treeRight m_treeAbove m_pileFrom m_pileTo m_pileAbove m_known m_typed m_askedLength m_entries m_forks m_guess m_diff m_read m_placeOf m_treeForks m_treeDeep) H → va_S A s.heap H locs → lv_has ls 4 [(3, .int v3)] → k110 v3 = some r → W p l e { frames := 2, cells := 0, slots := 0, locals := 42 } s m args below meth c H locs 0 0 Q (F0 m 110 ls [])) {k119 : Option (Int32)} (hk119 : ∀  (H : Heap) (locs : List Loc) (ls : Array Slot), va_P D vwCl (WM a cI m_s m_past m_kept m_refused m_text m_asked m_heads m_forkBit m_forkFrom m_forkTo m_wayPage m_wayKnown m_wayGuess m_wayDiff m_wayRead m_wayPlace m_treeBit m_treeLeft m_treeRight m_treeAbove m_pileFrom m_pileTo m_pileAbove m_known m_typed m_askedLength m_entries m_forks m_guess m_diff m_read m_placeOf m_treeForks m_treeDeep) H → va_S A s.heap H locs → lv_has ls 4 [] → k119 = some r → W p l e { frames := 2, cells := 0, slots := 0, locals := 42 } s m args below meth c H locs 0 0 Q (F0 m 119 ls [])) : ∀ (v2 : Int32) (v3 : Int32) (H : Heap) (locs : List Loc) (ls : Array Slot), va_P D vwCl (WM a cI m_s m_past m_kept m_refused m_text m_asked m_heads m_forkBit m_forkFrom m_forkTo m_wayPage m_wayKnown m_wayGuess m_wayDiff m_wayRead m_wayPlace m_treeBit m_treeLeft m_treeRight m_treeAbove m_pileFrom m_pileTo m_pileAbove m_known m_typed m_askedLength m_entries m_forks m_guess m_diff m_read m_placeOf m_treeForks m_treeDeep) H → va_S A s.heap H locs → lv_has ls 4 [(0, .ref (a 0)), (2, .int v2), (3, .int v3)] → M_faultOf_J86 m_text m_typed k2 k44 k110 k119 v2 v3 = some r → W p l e { frames := 2, cells := 0, slots := 0, locals := 42 } s m args below meth c H locs 0 0 Q (F0 m 86 ls []) := by
  obtain ⟨hx, hb, hml, hr, hown, hts, hlocks, hK, hA, hN⟩ := id C
  intro v2 v3 H locs ls hP hS hl hm
  rw [M_faultOf_J86] at hm
  refine lv_iload_n hx hb dX8_faultOf_86 rfl (lv_at hl 2 rfl) ?_
  refine lv_iload_n hx hb dX8_faultOf_87 rfl (lv_at hl 1 rfl) ?_
  refine lv_icmp_eq (tgt := 110) hx hb dX8_faultOf_88 (by decide) (fun hc => ?_) (fun hc => ?_)
  · have hm := if_t hc hm
    exact hk110 _ _ _ _ hP hS (lv_sub hl [2] rfl) hm
  · have hm := if_f hc hm
    refine lv_iload_n hx hb dX8_faultOf_91 rfl (lv_at hl 2 rfl) ?_
    refine lv_aload_n hx hb dX8_faultOf_92 rfl (lv_at hl 0 rfl) ?_
    refine kg (v := .int m_typed) hx hb hts hiX8_faultOf hown hK hP 0 rfl rfl 6 (by decide) flX8_faultOf_182 rfl rfl dX8_faultOf_93 ?_
    refine lv_icmp_eq (tgt := 110) hx hb dX8_faultOf_96 (by decide) (fun hc => ?_) (fun hc => ?_)
    · have hm := if_t hc hm
      exact hk110 _ _ _ _ hP hS (lv_sub hl [2] rfl) hm
    · have hm := if_f hc hm
      refine lv_aload_n hx hb dX8_faultOf_99 rfl (lv_at hl 0 rfl) ?_
      refine kg (v := .ref (a 5)) hx hb hts hiX8_faultOf hown hK hP 0 rfl rfl 5 (by decide) flX8_faultOf_22 rfl rfl dX8_faultOf_100 ?_
      refine lv_iload_n hx hb dX8_faultOf_103 rfl (lv_at hl 2 rfl) ?_
      obtain ⟨hi, hm⟩ := ga_some hm
      refine k_iald hx hb hK hP 5 0 rfl rfl rfl hi dX8_faultOf_104 ?_
      refine lv_bipush (v := 59) hx hb dX8_faultOf_105 (by decide) ?_
      refine lv_icmp_eq (tgt := 112) hx hb dX8_faultOf_107 (by decide) (fun hc => ?_) (fun hc => ?_)
      · have hm := if_t hc hm
        refine lv_iload_n hx hb dX8_faultOf_112 rfl (lv_at hl 2 rfl) ?_
        refine lv_iconst (v := 1) hx hb dX8_faultOf_113 (by decide) ?_
        refine lv_iadd hx hb dX8_faultOf_114 ?_
        refine lv_istore_n (lv' := [(1, .int (v3 + 1)), (0, .ref (a 0)), (2, .int v2), (3, .int v3)]) hx hb dX8_faultOf_115 rfl hl (by decide) rfl (fun ls hl => ?_)
        refine lv_goto (tgt := 2) hx hb dX8_faultOf_116 (by decide) ?_
        exact hk2 _ _ _ _ hP hS (lv_sub hl [1, 0] rfl) hm
      · have hm := if_f hc hm
        exact hk110 _ _ _ _ hP hS (lv_sub hl [2] rfl) hm
set_option maxRecDepth 100000 in
set_option maxHeartbeats 4000000 in
theorem t_M_faultOf_J14 {p : Program} {l : Launch} {e : Env} {s : State} {m : MethodId} {args : Array Value} {below : List Frame} {meth : Method} {c : Code} {Q : State → Prop} {A : Nat → Prop} {D : va_G} {cI cJ cB cL cS cW : ClassId} {a : Nat → Nat} {m_s m_past m_kept m_refused m_text m_asked m_heads m_forkBit m_forkFrom m_forkTo m_wayPage m_wayKnown m_wayGuess m_wayDiff m_wayRead m_wayPlace m_treeBit m_treeLeft m_treeRight m_treeAbove m_pileFrom m_pileTo m_pileAbove : Nat → Int32} {m_known m_typed m_askedLength m_entries m_forks m_guess m_diff m_read m_placeOf m_treeForks m_treeDeep : Int32} {r : Int32} (C : k_C p s m args meth c cX8_faultOf 4 (some .int) RX8 wsX8_faultOf D (kT cI cJ cB cL cS cW) A) (hD : va_D A (WM0 a cI)) (hret : ∀ (H : Heap) (locs : List Loc) (pc : Nat) (ls : Array Slot), decode cX8_faultOf pc = .ok (.ireturn, 1) → va_P D vwCl (WM a cI m_s m_past m_kept m_refused m_text m_asked m_heads m_forkBit m_forkFrom m_forkTo m_wayPage m_wayKnown m_wayGuess m_wayDiff m_wayRead m_wayPlace m_treeBit m_treeLeft m_treeRight m_treeAbove m_pileFrom m_pileTo m_pileAbove m_known m_typed m_askedLength m_entries m_forks m_guess m_diff m_read m_placeOf m_treeForks m_treeDeep) H → va_S A s.heap H locs → W p l e { frames := 2, cells := 0, slots := 0, locals := 42 } s m args below meth c H locs 0 0 Q (F0 m pc ls [.int r])) {k2 : Int32 → Option (Int32)} (hk2 : ∀ (v1 : Int32) (H : Heap) (locs : List Loc) (ls : Array Slot), va_P D vwCl (WM a cI m_s m_past m_kept m_refused m_text m_asked m_heads m_forkBit m_forkFrom m_forkTo m_wayPage m_wayKnown m_wayGuess m_wayDiff m_wayRead m_wayPlace m_treeBit m_treeLeft m_treeRight m_treeAbove m_pileFrom m_pileTo m_pileAbove m_known m_typed m_askedLength m_entries m_forks m_guess m_diff m_read m_placeOf m_treeForks m_treeDeep) H → va_S A s.heap H locs → lv_has ls 4 [(0, .ref (a 0)), (1, .int v1)] → k2 v1 = some r → W p l e { frames := 2, cells := 0, slots := 0, locals := 42 } s m args below meth c H locs 0 0 Q (F0 m 2 ls [])) {k44 : Int32 → Option (Int32)} (hk44 : ∀ (v1 : Int32) (H : Heap) (locs : List Loc) (ls : Array Slot), va_P D vwCl (WM a cI m_s m_past m_kept m_refused m_text m_asked m_heads m_forkBit m_forkFrom m_forkTo m_wayPage m_wayKnown m_wayGuess m_wayDiff m_wayRead m_wayPlace m_treeBit m_treeLeft m_treeRight m_treeAbove m_pileFrom m_pileTo m_pileAbove m_known m_typed m_askedLength m_entries m_forks m_guess m_diff m_read m_placeOf m_treeForks m_treeDeep) H → va_S A s.heap H locs → lv_has ls 4 [(1, .int v1)] → k44 v1 = some r → W p l e { frames := 2, cells := 0, slots := 0, locals := 42 } s m args below meth c H locs 0 0 Q (F0 m 44 ls [])) {k110 : Int32 → Option (Int32)} (hk110 : ∀ (v3 : Int32) (H : Heap) (locs : List Loc) (ls : Array Slot), va_P D vwCl (WM a cI m_s m_past m_kept m_refused m_text m_asked m_heads m_forkBit m_forkFrom m_forkTo m_wayPage m_wayKnown m_wayGuess m_wayDiff m_wayRead m_wayPlace m_treeBit m_treeLeft m_treeRight m_treeAbove m_pileFrom m_pileTo m_pileAbove m_known m_typed m_askedLength m_entries m_forks m_guess m_diff m_read m_placeOf m_treeForks m_treeDeep) H → va_S A s.heap H locs → lv_has ls 4 [(3, .int v3)] → k110 v3 = some r → W p l e { frames := 2, cells := 0, slots := 0, locals := 42 } s m args below meth c H locs 0 0 Q (F0 m 110 ls [])) {k119 : Option (Int32)} (hk119 : ∀  (H : Heap) (locs : List Loc) (ls : Array Slot), va_P D vwCl (WM a cI m_s m_past m_kept m_refused m_text m_asked m_heads m_forkBit m_forkFrom m_forkTo m_wayPage m_wayKnown m_wayGuess m_wayDiff m_wayRead m_wayPlace m_treeBit m_treeLeft m_treeRight m_treeAbove m_pileFrom m_pileTo m_pileAbove m_known m_typed m_askedLength m_entries m_forks m_guess m_diff m_read m_placeOf m_treeForks m_treeDeep) H → va_S A s.heap H locs → lv_has ls 4 [] → k119 = some r → W p l e { frames := 2, cells := 0, slots := 0, locals := 42 } s m args below meth c H locs 0 0 Q (F0 m 119 ls [])) : ∀ (v1 : Int32) (H : Heap) (locs : List Loc) (ls : Array Slot), va_P D vwCl (WM a cI m_s m_past m_kept m_refused m_text m_asked m_heads m_forkBit m_forkFrom m_forkTo m_wayPage m_wayKnown m_wayGuess m_wayDiff m_wayRead m_wayPlace m_treeBit m_treeLeft m_treeRight m_treeAbove m_pileFrom m_pileTo m_pileAbove m_known m_typed m_askedLength m_entries m_forks m_guess m_diff m_read m_placeOf m_treeForks m_treeDeep) H → va_S A s.heap H locs → lv_has ls 4 [(0, .ref (a 0)), (1, .int v1)] → M_faultOf_J14 m_text m_typed k2 k44 k110 k119 v1 = some r → W p l e { frames := 2, cells := 0, slots := 0, locals := 42 } s m args below meth c H locs 0 0 Q (F0 m 14 ls []) := by
  obtain ⟨hx, hb, hml, hr, hown, hts, hlocks, hK, hA, hN⟩ := id C
  intro v1 H locs ls hP hS hl hm
  rw [M_faultOf_J14] at hm
  refine lv_iload_n hx hb dX8_faultOf_14 rfl (lv_at hl 1 rfl) ?_
  refine lv_aload_n hx hb dX8_faultOf_15 rfl (lv_at hl 0 rfl) ?_
  refine kg (v := .int m_typed) hx hb hts hiX8_faultOf hown hK hP 0 rfl rfl 6 (by decide) flX8_faultOf_182 rfl rfl dX8_faultOf_16 ?_
  refine lv_icmp_eq (tgt := 44) hx hb dX8_faultOf_19 (by decide) (fun hc => ?_) (fun hc => ?_)
  · have hm := if_t hc hm
    exact hk44 _ _ _ _ hP hS (lv_sub hl [1] rfl) hm
  · have hm := if_f hc hm
    refine lv_aload_n hx hb dX8_faultOf_22 rfl (lv_at hl 0 rfl) ?_
    refine kg (v := .ref (a 5)) hx hb hts hiX8_faultOf hown hK hP 0 rfl rfl 5 (by decide) flX8_faultOf_22 rfl rfl dX8_faultOf_23 ?_
    refine lv_iload_n hx hb dX8_faultOf_26 rfl (lv_at hl 1 rfl) ?_
    obtain ⟨hi, hm⟩ := ga_some hm
    refine k_iald hx hb hK hP 5 0 rfl rfl rfl hi dX8_faultOf_27 ?_
    refine lv_bipush (v := 43) hx hb dX8_faultOf_28 (by decide) ?_
    refine lv_icmp_eq (tgt := 46) hx hb dX8_faultOf_30 (by decide) (fun hc => ?_) (fun hc => ?_)
    · have hm := if_t hc hm
      refine lv_iload_n hx hb dX8_faultOf_46 rfl (lv_at hl 1 rfl) ?_
      refine lv_iconst (v := 1) hx hb dX8_faultOf_47 (by decide) ?_
      refine lv_iadd hx hb dX8_faultOf_48 ?_
      refine lv_istore_n (lv' := [(2, .int (v1 + 1)), (0, .ref (a 0)), (1, .int v1)]) hx hb dX8_faultOf_49 rfl hl (by decide) rfl (fun ls hl => ?_)
      refine lv_iload_n hx hb dX8_faultOf_50 rfl (lv_at hl 0 rfl) ?_
      refine lv_istore_n (lv' := [(3, .int (v1 + 1)), (2, .int (v1 + 1)), (0, .ref (a 0)), (1, .int v1)]) hx hb dX8_faultOf_51 rfl hl (by decide) rfl (fun ls hl => ?_)
      refine t_M_faultOf_L52 C hD hret ?_ FU _ _ _ _ _ hP hS (lv_sub hl [2, 1, 0] rfl) hm
      · intro v2 v3 H locs ls hP hS hl hm
        try dsimp only at hm
        exact t_M_faultOf_J86 C hD hret hk2 hk44 hk110 hk119 _ _ _ _ _ hP hS (lv_sub hl [0, 1, 2] rfl) hm
    · have hm := if_f hc hm
      refine lv_aload_n hx hb dX8_faultOf_33 rfl (lv_at hl 0 rfl) ?_
      refine kg (v := .ref (a 5)) hx hb hts hiX8_faultOf hown hK hP 0 rfl rfl 5 (by decide) flX8_faultOf_22 rfl rfl dX8_faultOf_34 ?_
      refine lv_iload_n hx hb dX8_faultOf_37 rfl (lv_at hl 1 rfl) ?_
      obtain ⟨hi, hm⟩ := ga_some hm
      refine k_iald hx hb hK hP 5 0 rfl rfl rfl hi dX8_faultOf_38 ?_
      refine lv_bipush (v := 45) hx hb dX8_faultOf_39 (by decide) ?_
      refine lv_icmp_eq (tgt := 46) hx hb dX8_faultOf_41 (by decide) (fun hc => ?_) (fun hc => ?_)
      · have hm := if_t hc hm
        refine lv_iload_n hx hb dX8_faultOf_46 rfl (lv_at hl 1 rfl) ?_
        refine lv_iconst (v := 1) hx hb dX8_faultOf_47 (by decide) ?_
        refine lv_iadd hx hb dX8_faultOf_48 ?_
        refine lv_istore_n (lv' := [(2, .int (v1 + 1)), (0, .ref (a 0)), (1, .int v1)]) hx hb dX8_faultOf_49 rfl hl (by decide) rfl (fun ls hl => ?_)
        refine lv_iload_n hx hb dX8_faultOf_50 rfl (lv_at hl 0 rfl) ?_
        refine lv_istore_n (lv' := [(3, .int (v1 + 1)), (2, .int (v1 + 1)), (0, .ref (a 0)), (1, .int v1)]) hx hb dX8_faultOf_51 rfl hl (by decide) rfl (fun ls hl => ?_)
        refine t_M_faultOf_L52 C hD hret ?_ FU _ _ _ _ _ hP hS (lv_sub hl [2, 1, 0] rfl) hm
        · intro v2 v3 H locs ls hP hS hl hm
          try dsimp only at hm
          exact t_M_faultOf_J86 C hD hret hk2 hk44 hk110 hk119 _ _ _ _ _ hP hS (lv_sub hl [0, 1, 2] rfl) hm
      · have hm := if_f hc hm
        exact hk44 _ _ _ _ hP hS (lv_sub hl [1] rfl) hm
set_option maxRecDepth 100000 in
set_option maxHeartbeats 4000000 in
theorem t_M_faultOf_L2 {p : Program} {l : Launch} {e : Env} {s : State} {m : MethodId} {args : Array Value} {below : List Frame} {meth : Method} {c : Code} {Q : State → Prop} {A : Nat → Prop} {D : va_G} {cI cJ cB cL cS cW : ClassId} {a : Nat → Nat} {m_s m_past m_kept m_refused m_text m_asked m_heads m_forkBit m_forkFrom m_forkTo m_wayPage m_wayKnown m_wayGuess m_wayDiff m_wayRead m_wayPlace m_treeBit m_treeLeft m_treeRight m_treeAbove m_pileFrom m_pileTo m_pileAbove : Nat → Int32} {m_known m_typed m_askedLength m_entries m_forks m_guess m_diff m_read m_placeOf m_treeForks m_treeDeep : Int32} {r : Int32} (C : k_C p s m args meth c cX8_faultOf 4 (some .int) RX8 wsX8_faultOf D (kT cI cJ cB cL cS cW) A) (hD : va_D A (WM0 a cI)) (hret : ∀ (H : Heap) (locs : List Loc) (pc : Nat) (ls : Array Slot), decode cX8_faultOf pc = .ok (.ireturn, 1) → va_P D vwCl (WM a cI m_s m_past m_kept m_refused m_text m_asked m_heads m_forkBit m_forkFrom m_forkTo m_wayPage m_wayKnown m_wayGuess m_wayDiff m_wayRead m_wayPlace m_treeBit m_treeLeft m_treeRight m_treeAbove m_pileFrom m_pileTo m_pileAbove m_known m_typed m_askedLength m_entries m_forks m_guess m_diff m_read m_placeOf m_treeForks m_treeDeep) H → va_S A s.heap H locs → W p l e { frames := 2, cells := 0, slots := 0, locals := 42 } s m args below meth c H locs 0 0 Q (F0 m pc ls [.int r])) {k44 : Int32 → Option (Int32)} (hk44 : ∀ (v1 : Int32) (H : Heap) (locs : List Loc) (ls : Array Slot), va_P D vwCl (WM a cI m_s m_past m_kept m_refused m_text m_asked m_heads m_forkBit m_forkFrom m_forkTo m_wayPage m_wayKnown m_wayGuess m_wayDiff m_wayRead m_wayPlace m_treeBit m_treeLeft m_treeRight m_treeAbove m_pileFrom m_pileTo m_pileAbove m_known m_typed m_askedLength m_entries m_forks m_guess m_diff m_read m_placeOf m_treeForks m_treeDeep) H → va_S A s.heap H locs → lv_has ls 4 [(1, .int v1)] → k44 v1 = some r → W p l e { frames := 2, cells := 0, slots := 0, locals := 42 } s m args below meth c H locs 0 0 Q (F0 m 44 ls [])) {k110 : Int32 → Option (Int32)} (hk110 : ∀ (v3 : Int32) (H : Heap) (locs : List Loc) (ls : Array Slot), va_P D vwCl (WM a cI m_s m_past m_kept m_refused m_text m_asked m_heads m_forkBit m_forkFrom m_forkTo m_wayPage m_wayKnown m_wayGuess m_wayDiff m_wayRead m_wayPlace m_treeBit m_treeLeft m_treeRight m_treeAbove m_pileFrom m_pileTo m_pileAbove m_known m_typed m_askedLength m_entries m_forks m_guess m_diff m_read m_placeOf m_treeForks m_treeDeep) H → va_S A s.heap H locs → lv_has ls 4 [(3, .int v3)] → k110 v3 = some r → W p l e { frames := 2, cells := 0, slots := 0, locals := 42 } s m args below meth c H locs 0 0 Q (F0 m 110 ls [])) {k119 : Option (Int32)} (hk119 : ∀  (H : Heap) (locs : List Loc) (ls : Array Slot), va_P D vwCl (WM a cI m_s m_past m_kept m_refused m_text m_asked m_heads m_forkBit m_forkFrom m_forkTo m_wayPage m_wayKnown m_wayGuess m_wayDiff m_wayRead m_wayPlace m_treeBit m_treeLeft m_treeRight m_treeAbove m_pileFrom m_pileTo m_pileAbove m_known m_typed m_askedLength m_entries m_forks m_guess m_diff m_read m_placeOf m_treeForks m_treeDeep) H → va_S A s.heap H locs → lv_has ls 4 [] → k119 = some r → W p l e { frames := 2, cells := 0, slots := 0, locals := 42 } s m args below meth c H locs 0 0 Q (F0 m 119 ls [])) : ∀ n : Nat, ∀ (v1 : Int32) (H : Heap) (locs : List Loc) (ls : Array Slot), va_P D vwCl (WM a cI m_s m_past m_kept m_refused m_text m_asked m_heads m_forkBit m_forkFrom m_forkTo m_wayPage m_wayKnown m_wayGuess m_wayDiff m_wayRead m_wayPlace m_treeBit m_treeLeft m_treeRight m_treeAbove m_pileFrom m_pileTo m_pileAbove m_known m_typed m_askedLength m_entries m_forks m_guess m_diff m_read m_placeOf m_treeForks m_treeDeep) H → va_S A s.heap H locs → lv_has ls 4 [(0, .ref (a 0)), (1, .int v1)] → (M_faultOf_L2 m_text m_typed k44 k110 k119 n) v1 = some r → W p l e { frames := 2, cells := 0, slots := 0, locals := 42 } s m args below meth c H locs 0 0 Q (F0 m 2 ls []) := by
  obtain ⟨hx, hb, hml, hr, hown, hts, hlocks, hK, hA, hN⟩ := id C
  intro n
  induction n with
  | zero =>
    intro v1 H locs ls hP hS hl hm
    cases hm
  | succ n ih =>
    intro v1 H locs ls hP hS hl hm
    rw [M_faultOf_L2] at hm
    refine lv_iload_n hx hb dX8_faultOf_2 rfl (lv_at hl 1 rfl) ?_
    refine lv_aload_n hx hb dX8_faultOf_3 rfl (lv_at hl 0 rfl) ?_
    refine kg (v := .int m_typed) hx hb hts hiX8_faultOf hown hK hP 0 rfl rfl 6 (by decide) flX8_faultOf_182 rfl rfl dX8_faultOf_4 ?_
    refine lv_icmp_lt (tgt := 14) hx hb dX8_faultOf_7 (by decide) (fun hc => ?_) (fun hc => ?_)
    · have hm := if_t hc hm
      exact t_M_faultOf_J14 C hD hret ih hk44 hk110 hk119 _ _ _ _ hP hS (lv_sub hl [0, 1] rfl) hm
    · have hm := if_f hc hm
      refine lv_iload_n hx hb dX8_faultOf_10 rfl (lv_at hl 1 rfl) ?_
      refine lv_if_ne (tgt := 119) hx hb dX8_faultOf_11 (by decide) (fun hc => ?_) (fun hc => ?_)
      · have hm := if_f hc hm
        exact hk119  _ _ _ hP hS (lv_sub hl [] rfl) hm
      · have hm := if_t hc hm
        exact t_M_faultOf_J14 C hD hret ih hk44 hk110 hk119 _ _ _ _ hP hS (lv_sub hl [0, 1] rfl) hm
set_option maxRecDepth 100000 in
set_option maxHeartbeats 4000000 in
theorem c_X8_faultOf {l : Launch} {D : va_G} {cI cJ cB cL cS cW : ClassId} {a : Nat → Nat} {m_s m_past m_kept m_refused m_text m_asked m_heads m_forkBit m_forkFrom m_forkTo m_wayPage m_wayKnown m_wayGuess m_wayDiff m_wayRead m_wayPlace m_treeBit m_treeLeft m_treeRight m_treeAbove m_pileFrom m_pileTo m_pileAbove : Nat → Int32} {m_known m_typed m_askedLength m_entries m_forks m_guess m_diff m_read m_placeOf m_treeForks m_treeDeep : Int32} {r : Int32} (hm : M_faultOf m_text m_typed = some r) : k_MI l yX8_faultOf wsX8_faultOf { frames := 2, cells := 0, slots := 0, locals := 42 } D (kT cI cJ cB cL cS cW) [.ref (a 0)] (WM a cI m_s m_past m_kept m_refused m_text m_asked m_heads m_forkBit m_forkFrom m_forkTo m_wayPage m_wayKnown m_wayGuess m_wayDiff m_wayRead m_wayPlace m_treeBit m_treeLeft m_treeRight m_treeAbove m_pileFrom m_pileTo m_pileAbove m_known m_typed m_askedLength m_entries m_forks m_guess m_diff m_read m_placeOf m_treeForks m_treeDeep) r (WM a cI m_s m_past m_kept m_refused m_text m_asked m_heads m_forkBit m_forkFrom m_forkTo m_wayPage m_wayKnown m_wayGuess m_wayDiff m_wayRead m_wayPlace m_treeBit m_treeLeft m_treeRight m_treeAbove m_pileFrom m_pileTo m_pileAbove m_known m_typed m_askedLength m_entries m_forks m_guess m_diff m_read m_placeOf m_treeForks m_treeDeep) := by
  refine k_ofI (cc := cX8_faultOf) (maxL := 4) (own := RX8) (by decide) rfl rfl (Nat.le_of_ble_eq_true rfl) ?_
  intro p e s m args below meth c A Q ls C hP hD hl hret
  have hD : va_D A (WM0 a cI) := va_D_re hD rfl
  have hS : va_S A s.heap s.heap [] := va_S.rf
  have hl : lv_has ls 4 [(0, .ref (a 0))] := hl
  obtain ⟨hx, hb, hml, hr, hown, hts, hlocks, hK, hA, hN⟩ := id C
  rw [M_faultOf] at hm
  refine lv_iconst (v := 0) hx hb dX8_faultOf_0 (by decide) ?_
  refine lv_istore_n (lv' := [(1, .int 0), (0, .ref (a 0))]) hx hb dX8_faultOf_1 rfl hl (by decide) rfl (fun ls hl => ?_)
  refine t_M_faultOf_L2 C hD hret ?_ ?_ ?_ FU _ _ _ _ hP hS (lv_sub hl [1, 0] rfl) hm
  · intro v1 H locs ls hP hS hl hm
    try dsimp only at hm
    refine lv_iload_n hx hb dX8_faultOf_44 rfl (lv_at hl 0 rfl) ?_
    obtain rfl := Option.some.inj hm
    exact hret _ _ _ _ dX8_faultOf_45 hP hS
  · intro v3 H locs ls hP hS hl hm
    try dsimp only at hm
    refine lv_iload_n hx hb dX8_faultOf_110 rfl (lv_at hl 0 rfl) ?_
    obtain rfl := Option.some.inj hm
    exact hret _ _ _ _ dX8_faultOf_111 hP hS
  · intro  H locs ls hP hS hl hm
    try dsimp only at hm
    refine lv_iconst (v := (-1)) hx hb dX8_faultOf_119 (by decide) ?_
    obtain rfl := Option.some.inj hm
    exact hret _ _ _ _ dX8_faultOf_120 hP hS
theorem hdX8_isDone : yX8_isDone.cls = RX8 ∧ yX8_isDone.cls ≠ "java/lang/invoke/MethodHandle" ∧ yX8_isDone.cls ≠ "java/lang/invoke/VarHandle" ∧ (parseMethodDescriptor yX8_isDone.desc).map (fun d => d.parameters.length) = some 1 := by decide +kernel
theorem hiX8_isDone : ∀ w ∈ u_ws RX8 TX8 34, w ∈ wsX8_isDone := by decide +kernel
theorem flX8_isDone_83 : Cond.fieldLink RX8 83 "BlindPagesModel" "askedLength" "I" ∈ wsX8_isDone := by decide +kernel
theorem flX8_isDone_22 : Cond.fieldLink RX8 22 "BlindPagesModel" "text" "[I" ∈ wsX8_isDone := by decide +kernel
theorem flX8_isDone_25 : Cond.fieldLink RX8 25 "BlindPagesModel" "asked" "[I" ∈ wsX8_isDone := by decide +kernel
theorem flX8_isDone_7 : Cond.fieldLink RX8 7 "BlindPagesModel" "s" "[I" ∈ wsX8_isDone := by decide +kernel
def M_isDone_L5 (m_text : Nat → Int32) (v1 : Int32) (k59 : (Nat → Int32) → (Nat → Int32) → (Nat → Int32) → (Nat → Int32) → (Nat → Int32) → (Nat → Int32) → (Nat → Int32) → (Nat → Int32) → (Nat → Int32) → (Nat → Int32) → (Nat → Int32) → (Nat → Int32) → Int32 → Int32 → Int32 → Int32 → Int32 → Int32 → Int32 → Option (Int32 × (Nat → Int32) × (Nat → Int32) × (Nat → Int32) × (Nat → Int32) × (Nat → Int32) × (Nat → Int32) × (Nat → Int32) × (Nat → Int32) × (Nat → Int32) × (Nat → Int32) × (Nat → Int32) × (Nat → Int32) × Int32 × Int32 × Int32 × Int32 × Int32 × Int32 × Int32)) : Nat → (Nat → Int32) → (Nat → Int32) → (Nat → Int32) → (Nat → Int32) → (Nat → Int32) → (Nat → Int32) → (Nat → Int32) → (Nat → Int32) → (Nat → Int32) → (Nat → Int32) → (Nat → Int32) → (Nat → Int32) → Int32 → Int32 → Int32 → Int32 → Int32 → Int32 → Int32 → Option (Int32 × (Nat → Int32) × (Nat → Int32) × (Nat → Int32) × (Nat → Int32) × (Nat → Int32) × (Nat → Int32) × (Nat → Int32) × (Nat → Int32) × (Nat → Int32) × (Nat → Int32) × (Nat → Int32) × (Nat → Int32) × Int32 × Int32 × Int32 × Int32 × Int32 × Int32 × Int32)
  | 0, _, _, _, _, _, _, _, _, _, _, _, _, _, _, _, _, _, _, _ => none
  | n + 1, m_s, m_asked, m_heads, m_forkBit, m_forkFrom, m_forkTo, m_wayPage, m_wayKnown, m_wayGuess, m_wayDiff, m_wayRead, m_wayPlace, m_askedLength, m_entries, m_forks, m_guess, m_diff, m_read, m_placeOf => ga ((v1 + 1) + m_askedLength) 120 (bd1 (M_isSign (m_text ((v1 + 1) + m_askedLength).toNatClampNeg)) fun r18 => if r18 = 0 then (k59 m_s m_asked m_heads m_forkBit m_forkFrom m_forkTo m_wayPage m_wayKnown m_wayGuess m_wayDiff m_wayRead m_wayPlace m_askedLength m_entries m_forks m_guess m_diff m_read m_placeOf) else (ga ((v1 + 1) + m_askedLength) 120 (ga m_askedLength 24 (M_isDone_L5 m_text v1 k59 n m_s (upd m_asked m_askedLength.toNatClampNeg (m_text ((v1 + 1) + m_askedLength).toNatClampNeg)) m_heads m_forkBit m_forkFrom m_forkTo m_wayPage m_wayKnown m_wayGuess m_wayDiff m_wayRead m_wayPlace (m_askedLength + 1) m_entries m_forks m_guess m_diff m_read m_placeOf))))
def M_isDone_J126 (m_text : Nat → Int32) (v1 : Int32) (m_s : (Nat → Int32)) (m_asked : (Nat → Int32)) (m_heads : (Nat → Int32)) (m_forkBit : (Nat → Int32)) (m_forkFrom : (Nat → Int32)) (m_forkTo : (Nat → Int32)) (m_wayPage : (Nat → Int32)) (m_wayKnown : (Nat → Int32)) (m_wayGuess : (Nat → Int32)) (m_wayDiff : (Nat → Int32)) (m_wayRead : (Nat → Int32)) (m_wayPlace : (Nat → Int32)) (m_askedLength : Int32) (m_entries : Int32) (m_forks : Int32) (m_guess : Int32) (m_diff : Int32) (m_read : Int32) (m_placeOf : Int32) (v3 : Int32) : Option (Int32 × (Nat → Int32) × (Nat → Int32) × (Nat → Int32) × (Nat → Int32) × (Nat → Int32) × (Nat → Int32) × (Nat → Int32) × (Nat → Int32) × (Nat → Int32) × (Nat → Int32) × (Nat → Int32) × (Nat → Int32) × Int32 × Int32 × Int32 × Int32 × Int32 × Int32 × Int32) := if v3 = 0 then (gb v3 (some (v3, m_s, m_asked, m_heads, m_forkBit, m_forkFrom, m_forkTo, m_wayPage, m_wayKnown, m_wayGuess, m_wayDiff, m_wayRead, m_wayPlace, m_askedLength, m_entries, m_forks, m_guess, m_diff, m_read, m_placeOf))) else (bd17 (M_takes m_asked m_askedLength m_s m_heads m_forkBit m_forkFrom m_forkTo m_wayPage m_wayKnown m_wayGuess m_wayDiff m_wayRead m_wayPlace m_entries m_forks m_guess m_diff m_read m_placeOf) fun m_s_131 m_heads_131 m_forkBit_131 m_forkFrom_131 m_forkTo_131 m_wayPage_131 m_wayKnown_131 m_wayGuess_131 m_wayDiff_131 m_wayRead_131 m_wayPlace_131 m_entries_131 m_forks_131 m_guess_131 m_diff_131 m_read_131 m_placeOf_131 => gb v3 (some (v3, m_s_131, m_asked, m_heads_131, m_forkBit_131, m_forkFrom_131, m_forkTo_131, m_wayPage_131, m_wayKnown_131, m_wayGuess_131, m_wayDiff_131, m_wayRead_131, m_wayPlace_131, m_askedLength, m_entries_131, m_forks_131, m_guess_131, m_diff_131, m_read_131, m_placeOf_131)))
def M_isDone_J110 (m_text : Nat → Int32) (v1 : Int32) (m_s : (Nat → Int32)) (m_asked : (Nat → Int32)) (m_heads : (Nat → Int32)) (m_forkBit : (Nat → Int32)) (m_forkFrom : (Nat → Int32)) (m_forkTo : (Nat → Int32)) (m_wayPage : (Nat → Int32)) (m_wayKnown : (Nat → Int32)) (m_wayGuess : (Nat → Int32)) (m_wayDiff : (Nat → Int32)) (m_wayRead : (Nat → Int32)) (m_wayPlace : (Nat → Int32)) (m_askedLength : Int32) (m_entries : Int32) (m_forks : Int32) (m_guess : Int32) (m_diff : Int32) (m_read : Int32) (m_placeOf : Int32) (v2 : Int32) (t0 : Int32) : Option (Int32 × (Nat → Int32) × (Nat → Int32) × (Nat → Int32) × (Nat → Int32) × (Nat → Int32) × (Nat → Int32) × (Nat → Int32) × (Nat → Int32) × (Nat → Int32) × (Nat → Int32) × (Nat → Int32) × (Nat → Int32) × Int32 × Int32 × Int32 × Int32 × Int32 × Int32 × Int32) := if t0 = 0 then (M_isDone_J126 m_text v1 m_s m_asked m_heads m_forkBit m_forkFrom m_forkTo m_wayPage m_wayKnown m_wayGuess m_wayDiff m_wayRead m_wayPlace m_askedLength m_entries m_forks m_guess m_diff m_read m_placeOf t0) else (if v2 = 0 then (M_isDone_J126 m_text v1 m_s m_asked m_heads m_forkBit m_forkFrom m_forkTo m_wayPage m_wayKnown m_wayGuess m_wayDiff m_wayRead m_wayPlace m_askedLength m_entries m_forks m_guess m_diff m_read m_placeOf t0) else (bd17 (M_adds m_asked m_askedLength m_s m_heads m_forkBit m_forkFrom m_forkTo m_wayPage m_wayKnown m_wayGuess m_wayDiff m_wayRead m_wayPlace m_entries m_forks m_guess m_diff m_read m_placeOf) fun m_s_120 m_heads_120 m_forkBit_120 m_forkFrom_120 m_forkTo_120 m_wayPage_120 m_wayKnown_120 m_wayGuess_120 m_wayDiff_120 m_wayRead_120 m_wayPlace_120 m_entries_120 m_forks_120 m_guess_120 m_diff_120 m_read_120 m_placeOf_120 => gb t0 (some (t0, m_s_120, m_asked, m_heads_120, m_forkBit_120, m_forkFrom_120, m_forkTo_120, m_wayPage_120, m_wayKnown_120, m_wayGuess_120, m_wayDiff_120, m_wayRead_120, m_wayPlace_120, m_askedLength, m_entries_120, m_forks_120, m_guess_120, m_diff_120, m_read_120, m_placeOf_120))))
def M_isDone_J75 (m_text : Nat → Int32) (v1 : Int32) (m_s : (Nat → Int32)) (m_asked : (Nat → Int32)) (m_heads : (Nat → Int32)) (m_forkBit : (Nat → Int32)) (m_forkFrom : (Nat → Int32)) (m_forkTo : (Nat → Int32)) (m_wayPage : (Nat → Int32)) (m_wayKnown : (Nat → Int32)) (m_wayGuess : (Nat → Int32)) (m_wayDiff : (Nat → Int32)) (m_wayRead : (Nat → Int32)) (m_wayPlace : (Nat → Int32)) (m_askedLength : Int32) (m_entries : Int32) (m_forks : Int32) (m_guess : Int32) (m_diff : Int32) (m_read : Int32) (m_placeOf : Int32) (t0 : Int32) : Option (Int32 × (Nat → Int32) × (Nat → Int32) × (Nat → Int32) × (Nat → Int32) × (Nat → Int32) × (Nat → Int32) × (Nat → Int32) × (Nat → Int32) × (Nat → Int32) × (Nat → Int32) × (Nat → Int32) × (Nat → Int32) × Int32 × Int32 × Int32 × Int32 × Int32 × Int32 × Int32) := if t0 = 0 then (bd1 (M_isThere m_s m_asked m_askedLength) fun r107 => M_isDone_J110 m_text v1 m_s m_asked m_heads m_forkBit m_forkFrom m_forkTo m_wayPage m_wayKnown m_wayGuess m_wayDiff m_wayRead m_wayPlace m_askedLength m_entries m_forks m_guess m_diff m_read m_placeOf t0 r107) else (bd1 (M_isThere m_s m_asked m_askedLength) fun r81 => if r81 = 0 then (if 48 ≤ (m_s 0) then (M_isDone_J110 m_text v1 m_s m_asked m_heads m_forkBit m_forkFrom m_forkTo m_wayPage m_wayKnown m_wayGuess m_wayDiff m_wayRead m_wayPlace m_askedLength m_entries m_forks m_guess m_diff m_read m_placeOf t0 0) else (M_isDone_J110 m_text v1 m_s m_asked m_heads m_forkBit m_forkFrom m_forkTo m_wayPage m_wayKnown m_wayGuess m_wayDiff m_wayRead m_wayPlace m_askedLength m_entries m_forks m_guess m_diff m_read m_placeOf t0 1)) else (M_isDone_J110 m_text v1 m_s m_asked m_heads m_forkBit m_forkFrom m_forkTo m_wayPage m_wayKnown m_wayGuess m_wayDiff m_wayRead m_wayPlace m_askedLength m_entries m_forks m_guess m_diff m_read m_placeOf t0 0))
def M_isDone (m_text : Nat → Int32) (m_s m_asked m_heads m_forkBit m_forkFrom m_forkTo m_wayPage m_wayKnown m_wayGuess m_wayDiff m_wayRead m_wayPlace : Nat → Int32) (m_askedLength m_entries m_forks m_guess m_diff m_read m_placeOf : Int32) (v1 : Int32) : Option (Int32 × (Nat → Int32) × (Nat → Int32) × (Nat → Int32) × (Nat → Int32) × (Nat → Int32) × (Nat → Int32) × (Nat → Int32) × (Nat → Int32) × (Nat → Int32) × (Nat → Int32) × (Nat → Int32) × (Nat → Int32) × Int32 × Int32 × Int32 × Int32 × Int32 × Int32 × Int32) := M_isDone_L5 m_text v1 (fun m_s m_asked m_heads m_forkBit m_forkFrom m_forkTo m_wayPage m_wayKnown m_wayGuess m_wayDiff m_wayRead m_wayPlace m_askedLength m_entries m_forks m_guess m_diff m_read m_placeOf => ga v1 120 (if (m_text v1.toNatClampNeg) = 43 then (M_isDone_J75 m_text v1 m_s m_asked m_heads m_forkBit m_forkFrom m_forkTo m_wayPage m_wayKnown m_wayGuess m_wayDiff m_wayRead m_wayPlace m_askedLength m_entries m_forks m_guess m_diff m_read m_placeOf 1) else (M_isDone_J75 m_text v1 m_s m_asked m_heads m_forkBit m_forkFrom m_forkTo m_wayPage m_wayKnown m_wayGuess m_wayDiff m_wayRead m_wayPlace m_askedLength m_entries m_forks m_guess m_diff m_read m_placeOf 0))) FU m_s m_asked m_heads m_forkBit m_forkFrom m_forkTo m_wayPage m_wayKnown m_wayGuess m_wayDiff m_wayRead m_wayPlace 0 m_entries m_forks m_guess m_diff m_read m_placeOf
set_option maxRecDepth 100000 in
set_option maxHeartbeats 4000000 in
theorem t_M_isDone_L5 {p : Program} {l : Launch} {e : Env} {s : State} {m : MethodId} {args : Array Value} {below : List Frame} {meth : Method} {c : Code} {Q : State → Prop} {A : Nat → Prop} {D : va_G} {cI cJ cB cL cS cW : ClassId} {a : Nat → Nat} {m_past m_kept m_refused m_text m_treeBit m_treeLeft m_treeRight m_treeAbove m_pileFrom m_pileTo m_pileAbove : Nat → Int32} {m_known m_typed m_treeForks m_treeDeep : Int32} {v1 : Int32} {r : Int32} {o_s : Nat → Int32} {o_asked : Nat → Int32} {o_heads : Nat → Int32} {o_forkBit : Nat → Int32} {o_forkFrom : Nat → Int32} {o_forkTo : Nat → Int32} {o_wayPage : Nat → Int32} {o_wayKnown : Nat → Int32} {o_wayGuess : Nat → Int32} {o_wayDiff : Nat → Int32} {o_wayRead : Nat → Int32} {o_wayPlace : Nat → Int32} {o_askedLength : Int32} {o_entries : Int32} {o_forks : Int32} {o_guess : Int32} {o_diff : Int32} {o_read : Int32} {o_placeOf : Int32} (C : k_C p s m args meth c cX8_isDone 4 (some .boolean) RX8 wsX8_isDone D (kT cI cJ cB cL cS cW) A) (hD : va_D A (WM0 a cI)) (hret : ∀ (H : Heap) (locs : List Loc) (pc : Nat) (ls : Array Slot), decode cX8_isDone pc = .ok (.ireturn, 1) → (r = 0 ∨ r = 1) → va_P D vwCl (WM a cI o_s m_past m_kept m_refused m_text o_asked o_heads o_forkBit o_forkFrom o_forkTo o_wayPage o_wayKnown o_wayGuess o_wayDiff o_wayRead o_wayPlace m_treeBit m_treeLeft m_treeRight m_treeAbove m_pileFrom m_pileTo m_pileAbove m_known m_typed o_askedLength o_entries o_forks o_guess o_diff o_read o_placeOf m_treeForks m_treeDeep) H → va_S A s.heap H locs → W p l e { frames := 7, cells := 0, slots := 0, locals := 176 } s m args below meth c H locs 0 0 Q (F0 m pc ls [.int r])) {k59 : (Nat → Int32) → (Nat → Int32) → (Nat → Int32) → (Nat → Int32) → (Nat → Int32) → (Nat → Int32) → (Nat → Int32) → (Nat → Int32) → (Nat → Int32) → (Nat → Int32) → (Nat → Int32) → (Nat → Int32) → Int32 → Int32 → Int32 → Int32 → Int32 → Int32 → Int32 → Option (Int32 × (Nat → Int32) × (Nat → Int32) × (Nat → Int32) × (Nat → Int32) × (Nat → Int32) × (Nat → Int32) × (Nat → Int32) × (Nat → Int32) × (Nat → Int32) × (Nat → Int32) × (Nat → Int32) × (Nat → Int32) × Int32 × Int32 × Int32 × Int32 × Int32 × Int32 × Int32)} (hk59 : ∀ (m_s : (Nat → Int32)) (m_asked : (Nat → Int32)) (m_heads : (Nat → Int32)) (m_forkBit : (Nat → Int32)) (m_forkFrom : (Nat → Int32)) (m_forkTo : (Nat → Int32)) (m_wayPage : (Nat → Int32)) (m_wayKnown : (Nat → Int32)) (m_wayGuess : (Nat → Int32)) (m_wayDiff : (Nat → Int32)) (m_wayRead : (Nat → Int32)) (m_wayPlace : (Nat → Int32)) (m_askedLength : Int32) (m_entries : Int32) (m_forks : Int32) (m_guess : Int32) (m_diff : Int32) (m_read : Int32) (m_placeOf : Int32) (H : Heap) (locs : List Loc) (ls : Array Slot), va_P D vwCl (WM a cI m_s m_past m_kept m_refused m_text m_asked m_heads m_forkBit m_forkFrom m_forkTo m_wayPage m_wayKnown m_wayGuess m_wayDiff m_wayRead m_wayPlace m_treeBit m_treeLeft m_treeRight m_treeAbove m_pileFrom m_pileTo m_pileAbove m_known m_typed m_askedLength m_entries m_forks m_guess m_diff m_read m_placeOf m_treeForks m_treeDeep) H → va_S A s.heap H locs → lv_has ls 4 [(0, .ref (a 0)), (1, .int v1)] → k59 m_s m_asked m_heads m_forkBit m_forkFrom m_forkTo m_wayPage m_wayKnown m_wayGuess m_wayDiff m_wayRead m_wayPlace m_askedLength m_entries m_forks m_guess m_diff m_read m_placeOf = some (r, o_s, o_asked, o_heads, o_forkBit, o_forkFrom, o_forkTo, o_wayPage, o_wayKnown, o_wayGuess, o_wayDiff, o_wayRead, o_wayPlace, o_askedLength, o_entries, o_forks, o_guess, o_diff, o_read, o_placeOf) → W p l e { frames := 7, cells := 0, slots := 0, locals := 176 } s m args below meth c H locs 0 0 Q (F0 m 59 ls [])) : ∀ n : Nat, ∀ (m_s : (Nat → Int32)) (m_asked : (Nat → Int32)) (m_heads : (Nat → Int32)) (m_forkBit : (Nat → Int32)) (m_forkFrom : (Nat → Int32)) (m_forkTo : (Nat → Int32)) (m_wayPage : (Nat → Int32)) (m_wayKnown : (Nat → Int32)) (m_wayGuess : (Nat → Int32)) (m_wayDiff : (Nat → Int32)) (m_wayRead : (Nat → Int32)) (m_wayPlace : (Nat → Int32)) (m_askedLength : Int32) (m_entries : Int32) (m_forks : Int32) (m_guess : Int32) (m_diff : Int32) (m_read : Int32) (m_placeOf : Int32) (H : Heap) (locs : List Loc) (ls : Array Slot), va_P D vwCl (WM a cI m_s m_past m_kept m_refused m_text m_asked m_heads m_forkBit m_forkFrom m_forkTo m_wayPage m_wayKnown m_wayGuess m_wayDiff m_wayRead m_wayPlace m_treeBit m_treeLeft m_treeRight m_treeAbove m_pileFrom m_pileTo m_pileAbove m_known m_typed m_askedLength m_entries m_forks m_guess m_diff m_read m_placeOf m_treeForks m_treeDeep) H → va_S A s.heap H locs → lv_has ls 4 [(0, .ref (a 0)), (1, .int v1)] → (M_isDone_L5 m_text v1 k59 n) m_s m_asked m_heads m_forkBit m_forkFrom m_forkTo m_wayPage m_wayKnown m_wayGuess m_wayDiff m_wayRead m_wayPlace m_askedLength m_entries m_forks m_guess m_diff m_read m_placeOf = some (r, o_s, o_asked, o_heads, o_forkBit, o_forkFrom, o_forkTo, o_wayPage, o_wayKnown, o_wayGuess, o_wayDiff, o_wayRead, o_wayPlace, o_askedLength, o_entries, o_forks, o_guess, o_diff, o_read, o_placeOf) → W p l e { frames := 7, cells := 0, slots := 0, locals := 176 } s m args below meth c H locs 0 0 Q (F0 m 5 ls []) := by
  obtain ⟨hx, hb, hml, hr, hown, hts, hlocks, hK, hA, hN⟩ := id C
  intro n
  induction n with
  | zero =>
    intro m_s m_asked m_heads m_forkBit m_forkFrom m_forkTo m_wayPage m_wayKnown m_wayGuess m_wayDiff m_wayRead m_wayPlace m_askedLength m_entries m_forks m_guess m_diff m_read m_placeOf H locs ls hP hS hl hm
    cases hm
  | succ n ih =>
    intro m_s m_asked m_heads m_forkBit m_forkFrom m_forkTo m_wayPage m_wayKnown m_wayGuess m_wayDiff m_wayRead m_wayPlace m_askedLength m_entries m_forks m_guess m_diff m_read m_placeOf H locs ls hP hS hl hm
    rw [M_isDone_L5] at hm
    refine lv_aload_n hx hb dX8_isDone_5 rfl (lv_at hl 0 rfl) ?_
    refine kg (v := .ref (a 5)) hx hb hts hiX8_isDone hown hK hP 0 rfl rfl 5 (by decide) flX8_isDone_22 rfl rfl dX8_isDone_6 ?_
    refine lv_iload_n hx hb dX8_isDone_9 rfl (lv_at hl 1 rfl) ?_
    refine lv_iconst (v := 1) hx hb dX8_isDone_10 (by decide) ?_
    refine lv_iadd hx hb dX8_isDone_11 ?_
    refine lv_aload_n hx hb dX8_isDone_12 rfl (lv_at hl 0 rfl) ?_
    refine kg (v := .int m_askedLength) hx hb hts hiX8_isDone hown hK hP 0 rfl rfl 8 (by decide) flX8_isDone_83 rfl rfl dX8_isDone_13 ?_
    refine lv_iadd hx hb dX8_isDone_16 ?_
    obtain ⟨hi, hm⟩ := ga_some hm
    refine k_iald hx hb hK hP 5 0 rfl rfl rfl hi dX8_isDone_17 ?_
    obtain ⟨r18, hq, hm⟩ := bd1_some hm
    refine k_callSI (As := [.int (m_text ((v1 + 1) + m_askedLength).toNatClampNeg)]) (rest := []) ⟨hx, hb, hml, hown, hts⟩ hK hA hN (c_X8_isSign (a := a) hq) (va_cwS 1 hts gX8_isDone_X8_isSign rfl rfl rfl hdX8_isSign ⟨Nat.le_of_ble_eq_true rfl, Nat.le_of_ble_eq_true rfl⟩) hP (va_D_re hD rfl) hS hl.1 rfl rfl (Nat.le_of_ble_eq_true rfl) ⟨Nat.zero_le _, Nat.zero_le _⟩ dX8_isDone_18 (fun H locs hP hS => ?_)
    refine lv_if_eq (tgt := 59) hx hb dX8_isDone_21 (by decide) (fun hc => ?_) (fun hc => ?_)
    · have hm := if_t hc hm
      exact hk59 _ _ _ _ _ _ _ _ _ _ _ _ _ _ _ _ _ _ _ _ _ _ hP hS (lv_sub hl [0, 1] rfl) hm
    · have hm := if_f hc hm
      refine lv_aload_n hx hb dX8_isDone_24 rfl (lv_at hl 0 rfl) ?_
      refine kg (v := .ref (a 6)) hx hb hts hiX8_isDone hown hK hP 0 rfl rfl 7 (by decide) flX8_isDone_25 rfl rfl dX8_isDone_25 ?_
      refine lv_aload_n hx hb dX8_isDone_28 rfl (lv_at hl 0 rfl) ?_
      refine kg (v := .int m_askedLength) hx hb hts hiX8_isDone hown hK hP 0 rfl rfl 8 (by decide) flX8_isDone_83 rfl rfl dX8_isDone_29 ?_
      refine lv_aload_n hx hb dX8_isDone_32 rfl (lv_at hl 0 rfl) ?_
      refine kg (v := .ref (a 5)) hx hb hts hiX8_isDone hown hK hP 0 rfl rfl 5 (by decide) flX8_isDone_22 rfl rfl dX8_isDone_33 ?_
      refine lv_iload_n hx hb dX8_isDone_36 rfl (lv_at hl 1 rfl) ?_
      refine lv_iconst (v := 1) hx hb dX8_isDone_37 (by decide) ?_
      refine lv_iadd hx hb dX8_isDone_38 ?_
      refine lv_aload_n hx hb dX8_isDone_39 rfl (lv_at hl 0 rfl) ?_
      refine kg (v := .int m_askedLength) hx hb hts hiX8_isDone hown hK hP 0 rfl rfl 8 (by decide) flX8_isDone_83 rfl rfl dX8_isDone_40 ?_
      refine lv_iadd hx hb dX8_isDone_43 ?_
      obtain ⟨hi, hm⟩ := ga_some hm
      refine k_iald hx hb hK hP 5 0 rfl rfl rfl hi dX8_isDone_44 ?_
      obtain ⟨hi, hm⟩ := ga_some hm
      refine k_iast hx hb hK hP (va_D_re hD rfl) hS 6 0 rfl rfl rfl hi dX8_isDone_45 (fun H locs hP hS => ?_)
      have hP : va_P D vwCl (WM a cI m_s m_past m_kept m_refused m_text (upd m_asked m_askedLength.toNatClampNeg (m_text ((v1 + 1) + m_askedLength).toNatClampNeg)) m_heads m_forkBit m_forkFrom m_forkTo m_wayPage m_wayKnown m_wayGuess m_wayDiff m_wayRead m_wayPlace m_treeBit m_treeLeft m_treeRight m_treeAbove m_pileFrom m_pileTo m_pileAbove m_known m_typed m_askedLength m_entries m_forks m_guess m_diff m_read m_placeOf m_treeForks m_treeDeep) H := hP
      refine lv_aload_n hx hb dX8_isDone_46 rfl (lv_at hl 0 rfl) ?_
      refine lv_dup hx hb dX8_isDone_47 rfl ?_
      refine kg (v := .int m_askedLength) hx hb hts hiX8_isDone hown hK hP 0 rfl rfl 8 (by decide) flX8_isDone_83 rfl rfl dX8_isDone_48 ?_
      refine lv_iconst (v := 1) hx hb dX8_isDone_51 (by decide) ?_
      refine lv_iadd hx hb dX8_isDone_52 ?_
      refine kp hx hb hts hiX8_isDone tyX8 tyX8_ok nmX8 hown hK hP (va_D_re hD rfl) hS 0 rfl rfl 8 (by decide) flX8_isDone_83 rfl rfl rfl (Nat.le_of_ble_eq_true rfl) dX8_isDone_53 (fun H locs hP hS => ?_)
      have hP : va_P D vwCl (WM a cI m_s m_past m_kept m_refused m_text (upd m_asked m_askedLength.toNatClampNeg (m_text ((v1 + 1) + m_askedLength).toNatClampNeg)) m_heads m_forkBit m_forkFrom m_forkTo m_wayPage m_wayKnown m_wayGuess m_wayDiff m_wayRead m_wayPlace m_treeBit m_treeLeft m_treeRight m_treeAbove m_pileFrom m_pileTo m_pileAbove m_known m_typed (m_askedLength + 1) m_entries m_forks m_guess m_diff m_read m_placeOf m_treeForks m_treeDeep) H := hP
      refine lv_goto (tgt := 5) hx hb dX8_isDone_56 (by decide) ?_
      exact ih _ _ _ _ _ _ _ _ _ _ _ _ _ _ _ _ _ _ _ _ _ _ hP hS (lv_sub hl [0, 1] rfl) hm
set_option maxRecDepth 100000 in
set_option maxHeartbeats 4000000 in
theorem t_M_isDone_J126 {p : Program} {l : Launch} {e : Env} {s : State} {m : MethodId} {args : Array Value} {below : List Frame} {meth : Method} {c : Code} {Q : State → Prop} {A : Nat → Prop} {D : va_G} {cI cJ cB cL cS cW : ClassId} {a : Nat → Nat} {m_past m_kept m_refused m_text m_treeBit m_treeLeft m_treeRight m_treeAbove m_pileFrom m_pileTo m_pileAbove : Nat → Int32} {m_known m_typed m_treeForks m_treeDeep : Int32} {v1 : Int32} {r : Int32} {o_s : Nat → Int32} {o_asked : Nat → Int32} {o_heads : Nat → Int32} {o_forkBit : Nat → Int32} {o_forkFrom : Nat → Int32} {o_forkTo : Nat → Int32} {o_wayPage : Nat → Int32} {o_wayKnown : Nat → Int32} {o_wayGuess : Nat → Int32} {o_wayDiff : Nat → Int32} {o_wayRead : Nat → Int32} {o_wayPlace : Nat → Int32} {o_askedLength : Int32} {o_entries : Int32} {o_forks : Int32} {o_guess : Int32} {o_diff : Int32} {o_read : Int32} {o_placeOf : Int32} (C : k_C p s m args meth c cX8_isDone 4 (some .boolean) RX8 wsX8_isDone D (kT cI cJ cB cL cS cW) A) (hD : va_D A (WM0 a cI)) (hret : ∀ (H : Heap) (locs : List Loc) (pc : Nat) (ls : Array Slot), decode cX8_isDone pc = .ok (.ireturn, 1) → (r = 0 ∨ r = 1) → va_P D vwCl (WM a cI o_s m_past m_kept m_refused m_text o_asked o_heads o_forkBit o_forkFrom o_forkTo o_wayPage o_wayKnown o_wayGuess o_wayDiff o_wayRead o_wayPlace m_treeBit m_treeLeft m_treeRight m_treeAbove m_pileFrom m_pileTo m_pileAbove m_known m_typed o_askedLength o_entries o_forks o_guess o_diff o_read o_placeOf m_treeForks m_treeDeep) H → va_S A s.heap H locs → W p l e { frames := 7, cells := 0, slots := 0, locals := 176 } s m args below meth c H locs 0 0 Q (F0 m pc ls [.int r])) : ∀ (m_s : (Nat → Int32)) (m_asked : (Nat → Int32)) (m_heads : (Nat → Int32)) (m_forkBit : (Nat → Int32)) (m_forkFrom : (Nat → Int32)) (m_forkTo : (Nat → Int32)) (m_wayPage : (Nat → Int32)) (m_wayKnown : (Nat → Int32)) (m_wayGuess : (Nat → Int32)) (m_wayDiff : (Nat → Int32)) (m_wayRead : (Nat → Int32)) (m_wayPlace : (Nat → Int32)) (m_askedLength : Int32) (m_entries : Int32) (m_forks : Int32) (m_guess : Int32) (m_diff : Int32) (m_read : Int32) (m_placeOf : Int32) (v3 : Int32) (H : Heap) (locs : List Loc) (ls : Array Slot), va_P D vwCl (WM a cI m_s m_past m_kept m_refused m_text m_asked m_heads m_forkBit m_forkFrom m_forkTo m_wayPage m_wayKnown m_wayGuess m_wayDiff m_wayRead m_wayPlace m_treeBit m_treeLeft m_treeRight m_treeAbove m_pileFrom m_pileTo m_pileAbove m_known m_typed m_askedLength m_entries m_forks m_guess m_diff m_read m_placeOf m_treeForks m_treeDeep) H → va_S A s.heap H locs → lv_has ls 4 [(0, .ref (a 0)), (3, .int v3)] → M_isDone_J126 m_text v1 m_s m_asked m_heads m_forkBit m_forkFrom m_forkTo m_wayPage m_wayKnown m_wayGuess m_wayDiff m_wayRead m_wayPlace m_askedLength m_entries m_forks m_guess m_diff m_read m_placeOf v3 = some (r, o_s, o_asked, o_heads, o_forkBit, o_forkFrom, o_forkTo, o_wayPage, o_wayKnown, o_wayGuess, o_wayDiff, o_wayRead, o_wayPlace, o_askedLength, o_entries, o_forks, o_guess, o_diff, o_read, o_placeOf) → W p l e { frames := 7, cells := 0, slots := 0, locals := 176 } s m args below meth c H locs 0 0 Q (F0 m 126 ls []) := by
  obtain ⟨hx, hb, hml, hr, hown, hts, hlocks, hK, hA, hN⟩ := id C
  intro m_s m_asked m_heads m_forkBit m_forkFrom m_forkTo m_wayPage m_wayKnown m_wayGuess m_wayDiff m_wayRead m_wayPlace m_askedLength m_entries m_forks m_guess m_diff m_read m_placeOf v3 H locs ls hP hS hl hm
  rw [M_isDone_J126] at hm
  refine lv_iload_n hx hb dX8_isDone_126 rfl (lv_at hl 1 rfl) ?_
  refine lv_if_eq (tgt := 134) hx hb dX8_isDone_127 (by decide) (fun hc => ?_) (fun hc => ?_)
  · have hm := if_t hc hm
    refine lv_iload_n hx hb dX8_isDone_134 rfl (lv_at hl 1 rfl) ?_
    obtain ⟨hi, hm⟩ := gb_some hm
    simp only [Option.some.injEq, Prod.mk.injEq] at hm
    obtain ⟨rfl, rfl, rfl, rfl, rfl, rfl, rfl, rfl, rfl, rfl, rfl, rfl, rfl, rfl, rfl, rfl, rfl, rfl, rfl, rfl⟩ := hm
    exact hret _ _ _ _ dX8_isDone_135 hi hP hS
  · have hm := if_f hc hm
    refine lv_aload_n hx hb dX8_isDone_130 rfl (lv_at hl 0 rfl) ?_
    obtain ⟨m_s_131, m_heads_131, m_forkBit_131, m_forkFrom_131, m_forkTo_131, m_wayPage_131, m_wayKnown_131, m_wayGuess_131, m_wayDiff_131, m_wayRead_131, m_wayPlace_131, m_entries_131, m_forks_131, m_guess_131, m_diff_131, m_read_131, m_placeOf_131, hq, hm⟩ := bd17_some hm
    refine k_callVV (As := []) (rest := []) ⟨hx, hb, hml, hown, hts⟩ hK hA hN (c_X8_takes (a := a) hq) (cwV 0 hts gX8_isDone_X8_takes rfl rfl rfl hdX8_takes ⟨Nat.le_of_ble_eq_true rfl, Nat.le_of_ble_eq_true rfl⟩) hP (va_D_re hD rfl) hS 0 8 rfl rfl rfl hl.1 rfl rfl (Nat.le_of_ble_eq_true rfl) ⟨Nat.zero_le _, Nat.zero_le _⟩ dX8_isDone_131 (fun H locs hP hS => ?_)
    refine lv_iload_n hx hb dX8_isDone_134 rfl (lv_at hl 1 rfl) ?_
    obtain ⟨hi, hm⟩ := gb_some hm
    simp only [Option.some.injEq, Prod.mk.injEq] at hm
    obtain ⟨rfl, rfl, rfl, rfl, rfl, rfl, rfl, rfl, rfl, rfl, rfl, rfl, rfl, rfl, rfl, rfl, rfl, rfl, rfl, rfl⟩ := hm
    exact hret _ _ _ _ dX8_isDone_135 hi hP hS
set_option maxRecDepth 100000 in
set_option maxHeartbeats 4000000 in
theorem t_M_isDone_J110 {p : Program} {l : Launch} {e : Env} {s : State} {m : MethodId} {args : Array Value} {below : List Frame} {meth : Method} {c : Code} {Q : State → Prop} {A : Nat → Prop} {D : va_G} {cI cJ cB cL cS cW : ClassId} {a : Nat → Nat} {m_past m_kept m_refused m_text m_treeBit m_treeLeft m_treeRight m_treeAbove m_pileFrom m_pileTo m_pileAbove : Nat → Int32} {m_known m_typed m_treeForks m_treeDeep : Int32} {v1 : Int32} {r : Int32} {o_s : Nat → Int32} {o_asked : Nat → Int32} {o_heads : Nat → Int32} {o_forkBit : Nat → Int32} {o_forkFrom : Nat → Int32} {o_forkTo : Nat → Int32} {o_wayPage : Nat → Int32} {o_wayKnown : Nat → Int32} {o_wayGuess : Nat → Int32} {o_wayDiff : Nat → Int32} {o_wayRead : Nat → Int32} {o_wayPlace : Nat → Int32} {o_askedLength : Int32} {o_entries : Int32} {o_forks : Int32} {o_guess : Int32} {o_diff : Int32} {o_read : Int32} {o_placeOf : Int32} (C : k_C p s m args meth c cX8_isDone 4 (some .boolean) RX8 wsX8_isDone D (kT cI cJ cB cL cS cW) A) (hD : va_D A (WM0 a cI)) (hret : ∀ (H : Heap) (locs : List Loc) (pc : Nat) (ls : Array Slot), decode cX8_isDone pc = .ok (.ireturn, 1) → (r = 0 ∨ r = 1) → va_P D vwCl (WM a cI o_s m_past m_kept m_refused m_text o_asked o_heads o_forkBit o_forkFrom o_forkTo o_wayPage o_wayKnown o_wayGuess o_wayDiff o_wayRead o_wayPlace m_treeBit m_treeLeft m_treeRight m_treeAbove m_pileFrom m_pileTo m_pileAbove m_known m_typed o_askedLength o_entries o_forks o_guess o_diff o_read o_placeOf m_treeForks m_treeDeep) H → va_S A s.heap H locs → W p l e { frames := 7, cells := 0, slots := 0, locals := 176 } s m args below meth c H locs 0 0 Q (F0 m pc ls [.int r])) : ∀ (m_s : (Nat → Int32)) (m_asked : (Nat → Int32)) (m_heads : (Nat → Int32)) (m_forkBit : (Nat → Int32)) (m_forkFrom : (Nat → Int32)) (m_forkTo : (Nat → Int32)) (m_wayPage : (Nat → Int32)) (m_wayKnown : (Nat → Int32)) (m_wayGuess : (Nat → Int32)) (m_wayDiff : (Nat → Int32)) (m_wayRead : (Nat → Int32)) (m_wayPlace : (Nat → Int32)) (m_askedLength : Int32) (m_entries : Int32) (m_forks : Int32) (m_guess : Int32) (m_diff : Int32) (m_read : Int32) (m_placeOf : Int32) (v2 : Int32) (t0 : Int32) (H : Heap) (locs : List Loc) (ls : Array Slot), va_P D vwCl (WM a cI m_s m_past m_kept m_refused m_text m_asked m_heads m_forkBit m_forkFrom m_forkTo m_wayPage m_wayKnown m_wayGuess m_wayDiff m_wayRead m_wayPlace m_treeBit m_treeLeft m_treeRight m_treeAbove m_pileFrom m_pileTo m_pileAbove m_known m_typed m_askedLength m_entries m_forks m_guess m_diff m_read m_placeOf m_treeForks m_treeDeep) H → va_S A s.heap H locs → lv_has ls 4 [(0, .ref (a 0)), (2, .int v2)] → M_isDone_J110 m_text v1 m_s m_asked m_heads m_forkBit m_forkFrom m_forkTo m_wayPage m_wayKnown m_wayGuess m_wayDiff m_wayRead m_wayPlace m_askedLength m_entries m_forks m_guess m_diff m_read m_placeOf v2 t0 = some (r, o_s, o_asked, o_heads, o_forkBit, o_forkFrom, o_forkTo, o_wayPage, o_wayKnown, o_wayGuess, o_wayDiff, o_wayRead, o_wayPlace, o_askedLength, o_entries, o_forks, o_guess, o_diff, o_read, o_placeOf) → W p l e { frames := 7, cells := 0, slots := 0, locals := 176 } s m args below meth c H locs 0 0 Q (F0 m 110 ls [.int t0]) := by
  obtain ⟨hx, hb, hml, hr, hown, hts, hlocks, hK, hA, hN⟩ := id C
  intro m_s m_asked m_heads m_forkBit m_forkFrom m_forkTo m_wayPage m_wayKnown m_wayGuess m_wayDiff m_wayRead m_wayPlace m_askedLength m_entries m_forks m_guess m_diff m_read m_placeOf v2 t0 H locs ls hP hS hl hm
  rw [M_isDone_J110] at hm
  refine lv_istore_n (lv' := [(3, .int t0), (0, .ref (a 0)), (2, .int v2)]) hx hb dX8_isDone_110 rfl hl (by decide) rfl (fun ls hl => ?_)
  refine lv_iload_n hx hb dX8_isDone_111 rfl (lv_at hl 0 rfl) ?_
  refine lv_if_eq (tgt := 126) hx hb dX8_isDone_112 (by decide) (fun hc => ?_) (fun hc => ?_)
  · have hm := if_t hc hm
    exact t_M_isDone_J126 C hD hret _ _ _ _ _ _ _ _ _ _ _ _ _ _ _ _ _ _ _ _ _ _ _ hP hS (lv_sub hl [1, 0] rfl) hm
  · have hm := if_f hc hm
    refine lv_iload_n hx hb dX8_isDone_115 rfl (lv_at hl 2 rfl) ?_
    refine lv_if_eq (tgt := 126) hx hb dX8_isDone_116 (by decide) (fun hc => ?_) (fun hc => ?_)
    · have hm := if_t hc hm
      exact t_M_isDone_J126 C hD hret _ _ _ _ _ _ _ _ _ _ _ _ _ _ _ _ _ _ _ _ _ _ _ hP hS (lv_sub hl [1, 0] rfl) hm
    · have hm := if_f hc hm
      refine lv_aload_n hx hb dX8_isDone_119 rfl (lv_at hl 1 rfl) ?_
      obtain ⟨m_s_120, m_heads_120, m_forkBit_120, m_forkFrom_120, m_forkTo_120, m_wayPage_120, m_wayKnown_120, m_wayGuess_120, m_wayDiff_120, m_wayRead_120, m_wayPlace_120, m_entries_120, m_forks_120, m_guess_120, m_diff_120, m_read_120, m_placeOf_120, hq, hm⟩ := bd17_some hm
      refine k_callVV (As := []) (rest := []) ⟨hx, hb, hml, hown, hts⟩ hK hA hN (c_X8_adds (a := a) hq) (cwV 0 hts gX8_isDone_X8_adds rfl rfl rfl hdX8_adds ⟨Nat.le_of_ble_eq_true rfl, Nat.le_of_ble_eq_true rfl⟩) hP (va_D_re hD rfl) hS 0 8 rfl rfl rfl hl.1 rfl rfl (Nat.le_of_ble_eq_true rfl) ⟨Nat.zero_le _, Nat.zero_le _⟩ dX8_isDone_120 (fun H locs hP hS => ?_)
      refine lv_goto (tgt := 134) hx hb dX8_isDone_123 (by decide) ?_
      refine lv_iload_n hx hb dX8_isDone_134 rfl (lv_at hl 0 rfl) ?_
      obtain ⟨hi, hm⟩ := gb_some hm
      simp only [Option.some.injEq, Prod.mk.injEq] at hm
      obtain ⟨rfl, rfl, rfl, rfl, rfl, rfl, rfl, rfl, rfl, rfl, rfl, rfl, rfl, rfl, rfl, rfl, rfl, rfl, rfl, rfl⟩ := hm
      exact hret _ _ _ _ dX8_isDone_135 hi hP hS
set_option maxRecDepth 100000 in
set_option maxHeartbeats 4000000 in
theorem t_M_isDone_J75 {p : Program} {l : Launch} {e : Env} {s : State} {m : MethodId} {args : Array Value} {below : List Frame} {meth : Method} {c : Code} {Q : State → Prop} {A : Nat → Prop} {D : va_G} {cI cJ cB cL cS cW : ClassId} {a : Nat → Nat} {m_past m_kept m_refused m_text m_treeBit m_treeLeft m_treeRight m_treeAbove m_pileFrom m_pileTo m_pileAbove : Nat → Int32} {m_known m_typed m_treeForks m_treeDeep : Int32} {v1 : Int32} {r : Int32} {o_s : Nat → Int32} {o_asked : Nat → Int32} {o_heads : Nat → Int32} {o_forkBit : Nat → Int32} {o_forkFrom : Nat → Int32} {o_forkTo : Nat → Int32} {o_wayPage : Nat → Int32} {o_wayKnown : Nat → Int32} {o_wayGuess : Nat → Int32} {o_wayDiff : Nat → Int32} {o_wayRead : Nat → Int32} {o_wayPlace : Nat → Int32} {o_askedLength : Int32} {o_entries : Int32} {o_forks : Int32} {o_guess : Int32} {o_diff : Int32} {o_read : Int32} {o_placeOf : Int32} (C : k_C p s m args meth c cX8_isDone 4 (some .boolean) RX8 wsX8_isDone D (kT cI cJ cB cL cS cW) A) (hD : va_D A (WM0 a cI)) (hret : ∀ (H : Heap) (locs : List Loc) (pc : Nat) (ls : Array Slot), decode cX8_isDone pc = .ok (.ireturn, 1) → (r = 0 ∨ r = 1) → va_P D vwCl (WM a cI o_s m_past m_kept m_refused m_text o_asked o_heads o_forkBit o_forkFrom o_forkTo o_wayPage o_wayKnown o_wayGuess o_wayDiff o_wayRead o_wayPlace m_treeBit m_treeLeft m_treeRight m_treeAbove m_pileFrom m_pileTo m_pileAbove m_known m_typed o_askedLength o_entries o_forks o_guess o_diff o_read o_placeOf m_treeForks m_treeDeep) H → va_S A s.heap H locs → W p l e { frames := 7, cells := 0, slots := 0, locals := 176 } s m args below meth c H locs 0 0 Q (F0 m pc ls [.int r])) : ∀ (m_s : (Nat → Int32)) (m_asked : (Nat → Int32)) (m_heads : (Nat → Int32)) (m_forkBit : (Nat → Int32)) (m_forkFrom : (Nat → Int32)) (m_forkTo : (Nat → Int32)) (m_wayPage : (Nat → Int32)) (m_wayKnown : (Nat → Int32)) (m_wayGuess : (Nat → Int32)) (m_wayDiff : (Nat → Int32)) (m_wayRead : (Nat → Int32)) (m_wayPlace : (Nat → Int32)) (m_askedLength : Int32) (m_entries : Int32) (m_forks : Int32) (m_guess : Int32) (m_diff : Int32) (m_read : Int32) (m_placeOf : Int32) (t0 : Int32) (H : Heap) (locs : List Loc) (ls : Array Slot), va_P D vwCl (WM a cI m_s m_past m_kept m_refused m_text m_asked m_heads m_forkBit m_forkFrom m_forkTo m_wayPage m_wayKnown m_wayGuess m_wayDiff m_wayRead m_wayPlace m_treeBit m_treeLeft m_treeRight m_treeAbove m_pileFrom m_pileTo m_pileAbove m_known m_typed m_askedLength m_entries m_forks m_guess m_diff m_read m_placeOf m_treeForks m_treeDeep) H → va_S A s.heap H locs → lv_has ls 4 [(0, .ref (a 0))] → M_isDone_J75 m_text v1 m_s m_asked m_heads m_forkBit m_forkFrom m_forkTo m_wayPage m_wayKnown m_wayGuess m_wayDiff m_wayRead m_wayPlace m_askedLength m_entries m_forks m_guess m_diff m_read m_placeOf t0 = some (r, o_s, o_asked, o_heads, o_forkBit, o_forkFrom, o_forkTo, o_wayPage, o_wayKnown, o_wayGuess, o_wayDiff, o_wayRead, o_wayPlace, o_askedLength, o_entries, o_forks, o_guess, o_diff, o_read, o_placeOf) → W p l e { frames := 7, cells := 0, slots := 0, locals := 176 } s m args below meth c H locs 0 0 Q (F0 m 75 ls [.int t0]) := by
  obtain ⟨hx, hb, hml, hr, hown, hts, hlocks, hK, hA, hN⟩ := id C
  intro m_s m_asked m_heads m_forkBit m_forkFrom m_forkTo m_wayPage m_wayKnown m_wayGuess m_wayDiff m_wayRead m_wayPlace m_askedLength m_entries m_forks m_guess m_diff m_read m_placeOf t0 H locs ls hP hS hl hm
  rw [M_isDone_J75] at hm
  refine lv_istore_n (lv' := [(2, .int t0), (0, .ref (a 0))]) hx hb dX8_isDone_75 rfl hl (by decide) rfl (fun ls hl => ?_)
  refine lv_iload_n hx hb dX8_isDone_76 rfl (lv_at hl 0 rfl) ?_
  refine lv_if_eq (tgt := 106) hx hb dX8_isDone_77 (by decide) (fun hc => ?_) (fun hc => ?_)
  · have hm := if_t hc hm
    refine lv_aload_n hx hb dX8_isDone_106 rfl (lv_at hl 1 rfl) ?_
    obtain ⟨r107, hq, hm⟩ := bd1_some hm
    refine k_callVI (As := []) (rest := []) ⟨hx, hb, hml, hown, hts⟩ hK hA hN (c_X8_isThere (a := a) hq) (cwV 0 hts gX8_isDone_X8_isThere rfl rfl rfl hdX8_isThere ⟨Nat.le_of_ble_eq_true rfl, Nat.le_of_ble_eq_true rfl⟩) hP (va_D_re hD rfl) hS 0 8 rfl rfl rfl hl.1 rfl rfl (Nat.le_of_ble_eq_true rfl) ⟨Nat.zero_le _, Nat.zero_le _⟩ dX8_isDone_107 (fun H locs hP hS => ?_)
    exact t_M_isDone_J110 C hD hret _ _ _ _ _ _ _ _ _ _ _ _ _ _ _ _ _ _ _ _ _ _ _ _ hP hS (lv_sub hl [1, 0] rfl) hm
  · have hm := if_f hc hm
    refine lv_aload_n hx hb dX8_isDone_80 rfl (lv_at hl 1 rfl) ?_
    obtain ⟨r81, hq, hm⟩ := bd1_some hm
    refine k_callVI (As := []) (rest := []) ⟨hx, hb, hml, hown, hts⟩ hK hA hN (c_X8_isThere (a := a) hq) (cwV 0 hts gX8_isDone_X8_isThere rfl rfl rfl hdX8_isThere ⟨Nat.le_of_ble_eq_true rfl, Nat.le_of_ble_eq_true rfl⟩) hP (va_D_re hD rfl) hS 0 8 rfl rfl rfl hl.1 rfl rfl (Nat.le_of_ble_eq_true rfl) ⟨Nat.zero_le _, Nat.zero_le _⟩ dX8_isDone_81 (fun H locs hP hS => ?_)
    refine lv_if_ne (tgt := 102) hx hb dX8_isDone_84 (by decide) (fun hc => ?_) (fun hc => ?_)
    · have hm := if_f hc hm
      refine lv_iconst (v := 0) hx hb dX8_isDone_102 (by decide) ?_
      refine lv_goto (tgt := 110) hx hb dX8_isDone_103 (by decide) ?_
      exact t_M_isDone_J110 C hD hret _ _ _ _ _ _ _ _ _ _ _ _ _ _ _ _ _ _ _ _ _ _ _ _ hP hS (lv_sub hl [1, 0] rfl) hm
    · have hm := if_t hc hm
      refine lv_aload_n hx hb dX8_isDone_87 rfl (lv_at hl 1 rfl) ?_
      refine kg (v := .ref (a 1)) hx hb hts hiX8_isDone hown hK hP 0 rfl rfl 0 (by decide) flX8_isDone_7 rfl rfl dX8_isDone_88 ?_
      refine lv_iconst (v := 0) hx hb dX8_isDone_91 (by decide) ?_
      refine k_iald (j := 0) hx hb hK hP 1 0 rfl rfl rfl (vp_lit (by decide)) dX8_isDone_92 ?_
      refine lv_bipush (v := 48) hx hb dX8_isDone_93 (by decide) ?_
      refine lv_icmp_ge (tgt := 102) hx hb dX8_isDone_95 (by decide) (fun hc => ?_) (fun hc => ?_)
      · have hm := if_t hc hm
        refine lv_iconst (v := 0) hx hb dX8_isDone_102 (by decide) ?_
        refine lv_goto (tgt := 110) hx hb dX8_isDone_103 (by decide) ?_
        exact t_M_isDone_J110 C hD hret _ _ _ _ _ _ _ _ _ _ _ _ _ _ _ _ _ _ _ _ _ _ _ _ hP hS (lv_sub hl [1, 0] rfl) hm
      · have hm := if_f hc hm
        refine lv_iconst (v := 1) hx hb dX8_isDone_98 (by decide) ?_
        refine lv_goto (tgt := 110) hx hb dX8_isDone_99 (by decide) ?_
        exact t_M_isDone_J110 C hD hret _ _ _ _ _ _ _ _ _ _ _ _ _ _ _ _ _ _ _ _ _ _ _ _ hP hS (lv_sub hl [1, 0] rfl) hm
set_option maxRecDepth 100000 in
set_option maxHeartbeats 4000000 in
theorem c_X8_isDone {l : Launch} {D : va_G} {cI cJ cB cL cS cW : ClassId} {a : Nat → Nat} {m_s m_past m_kept m_refused m_text m_asked m_heads m_forkBit m_forkFrom m_forkTo m_wayPage m_wayKnown m_wayGuess m_wayDiff m_wayRead m_wayPlace m_treeBit m_treeLeft m_treeRight m_treeAbove m_pileFrom m_pileTo m_pileAbove : Nat → Int32} {m_known m_typed m_askedLength m_entries m_forks m_guess m_diff m_read m_placeOf m_treeForks m_treeDeep : Int32} {v1 : Int32} {r : Int32} {o_s : Nat → Int32} {o_asked : Nat → Int32} {o_heads : Nat → Int32} {o_forkBit : Nat → Int32} {o_forkFrom : Nat → Int32} {o_forkTo : Nat → Int32} {o_wayPage : Nat → Int32} {o_wayKnown : Nat → Int32} {o_wayGuess : Nat → Int32} {o_wayDiff : Nat → Int32} {o_wayRead : Nat → Int32} {o_wayPlace : Nat → Int32} {o_askedLength : Int32} {o_entries : Int32} {o_forks : Int32} {o_guess : Int32} {o_diff : Int32} {o_read : Int32} {o_placeOf : Int32} (hm : M_isDone m_text m_s m_asked m_heads m_forkBit m_forkFrom m_forkTo m_wayPage m_wayKnown m_wayGuess m_wayDiff m_wayRead m_wayPlace m_askedLength m_entries m_forks m_guess m_diff m_read m_placeOf v1 = some (r, o_s, o_asked, o_heads, o_forkBit, o_forkFrom, o_forkTo, o_wayPage, o_wayKnown, o_wayGuess, o_wayDiff, o_wayRead, o_wayPlace, o_askedLength, o_entries, o_forks, o_guess, o_diff, o_read, o_placeOf)) : k_MI l yX8_isDone wsX8_isDone { frames := 7, cells := 0, slots := 0, locals := 176 } D (kT cI cJ cB cL cS cW) [.ref (a 0), .int v1] (WM a cI m_s m_past m_kept m_refused m_text m_asked m_heads m_forkBit m_forkFrom m_forkTo m_wayPage m_wayKnown m_wayGuess m_wayDiff m_wayRead m_wayPlace m_treeBit m_treeLeft m_treeRight m_treeAbove m_pileFrom m_pileTo m_pileAbove m_known m_typed m_askedLength m_entries m_forks m_guess m_diff m_read m_placeOf m_treeForks m_treeDeep) r (WM a cI o_s m_past m_kept m_refused m_text o_asked o_heads o_forkBit o_forkFrom o_forkTo o_wayPage o_wayKnown o_wayGuess o_wayDiff o_wayRead o_wayPlace m_treeBit m_treeLeft m_treeRight m_treeAbove m_pileFrom m_pileTo m_pileAbove m_known m_typed o_askedLength o_entries o_forks o_guess o_diff o_read o_placeOf m_treeForks m_treeDeep) := by
  refine k_ofZ (cc := cX8_isDone) (maxL := 4) (own := RX8) (by decide) rfl rfl (Nat.le_of_ble_eq_true rfl) ?_
  intro p e s m args below meth c A Q ls C hP hD hl hret
  have hD : va_D A (WM0 a cI) := va_D_re hD rfl
  have hS : va_S A s.heap s.heap [] := va_S.rf
  have hl : lv_has ls 4 [(0, .ref (a 0)), (1, .int v1)] := hl
  obtain ⟨hx, hb, hml, hr, hown, hts, hlocks, hK, hA, hN⟩ := id C
  rw [M_isDone] at hm
  refine lv_aload_n hx hb dX8_isDone_0 rfl (lv_at hl 0 rfl) ?_
  refine lv_iconst (v := 0) hx hb dX8_isDone_1 (by decide) ?_
  refine kp hx hb hts hiX8_isDone tyX8 tyX8_ok nmX8 hown hK hP (va_D_re hD rfl) hS 0 rfl rfl 8 (by decide) flX8_isDone_83 rfl rfl rfl (Nat.le_of_ble_eq_true rfl) dX8_isDone_2 (fun H locs hP hS => ?_)
  have hP : va_P D vwCl (WM a cI m_s m_past m_kept m_refused m_text m_asked m_heads m_forkBit m_forkFrom m_forkTo m_wayPage m_wayKnown m_wayGuess m_wayDiff m_wayRead m_wayPlace m_treeBit m_treeLeft m_treeRight m_treeAbove m_pileFrom m_pileTo m_pileAbove m_known m_typed 0 m_entries m_forks m_guess m_diff m_read m_placeOf m_treeForks m_treeDeep) H := hP
  refine t_M_isDone_L5 C hD hret ?_ FU _ _ _ _ _ _ _ _ _ _ _ _ _ _ _ _ _ _ _ _ _ _ hP hS (lv_sub hl [0, 1] rfl) hm
  · intro m_s m_asked m_heads m_forkBit m_forkFrom m_forkTo m_wayPage m_wayKnown m_wayGuess m_wayDiff m_wayRead m_wayPlace m_askedLength m_entries m_forks m_guess m_diff m_read m_placeOf H locs ls hP hS hl hm
    try dsimp only at hm
    refine lv_aload_n hx hb dX8_isDone_59 rfl (lv_at hl 0 rfl) ?_
    refine kg (v := .ref (a 5)) hx hb hts hiX8_isDone hown hK hP 0 rfl rfl 5 (by decide) flX8_isDone_22 rfl rfl dX8_isDone_60 ?_
    refine lv_iload_n hx hb dX8_isDone_63 rfl (lv_at hl 1 rfl) ?_
    obtain ⟨hi, hm⟩ := ga_some hm
    refine k_iald hx hb hK hP 5 0 rfl rfl rfl hi dX8_isDone_64 ?_
    refine lv_bipush (v := 43) hx hb dX8_isDone_65 (by decide) ?_
    refine lv_icmp_ne (tgt := 74) hx hb dX8_isDone_67 (by decide) (fun hc => ?_) (fun hc => ?_)
    · have hm := if_f hc hm
      refine lv_iconst (v := 0) hx hb dX8_isDone_74 (by decide) ?_
      exact t_M_isDone_J75 C hD hret _ _ _ _ _ _ _ _ _ _ _ _ _ _ _ _ _ _ _ _ _ _ _ hP hS (lv_sub hl [0] rfl) hm
    · have hm := if_t hc hm
      refine lv_iconst (v := 1) hx hb dX8_isDone_70 (by decide) ?_
      refine lv_goto (tgt := 75) hx hb dX8_isDone_71 (by decide) ?_
      exact t_M_isDone_J75 C hD hret _ _ _ _ _ _ _ _ _ _ _ _ _ _ _ _ _ _ _ _ _ _ _ hP hS (lv_sub hl [0] rfl) hm
