theorem hdX8_page : yX8_page.cls = RX8 ∧ yX8_page.cls ≠ "java/lang/invoke/MethodHandle" ∧ yX8_page.cls ≠ "java/lang/invoke/VarHandle" ∧ (parseMethodDescriptor yX8_page.desc).map (fun d => d.parameters.length) = some 2 := by decide +kernel
def M_page_J36 (m_s m_asked : Nat → Int32) (m_askedLength : Int32) (v1 : Int32) (v2 : Int32) (m_refused : (Nat → Int32)) (m_heads : (Nat → Int32)) (m_treeBit : (Nat → Int32)) (m_treeLeft : (Nat → Int32)) (m_treeRight : (Nat → Int32)) (m_treeAbove : (Nat → Int32)) (m_pileFrom : (Nat → Int32)) (m_pileTo : (Nat → Int32)) (m_pileAbove : (Nat → Int32)) (m_entries : Int32) (m_treeForks : Int32) (m_treeDeep : Int32) : Option (Int32 × (Nat → Int32) × (Nat → Int32) × (Nat → Int32) × (Nat → Int32) × (Nat → Int32) × (Nat → Int32) × (Nat → Int32) × (Nat → Int32) × (Nat → Int32) × Int32 × Int32 × Int32) := bd2 (M_refuses m_refused (-2)) fun r39 m_refused_39 => some (r39, m_refused_39, m_heads, m_treeBit, m_treeLeft, m_treeRight, m_treeAbove, m_pileFrom, m_pileTo, m_pileAbove, m_entries, m_treeForks, m_treeDeep)
def M_page (m_s m_asked : Nat → Int32) (m_askedLength : Int32) (m_refused m_heads m_treeBit m_treeLeft m_treeRight m_treeAbove m_pileFrom m_pileTo m_pileAbove : Nat → Int32) (m_entries m_treeForks m_treeDeep : Int32) (v1 : Int32) (v2 : Int32) : Option (Int32 × (Nat → Int32) × (Nat → Int32) × (Nat → Int32) × (Nat → Int32) × (Nat → Int32) × (Nat → Int32) × (Nat → Int32) × (Nat → Int32) × (Nat → Int32) × Int32 × Int32 × Int32) := bd1 (M_isPage m_s v1) fun r2 => if r2 = 0 then (M_page_J36 m_s m_asked m_askedLength v1 v2 m_refused m_heads m_treeBit m_treeLeft m_treeRight m_treeAbove m_pileFrom m_pileTo m_pileAbove m_entries m_treeForks m_treeDeep) else (bd1 (M_in v2 0 6) fun r12 => if r12 = 0 then (M_page_J36 m_s m_asked m_askedLength v1 v2 m_refused m_heads m_treeBit m_treeLeft m_treeRight m_treeAbove m_pileFrom m_pileTo m_pileAbove m_entries m_treeForks m_treeDeep) else (bd1 (M_levelOf m_s v1) fun r21 => bd1 (M_pageOf m_s v1) fun r26 => bd12 (M_pageFact m_s m_asked m_askedLength m_heads m_treeBit m_treeLeft m_treeRight m_treeAbove m_pileFrom m_pileTo m_pileAbove m_entries m_treeForks m_treeDeep r21 r26 v2) fun r30 m_heads_30 m_treeBit_30 m_treeLeft_30 m_treeRight_30 m_treeAbove_30 m_pileFrom_30 m_pileTo_30 m_pileAbove_30 m_entries_30 m_treeForks_30 m_treeDeep_30 => some (r30, m_refused, m_heads_30, m_treeBit_30, m_treeLeft_30, m_treeRight_30, m_treeAbove_30, m_pileFrom_30, m_pileTo_30, m_pileAbove_30, m_entries_30, m_treeForks_30, m_treeDeep_30)))
set_option maxRecDepth 100000 in
set_option maxHeartbeats 4000000 in
theorem t_M_page_J36 {p : Program} {l : Launch} {e : Env} {s : State} {m : MethodId} {args : Array Value} {below : List Frame} {meth : Method} {c : Code} {Q : State → Prop} {A : Nat → Prop} {D : va_G} {cI cJ cB cL cS cW : ClassId} {a : Nat → Nat} {m_s m_past m_kept m_text m_asked m_forkBit m_forkFrom m_forkTo m_wayPage m_wayKnown m_wayGuess m_wayDiff m_wayRead m_wayPlace : Nat → Int32} {m_known m_typed m_askedLength m_forks m_guess m_diff m_read m_placeOf : Int32} {v1 : Int32} {v2 : Int32} {r : Int32} {o_refused : Nat → Int32} {o_heads : Nat → Int32} {o_treeBit : Nat → Int32} {o_treeLeft : Nat → Int32} {o_treeRight : Nat → Int32} {o_treeAbove : Nat → Int32} {o_pileFrom : Nat → Int32} {o_pileTo : Nat → Int32} {o_pileAbove : Nat → Int32} {o_entries : Int32} {o_treeForks : Int32} {o_treeDeep : Int32} (C : k_C p s m args meth c cX8_page 3 (some .int) RX8 wsX8_page D (kT cI cJ cB cL cS cW) A) (hD : va_D A (WM0 a cI)) (hret : ∀ (H : Heap) (locs : List Loc) (pc : Nat) (ls : Array Slot), decode cX8_page pc = .ok (.ireturn, 1) → va_P D vwCl (WM a cI m_s m_past m_kept o_refused m_text m_asked o_heads m_forkBit m_forkFrom m_forkTo m_wayPage m_wayKnown m_wayGuess m_wayDiff m_wayRead m_wayPlace o_treeBit o_treeLeft o_treeRight o_treeAbove o_pileFrom o_pileTo o_pileAbove m_known m_typed m_askedLength o_entries m_forks m_guess m_diff m_read m_placeOf o_treeForks o_treeDeep) H → va_S A s.heap H locs → W p l e { frames := 6, cells := 0, slots := 0, locals := 145 } s m args below meth c H locs 0 0 Q (F0 m pc ls [.int r])) : ∀ (m_refused : (Nat → Int32)) (m_heads : (Nat → Int32)) (m_treeBit : (Nat → Int32)) (m_treeLeft : (Nat → Int32)) (m_treeRight : (Nat → Int32)) (m_treeAbove : (Nat → Int32)) (m_pileFrom : (Nat → Int32)) (m_pileTo : (Nat → Int32)) (m_pileAbove : (Nat → Int32)) (m_entries : Int32) (m_treeForks : Int32) (m_treeDeep : Int32) (H : Heap) (locs : List Loc) (ls : Array Slot), va_P D vwCl (WM a cI m_s m_past m_kept m_refused m_text m_asked m_heads m_forkBit m_forkFrom m_forkTo m_wayPage m_wayKnown m_wayGuess m_wayDiff m_wayRead m_wayPlace m_treeBit m_treeLeft m_treeRight m_treeAbove m_pileFrom m_pileTo m_pileAbove m_known m_typed m_askedLength m_entries m_forks m_guess m_diff m_read m_placeOf m_treeForks m_treeDeep) H → va_S A s.heap H locs → lv_has ls 3 [(0, .ref (a 0))] → M_page_J36 m_s m_asked m_askedLength v1 v2 m_refused m_heads m_treeBit m_treeLeft m_treeRight m_treeAbove m_pileFrom m_pileTo m_pileAbove m_entries m_treeForks m_treeDeep = some (r, o_refused, o_heads, o_treeBit, o_treeLeft, o_treeRight, o_treeAbove, o_pileFrom, o_pileTo, o_pileAbove, o_entries, o_treeForks, o_treeDeep) → W p l e { frames := 6, cells := 0, slots := 0, locals := 145 } s m args below meth c H locs 0 0 Q (F0 m 36 ls []) := by
  obtain ⟨hx, hb, hml, hr, hown, hts, hlocks, hK, hA, hN⟩ := id C
  intro m_refused m_heads m_treeBit m_treeLeft m_treeRight m_treeAbove m_pileFrom m_pileTo m_pileAbove m_entries m_treeForks m_treeDeep H locs ls hP hS hl hm
  rw [M_page_J36] at hm
  refine lv_aload_n hx hb dX8_page_36 rfl (lv_at hl 0 rfl) ?_
  refine lv_bipush (v := (-2)) hx hb dX8_page_37 (by decide) ?_
  obtain ⟨r39, m_refused_39, hq, hm⟩ := bd2_some hm
  refine k_callVI (As := [.int (-2)]) (rest := []) ⟨hx, hb, hml, hown, hts⟩ hK hA hN (c_X8_refuses (a := a) hq) (cwV 1 hts gX8_page_X8_refuses rfl rfl rfl hdX8_refuses ⟨Nat.le_of_ble_eq_true rfl, Nat.le_of_ble_eq_true rfl⟩) hP (va_D_re hD rfl) hS 0 8 rfl rfl rfl hl.1 rfl rfl (Nat.le_of_ble_eq_true rfl) ⟨Nat.zero_le _, Nat.zero_le _⟩ dX8_page_39 (fun H locs hP hS => ?_)
  simp only [Option.some.injEq, Prod.mk.injEq] at hm
  obtain ⟨rfl, rfl, rfl, rfl, rfl, rfl, rfl, rfl, rfl, rfl, rfl, rfl, rfl⟩ := hm
  exact hret _ _ _ _ dX8_page_42 hP hS
set_option maxRecDepth 100000 in
set_option maxHeartbeats 4000000 in
theorem c_X8_page {l : Launch} {D : va_G} {cI cJ cB cL cS cW : ClassId} {a : Nat → Nat} {m_s m_past m_kept m_refused m_text m_asked m_heads m_forkBit m_forkFrom m_forkTo m_wayPage m_wayKnown m_wayGuess m_wayDiff m_wayRead m_wayPlace m_treeBit m_treeLeft m_treeRight m_treeAbove m_pileFrom m_pileTo m_pileAbove : Nat → Int32} {m_known m_typed m_askedLength m_entries m_forks m_guess m_diff m_read m_placeOf m_treeForks m_treeDeep : Int32} {v1 : Int32} {v2 : Int32} {r : Int32} {o_refused : Nat → Int32} {o_heads : Nat → Int32} {o_treeBit : Nat → Int32} {o_treeLeft : Nat → Int32} {o_treeRight : Nat → Int32} {o_treeAbove : Nat → Int32} {o_pileFrom : Nat → Int32} {o_pileTo : Nat → Int32} {o_pileAbove : Nat → Int32} {o_entries : Int32} {o_treeForks : Int32} {o_treeDeep : Int32} (hm : M_page m_s m_asked m_askedLength m_refused m_heads m_treeBit m_treeLeft m_treeRight m_treeAbove m_pileFrom m_pileTo m_pileAbove m_entries m_treeForks m_treeDeep v1 v2 = some (r, o_refused, o_heads, o_treeBit, o_treeLeft, o_treeRight, o_treeAbove, o_pileFrom, o_pileTo, o_pileAbove, o_entries, o_treeForks, o_treeDeep)) : k_MI l yX8_page wsX8_page { frames := 6, cells := 0, slots := 0, locals := 145 } D (kT cI cJ cB cL cS cW) [.ref (a 0), .int v1, .int v2] (WM a cI m_s m_past m_kept m_refused m_text m_asked m_heads m_forkBit m_forkFrom m_forkTo m_wayPage m_wayKnown m_wayGuess m_wayDiff m_wayRead m_wayPlace m_treeBit m_treeLeft m_treeRight m_treeAbove m_pileFrom m_pileTo m_pileAbove m_known m_typed m_askedLength m_entries m_forks m_guess m_diff m_read m_placeOf m_treeForks m_treeDeep) r (WM a cI m_s m_past m_kept o_refused m_text m_asked o_heads m_forkBit m_forkFrom m_forkTo m_wayPage m_wayKnown m_wayGuess m_wayDiff m_wayRead m_wayPlace o_treeBit o_treeLeft o_treeRight o_treeAbove o_pileFrom o_pileTo o_pileAbove m_known m_typed m_askedLength o_entries m_forks m_guess m_diff m_read m_placeOf o_treeForks o_treeDeep) := by
  refine k_ofI (cc := cX8_page) (maxL := 3) (own := RX8) (by decide) rfl rfl (Nat.le_of_ble_eq_true rfl) ?_
  intro p e s m args below meth c A Q ls C hP hD hl hret
  have hD : va_D A (WM0 a cI) := va_D_re hD rfl
  have hS : va_S A s.heap s.heap [] := va_S.rf
  have hl : lv_has ls 3 [(0, .ref (a 0)), (1, .int v1), (2, .int v2)] := hl
  obtain ⟨hx, hb, hml, hr, hown, hts, hlocks, hK, hA, hN⟩ := id C
  rw [M_page] at hm
  refine lv_aload_n hx hb dX8_page_0 rfl (lv_at hl 0 rfl) ?_
  refine lv_iload_n hx hb dX8_page_1 rfl (lv_at hl 1 rfl) ?_
  obtain ⟨r2, hq, hm⟩ := bd1_some hm
  refine k_callVI (As := [.int v1]) (rest := []) ⟨hx, hb, hml, hown, hts⟩ hK hA hN (c_X8_isPage (a := a) hq) (cwV 1 hts gX8_page_X8_isPage rfl rfl rfl hdX8_isPage ⟨Nat.le_of_ble_eq_true rfl, Nat.le_of_ble_eq_true rfl⟩) hP (va_D_re hD rfl) hS 0 8 rfl rfl rfl hl.1 rfl rfl (Nat.le_of_ble_eq_true rfl) ⟨Nat.zero_le _, Nat.zero_le _⟩ dX8_page_2 (fun H locs hP hS => ?_)
  refine lv_if_eq (tgt := 36) hx hb dX8_page_5 (by decide) (fun hc => ?_) (fun hc => ?_)
  · have hm := if_t hc hm
    exact t_M_page_J36 C hD hret _ _ _ _ _ _ _ _ _ _ _ _ _ _ _ hP hS (lv_sub hl [0] rfl) hm
  · have hm := if_f hc hm
    refine lv_iload_n hx hb dX8_page_8 rfl (lv_at hl 2 rfl) ?_
    refine lv_iconst (v := 0) hx hb dX8_page_9 (by decide) ?_
    refine lv_bipush (v := 6) hx hb dX8_page_10 (by decide) ?_
    obtain ⟨r12, hq, hm⟩ := bd1_some hm
    refine k_callSI (As := [.int v2, .int 0, .int 6]) (rest := []) ⟨hx, hb, hml, hown, hts⟩ hK hA hN (c_X8_in (a := a) hq) (va_cwS 3 hts gX8_page_X8_in rfl rfl rfl hdX8_in ⟨Nat.le_of_ble_eq_true rfl, Nat.le_of_ble_eq_true rfl⟩) hP (va_D_re hD rfl) hS hl.1 rfl rfl (Nat.le_of_ble_eq_true rfl) ⟨Nat.zero_le _, Nat.zero_le _⟩ dX8_page_12 (fun H locs hP hS => ?_)
    refine lv_if_eq (tgt := 36) hx hb dX8_page_15 (by decide) (fun hc => ?_) (fun hc => ?_)
    · have hm := if_t hc hm
      exact t_M_page_J36 C hD hret _ _ _ _ _ _ _ _ _ _ _ _ _ _ _ hP hS (lv_sub hl [0] rfl) hm
    · have hm := if_f hc hm
      refine lv_aload_n hx hb dX8_page_18 rfl (lv_at hl 0 rfl) ?_
      refine lv_aload_n hx hb dX8_page_19 rfl (lv_at hl 0 rfl) ?_
      refine lv_iload_n hx hb dX8_page_20 rfl (lv_at hl 1 rfl) ?_
      obtain ⟨r21, hq, hm⟩ := bd1_some hm
      refine k_callVI (As := [.int v1]) (rest := [.ref (a 0)]) ⟨hx, hb, hml, hown, hts⟩ hK hA hN (c_X8_levelOf (a := a) hq) (cwV 1 hts gX8_page_X8_levelOf rfl rfl rfl hdX8_levelOf ⟨Nat.le_of_ble_eq_true rfl, Nat.le_of_ble_eq_true rfl⟩) hP (va_D_re hD rfl) hS 0 8 rfl rfl rfl hl.1 rfl rfl (Nat.le_of_ble_eq_true rfl) ⟨Nat.zero_le _, Nat.zero_le _⟩ dX8_page_21 (fun H locs hP hS => ?_)
      refine lv_aload_n hx hb dX8_page_24 rfl (lv_at hl 0 rfl) ?_
      refine lv_iload_n hx hb dX8_page_25 rfl (lv_at hl 1 rfl) ?_
      obtain ⟨r26, hq, hm⟩ := bd1_some hm
      refine k_callVI (As := [.int v1]) (rest := [.int r21, .ref (a 0)]) ⟨hx, hb, hml, hown, hts⟩ hK hA hN (c_X8_pageOf (a := a) hq) (cwV 1 hts gX8_page_X8_pageOf rfl rfl rfl hdX8_pageOf ⟨Nat.le_of_ble_eq_true rfl, Nat.le_of_ble_eq_true rfl⟩) hP (va_D_re hD rfl) hS 0 8 rfl rfl rfl hl.1 rfl rfl (Nat.le_of_ble_eq_true rfl) ⟨Nat.zero_le _, Nat.zero_le _⟩ dX8_page_26 (fun H locs hP hS => ?_)
      refine lv_iload_n hx hb dX8_page_29 rfl (lv_at hl 2 rfl) ?_
      obtain ⟨r30, m_heads_30, m_treeBit_30, m_treeLeft_30, m_treeRight_30, m_treeAbove_30, m_pileFrom_30, m_pileTo_30, m_pileAbove_30, m_entries_30, m_treeForks_30, m_treeDeep_30, hq, hm⟩ := bd12_some hm
      refine k_callVI (As := [.int r21, .int r26, .int v2]) (rest := []) ⟨hx, hb, hml, hown, hts⟩ hK hA hN (c_X8_pageFact (a := a) hq) (cwV 3 hts gX8_page_X8_pageFact rfl rfl rfl hdX8_pageFact ⟨Nat.le_of_ble_eq_true rfl, Nat.le_of_ble_eq_true rfl⟩) hP (va_D_re hD rfl) hS 0 8 rfl rfl rfl hl.1 rfl rfl (Nat.le_of_ble_eq_true rfl) ⟨Nat.zero_le _, Nat.zero_le _⟩ dX8_page_30 (fun H locs hP hS => ?_)
      refine lv_goto (tgt := 42) hx hb dX8_page_33 (by decide) ?_
      simp only [Option.some.injEq, Prod.mk.injEq] at hm
      obtain ⟨rfl, rfl, rfl, rfl, rfl, rfl, rfl, rfl, rfl, rfl, rfl, rfl, rfl⟩ := hm
      exact hret _ _ _ _ dX8_page_42 hP hS
theorem hdX8_forkFact : yX8_forkFact.cls = RX8 ∧ yX8_forkFact.cls ≠ "java/lang/invoke/MethodHandle" ∧ yX8_forkFact.cls ≠ "java/lang/invoke/VarHandle" ∧ (parseMethodDescriptor yX8_forkFact.desc).map (fun d => d.parameters.length) = some 2 := by decide +kernel
theorem hiX8_forkFact : ∀ w ∈ u_ws RX8 TX8 34, w ∈ wsX8_forkFact := by decide +kernel
theorem flX8_forkFact_58 : Cond.fieldLink RX8 58 "BlindPagesModel" "treeBit" "[I" ∈ wsX8_forkFact := by decide +kernel
theorem flX8_forkFact_61 : Cond.fieldLink RX8 61 "BlindPagesModel" "treeLeft" "[I" ∈ wsX8_forkFact := by decide +kernel
theorem flX8_forkFact_64 : Cond.fieldLink RX8 64 "BlindPagesModel" "treeRight" "[I" ∈ wsX8_forkFact := by decide +kernel
theorem flX8_forkFact_67 : Cond.fieldLink RX8 67 "BlindPagesModel" "treeAbove" "[I" ∈ wsX8_forkFact := by decide +kernel
def M_forkFact (m_treeBit m_treeLeft m_treeRight m_treeAbove : Nat → Int32) (v1 : Int32) (v2 : Int32) : Option (Int32) := if v2 = 0 then (ga v1 10 (some (m_treeBit v1.toNatClampNeg))) else (if v2 = 1 then (ga v1 10 (some (m_treeLeft v1.toNatClampNeg))) else (if v2 = 2 then (ga v1 10 (some (m_treeRight v1.toNatClampNeg))) else (ga v1 10 (some (m_treeAbove v1.toNatClampNeg)))))
set_option maxRecDepth 100000 in
set_option maxHeartbeats 4000000 in
theorem c_X8_forkFact {l : Launch} {D : va_G} {cI cJ cB cL cS cW : ClassId} {a : Nat → Nat} {m_s m_past m_kept m_refused m_text m_asked m_heads m_forkBit m_forkFrom m_forkTo m_wayPage m_wayKnown m_wayGuess m_wayDiff m_wayRead m_wayPlace m_treeBit m_treeLeft m_treeRight m_treeAbove m_pileFrom m_pileTo m_pileAbove : Nat → Int32} {m_known m_typed m_askedLength m_entries m_forks m_guess m_diff m_read m_placeOf m_treeForks m_treeDeep : Int32} {v1 : Int32} {v2 : Int32} {r : Int32} (hm : M_forkFact m_treeBit m_treeLeft m_treeRight m_treeAbove v1 v2 = some r) : k_MI l yX8_forkFact wsX8_forkFact { frames := 0, cells := 0, slots := 0, locals := 0 } D (kT cI cJ cB cL cS cW) [.ref (a 0), .int v1, .int v2] (WM a cI m_s m_past m_kept m_refused m_text m_asked m_heads m_forkBit m_forkFrom m_forkTo m_wayPage m_wayKnown m_wayGuess m_wayDiff m_wayRead m_wayPlace m_treeBit m_treeLeft m_treeRight m_treeAbove m_pileFrom m_pileTo m_pileAbove m_known m_typed m_askedLength m_entries m_forks m_guess m_diff m_read m_placeOf m_treeForks m_treeDeep) r (WM a cI m_s m_past m_kept m_refused m_text m_asked m_heads m_forkBit m_forkFrom m_forkTo m_wayPage m_wayKnown m_wayGuess m_wayDiff m_wayRead m_wayPlace m_treeBit m_treeLeft m_treeRight m_treeAbove m_pileFrom m_pileTo m_pileAbove m_known m_typed m_askedLength m_entries m_forks m_guess m_diff m_read m_placeOf m_treeForks m_treeDeep) := by
  refine k_ofI (cc := cX8_forkFact) (maxL := 3) (own := RX8) (by decide) rfl rfl (Nat.le_of_ble_eq_true rfl) ?_
  intro p e s m args below meth c A Q ls C hP hD hl hret
  have hD : va_D A (WM0 a cI) := va_D_re hD rfl
  have hS : va_S A s.heap s.heap [] := va_S.rf
  have hl : lv_has ls 3 [(0, .ref (a 0)), (1, .int v1), (2, .int v2)] := hl
  obtain ⟨hx, hb, hml, hr, hown, hts, hlocks, hK, hA, hN⟩ := id C
  rw [M_forkFact] at hm
  refine lv_iload_n hx hb dX8_forkFact_0 rfl (lv_at hl 2 rfl) ?_
  refine lv_if_ne (tgt := 13) hx hb dX8_forkFact_1 (by decide) (fun hc => ?_) (fun hc => ?_)
  · have hm := if_f hc hm
    refine lv_iload_n hx hb dX8_forkFact_13 rfl (lv_at hl 2 rfl) ?_
    refine lv_iconst (v := 1) hx hb dX8_forkFact_14 (by decide) ?_
    refine lv_icmp_ne (tgt := 27) hx hb dX8_forkFact_15 (by decide) (fun hc => ?_) (fun hc => ?_)
    · have hm := if_f hc hm
      refine lv_iload_n hx hb dX8_forkFact_27 rfl (lv_at hl 2 rfl) ?_
      refine lv_iconst (v := 2) hx hb dX8_forkFact_28 (by decide) ?_
      refine lv_icmp_ne (tgt := 41) hx hb dX8_forkFact_29 (by decide) (fun hc => ?_) (fun hc => ?_)
      · have hm := if_f hc hm
        refine lv_aload_n hx hb dX8_forkFact_41 rfl (lv_at hl 0 rfl) ?_
        refine kg (v := .ref (a 20)) hx hb hts hiX8_forkFact hown hK hP 0 rfl rfl 28 (by decide) flX8_forkFact_67 rfl rfl dX8_forkFact_42 ?_
        refine lv_iload_n hx hb dX8_forkFact_45 rfl (lv_at hl 1 rfl) ?_
        obtain ⟨hi, hm⟩ := ga_some hm
        refine k_iald hx hb hK hP 20 0 rfl rfl rfl hi dX8_forkFact_46 ?_
        obtain rfl := Option.some.inj hm
        exact hret _ _ _ _ dX8_forkFact_47 hP hS
      · have hm := if_t hc hm
        refine lv_aload_n hx hb dX8_forkFact_32 rfl (lv_at hl 0 rfl) ?_
        refine kg (v := .ref (a 19)) hx hb hts hiX8_forkFact hown hK hP 0 rfl rfl 27 (by decide) flX8_forkFact_64 rfl rfl dX8_forkFact_33 ?_
        refine lv_iload_n hx hb dX8_forkFact_36 rfl (lv_at hl 1 rfl) ?_
        obtain ⟨hi, hm⟩ := ga_some hm
        refine k_iald hx hb hK hP 19 0 rfl rfl rfl hi dX8_forkFact_37 ?_
        refine lv_goto (tgt := 47) hx hb dX8_forkFact_38 (by decide) ?_
        obtain rfl := Option.some.inj hm
        exact hret _ _ _ _ dX8_forkFact_47 hP hS
    · have hm := if_t hc hm
      refine lv_aload_n hx hb dX8_forkFact_18 rfl (lv_at hl 0 rfl) ?_
      refine kg (v := .ref (a 18)) hx hb hts hiX8_forkFact hown hK hP 0 rfl rfl 26 (by decide) flX8_forkFact_61 rfl rfl dX8_forkFact_19 ?_
      refine lv_iload_n hx hb dX8_forkFact_22 rfl (lv_at hl 1 rfl) ?_
      obtain ⟨hi, hm⟩ := ga_some hm
      refine k_iald hx hb hK hP 18 0 rfl rfl rfl hi dX8_forkFact_23 ?_
      refine lv_goto (tgt := 47) hx hb dX8_forkFact_24 (by decide) ?_
      obtain rfl := Option.some.inj hm
      exact hret _ _ _ _ dX8_forkFact_47 hP hS
  · have hm := if_t hc hm
    refine lv_aload_n hx hb dX8_forkFact_4 rfl (lv_at hl 0 rfl) ?_
    refine kg (v := .ref (a 17)) hx hb hts hiX8_forkFact hown hK hP 0 rfl rfl 25 (by decide) flX8_forkFact_58 rfl rfl dX8_forkFact_5 ?_
    refine lv_iload_n hx hb dX8_forkFact_8 rfl (lv_at hl 1 rfl) ?_
    obtain ⟨hi, hm⟩ := ga_some hm
    refine k_iald hx hb hK hP 17 0 rfl rfl rfl hi dX8_forkFact_9 ?_
    refine lv_goto (tgt := 47) hx hb dX8_forkFact_10 (by decide) ?_
    obtain rfl := Option.some.inj hm
    exact hret _ _ _ _ dX8_forkFact_47 hP hS
theorem hdX8_fork : yX8_fork.cls = RX8 ∧ yX8_fork.cls ≠ "java/lang/invoke/MethodHandle" ∧ yX8_fork.cls ≠ "java/lang/invoke/VarHandle" ∧ (parseMethodDescriptor yX8_fork.desc).map (fun d => d.parameters.length) = some 3 := by decide +kernel
theorem hiX8_fork : ∀ w ∈ u_ws RX8 TX8 34, w ∈ wsX8_fork := by decide +kernel
theorem flX8_fork_251 : Cond.fieldLink RX8 251 "BlindPagesModel" "treeForks" "I" ∈ wsX8_fork := by decide +kernel
def M_fork_J21 (m_s m_asked : Nat → Int32) (m_askedLength : Int32) (v1 : Int32) (v2 : Int32) (v3 : Int32) (m_refused : (Nat → Int32)) (m_heads : (Nat → Int32)) (m_treeBit : (Nat → Int32)) (m_treeLeft : (Nat → Int32)) (m_treeRight : (Nat → Int32)) (m_treeAbove : (Nat → Int32)) (m_pileFrom : (Nat → Int32)) (m_pileTo : (Nat → Int32)) (m_pileAbove : (Nat → Int32)) (m_entries : Int32) (m_treeForks : Int32) (m_treeDeep : Int32) : Option (Int32 × (Nat → Int32) × (Nat → Int32) × (Nat → Int32) × (Nat → Int32) × (Nat → Int32) × (Nat → Int32) × (Nat → Int32) × (Nat → Int32) × (Nat → Int32) × Int32 × Int32 × Int32) := bd2 (M_refuses m_refused (-2)) fun r24 m_refused_24 => some (r24, m_refused_24, m_heads, m_treeBit, m_treeLeft, m_treeRight, m_treeAbove, m_pileFrom, m_pileTo, m_pileAbove, m_entries, m_treeForks, m_treeDeep)
def M_fork (m_s m_asked : Nat → Int32) (m_askedLength : Int32) (m_refused m_heads m_treeBit m_treeLeft m_treeRight m_treeAbove m_pileFrom m_pileTo m_pileAbove : Nat → Int32) (m_entries m_treeForks m_treeDeep : Int32) (v1 : Int32) (v2 : Int32) (v3 : Int32) : Option (Int32 × (Nat → Int32) × (Nat → Int32) × (Nat → Int32) × (Nat → Int32) × (Nat → Int32) × (Nat → Int32) × (Nat → Int32) × (Nat → Int32) × (Nat → Int32) × Int32 × Int32 × Int32) := bd1 (M_isPage m_s v1) fun r2 => if r2 = 0 then (M_fork_J21 m_s m_asked m_askedLength v1 v2 v3 m_refused m_heads m_treeBit m_treeLeft m_treeRight m_treeAbove m_pileFrom m_pileTo m_pileAbove m_entries m_treeForks m_treeDeep) else (if v2 < 0 then (M_fork_J21 m_s m_asked m_askedLength v1 v2 v3 m_refused m_heads m_treeBit m_treeLeft m_treeRight m_treeAbove m_pileFrom m_pileTo m_pileAbove m_entries m_treeForks m_treeDeep) else (bd1 (M_in v3 0 3) fun r15 => if r15 = 0 then (M_fork_J21 m_s m_asked m_askedLength v1 v2 v3 m_refused m_heads m_treeBit m_treeLeft m_treeRight m_treeAbove m_pileFrom m_pileTo m_pileAbove m_entries m_treeForks m_treeDeep) else (bd1 (M_levelOf m_s v1) fun r31 => bd1 (M_pageOf m_s v1) fun r36 => bd11 (M_laysTree m_s m_asked m_askedLength m_heads m_treeBit m_treeLeft m_treeRight m_treeAbove m_pileFrom m_pileTo m_pileAbove m_entries m_treeForks m_treeDeep r31 r36) fun m_heads_39 m_treeBit_39 m_treeLeft_39 m_treeRight_39 m_treeAbove_39 m_pileFrom_39 m_pileTo_39 m_pileAbove_39 m_entries_39 m_treeForks_39 m_treeDeep_39 => if m_treeForks_39 ≤ v2 then (bd2 (M_refuses m_refused (-2)) fun r62 m_refused_62 => some (r62, m_refused_62, m_heads_39, m_treeBit_39, m_treeLeft_39, m_treeRight_39, m_treeAbove_39, m_pileFrom_39, m_pileTo_39, m_pileAbove_39, m_entries_39, m_treeForks_39, m_treeDeep_39)) else (bd1 (M_forkFact m_treeBit_39 m_treeLeft_39 m_treeRight_39 m_treeAbove_39 v2 v3) fun r53 => some (r53, m_refused, m_heads_39, m_treeBit_39, m_treeLeft_39, m_treeRight_39, m_treeAbove_39, m_pileFrom_39, m_pileTo_39, m_pileAbove_39, m_entries_39, m_treeForks_39, m_treeDeep_39)))))
set_option maxRecDepth 100000 in
set_option maxHeartbeats 4000000 in
theorem t_M_fork_J21 {p : Program} {l : Launch} {e : Env} {s : State} {m : MethodId} {args : Array Value} {below : List Frame} {meth : Method} {c : Code} {Q : State → Prop} {A : Nat → Prop} {D : va_G} {cI cJ cB cL cS cW : ClassId} {a : Nat → Nat} {m_s m_past m_kept m_text m_asked m_forkBit m_forkFrom m_forkTo m_wayPage m_wayKnown m_wayGuess m_wayDiff m_wayRead m_wayPlace : Nat → Int32} {m_known m_typed m_askedLength m_forks m_guess m_diff m_read m_placeOf : Int32} {v1 : Int32} {v2 : Int32} {v3 : Int32} {r : Int32} {o_refused : Nat → Int32} {o_heads : Nat → Int32} {o_treeBit : Nat → Int32} {o_treeLeft : Nat → Int32} {o_treeRight : Nat → Int32} {o_treeAbove : Nat → Int32} {o_pileFrom : Nat → Int32} {o_pileTo : Nat → Int32} {o_pileAbove : Nat → Int32} {o_entries : Int32} {o_treeForks : Int32} {o_treeDeep : Int32} (C : k_C p s m args meth c cX8_fork 4 (some .int) RX8 wsX8_fork D (kT cI cJ cB cL cS cW) A) (hD : va_D A (WM0 a cI)) (hret : ∀ (H : Heap) (locs : List Loc) (pc : Nat) (ls : Array Slot), decode cX8_fork pc = .ok (.ireturn, 1) → va_P D vwCl (WM a cI m_s m_past m_kept o_refused m_text m_asked o_heads m_forkBit m_forkFrom m_forkTo m_wayPage m_wayKnown m_wayGuess m_wayDiff m_wayRead m_wayPlace o_treeBit o_treeLeft o_treeRight o_treeAbove o_pileFrom o_pileTo o_pileAbove m_known m_typed m_askedLength o_entries m_forks m_guess m_diff m_read m_placeOf o_treeForks o_treeDeep) H → va_S A s.heap H locs → W p l e { frames := 5, cells := 0, slots := 0, locals := 122 } s m args below meth c H locs 0 0 Q (F0 m pc ls [.int r])) : ∀ (m_refused : (Nat → Int32)) (m_heads : (Nat → Int32)) (m_treeBit : (Nat → Int32)) (m_treeLeft : (Nat → Int32)) (m_treeRight : (Nat → Int32)) (m_treeAbove : (Nat → Int32)) (m_pileFrom : (Nat → Int32)) (m_pileTo : (Nat → Int32)) (m_pileAbove : (Nat → Int32)) (m_entries : Int32) (m_treeForks : Int32) (m_treeDeep : Int32) (H : Heap) (locs : List Loc) (ls : Array Slot), va_P D vwCl (WM a cI m_s m_past m_kept m_refused m_text m_asked m_heads m_forkBit m_forkFrom m_forkTo m_wayPage m_wayKnown m_wayGuess m_wayDiff m_wayRead m_wayPlace m_treeBit m_treeLeft m_treeRight m_treeAbove m_pileFrom m_pileTo m_pileAbove m_known m_typed m_askedLength m_entries m_forks m_guess m_diff m_read m_placeOf m_treeForks m_treeDeep) H → va_S A s.heap H locs → lv_has ls 4 [(0, .ref (a 0))] → M_fork_J21 m_s m_asked m_askedLength v1 v2 v3 m_refused m_heads m_treeBit m_treeLeft m_treeRight m_treeAbove m_pileFrom m_pileTo m_pileAbove m_entries m_treeForks m_treeDeep = some (r, o_refused, o_heads, o_treeBit, o_treeLeft, o_treeRight, o_treeAbove, o_pileFrom, o_pileTo, o_pileAbove, o_entries, o_treeForks, o_treeDeep) → W p l e { frames := 5, cells := 0, slots := 0, locals := 122 } s m args below meth c H locs 0 0 Q (F0 m 21 ls []) := by
  obtain ⟨hx, hb, hml, hr, hown, hts, hlocks, hK, hA, hN⟩ := id C
  intro m_refused m_heads m_treeBit m_treeLeft m_treeRight m_treeAbove m_pileFrom m_pileTo m_pileAbove m_entries m_treeForks m_treeDeep H locs ls hP hS hl hm
  rw [M_fork_J21] at hm
  refine lv_aload_n hx hb dX8_fork_21 rfl (lv_at hl 0 rfl) ?_
  refine lv_bipush (v := (-2)) hx hb dX8_fork_22 (by decide) ?_
  obtain ⟨r24, m_refused_24, hq, hm⟩ := bd2_some hm
  refine k_callVI (As := [.int (-2)]) (rest := []) ⟨hx, hb, hml, hown, hts⟩ hK hA hN (c_X8_refuses (a := a) hq) (cwV 1 hts gX8_fork_X8_refuses rfl rfl rfl hdX8_refuses ⟨Nat.le_of_ble_eq_true rfl, Nat.le_of_ble_eq_true rfl⟩) hP (va_D_re hD rfl) hS 0 8 rfl rfl rfl hl.1 rfl rfl (Nat.le_of_ble_eq_true rfl) ⟨Nat.zero_le _, Nat.zero_le _⟩ dX8_fork_24 (fun H locs hP hS => ?_)
  simp only [Option.some.injEq, Prod.mk.injEq] at hm
  obtain ⟨rfl, rfl, rfl, rfl, rfl, rfl, rfl, rfl, rfl, rfl, rfl, rfl, rfl⟩ := hm
  exact hret _ _ _ _ dX8_fork_27 hP hS
set_option maxRecDepth 100000 in
set_option maxHeartbeats 4000000 in
theorem c_X8_fork {l : Launch} {D : va_G} {cI cJ cB cL cS cW : ClassId} {a : Nat → Nat} {m_s m_past m_kept m_refused m_text m_asked m_heads m_forkBit m_forkFrom m_forkTo m_wayPage m_wayKnown m_wayGuess m_wayDiff m_wayRead m_wayPlace m_treeBit m_treeLeft m_treeRight m_treeAbove m_pileFrom m_pileTo m_pileAbove : Nat → Int32} {m_known m_typed m_askedLength m_entries m_forks m_guess m_diff m_read m_placeOf m_treeForks m_treeDeep : Int32} {v1 : Int32} {v2 : Int32} {v3 : Int32} {r : Int32} {o_refused : Nat → Int32} {o_heads : Nat → Int32} {o_treeBit : Nat → Int32} {o_treeLeft : Nat → Int32} {o_treeRight : Nat → Int32} {o_treeAbove : Nat → Int32} {o_pileFrom : Nat → Int32} {o_pileTo : Nat → Int32} {o_pileAbove : Nat → Int32} {o_entries : Int32} {o_treeForks : Int32} {o_treeDeep : Int32} (hm : M_fork m_s m_asked m_askedLength m_refused m_heads m_treeBit m_treeLeft m_treeRight m_treeAbove m_pileFrom m_pileTo m_pileAbove m_entries m_treeForks m_treeDeep v1 v2 v3 = some (r, o_refused, o_heads, o_treeBit, o_treeLeft, o_treeRight, o_treeAbove, o_pileFrom, o_pileTo, o_pileAbove, o_entries, o_treeForks, o_treeDeep)) : k_MI l yX8_fork wsX8_fork { frames := 5, cells := 0, slots := 0, locals := 122 } D (kT cI cJ cB cL cS cW) [.ref (a 0), .int v1, .int v2, .int v3] (WM a cI m_s m_past m_kept m_refused m_text m_asked m_heads m_forkBit m_forkFrom m_forkTo m_wayPage m_wayKnown m_wayGuess m_wayDiff m_wayRead m_wayPlace m_treeBit m_treeLeft m_treeRight m_treeAbove m_pileFrom m_pileTo m_pileAbove m_known m_typed m_askedLength m_entries m_forks m_guess m_diff m_read m_placeOf m_treeForks m_treeDeep) r (WM a cI m_s m_past m_kept o_refused m_text m_asked o_heads m_forkBit m_forkFrom m_forkTo m_wayPage m_wayKnown m_wayGuess m_wayDiff m_wayRead m_wayPlace o_treeBit o_treeLeft o_treeRight o_treeAbove o_pileFrom o_pileTo o_pileAbove m_known m_typed m_askedLength o_entries m_forks m_guess m_diff m_read m_placeOf o_treeForks o_treeDeep) := by
  refine k_ofI (cc := cX8_fork) (maxL := 4) (own := RX8) (by decide) rfl rfl (Nat.le_of_ble_eq_true rfl) ?_
  intro p e s m args below meth c A Q ls C hP hD hl hret
  have hD : va_D A (WM0 a cI) := va_D_re hD rfl
  have hS : va_S A s.heap s.heap [] := va_S.rf
  have hl : lv_has ls 4 [(0, .ref (a 0)), (1, .int v1), (2, .int v2), (3, .int v3)] := hl
  obtain ⟨hx, hb, hml, hr, hown, hts, hlocks, hK, hA, hN⟩ := id C
  rw [M_fork] at hm
  refine lv_aload_n hx hb dX8_fork_0 rfl (lv_at hl 0 rfl) ?_
  refine lv_iload_n hx hb dX8_fork_1 rfl (lv_at hl 1 rfl) ?_
  obtain ⟨r2, hq, hm⟩ := bd1_some hm
  refine k_callVI (As := [.int v1]) (rest := []) ⟨hx, hb, hml, hown, hts⟩ hK hA hN (c_X8_isPage (a := a) hq) (cwV 1 hts gX8_fork_X8_isPage rfl rfl rfl hdX8_isPage ⟨Nat.le_of_ble_eq_true rfl, Nat.le_of_ble_eq_true rfl⟩) hP (va_D_re hD rfl) hS 0 8 rfl rfl rfl hl.1 rfl rfl (Nat.le_of_ble_eq_true rfl) ⟨Nat.zero_le _, Nat.zero_le _⟩ dX8_fork_2 (fun H locs hP hS => ?_)
  refine lv_if_eq (tgt := 21) hx hb dX8_fork_5 (by decide) (fun hc => ?_) (fun hc => ?_)
  · have hm := if_t hc hm
    exact t_M_fork_J21 C hD hret _ _ _ _ _ _ _ _ _ _ _ _ _ _ _ hP hS (lv_sub hl [0] rfl) hm
  · have hm := if_f hc hm
    refine lv_iload_n hx hb dX8_fork_8 rfl (lv_at hl 2 rfl) ?_
    refine lv_if_lt (tgt := 21) hx hb dX8_fork_9 (by decide) (fun hc => ?_) (fun hc => ?_)
    · have hm := if_t hc hm
      exact t_M_fork_J21 C hD hret _ _ _ _ _ _ _ _ _ _ _ _ _ _ _ hP hS (lv_sub hl [0] rfl) hm
    · have hm := if_f hc hm
      refine lv_iload_n hx hb dX8_fork_12 rfl (lv_at hl 3 rfl) ?_
      refine lv_iconst (v := 0) hx hb dX8_fork_13 (by decide) ?_
      refine lv_iconst (v := 3) hx hb dX8_fork_14 (by decide) ?_
      obtain ⟨r15, hq, hm⟩ := bd1_some hm
      refine k_callSI (As := [.int v3, .int 0, .int 3]) (rest := []) ⟨hx, hb, hml, hown, hts⟩ hK hA hN (c_X8_in (a := a) hq) (va_cwS 3 hts gX8_fork_X8_in rfl rfl rfl hdX8_in ⟨Nat.le_of_ble_eq_true rfl, Nat.le_of_ble_eq_true rfl⟩) hP (va_D_re hD rfl) hS hl.1 rfl rfl (Nat.le_of_ble_eq_true rfl) ⟨Nat.zero_le _, Nat.zero_le _⟩ dX8_fork_15 (fun H locs hP hS => ?_)
      refine lv_if_ne (tgt := 28) hx hb dX8_fork_18 (by decide) (fun hc => ?_) (fun hc => ?_)
      · have hm := if_f hc hm
        refine lv_aload_n hx hb dX8_fork_28 rfl (lv_at hl 0 rfl) ?_
        refine lv_aload_n hx hb dX8_fork_29 rfl (lv_at hl 0 rfl) ?_
        refine lv_iload_n hx hb dX8_fork_30 rfl (lv_at hl 1 rfl) ?_
        obtain ⟨r31, hq, hm⟩ := bd1_some hm
        refine k_callVI (As := [.int v1]) (rest := [.ref (a 0)]) ⟨hx, hb, hml, hown, hts⟩ hK hA hN (c_X8_levelOf (a := a) hq) (cwV 1 hts gX8_fork_X8_levelOf rfl rfl rfl hdX8_levelOf ⟨Nat.le_of_ble_eq_true rfl, Nat.le_of_ble_eq_true rfl⟩) hP (va_D_re hD rfl) hS 0 8 rfl rfl rfl hl.1 rfl rfl (Nat.le_of_ble_eq_true rfl) ⟨Nat.zero_le _, Nat.zero_le _⟩ dX8_fork_31 (fun H locs hP hS => ?_)
        refine lv_aload_n hx hb dX8_fork_34 rfl (lv_at hl 0 rfl) ?_
        refine lv_iload_n hx hb dX8_fork_35 rfl (lv_at hl 1 rfl) ?_
        obtain ⟨r36, hq, hm⟩ := bd1_some hm
        refine k_callVI (As := [.int v1]) (rest := [.int r31, .ref (a 0)]) ⟨hx, hb, hml, hown, hts⟩ hK hA hN (c_X8_pageOf (a := a) hq) (cwV 1 hts gX8_fork_X8_pageOf rfl rfl rfl hdX8_pageOf ⟨Nat.le_of_ble_eq_true rfl, Nat.le_of_ble_eq_true rfl⟩) hP (va_D_re hD rfl) hS 0 8 rfl rfl rfl hl.1 rfl rfl (Nat.le_of_ble_eq_true rfl) ⟨Nat.zero_le _, Nat.zero_le _⟩ dX8_fork_36 (fun H locs hP hS => ?_)
        obtain ⟨m_heads_39, m_treeBit_39, m_treeLeft_39, m_treeRight_39, m_treeAbove_39, m_pileFrom_39, m_pileTo_39, m_pileAbove_39, m_entries_39, m_treeForks_39, m_treeDeep_39, hq, hm⟩ := bd11_some hm
        refine k_callVV (As := [.int r31, .int r36]) (rest := []) ⟨hx, hb, hml, hown, hts⟩ hK hA hN (c_X8_laysTree (a := a) hq) (cwV 2 hts gX8_fork_X8_laysTree rfl rfl rfl hdX8_laysTree ⟨Nat.le_of_ble_eq_true rfl, Nat.le_of_ble_eq_true rfl⟩) hP (va_D_re hD rfl) hS 0 8 rfl rfl rfl hl.1 rfl rfl (Nat.le_of_ble_eq_true rfl) ⟨Nat.zero_le _, Nat.zero_le _⟩ dX8_fork_39 (fun H locs hP hS => ?_)
        refine lv_iload_n hx hb dX8_fork_42 rfl (lv_at hl 2 rfl) ?_
        refine lv_aload_n hx hb dX8_fork_43 rfl (lv_at hl 0 rfl) ?_
        refine kg (v := .int m_treeForks_39) hx hb hts hiX8_fork hown hK hP 0 rfl rfl 29 (by decide) flX8_fork_251 rfl rfl dX8_fork_44 ?_
        refine lv_icmp_ge (tgt := 59) hx hb dX8_fork_47 (by decide) (fun hc => ?_) (fun hc => ?_)
        · have hm := if_t hc hm
          refine lv_aload_n hx hb dX8_fork_59 rfl (lv_at hl 0 rfl) ?_
          refine lv_bipush (v := (-2)) hx hb dX8_fork_60 (by decide) ?_
          obtain ⟨r62, m_refused_62, hq, hm⟩ := bd2_some hm
          refine k_callVI (As := [.int (-2)]) (rest := []) ⟨hx, hb, hml, hown, hts⟩ hK hA hN (c_X8_refuses (a := a) hq) (cwV 1 hts gX8_fork_X8_refuses rfl rfl rfl hdX8_refuses ⟨Nat.le_of_ble_eq_true rfl, Nat.le_of_ble_eq_true rfl⟩) hP (va_D_re hD rfl) hS 0 8 rfl rfl rfl hl.1 rfl rfl (Nat.le_of_ble_eq_true rfl) ⟨Nat.zero_le _, Nat.zero_le _⟩ dX8_fork_62 (fun H locs hP hS => ?_)
          simp only [Option.some.injEq, Prod.mk.injEq] at hm
          obtain ⟨rfl, rfl, rfl, rfl, rfl, rfl, rfl, rfl, rfl, rfl, rfl, rfl, rfl⟩ := hm
          exact hret _ _ _ _ dX8_fork_65 hP hS
        · have hm := if_f hc hm
          refine lv_aload_n hx hb dX8_fork_50 rfl (lv_at hl 0 rfl) ?_
          refine lv_iload_n hx hb dX8_fork_51 rfl (lv_at hl 2 rfl) ?_
          refine lv_iload_n hx hb dX8_fork_52 rfl (lv_at hl 3 rfl) ?_
          obtain ⟨r53, hq, hm⟩ := bd1_some hm
          refine k_callVI (As := [.int v2, .int v3]) (rest := []) ⟨hx, hb, hml, hown, hts⟩ hK hA hN (c_X8_forkFact (a := a) hq) (cwV 2 hts gX8_fork_X8_forkFact rfl rfl rfl hdX8_forkFact ⟨Nat.le_of_ble_eq_true rfl, Nat.le_of_ble_eq_true rfl⟩) hP (va_D_re hD rfl) hS 0 8 rfl rfl rfl hl.1 rfl rfl (Nat.le_of_ble_eq_true rfl) ⟨Nat.zero_le _, Nat.zero_le _⟩ dX8_fork_53 (fun H locs hP hS => ?_)
          refine lv_goto (tgt := 65) hx hb dX8_fork_56 (by decide) ?_
          simp only [Option.some.injEq, Prod.mk.injEq] at hm
          obtain ⟨rfl, rfl, rfl, rfl, rfl, rfl, rfl, rfl, rfl, rfl, rfl, rfl, rfl⟩ := hm
          exact hret _ _ _ _ dX8_fork_65 hP hS
      · have hm := if_t hc hm
        exact t_M_fork_J21 C hD hret _ _ _ _ _ _ _ _ _ _ _ _ _ _ _ hP hS (lv_sub hl [0] rfl) hm
theorem hdX8_costs : yX8_costs.cls = RX8 ∧ yX8_costs.cls ≠ "java/lang/invoke/MethodHandle" ∧ yX8_costs.cls ≠ "java/lang/invoke/VarHandle" ∧ (parseMethodDescriptor yX8_costs.desc).map (fun d => d.parameters.length) = some 1 := by decide +kernel
theorem hiX8_costs : ∀ w ∈ u_ws RX8 TX8 34, w ∈ wsX8_costs := by decide +kernel
theorem flX8_costs_7 : Cond.fieldLink RX8 7 "BlindPagesModel" "s" "[I" ∈ wsX8_costs := by decide +kernel
theorem flX8_costs_83 : Cond.fieldLink RX8 83 "BlindPagesModel" "askedLength" "I" ∈ wsX8_costs := by decide +kernel
theorem flX8_costs_25 : Cond.fieldLink RX8 25 "BlindPagesModel" "asked" "[I" ∈ wsX8_costs := by decide +kernel
def M_costs_L31 (m_s : Nat → Int32) (v1 : Int32) (k61 : (Nat → Int32) → (Nat → Int32) → (Nat → Int32) → (Nat → Int32) → (Nat → Int32) → (Nat → Int32) → (Nat → Int32) → (Nat → Int32) → (Nat → Int32) → (Nat → Int32) → (Nat → Int32) → Int32 → Int32 → Int32 → Int32 → Int32 → Int32 → Int32 → Int32 → Int32 → Int32 → Option (Int32 × (Nat → Int32) × (Nat → Int32) × (Nat → Int32) × (Nat → Int32) × (Nat → Int32) × (Nat → Int32) × (Nat → Int32) × (Nat → Int32) × (Nat → Int32) × (Nat → Int32) × (Nat → Int32) × Int32 × Int32 × Int32 × Int32 × Int32 × Int32 × Int32)) : Nat → (Nat → Int32) → (Nat → Int32) → (Nat → Int32) → (Nat → Int32) → (Nat → Int32) → (Nat → Int32) → (Nat → Int32) → (Nat → Int32) → (Nat → Int32) → (Nat → Int32) → (Nat → Int32) → Int32 → Int32 → Int32 → Int32 → Int32 → Int32 → Int32 → Int32 → Int32 → Int32 → Int32 → Option (Int32 × (Nat → Int32) × (Nat → Int32) × (Nat → Int32) × (Nat → Int32) × (Nat → Int32) × (Nat → Int32) × (Nat → Int32) × (Nat → Int32) × (Nat → Int32) × (Nat → Int32) × (Nat → Int32) × Int32 × Int32 × Int32 × Int32 × Int32 × Int32 × Int32)
  | 0, _, _, _, _, _, _, _, _, _, _, _, _, _, _, _, _, _, _, _, _, _, _ => none
  | n + 1, m_asked, m_heads, m_forkBit, m_forkFrom, m_forkTo, m_wayPage, m_wayKnown, m_wayGuess, m_wayDiff, m_wayRead, m_wayPlace, m_askedLength, m_entries, m_forks, m_guess, m_diff, m_read, m_placeOf, v2, v3, v4, v5 => if m_askedLength ≤ v5 then (k61 m_asked m_heads m_forkBit m_forkFrom m_forkTo m_wayPage m_wayKnown m_wayGuess m_wayDiff m_wayRead m_wayPlace m_askedLength m_entries m_forks m_guess m_diff m_read m_placeOf v2 v3 v4) else (bd1 (M_signOf m_s m_asked v4 v5) fun r51 => ga v5 24 (M_costs_L31 m_s v1 k61 n (upd m_asked v5.toNatClampNeg r51) m_heads m_forkBit m_forkFrom m_forkTo m_wayPage m_wayKnown m_wayGuess m_wayDiff m_wayRead m_wayPlace m_askedLength m_entries m_forks m_guess m_diff m_read m_placeOf v2 v3 v4 (v5 + 1)))
def M_costs_L7 (m_s : Nat → Int32) (v1 : Int32) (k91 : (Nat → Int32) → (Nat → Int32) → (Nat → Int32) → (Nat → Int32) → (Nat → Int32) → (Nat → Int32) → (Nat → Int32) → (Nat → Int32) → (Nat → Int32) → (Nat → Int32) → (Nat → Int32) → Int32 → Int32 → Int32 → Int32 → Int32 → Int32 → Int32 → Int32 → Int32 → Option (Int32 × (Nat → Int32) × (Nat → Int32) × (Nat → Int32) × (Nat → Int32) × (Nat → Int32) × (Nat → Int32) × (Nat → Int32) × (Nat → Int32) × (Nat → Int32) × (Nat → Int32) × (Nat → Int32) × Int32 × Int32 × Int32 × Int32 × Int32 × Int32 × Int32)) : Nat → (Nat → Int32) → (Nat → Int32) → (Nat → Int32) → (Nat → Int32) → (Nat → Int32) → (Nat → Int32) → (Nat → Int32) → (Nat → Int32) → (Nat → Int32) → (Nat → Int32) → (Nat → Int32) → Int32 → Int32 → Int32 → Int32 → Int32 → Int32 → Int32 → Int32 → Int32 → Int32 → Option (Int32 × (Nat → Int32) × (Nat → Int32) × (Nat → Int32) × (Nat → Int32) × (Nat → Int32) × (Nat → Int32) × (Nat → Int32) × (Nat → Int32) × (Nat → Int32) × (Nat → Int32) × (Nat → Int32) × Int32 × Int32 × Int32 × Int32 × Int32 × Int32 × Int32)
  | 0, _, _, _, _, _, _, _, _, _, _, _, _, _, _, _, _, _, _, _, _, _ => none
  | n + 1, m_asked, m_heads, m_forkBit, m_forkFrom, m_forkTo, m_wayPage, m_wayKnown, m_wayGuess, m_wayDiff, m_wayRead, m_wayPlace, m_askedLength, m_entries, m_forks, m_guess, m_diff, m_read, m_placeOf, v2, v3, v4 => if (m_s 0) ≤ v4 then (k91 m_asked m_heads m_forkBit m_forkFrom m_forkTo m_wayPage m_wayKnown m_wayGuess m_wayDiff m_wayRead m_wayPlace m_askedLength m_entries m_forks m_guess m_diff m_read m_placeOf v2 v3) else (bd1 (M_lengthOf m_s m_askedLength v4) fun r22 => M_costs_L31 m_s v1 (fun m_asked m_heads m_forkBit m_forkFrom m_forkTo m_wayPage m_wayKnown m_wayGuess m_wayDiff m_wayRead m_wayPlace m_askedLength m_entries m_forks m_guess m_diff m_read m_placeOf v2 v3 v4 => bd17 (M_cost m_s m_asked m_askedLength m_heads m_forkBit m_forkFrom m_forkTo m_wayPage m_wayKnown m_wayGuess m_wayDiff m_wayRead m_wayPlace m_entries m_forks m_guess m_diff m_read m_placeOf) fun r62 m_heads_62 m_forkBit_62 m_forkFrom_62 m_forkTo_62 m_wayPage_62 m_wayKnown_62 m_wayGuess_62 m_wayDiff_62 m_wayRead_62 m_wayPlace_62 m_entries_62 m_forks_62 m_guess_62 m_diff_62 m_read_62 m_placeOf_62 => if r62 ≤ v2 then (M_costs_L7 m_s v1 k91 n m_asked m_heads_62 m_forkBit_62 m_forkFrom_62 m_forkTo_62 m_wayPage_62 m_wayKnown_62 m_wayGuess_62 m_wayDiff_62 m_wayRead_62 m_wayPlace_62 m_askedLength m_entries_62 m_forks_62 m_guess_62 m_diff_62 m_read_62 m_placeOf_62 v2 (v3 + r62) (v4 + 1)) else (M_costs_L7 m_s v1 k91 n m_asked m_heads_62 m_forkBit_62 m_forkFrom_62 m_forkTo_62 m_wayPage_62 m_wayKnown_62 m_wayGuess_62 m_wayDiff_62 m_wayRead_62 m_wayPlace_62 m_askedLength m_entries_62 m_forks_62 m_guess_62 m_diff_62 m_read_62 m_placeOf_62 r62 (v3 + r62) (v4 + 1))) FU m_asked m_heads m_forkBit m_forkFrom m_forkTo m_wayPage m_wayKnown m_wayGuess m_wayDiff m_wayRead m_wayPlace r22 m_entries m_forks m_guess m_diff m_read m_placeOf v2 v3 v4 0)
def M_costs (m_s : Nat → Int32) (m_asked m_heads m_forkBit m_forkFrom m_forkTo m_wayPage m_wayKnown m_wayGuess m_wayDiff m_wayRead m_wayPlace : Nat → Int32) (m_askedLength m_entries m_forks m_guess m_diff m_read m_placeOf : Int32) (v1 : Int32) : Option (Int32 × (Nat → Int32) × (Nat → Int32) × (Nat → Int32) × (Nat → Int32) × (Nat → Int32) × (Nat → Int32) × (Nat → Int32) × (Nat → Int32) × (Nat → Int32) × (Nat → Int32) × (Nat → Int32) × Int32 × Int32 × Int32 × Int32 × Int32 × Int32 × Int32) := M_costs_L7 m_s v1 (fun m_asked m_heads m_forkBit m_forkFrom m_forkTo m_wayPage m_wayKnown m_wayGuess m_wayDiff m_wayRead m_wayPlace m_askedLength m_entries m_forks m_guess m_diff m_read m_placeOf v2 v3 => if v1 = 0 then (some (v2, m_asked, m_heads, m_forkBit, m_forkFrom, m_forkTo, m_wayPage, m_wayKnown, m_wayGuess, m_wayDiff, m_wayRead, m_wayPlace, m_askedLength, m_entries, m_forks, m_guess, m_diff, m_read, m_placeOf)) else (some (v3, m_asked, m_heads, m_forkBit, m_forkFrom, m_forkTo, m_wayPage, m_wayKnown, m_wayGuess, m_wayDiff, m_wayRead, m_wayPlace, m_askedLength, m_entries, m_forks, m_guess, m_diff, m_read, m_placeOf))) FU m_asked m_heads m_forkBit m_forkFrom m_forkTo m_wayPage m_wayKnown m_wayGuess m_wayDiff m_wayRead m_wayPlace m_askedLength m_entries m_forks m_guess m_diff m_read m_placeOf 0 0 0
set_option maxRecDepth 100000 in
set_option maxHeartbeats 4000000 in
theorem t_M_costs_L31 {p : Program} {l : Launch} {e : Env} {s : State} {m : MethodId} {args : Array Value} {below : List Frame} {meth : Method} {c : Code} {Q : State → Prop} {A : Nat → Prop} {D : va_G} {cI cJ cB cL cS cW : ClassId} {a : Nat → Nat} {m_s m_past m_kept m_refused m_text m_treeBit m_treeLeft m_treeRight m_treeAbove m_pileFrom m_pileTo m_pileAbove : Nat → Int32} {m_known m_typed m_treeForks m_treeDeep : Int32} {v1 : Int32} {r : Int32} {o_asked : Nat → Int32} {o_heads : Nat → Int32} {o_forkBit : Nat → Int32} {o_forkFrom : Nat → Int32} {o_forkTo : Nat → Int32} {o_wayPage : Nat → Int32} {o_wayKnown : Nat → Int32} {o_wayGuess : Nat → Int32} {o_wayDiff : Nat → Int32} {o_wayRead : Nat → Int32} {o_wayPlace : Nat → Int32} {o_askedLength : Int32} {o_entries : Int32} {o_forks : Int32} {o_guess : Int32} {o_diff : Int32} {o_read : Int32} {o_placeOf : Int32} (C : k_C p s m args meth c cX8_costs 6 (some .int) RX8 wsX8_costs D (kT cI cJ cB cL cS cW) A) (hD : va_D A (WM0 a cI)) (hret : ∀ (H : Heap) (locs : List Loc) (pc : Nat) (ls : Array Slot), decode cX8_costs pc = .ok (.ireturn, 1) → va_P D vwCl (WM a cI m_s m_past m_kept m_refused m_text o_asked o_heads o_forkBit o_forkFrom o_forkTo o_wayPage o_wayKnown o_wayGuess o_wayDiff o_wayRead o_wayPlace m_treeBit m_treeLeft m_treeRight m_treeAbove m_pileFrom m_pileTo m_pileAbove m_known m_typed o_askedLength o_entries o_forks o_guess o_diff o_read o_placeOf m_treeForks m_treeDeep) H → va_S A s.heap H locs → W p l e { frames := 7, cells := 0, slots := 0, locals := 170 } s m args below meth c H locs 0 0 Q (F0 m pc ls [.int r])) {k61 : (Nat → Int32) → (Nat → Int32) → (Nat → Int32) → (Nat → Int32) → (Nat → Int32) → (Nat → Int32) → (Nat → Int32) → (Nat → Int32) → (Nat → Int32) → (Nat → Int32) → (Nat → Int32) → Int32 → Int32 → Int32 → Int32 → Int32 → Int32 → Int32 → Int32 → Int32 → Int32 → Option (Int32 × (Nat → Int32) × (Nat → Int32) × (Nat → Int32) × (Nat → Int32) × (Nat → Int32) × (Nat → Int32) × (Nat → Int32) × (Nat → Int32) × (Nat → Int32) × (Nat → Int32) × (Nat → Int32) × Int32 × Int32 × Int32 × Int32 × Int32 × Int32 × Int32)} (hk61 : ∀ (m_asked : (Nat → Int32)) (m_heads : (Nat → Int32)) (m_forkBit : (Nat → Int32)) (m_forkFrom : (Nat → Int32)) (m_forkTo : (Nat → Int32)) (m_wayPage : (Nat → Int32)) (m_wayKnown : (Nat → Int32)) (m_wayGuess : (Nat → Int32)) (m_wayDiff : (Nat → Int32)) (m_wayRead : (Nat → Int32)) (m_wayPlace : (Nat → Int32)) (m_askedLength : Int32) (m_entries : Int32) (m_forks : Int32) (m_guess : Int32) (m_diff : Int32) (m_read : Int32) (m_placeOf : Int32) (v2 : Int32) (v3 : Int32) (v4 : Int32) (H : Heap) (locs : List Loc) (ls : Array Slot), va_P D vwCl (WM a cI m_s m_past m_kept m_refused m_text m_asked m_heads m_forkBit m_forkFrom m_forkTo m_wayPage m_wayKnown m_wayGuess m_wayDiff m_wayRead m_wayPlace m_treeBit m_treeLeft m_treeRight m_treeAbove m_pileFrom m_pileTo m_pileAbove m_known m_typed m_askedLength m_entries m_forks m_guess m_diff m_read m_placeOf m_treeForks m_treeDeep) H → va_S A s.heap H locs → lv_has ls 6 [(0, .ref (a 0)), (1, .int v1), (2, .int v2), (3, .int v3), (4, .int v4)] → k61 m_asked m_heads m_forkBit m_forkFrom m_forkTo m_wayPage m_wayKnown m_wayGuess m_wayDiff m_wayRead m_wayPlace m_askedLength m_entries m_forks m_guess m_diff m_read m_placeOf v2 v3 v4 = some (r, o_asked, o_heads, o_forkBit, o_forkFrom, o_forkTo, o_wayPage, o_wayKnown, o_wayGuess, o_wayDiff, o_wayRead, o_wayPlace, o_askedLength, o_entries, o_forks, o_guess, o_diff, o_read, o_placeOf) → W p l e { frames := 7, cells := 0, slots := 0, locals := 170 } s m args below meth c H locs 0 0 Q (F0 m 61 ls [])) : ∀ n : Nat, ∀ (m_asked : (Nat → Int32)) (m_heads : (Nat → Int32)) (m_forkBit : (Nat → Int32)) (m_forkFrom : (Nat → Int32)) (m_forkTo : (Nat → Int32)) (m_wayPage : (Nat → Int32)) (m_wayKnown : (Nat → Int32)) (m_wayGuess : (Nat → Int32)) (m_wayDiff : (Nat → Int32)) (m_wayRead : (Nat → Int32)) (m_wayPlace : (Nat → Int32)) (m_askedLength : Int32) (m_entries : Int32) (m_forks : Int32) (m_guess : Int32) (m_diff : Int32) (m_read : Int32) (m_placeOf : Int32) (v2 : Int32) (v3 : Int32) (v4 : Int32) (v5 : Int32) (H : Heap) (locs : List Loc) (ls : Array Slot), va_P D vwCl (WM a cI m_s m_past m_kept m_refused m_text m_asked m_heads m_forkBit m_forkFrom m_forkTo m_wayPage m_wayKnown m_wayGuess m_wayDiff m_wayRead m_wayPlace m_treeBit m_treeLeft m_treeRight m_treeAbove m_pileFrom m_pileTo m_pileAbove m_known m_typed m_askedLength m_entries m_forks m_guess m_diff m_read m_placeOf m_treeForks m_treeDeep) H → va_S A s.heap H locs → lv_has ls 6 [(0, .ref (a 0)), (1, .int v1), (2, .int v2), (3, .int v3), (4, .int v4), (5, .int v5)] → (M_costs_L31 m_s v1 k61 n) m_asked m_heads m_forkBit m_forkFrom m_forkTo m_wayPage m_wayKnown m_wayGuess m_wayDiff m_wayRead m_wayPlace m_askedLength m_entries m_forks m_guess m_diff m_read m_placeOf v2 v3 v4 v5 = some (r, o_asked, o_heads, o_forkBit, o_forkFrom, o_forkTo, o_wayPage, o_wayKnown, o_wayGuess, o_wayDiff, o_wayRead, o_wayPlace, o_askedLength, o_entries, o_forks, o_guess, o_diff, o_read, o_placeOf) → W p l e { frames := 7, cells := 0, slots := 0, locals := 170 } s m args below meth c H locs 0 0 Q (F0 m 31 ls []) := by
  obtain ⟨hx, hb, hml, hr, hown, hts, hlocks, hK, hA, hN⟩ := id C
  intro n
  induction n with
  | zero =>
    intro m_asked m_heads m_forkBit m_forkFrom m_forkTo m_wayPage m_wayKnown m_wayGuess m_wayDiff m_wayRead m_wayPlace m_askedLength m_entries m_forks m_guess m_diff m_read m_placeOf v2 v3 v4 v5 H locs ls hP hS hl hm
    cases hm
  | succ n ih =>
    intro m_asked m_heads m_forkBit m_forkFrom m_forkTo m_wayPage m_wayKnown m_wayGuess m_wayDiff m_wayRead m_wayPlace m_askedLength m_entries m_forks m_guess m_diff m_read m_placeOf v2 v3 v4 v5 H locs ls hP hS hl hm
    rw [M_costs_L31] at hm
    refine lv_iload hx hb dX8_costs_31 (lv_at hl 5 rfl) ?_
    refine lv_aload_n hx hb dX8_costs_33 rfl (lv_at hl 0 rfl) ?_
    refine kg (v := .int m_askedLength) hx hb hts hiX8_costs hown hK hP 0 rfl rfl 8 (by decide) flX8_costs_83 rfl rfl dX8_costs_34 ?_
    refine lv_icmp_ge (tgt := 61) hx hb dX8_costs_37 (by decide) (fun hc => ?_) (fun hc => ?_)
    · have hm := if_t hc hm
      exact hk61 _ _ _ _ _ _ _ _ _ _ _ _ _ _ _ _ _ _ _ _ _ _ _ _ hP hS (lv_sub hl [0, 1, 2, 3, 4] rfl) hm
    · have hm := if_f hc hm
      refine lv_aload_n hx hb dX8_costs_40 rfl (lv_at hl 0 rfl) ?_
      refine kg (v := .ref (a 6)) hx hb hts hiX8_costs hown hK hP 0 rfl rfl 7 (by decide) flX8_costs_25 rfl rfl dX8_costs_41 ?_
      refine lv_iload hx hb dX8_costs_44 (lv_at hl 5 rfl) ?_
      refine lv_aload_n hx hb dX8_costs_46 rfl (lv_at hl 0 rfl) ?_
      refine lv_iload hx hb dX8_costs_47 (lv_at hl 4 rfl) ?_
      refine lv_iload hx hb dX8_costs_49 (lv_at hl 5 rfl) ?_
      obtain ⟨r51, hq, hm⟩ := bd1_some hm
      refine k_callVI (As := [.int v4, .int v5]) (rest := [.int v5, .ref (a 6)]) ⟨hx, hb, hml, hown, hts⟩ hK hA hN (c_X8_signOf (a := a) hq) (cwV 2 hts gX8_costs_X8_signOf rfl rfl rfl hdX8_signOf ⟨Nat.le_of_ble_eq_true rfl, Nat.le_of_ble_eq_true rfl⟩) hP (va_D_re hD rfl) hS 0 8 rfl rfl rfl hl.1 rfl rfl (Nat.le_of_ble_eq_true rfl) ⟨Nat.zero_le _, Nat.zero_le _⟩ dX8_costs_51 (fun H locs hP hS => ?_)
      obtain ⟨hi, hm⟩ := ga_some hm
      refine k_iast hx hb hK hP (va_D_re hD rfl) hS 6 0 rfl rfl rfl hi dX8_costs_54 (fun H locs hP hS => ?_)
      have hP : va_P D vwCl (WM a cI m_s m_past m_kept m_refused m_text (upd m_asked v5.toNatClampNeg r51) m_heads m_forkBit m_forkFrom m_forkTo m_wayPage m_wayKnown m_wayGuess m_wayDiff m_wayRead m_wayPlace m_treeBit m_treeLeft m_treeRight m_treeAbove m_pileFrom m_pileTo m_pileAbove m_known m_typed m_askedLength m_entries m_forks m_guess m_diff m_read m_placeOf m_treeForks m_treeDeep) H := hP
      refine lv_iinc (v := (v5 + 1)) (lv' := [(5, .int (v5 + 1)), (0, .ref (a 0)), (1, .int v1), (2, .int v2), (3, .int v3), (4, .int v4)]) hx hb dX8_costs_55 hl (k := 5) rfl rfl (by decide) rfl (fun ls hl => ?_)
      refine lv_goto (tgt := 31) hx hb dX8_costs_58 (by decide) ?_
      exact ih _ _ _ _ _ _ _ _ _ _ _ _ _ _ _ _ _ _ _ _ _ _ _ _ _ hP hS (lv_sub hl [1, 2, 3, 4, 5, 0] rfl) hm
set_option maxRecDepth 100000 in
set_option maxHeartbeats 4000000 in
theorem t_M_costs_L7 {p : Program} {l : Launch} {e : Env} {s : State} {m : MethodId} {args : Array Value} {below : List Frame} {meth : Method} {c : Code} {Q : State → Prop} {A : Nat → Prop} {D : va_G} {cI cJ cB cL cS cW : ClassId} {a : Nat → Nat} {m_s m_past m_kept m_refused m_text m_treeBit m_treeLeft m_treeRight m_treeAbove m_pileFrom m_pileTo m_pileAbove : Nat → Int32} {m_known m_typed m_treeForks m_treeDeep : Int32} {v1 : Int32} {r : Int32} {o_asked : Nat → Int32} {o_heads : Nat → Int32} {o_forkBit : Nat → Int32} {o_forkFrom : Nat → Int32} {o_forkTo : Nat → Int32} {o_wayPage : Nat → Int32} {o_wayKnown : Nat → Int32} {o_wayGuess : Nat → Int32} {o_wayDiff : Nat → Int32} {o_wayRead : Nat → Int32} {o_wayPlace : Nat → Int32} {o_askedLength : Int32} {o_entries : Int32} {o_forks : Int32} {o_guess : Int32} {o_diff : Int32} {o_read : Int32} {o_placeOf : Int32} (C : k_C p s m args meth c cX8_costs 6 (some .int) RX8 wsX8_costs D (kT cI cJ cB cL cS cW) A) (hD : va_D A (WM0 a cI)) (hret : ∀ (H : Heap) (locs : List Loc) (pc : Nat) (ls : Array Slot), decode cX8_costs pc = .ok (.ireturn, 1) → va_P D vwCl (WM a cI m_s m_past m_kept m_refused m_text o_asked o_heads o_forkBit o_forkFrom o_forkTo o_wayPage o_wayKnown o_wayGuess o_wayDiff o_wayRead o_wayPlace m_treeBit m_treeLeft m_treeRight m_treeAbove m_pileFrom m_pileTo m_pileAbove m_known m_typed o_askedLength o_entries o_forks o_guess o_diff o_read o_placeOf m_treeForks m_treeDeep) H → va_S A s.heap H locs → W p l e { frames := 7, cells := 0, slots := 0, locals := 170 } s m args below meth c H locs 0 0 Q (F0 m pc ls [.int r])) {k91 : (Nat → Int32) → (Nat → Int32) → (Nat → Int32) → (Nat → Int32) → (Nat → Int32) → (Nat → Int32) → (Nat → Int32) → (Nat → Int32) → (Nat → Int32) → (Nat → Int32) → (Nat → Int32) → Int32 → Int32 → Int32 → Int32 → Int32 → Int32 → Int32 → Int32 → Int32 → Option (Int32 × (Nat → Int32) × (Nat → Int32) × (Nat → Int32) × (Nat → Int32) × (Nat → Int32) × (Nat → Int32) × (Nat → Int32) × (Nat → Int32) × (Nat → Int32) × (Nat → Int32) × (Nat → Int32) × Int32 × Int32 × Int32 × Int32 × Int32 × Int32 × Int32)} (hk91 : ∀ (m_asked : (Nat → Int32)) (m_heads : (Nat → Int32)) (m_forkBit : (Nat → Int32)) (m_forkFrom : (Nat → Int32)) (m_forkTo : (Nat → Int32)) (m_wayPage : (Nat → Int32)) (m_wayKnown : (Nat → Int32)) (m_wayGuess : (Nat → Int32)) (m_wayDiff : (Nat → Int32)) (m_wayRead : (Nat → Int32)) (m_wayPlace : (Nat → Int32)) (m_askedLength : Int32) (m_entries : Int32) (m_forks : Int32) (m_guess : Int32) (m_diff : Int32) (m_read : Int32) (m_placeOf : Int32) (v2 : Int32) (v3 : Int32) (H : Heap) (locs : List Loc) (ls : Array Slot), va_P D vwCl (WM a cI m_s m_past m_kept m_refused m_text m_asked m_heads m_forkBit m_forkFrom m_forkTo m_wayPage m_wayKnown m_wayGuess m_wayDiff m_wayRead m_wayPlace m_treeBit m_treeLeft m_treeRight m_treeAbove m_pileFrom m_pileTo m_pileAbove m_known m_typed m_askedLength m_entries m_forks m_guess m_diff m_read m_placeOf m_treeForks m_treeDeep) H → va_S A s.heap H locs → lv_has ls 6 [(1, .int v1), (2, .int v2), (3, .int v3)] → k91 m_asked m_heads m_forkBit m_forkFrom m_forkTo m_wayPage m_wayKnown m_wayGuess m_wayDiff m_wayRead m_wayPlace m_askedLength m_entries m_forks m_guess m_diff m_read m_placeOf v2 v3 = some (r, o_asked, o_heads, o_forkBit, o_forkFrom, o_forkTo, o_wayPage, o_wayKnown, o_wayGuess, o_wayDiff, o_wayRead, o_wayPlace, o_askedLength, o_entries, o_forks, o_guess, o_diff, o_read, o_placeOf) → W p l e { frames := 7, cells := 0, slots := 0, locals := 170 } s m args below meth c H locs 0 0 Q (F0 m 91 ls [])) : ∀ n : Nat, ∀ (m_asked : (Nat → Int32)) (m_heads : (Nat → Int32)) (m_forkBit : (Nat → Int32)) (m_forkFrom : (Nat → Int32)) (m_forkTo : (Nat → Int32)) (m_wayPage : (Nat → Int32)) (m_wayKnown : (Nat → Int32)) (m_wayGuess : (Nat → Int32)) (m_wayDiff : (Nat → Int32)) (m_wayRead : (Nat → Int32)) (m_wayPlace : (Nat → Int32)) (m_askedLength : Int32) (m_entries : Int32) (m_forks : Int32) (m_guess : Int32) (m_diff : Int32) (m_read : Int32) (m_placeOf : Int32) (v2 : Int32) (v3 : Int32) (v4 : Int32) (H : Heap) (locs : List Loc) (ls : Array Slot), va_P D vwCl (WM a cI m_s m_past m_kept m_refused m_text m_asked m_heads m_forkBit m_forkFrom m_forkTo m_wayPage m_wayKnown m_wayGuess m_wayDiff m_wayRead m_wayPlace m_treeBit m_treeLeft m_treeRight m_treeAbove m_pileFrom m_pileTo m_pileAbove m_known m_typed m_askedLength m_entries m_forks m_guess m_diff m_read m_placeOf m_treeForks m_treeDeep) H → va_S A s.heap H locs → lv_has ls 6 [(0, .ref (a 0)), (1, .int v1), (2, .int v2), (3, .int v3), (4, .int v4)] → (M_costs_L7 m_s v1 k91 n) m_asked m_heads m_forkBit m_forkFrom m_forkTo m_wayPage m_wayKnown m_wayGuess m_wayDiff m_wayRead m_wayPlace m_askedLength m_entries m_forks m_guess m_diff m_read m_placeOf v2 v3 v4 = some (r, o_asked, o_heads, o_forkBit, o_forkFrom, o_forkTo, o_wayPage, o_wayKnown, o_wayGuess, o_wayDiff, o_wayRead, o_wayPlace, o_askedLength, o_entries, o_forks, o_guess, o_diff, o_read, o_placeOf) → W p l e { frames := 7, cells := 0, slots := 0, locals := 170 } s m args below meth c H locs 0 0 Q (F0 m 7 ls []) := by
  obtain ⟨hx, hb, hml, hr, hown, hts, hlocks, hK, hA, hN⟩ := id C
  intro n
  induction n with
  | zero =>
    intro m_asked m_heads m_forkBit m_forkFrom m_forkTo m_wayPage m_wayKnown m_wayGuess m_wayDiff m_wayRead m_wayPlace m_askedLength m_entries m_forks m_guess m_diff m_read m_placeOf v2 v3 v4 H locs ls hP hS hl hm
    cases hm
  | succ n ih =>
    intro m_asked m_heads m_forkBit m_forkFrom m_forkTo m_wayPage m_wayKnown m_wayGuess m_wayDiff m_wayRead m_wayPlace m_askedLength m_entries m_forks m_guess m_diff m_read m_placeOf v2 v3 v4 H locs ls hP hS hl hm
    rw [M_costs_L7] at hm
    refine lv_iload hx hb dX8_costs_7 (lv_at hl 4 rfl) ?_
    refine lv_aload_n hx hb dX8_costs_9 rfl (lv_at hl 0 rfl) ?_
    refine kg (v := .ref (a 1)) hx hb hts hiX8_costs hown hK hP 0 rfl rfl 0 (by decide) flX8_costs_7 rfl rfl dX8_costs_10 ?_
    refine lv_iconst (v := 0) hx hb dX8_costs_13 (by decide) ?_
    refine k_iald (j := 0) hx hb hK hP 1 0 rfl rfl rfl (vp_lit (by decide)) dX8_costs_14 ?_
    refine lv_icmp_ge (tgt := 91) hx hb dX8_costs_15 (by decide) (fun hc => ?_) (fun hc => ?_)
    · have hm := if_t hc hm
      exact hk91 _ _ _ _ _ _ _ _ _ _ _ _ _ _ _ _ _ _ _ _ _ _ _ hP hS (lv_sub hl [1, 2, 3] rfl) hm
    · have hm := if_f hc hm
      refine lv_aload_n hx hb dX8_costs_18 rfl (lv_at hl 0 rfl) ?_
      refine lv_aload_n hx hb dX8_costs_19 rfl (lv_at hl 0 rfl) ?_
      refine lv_iload hx hb dX8_costs_20 (lv_at hl 4 rfl) ?_
      obtain ⟨r22, hq, hm⟩ := bd1_some hm
      refine k_callVI (As := [.int v4]) (rest := [.ref (a 0)]) ⟨hx, hb, hml, hown, hts⟩ hK hA hN (c_X8_lengthOf (a := a) hq) (cwV 1 hts gX8_costs_X8_lengthOf rfl rfl rfl hdX8_lengthOf ⟨Nat.le_of_ble_eq_true rfl, Nat.le_of_ble_eq_true rfl⟩) hP (va_D_re hD rfl) hS 0 8 rfl rfl rfl hl.1 rfl rfl (Nat.le_of_ble_eq_true rfl) ⟨Nat.zero_le _, Nat.zero_le _⟩ dX8_costs_22 (fun H locs hP hS => ?_)
      refine kp hx hb hts hiX8_costs tyX8 tyX8_ok nmX8 hown hK hP (va_D_re hD rfl) hS 0 rfl rfl 8 (by decide) flX8_costs_83 rfl rfl rfl (Nat.le_of_ble_eq_true rfl) dX8_costs_25 (fun H locs hP hS => ?_)
      have hP : va_P D vwCl (WM a cI m_s m_past m_kept m_refused m_text m_asked m_heads m_forkBit m_forkFrom m_forkTo m_wayPage m_wayKnown m_wayGuess m_wayDiff m_wayRead m_wayPlace m_treeBit m_treeLeft m_treeRight m_treeAbove m_pileFrom m_pileTo m_pileAbove m_known m_typed r22 m_entries m_forks m_guess m_diff m_read m_placeOf m_treeForks m_treeDeep) H := hP
      refine lv_iconst (v := 0) hx hb dX8_costs_28 (by decide) ?_
      refine lv_istore (lv' := [(5, .int 0), (0, .ref (a 0)), (1, .int v1), (2, .int v2), (3, .int v3), (4, .int v4)]) hx hb dX8_costs_29 hl (by decide) rfl (fun ls hl => ?_)
      refine t_M_costs_L31 C hD hret ?_ FU _ _ _ _ _ _ _ _ _ _ _ _ _ _ _ _ _ _ _ _ _ _ _ _ _ hP hS (lv_sub hl [1, 2, 3, 4, 5, 0] rfl) hm
      · intro m_asked m_heads m_forkBit m_forkFrom m_forkTo m_wayPage m_wayKnown m_wayGuess m_wayDiff m_wayRead m_wayPlace m_askedLength m_entries m_forks m_guess m_diff m_read m_placeOf v2 v3 v4 H locs ls hP hS hl hm
        try dsimp only at hm
        refine lv_aload_n hx hb dX8_costs_61 rfl (lv_at hl 0 rfl) ?_
        obtain ⟨r62, m_heads_62, m_forkBit_62, m_forkFrom_62, m_forkTo_62, m_wayPage_62, m_wayKnown_62, m_wayGuess_62, m_wayDiff_62, m_wayRead_62, m_wayPlace_62, m_entries_62, m_forks_62, m_guess_62, m_diff_62, m_read_62, m_placeOf_62, hq, hm⟩ := bd17_some hm
        refine k_callVI (As := []) (rest := []) ⟨hx, hb, hml, hown, hts⟩ hK hA hN (c_X8_cost (a := a) hq) (cwV 0 hts gX8_costs_X8_cost rfl rfl rfl hdX8_cost ⟨Nat.le_of_ble_eq_true rfl, Nat.le_of_ble_eq_true rfl⟩) hP (va_D_re hD rfl) hS 0 8 rfl rfl rfl hl.1 rfl rfl (Nat.le_of_ble_eq_true rfl) ⟨Nat.zero_le _, Nat.zero_le _⟩ dX8_costs_62 (fun H locs hP hS => ?_)
        refine lv_istore (lv' := [(5, .int r62), (0, .ref (a 0)), (1, .int v1), (2, .int v2), (3, .int v3), (4, .int v4)]) hx hb dX8_costs_65 hl (by decide) rfl (fun ls hl => ?_)
        refine lv_iload hx hb dX8_costs_67 (lv_at hl 0 rfl) ?_
        refine lv_iload_n hx hb dX8_costs_69 rfl (lv_at hl 3 rfl) ?_
        refine lv_icmp_le (tgt := 78) hx hb dX8_costs_70 (by decide) (fun hc => ?_) (fun hc => ?_)
        · have hm := if_t hc hm
          refine lv_iload_n hx hb dX8_costs_78 rfl (lv_at hl 3 rfl) ?_
          refine lv_istore_n (lv' := [(2, .int v2), (5, .int r62), (0, .ref (a 0)), (1, .int v1), (3, .int v3), (4, .int v4)]) hx hb dX8_costs_79 rfl hl (by decide) rfl (fun ls hl => ?_)
          refine lv_iload_n hx hb dX8_costs_80 rfl (lv_at hl 4 rfl) ?_
          refine lv_iload hx hb dX8_costs_81 (lv_at hl 1 rfl) ?_
          refine lv_iadd hx hb dX8_costs_83 ?_
          refine lv_istore_n (lv' := [(3, .int (v3 + r62)), (2, .int v2), (5, .int r62), (0, .ref (a 0)), (1, .int v1), (4, .int v4)]) hx hb dX8_costs_84 rfl hl (by decide) rfl (fun ls hl => ?_)
          refine lv_iinc (v := (v4 + 1)) (lv' := [(4, .int (v4 + 1)), (3, .int (v3 + r62)), (2, .int v2), (5, .int r62), (0, .ref (a 0)), (1, .int v1)]) hx hb dX8_costs_85 hl (k := 5) rfl rfl (by decide) rfl (fun ls hl => ?_)
          refine lv_goto (tgt := 7) hx hb dX8_costs_88 (by decide) ?_
          exact ih _ _ _ _ _ _ _ _ _ _ _ _ _ _ _ _ _ _ _ _ _ _ _ _ hP hS (lv_sub hl [4, 5, 2, 1, 0] rfl) hm
        · have hm := if_f hc hm
          refine lv_iload hx hb dX8_costs_73 (lv_at hl 0 rfl) ?_
          refine lv_goto (tgt := 79) hx hb dX8_costs_75 (by decide) ?_
          refine lv_istore_n (lv' := [(2, .int r62), (5, .int r62), (0, .ref (a 0)), (1, .int v1), (3, .int v3), (4, .int v4)]) hx hb dX8_costs_79 rfl hl (by decide) rfl (fun ls hl => ?_)
          refine lv_iload_n hx hb dX8_costs_80 rfl (lv_at hl 4 rfl) ?_
          refine lv_iload hx hb dX8_costs_81 (lv_at hl 1 rfl) ?_
          refine lv_iadd hx hb dX8_costs_83 ?_
          refine lv_istore_n (lv' := [(3, .int (v3 + r62)), (2, .int r62), (5, .int r62), (0, .ref (a 0)), (1, .int v1), (4, .int v4)]) hx hb dX8_costs_84 rfl hl (by decide) rfl (fun ls hl => ?_)
          refine lv_iinc (v := (v4 + 1)) (lv' := [(4, .int (v4 + 1)), (3, .int (v3 + r62)), (2, .int r62), (5, .int r62), (0, .ref (a 0)), (1, .int v1)]) hx hb dX8_costs_85 hl (k := 5) rfl rfl (by decide) rfl (fun ls hl => ?_)
          refine lv_goto (tgt := 7) hx hb dX8_costs_88 (by decide) ?_
          exact ih _ _ _ _ _ _ _ _ _ _ _ _ _ _ _ _ _ _ _ _ _ _ _ _ hP hS (lv_sub hl [4, 5, 2, 1, 0] rfl) hm
set_option maxRecDepth 100000 in
set_option maxHeartbeats 4000000 in
theorem c_X8_costs {l : Launch} {D : va_G} {cI cJ cB cL cS cW : ClassId} {a : Nat → Nat} {m_s m_past m_kept m_refused m_text m_asked m_heads m_forkBit m_forkFrom m_forkTo m_wayPage m_wayKnown m_wayGuess m_wayDiff m_wayRead m_wayPlace m_treeBit m_treeLeft m_treeRight m_treeAbove m_pileFrom m_pileTo m_pileAbove : Nat → Int32} {m_known m_typed m_askedLength m_entries m_forks m_guess m_diff m_read m_placeOf m_treeForks m_treeDeep : Int32} {v1 : Int32} {r : Int32} {o_asked : Nat → Int32} {o_heads : Nat → Int32} {o_forkBit : Nat → Int32} {o_forkFrom : Nat → Int32} {o_forkTo : Nat → Int32} {o_wayPage : Nat → Int32} {o_wayKnown : Nat → Int32} {o_wayGuess : Nat → Int32} {o_wayDiff : Nat → Int32} {o_wayRead : Nat → Int32} {o_wayPlace : Nat → Int32} {o_askedLength : Int32} {o_entries : Int32} {o_forks : Int32} {o_guess : Int32} {o_diff : Int32} {o_read : Int32} {o_placeOf : Int32} (hm : M_costs m_s m_asked m_heads m_forkBit m_forkFrom m_forkTo m_wayPage m_wayKnown m_wayGuess m_wayDiff m_wayRead m_wayPlace m_askedLength m_entries m_forks m_guess m_diff m_read m_placeOf v1 = some (r, o_asked, o_heads, o_forkBit, o_forkFrom, o_forkTo, o_wayPage, o_wayKnown, o_wayGuess, o_wayDiff, o_wayRead, o_wayPlace, o_askedLength, o_entries, o_forks, o_guess, o_diff, o_read, o_placeOf)) : k_MI l yX8_costs wsX8_costs { frames := 7, cells := 0, slots := 0, locals := 170 } D (kT cI cJ cB cL cS cW) [.ref (a 0), .int v1] (WM a cI m_s m_past m_kept m_refused m_text m_asked m_heads m_forkBit m_forkFrom m_forkTo m_wayPage m_wayKnown m_wayGuess m_wayDiff m_wayRead m_wayPlace m_treeBit m_treeLeft m_treeRight m_treeAbove m_pileFrom m_pileTo m_pileAbove m_known m_typed m_askedLength m_entries m_forks m_guess m_diff m_read m_placeOf m_treeForks m_treeDeep) r (WM a cI m_s m_past m_kept m_refused m_text o_asked o_heads o_forkBit o_forkFrom o_forkTo o_wayPage o_wayKnown o_wayGuess o_wayDiff o_wayRead o_wayPlace m_treeBit m_treeLeft m_treeRight m_treeAbove m_pileFrom m_pileTo m_pileAbove m_known m_typed o_askedLength o_entries o_forks o_guess o_diff o_read o_placeOf m_treeForks m_treeDeep) := by
  refine k_ofI (cc := cX8_costs) (maxL := 6) (own := RX8) (by decide) rfl rfl (Nat.le_of_ble_eq_true rfl) ?_
  intro p e s m args below meth c A Q ls C hP hD hl hret
  have hD : va_D A (WM0 a cI) := va_D_re hD rfl
  have hS : va_S A s.heap s.heap [] := va_S.rf
  have hl : lv_has ls 6 [(0, .ref (a 0)), (1, .int v1)] := hl
  obtain ⟨hx, hb, hml, hr, hown, hts, hlocks, hK, hA, hN⟩ := id C
  rw [M_costs] at hm
  refine lv_iconst (v := 0) hx hb dX8_costs_0 (by decide) ?_
  refine lv_istore_n (lv' := [(2, .int 0), (0, .ref (a 0)), (1, .int v1)]) hx hb dX8_costs_1 rfl hl (by decide) rfl (fun ls hl => ?_)
  refine lv_iconst (v := 0) hx hb dX8_costs_2 (by decide) ?_
  refine lv_istore_n (lv' := [(3, .int 0), (2, .int 0), (0, .ref (a 0)), (1, .int v1)]) hx hb dX8_costs_3 rfl hl (by decide) rfl (fun ls hl => ?_)
  refine lv_iconst (v := 0) hx hb dX8_costs_4 (by decide) ?_
  refine lv_istore (lv' := [(4, .int 0), (3, .int 0), (2, .int 0), (0, .ref (a 0)), (1, .int v1)]) hx hb dX8_costs_5 hl (by decide) rfl (fun ls hl => ?_)
  refine t_M_costs_L7 C hD hret ?_ FU _ _ _ _ _ _ _ _ _ _ _ _ _ _ _ _ _ _ _ _ _ _ _ _ hP hS (lv_sub hl [3, 4, 2, 1, 0] rfl) hm
  · intro m_asked m_heads m_forkBit m_forkFrom m_forkTo m_wayPage m_wayKnown m_wayGuess m_wayDiff m_wayRead m_wayPlace m_askedLength m_entries m_forks m_guess m_diff m_read m_placeOf v2 v3 H locs ls hP hS hl hm
    try dsimp only at hm
    refine lv_iload_n hx hb dX8_costs_91 rfl (lv_at hl 0 rfl) ?_
    refine lv_if_eq (tgt := 99) hx hb dX8_costs_92 (by decide) (fun hc => ?_) (fun hc => ?_)
    · have hm := if_t hc hm
      refine lv_iload_n hx hb dX8_costs_99 rfl (lv_at hl 1 rfl) ?_
      simp only [Option.some.injEq, Prod.mk.injEq] at hm
      obtain ⟨rfl, rfl, rfl, rfl, rfl, rfl, rfl, rfl, rfl, rfl, rfl, rfl, rfl, rfl, rfl, rfl, rfl, rfl, rfl⟩ := hm
      exact hret _ _ _ _ dX8_costs_100 hP hS
    · have hm := if_f hc hm
      refine lv_iload_n hx hb dX8_costs_95 rfl (lv_at hl 2 rfl) ?_
      refine lv_goto (tgt := 100) hx hb dX8_costs_96 (by decide) ?_
      simp only [Option.some.injEq, Prod.mk.injEq] at hm
      obtain ⟨rfl, rfl, rfl, rfl, rfl, rfl, rfl, rfl, rfl, rfl, rfl, rfl, rfl, rfl, rfl, rfl, rfl, rfl, rfl⟩ := hm
      exact hret _ _ _ _ dX8_costs_100 hP hS
theorem hdX8_fewest : yX8_fewest.cls = RX8 ∧ yX8_fewest.cls ≠ "java/lang/invoke/MethodHandle" ∧ yX8_fewest.cls ≠ "java/lang/invoke/VarHandle" ∧ (parseMethodDescriptor yX8_fewest.desc).map (fun d => d.parameters.length) = some 0 := by decide +kernel
theorem hiX8_fewest : ∀ w ∈ u_ws RX8 TX8 34, w ∈ wsX8_fewest := by decide +kernel
theorem flX8_fewest_7 : Cond.fieldLink RX8 7 "BlindPagesModel" "s" "[I" ∈ wsX8_fewest := by decide +kernel
def M_fewest_J41 (m_s : Nat → Int32) (k14 : Int32 → Int32 → Int32 → Option (Int32)) (k58 : Int32 → Int32 → Option (Int32)) (v2 : Int32) (v3 : Int32) : Option (Int32) := bd1 (M_sizeOf m_s v2 v3) fun r44 => k14 r44 v2 (v3 + 1)
def M_fewest_L14 (m_s : Nat → Int32) (k58 : Int32 → Int32 → Option (Int32)) : Nat → Int32 → Int32 → Int32 → Option (Int32)
  | 0, _, _, _ => none
  | n + 1, v1, v2, v3 => ga (3 + v2) 1552 (if (m_s (3 + v2).toNatClampNeg) ≤ v3 then (k58 v1 v2) else (if v1 = (-1) then (M_fewest_J41 m_s (M_fewest_L14 m_s k58 n) k58 v2 v3) else (bd1 (M_sizeOf m_s v2 v3) fun r34 => if v1 ≤ r34 then (M_fewest_L14 m_s k58 n v1 v2 (v3 + 1)) else (M_fewest_J41 m_s (M_fewest_L14 m_s k58 n) k58 v2 v3))))
def M_fewest_L4 (m_s : Nat → Int32) (k64 : Int32 → Option (Int32)) : Nat → Int32 → Int32 → Option (Int32)
  | 0, _, _ => none
  | n + 1, v1, v2 => bd1 (M_topLevel m_s) fun r6 => if r6 ≤ v2 then (k64 v1) else (M_fewest_L14 m_s (fun v1 v2 => M_fewest_L4 m_s k64 n v1 (v2 + 1)) FU v1 v2 0)
def M_fewest (m_s : Nat → Int32) : Option (Int32) := M_fewest_L4 m_s (fun v1 => some v1) FU (-1) 0
set_option maxRecDepth 100000 in
set_option maxHeartbeats 4000000 in
theorem t_M_fewest_J41 {p : Program} {l : Launch} {e : Env} {s : State} {m : MethodId} {args : Array Value} {below : List Frame} {meth : Method} {c : Code} {Q : State → Prop} {A : Nat → Prop} {D : va_G} {cI cJ cB cL cS cW : ClassId} {a : Nat → Nat} {m_s m_past m_kept m_refused m_text m_asked m_heads m_forkBit m_forkFrom m_forkTo m_wayPage m_wayKnown m_wayGuess m_wayDiff m_wayRead m_wayPlace m_treeBit m_treeLeft m_treeRight m_treeAbove m_pileFrom m_pileTo m_pileAbove : Nat → Int32} {m_known m_typed m_askedLength m_entries m_forks m_guess m_diff m_read m_placeOf m_treeForks m_treeDeep : Int32} {r : Int32} (C : k_C p s m args meth c cX8_fewest 4 (some .int) RX8 wsX8_fewest D (kT cI cJ cB cL cS cW) A) (hD : va_D A (WM0 a cI)) (hret : ∀ (H : Heap) (locs : List Loc) (pc : Nat) (ls : Array Slot), decode cX8_fewest pc = .ok (.ireturn, 1) → va_P D vwCl (WM a cI m_s m_past m_kept m_refused m_text m_asked m_heads m_forkBit m_forkFrom m_forkTo m_wayPage m_wayKnown m_wayGuess m_wayDiff m_wayRead m_wayPlace m_treeBit m_treeLeft m_treeRight m_treeAbove m_pileFrom m_pileTo m_pileAbove m_known m_typed m_askedLength m_entries m_forks m_guess m_diff m_read m_placeOf m_treeForks m_treeDeep) H → va_S A s.heap H locs → W p l e { frames := 1, cells := 0, slots := 0, locals := 22 } s m args below meth c H locs 0 0 Q (F0 m pc ls [.int r])) {k14 : Int32 → Int32 → Int32 → Option (Int32)} (hk14 : ∀ (v1 : Int32) (v2 : Int32) (v3 : Int32) (H : Heap) (locs : List Loc) (ls : Array Slot), va_P D vwCl (WM a cI m_s m_past m_kept m_refused m_text m_asked m_heads m_forkBit m_forkFrom m_forkTo m_wayPage m_wayKnown m_wayGuess m_wayDiff m_wayRead m_wayPlace m_treeBit m_treeLeft m_treeRight m_treeAbove m_pileFrom m_pileTo m_pileAbove m_known m_typed m_askedLength m_entries m_forks m_guess m_diff m_read m_placeOf m_treeForks m_treeDeep) H → va_S A s.heap H locs → lv_has ls 4 [(0, .ref (a 0)), (1, .int v1), (2, .int v2), (3, .int v3)] → k14 v1 v2 v3 = some r → W p l e { frames := 1, cells := 0, slots := 0, locals := 22 } s m args below meth c H locs 0 0 Q (F0 m 14 ls [])) {k58 : Int32 → Int32 → Option (Int32)} (hk58 : ∀ (v1 : Int32) (v2 : Int32) (H : Heap) (locs : List Loc) (ls : Array Slot), va_P D vwCl (WM a cI m_s m_past m_kept m_refused m_text m_asked m_heads m_forkBit m_forkFrom m_forkTo m_wayPage m_wayKnown m_wayGuess m_wayDiff m_wayRead m_wayPlace m_treeBit m_treeLeft m_treeRight m_treeAbove m_pileFrom m_pileTo m_pileAbove m_known m_typed m_askedLength m_entries m_forks m_guess m_diff m_read m_placeOf m_treeForks m_treeDeep) H → va_S A s.heap H locs → lv_has ls 4 [(0, .ref (a 0)), (1, .int v1), (2, .int v2)] → k58 v1 v2 = some r → W p l e { frames := 1, cells := 0, slots := 0, locals := 22 } s m args below meth c H locs 0 0 Q (F0 m 58 ls [])) : ∀ (v2 : Int32) (v3 : Int32) (H : Heap) (locs : List Loc) (ls : Array Slot), va_P D vwCl (WM a cI m_s m_past m_kept m_refused m_text m_asked m_heads m_forkBit m_forkFrom m_forkTo m_wayPage m_wayKnown m_wayGuess m_wayDiff m_wayRead m_wayPlace m_treeBit m_treeLeft m_treeRight m_treeAbove m_pileFrom m_pileTo m_pileAbove m_known m_typed m_askedLength m_entries m_forks m_guess m_diff m_read m_placeOf m_treeForks m_treeDeep) H → va_S A s.heap H locs → lv_has ls 4 [(0, .ref (a 0)), (2, .int v2), (3, .int v3)] → M_fewest_J41 m_s k14 k58 v2 v3 = some r → W p l e { frames := 1, cells := 0, slots := 0, locals := 22 } s m args below meth c H locs 0 0 Q (F0 m 41 ls []) := by
  obtain ⟨hx, hb, hml, hr, hown, hts, hlocks, hK, hA, hN⟩ := id C
  intro v2 v3 H locs ls hP hS hl hm
  rw [M_fewest_J41] at hm
  refine lv_aload_n hx hb dX8_fewest_41 rfl (lv_at hl 0 rfl) ?_
  refine lv_iload_n hx hb dX8_fewest_42 rfl (lv_at hl 1 rfl) ?_
  refine lv_iload_n hx hb dX8_fewest_43 rfl (lv_at hl 2 rfl) ?_
  obtain ⟨r44, hq, hm⟩ := bd1_some hm
  refine k_callVI (As := [.int v2, .int v3]) (rest := []) ⟨hx, hb, hml, hown, hts⟩ hK hA hN (c_X8_sizeOf (a := a) hq) (cwV 2 hts gX8_fewest_X8_sizeOf rfl rfl rfl hdX8_sizeOf ⟨Nat.le_of_ble_eq_true rfl, Nat.le_of_ble_eq_true rfl⟩) hP (va_D_re hD rfl) hS 0 8 rfl rfl rfl hl.1 rfl rfl (Nat.le_of_ble_eq_true rfl) ⟨Nat.zero_le _, Nat.zero_le _⟩ dX8_fewest_44 (fun H locs hP hS => ?_)
  refine lv_goto (tgt := 51) hx hb dX8_fewest_47 (by decide) ?_
  refine lv_istore_n (lv' := [(1, .int r44), (0, .ref (a 0)), (2, .int v2), (3, .int v3)]) hx hb dX8_fewest_51 rfl hl (by decide) rfl (fun ls hl => ?_)
  refine lv_iinc (v := (v3 + 1)) (lv' := [(3, .int (v3 + 1)), (1, .int r44), (0, .ref (a 0)), (2, .int v2)]) hx hb dX8_fewest_52 hl (k := 3) rfl rfl (by decide) rfl (fun ls hl => ?_)
  refine lv_goto (tgt := 14) hx hb dX8_fewest_55 (by decide) ?_
  exact hk14 _ _ _ _ _ _ hP hS (lv_sub hl [2, 1, 3, 0] rfl) hm
set_option maxRecDepth 100000 in
set_option maxHeartbeats 4000000 in
theorem t_M_fewest_L14 {p : Program} {l : Launch} {e : Env} {s : State} {m : MethodId} {args : Array Value} {below : List Frame} {meth : Method} {c : Code} {Q : State → Prop} {A : Nat → Prop} {D : va_G} {cI cJ cB cL cS cW : ClassId} {a : Nat → Nat} {m_s m_past m_kept m_refused m_text m_asked m_heads m_forkBit m_forkFrom m_forkTo m_wayPage m_wayKnown m_wayGuess m_wayDiff m_wayRead m_wayPlace m_treeBit m_treeLeft m_treeRight m_treeAbove m_pileFrom m_pileTo m_pileAbove : Nat → Int32} {m_known m_typed m_askedLength m_entries m_forks m_guess m_diff m_read m_placeOf m_treeForks m_treeDeep : Int32} {r : Int32} (C : k_C p s m args meth c cX8_fewest 4 (some .int) RX8 wsX8_fewest D (kT cI cJ cB cL cS cW) A) (hD : va_D A (WM0 a cI)) (hret : ∀ (H : Heap) (locs : List Loc) (pc : Nat) (ls : Array Slot), decode cX8_fewest pc = .ok (.ireturn, 1) → va_P D vwCl (WM a cI m_s m_past m_kept m_refused m_text m_asked m_heads m_forkBit m_forkFrom m_forkTo m_wayPage m_wayKnown m_wayGuess m_wayDiff m_wayRead m_wayPlace m_treeBit m_treeLeft m_treeRight m_treeAbove m_pileFrom m_pileTo m_pileAbove m_known m_typed m_askedLength m_entries m_forks m_guess m_diff m_read m_placeOf m_treeForks m_treeDeep) H → va_S A s.heap H locs → W p l e { frames := 1, cells := 0, slots := 0, locals := 22 } s m args below meth c H locs 0 0 Q (F0 m pc ls [.int r])) {k58 : Int32 → Int32 → Option (Int32)} (hk58 : ∀ (v1 : Int32) (v2 : Int32) (H : Heap) (locs : List Loc) (ls : Array Slot), va_P D vwCl (WM a cI m_s m_past m_kept m_refused m_text m_asked m_heads m_forkBit m_forkFrom m_forkTo m_wayPage m_wayKnown m_wayGuess m_wayDiff m_wayRead m_wayPlace m_treeBit m_treeLeft m_treeRight m_treeAbove m_pileFrom m_pileTo m_pileAbove m_known m_typed m_askedLength m_entries m_forks m_guess m_diff m_read m_placeOf m_treeForks m_treeDeep) H → va_S A s.heap H locs → lv_has ls 4 [(0, .ref (a 0)), (1, .int v1), (2, .int v2)] → k58 v1 v2 = some r → W p l e { frames := 1, cells := 0, slots := 0, locals := 22 } s m args below meth c H locs 0 0 Q (F0 m 58 ls [])) : ∀ n : Nat, ∀ (v1 : Int32) (v2 : Int32) (v3 : Int32) (H : Heap) (locs : List Loc) (ls : Array Slot), va_P D vwCl (WM a cI m_s m_past m_kept m_refused m_text m_asked m_heads m_forkBit m_forkFrom m_forkTo m_wayPage m_wayKnown m_wayGuess m_wayDiff m_wayRead m_wayPlace m_treeBit m_treeLeft m_treeRight m_treeAbove m_pileFrom m_pileTo m_pileAbove m_known m_typed m_askedLength m_entries m_forks m_guess m_diff m_read m_placeOf m_treeForks m_treeDeep) H → va_S A s.heap H locs → lv_has ls 4 [(0, .ref (a 0)), (1, .int v1), (2, .int v2), (3, .int v3)] → (M_fewest_L14 m_s k58 n) v1 v2 v3 = some r → W p l e { frames := 1, cells := 0, slots := 0, locals := 22 } s m args below meth c H locs 0 0 Q (F0 m 14 ls []) := by
  obtain ⟨hx, hb, hml, hr, hown, hts, hlocks, hK, hA, hN⟩ := id C
  intro n
  induction n with
  | zero =>
    intro v1 v2 v3 H locs ls hP hS hl hm
    cases hm
  | succ n ih =>
    intro v1 v2 v3 H locs ls hP hS hl hm
    rw [M_fewest_L14] at hm
    refine lv_iload_n hx hb dX8_fewest_14 rfl (lv_at hl 3 rfl) ?_
    refine lv_aload_n hx hb dX8_fewest_15 rfl (lv_at hl 0 rfl) ?_
    refine kg (v := .ref (a 1)) hx hb hts hiX8_fewest hown hK hP 0 rfl rfl 0 (by decide) flX8_fewest_7 rfl rfl dX8_fewest_16 ?_
    refine lv_iconst (v := 3) hx hb dX8_fewest_19 (by decide) ?_
    refine lv_iload_n hx hb dX8_fewest_20 rfl (lv_at hl 2 rfl) ?_
    refine lv_iadd hx hb dX8_fewest_21 ?_
    obtain ⟨hi, hm⟩ := ga_some hm
    refine k_iald hx hb hK hP 1 0 rfl rfl rfl hi dX8_fewest_22 ?_
    refine lv_icmp_ge (tgt := 58) hx hb dX8_fewest_23 (by decide) (fun hc => ?_) (fun hc => ?_)
    · have hm := if_t hc hm
      exact hk58 _ _ _ _ _ hP hS (lv_sub hl [0, 1, 2] rfl) hm
    · have hm := if_f hc hm
      refine lv_iload_n hx hb dX8_fewest_26 rfl (lv_at hl 1 rfl) ?_
      refine lv_iconst (v := (-1)) hx hb dX8_fewest_27 (by decide) ?_
      refine lv_icmp_eq (tgt := 41) hx hb dX8_fewest_28 (by decide) (fun hc => ?_) (fun hc => ?_)
      · have hm := if_t hc hm
        exact t_M_fewest_J41 C hD hret ih hk58 _ _ _ _ _ hP hS (lv_sub hl [0, 2, 3] rfl) hm
      · have hm := if_f hc hm
        refine lv_aload_n hx hb dX8_fewest_31 rfl (lv_at hl 0 rfl) ?_
        refine lv_iload_n hx hb dX8_fewest_32 rfl (lv_at hl 2 rfl) ?_
        refine lv_iload_n hx hb dX8_fewest_33 rfl (lv_at hl 3 rfl) ?_
        obtain ⟨r34, hq, hm⟩ := bd1_some hm
        refine k_callVI (As := [.int v2, .int v3]) (rest := []) ⟨hx, hb, hml, hown, hts⟩ hK hA hN (c_X8_sizeOf (a := a) hq) (cwV 2 hts gX8_fewest_X8_sizeOf rfl rfl rfl hdX8_sizeOf ⟨Nat.le_of_ble_eq_true rfl, Nat.le_of_ble_eq_true rfl⟩) hP (va_D_re hD rfl) hS 0 8 rfl rfl rfl hl.1 rfl rfl (Nat.le_of_ble_eq_true rfl) ⟨Nat.zero_le _, Nat.zero_le _⟩ dX8_fewest_34 (fun H locs hP hS => ?_)
        refine lv_iload_n hx hb dX8_fewest_37 rfl (lv_at hl 1 rfl) ?_
        refine lv_icmp_ge (tgt := 50) hx hb dX8_fewest_38 (by decide) (fun hc => ?_) (fun hc => ?_)
        · have hm := if_t hc hm
          refine lv_iload_n hx hb dX8_fewest_50 rfl (lv_at hl 1 rfl) ?_
          refine lv_istore_n (lv' := [(1, .int v1), (0, .ref (a 0)), (2, .int v2), (3, .int v3)]) hx hb dX8_fewest_51 rfl hl (by decide) rfl (fun ls hl => ?_)
          refine lv_iinc (v := (v3 + 1)) (lv' := [(3, .int (v3 + 1)), (1, .int v1), (0, .ref (a 0)), (2, .int v2)]) hx hb dX8_fewest_52 hl (k := 3) rfl rfl (by decide) rfl (fun ls hl => ?_)
          refine lv_goto (tgt := 14) hx hb dX8_fewest_55 (by decide) ?_
          exact ih _ _ _ _ _ _ hP hS (lv_sub hl [2, 1, 3, 0] rfl) hm
        · have hm := if_f hc hm
          exact t_M_fewest_J41 C hD hret ih hk58 _ _ _ _ _ hP hS (lv_sub hl [0, 2, 3] rfl) hm
set_option maxRecDepth 100000 in
set_option maxHeartbeats 4000000 in
theorem t_M_fewest_L4 {p : Program} {l : Launch} {e : Env} {s : State} {m : MethodId} {args : Array Value} {below : List Frame} {meth : Method} {c : Code} {Q : State → Prop} {A : Nat → Prop} {D : va_G} {cI cJ cB cL cS cW : ClassId} {a : Nat → Nat} {m_s m_past m_kept m_refused m_text m_asked m_heads m_forkBit m_forkFrom m_forkTo m_wayPage m_wayKnown m_wayGuess m_wayDiff m_wayRead m_wayPlace m_treeBit m_treeLeft m_treeRight m_treeAbove m_pileFrom m_pileTo m_pileAbove : Nat → Int32} {m_known m_typed m_askedLength m_entries m_forks m_guess m_diff m_read m_placeOf m_treeForks m_treeDeep : Int32} {r : Int32} (C : k_C p s m args meth c cX8_fewest 4 (some .int) RX8 wsX8_fewest D (kT cI cJ cB cL cS cW) A) (hD : va_D A (WM0 a cI)) (hret : ∀ (H : Heap) (locs : List Loc) (pc : Nat) (ls : Array Slot), decode cX8_fewest pc = .ok (.ireturn, 1) → va_P D vwCl (WM a cI m_s m_past m_kept m_refused m_text m_asked m_heads m_forkBit m_forkFrom m_forkTo m_wayPage m_wayKnown m_wayGuess m_wayDiff m_wayRead m_wayPlace m_treeBit m_treeLeft m_treeRight m_treeAbove m_pileFrom m_pileTo m_pileAbove m_known m_typed m_askedLength m_entries m_forks m_guess m_diff m_read m_placeOf m_treeForks m_treeDeep) H → va_S A s.heap H locs → W p l e { frames := 1, cells := 0, slots := 0, locals := 22 } s m args below meth c H locs 0 0 Q (F0 m pc ls [.int r])) {k64 : Int32 → Option (Int32)} (hk64 : ∀ (v1 : Int32) (H : Heap) (locs : List Loc) (ls : Array Slot), va_P D vwCl (WM a cI m_s m_past m_kept m_refused m_text m_asked m_heads m_forkBit m_forkFrom m_forkTo m_wayPage m_wayKnown m_wayGuess m_wayDiff m_wayRead m_wayPlace m_treeBit m_treeLeft m_treeRight m_treeAbove m_pileFrom m_pileTo m_pileAbove m_known m_typed m_askedLength m_entries m_forks m_guess m_diff m_read m_placeOf m_treeForks m_treeDeep) H → va_S A s.heap H locs → lv_has ls 4 [(1, .int v1)] → k64 v1 = some r → W p l e { frames := 1, cells := 0, slots := 0, locals := 22 } s m args below meth c H locs 0 0 Q (F0 m 64 ls [])) : ∀ n : Nat, ∀ (v1 : Int32) (v2 : Int32) (H : Heap) (locs : List Loc) (ls : Array Slot), va_P D vwCl (WM a cI m_s m_past m_kept m_refused m_text m_asked m_heads m_forkBit m_forkFrom m_forkTo m_wayPage m_wayKnown m_wayGuess m_wayDiff m_wayRead m_wayPlace m_treeBit m_treeLeft m_treeRight m_treeAbove m_pileFrom m_pileTo m_pileAbove m_known m_typed m_askedLength m_entries m_forks m_guess m_diff m_read m_placeOf m_treeForks m_treeDeep) H → va_S A s.heap H locs → lv_has ls 4 [(0, .ref (a 0)), (1, .int v1), (2, .int v2)] → (M_fewest_L4 m_s k64 n) v1 v2 = some r → W p l e { frames := 1, cells := 0, slots := 0, locals := 22 } s m args below meth c H locs 0 0 Q (F0 m 4 ls []) := by
  obtain ⟨hx, hb, hml, hr, hown, hts, hlocks, hK, hA, hN⟩ := id C
  intro n
  induction n with
  | zero =>
    intro v1 v2 H locs ls hP hS hl hm
    cases hm
  | succ n ih =>
    intro v1 v2 H locs ls hP hS hl hm
    rw [M_fewest_L4] at hm
    refine lv_iload_n hx hb dX8_fewest_4 rfl (lv_at hl 2 rfl) ?_
    refine lv_aload_n hx hb dX8_fewest_5 rfl (lv_at hl 0 rfl) ?_
    obtain ⟨r6, hq, hm⟩ := bd1_some hm
    refine k_callVI (As := []) (rest := [.int v2]) ⟨hx, hb, hml, hown, hts⟩ hK hA hN (c_X8_topLevel (a := a) hq) (cwV 0 hts gX8_fewest_X8_topLevel rfl rfl rfl hdX8_topLevel ⟨Nat.le_of_ble_eq_true rfl, Nat.le_of_ble_eq_true rfl⟩) hP (va_D_re hD rfl) hS 0 8 rfl rfl rfl hl.1 rfl rfl (Nat.le_of_ble_eq_true rfl) ⟨Nat.zero_le _, Nat.zero_le _⟩ dX8_fewest_6 (fun H locs hP hS => ?_)
    refine lv_icmp_ge (tgt := 64) hx hb dX8_fewest_9 (by decide) (fun hc => ?_) (fun hc => ?_)
    · have hm := if_t hc hm
      exact hk64 _ _ _ _ hP hS (lv_sub hl [1] rfl) hm
    · have hm := if_f hc hm
      refine lv_iconst (v := 0) hx hb dX8_fewest_12 (by decide) ?_
      refine lv_istore_n (lv' := [(3, .int 0), (0, .ref (a 0)), (1, .int v1), (2, .int v2)]) hx hb dX8_fewest_13 rfl hl (by decide) rfl (fun ls hl => ?_)
      refine t_M_fewest_L14 C hD hret ?_ FU _ _ _ _ _ _ hP hS (lv_sub hl [1, 2, 3, 0] rfl) hm
      · intro v1 v2 H locs ls hP hS hl hm
        try dsimp only at hm
        refine lv_iinc (v := (v2 + 1)) (lv' := [(2, .int (v2 + 1)), (0, .ref (a 0)), (1, .int v1)]) hx hb dX8_fewest_58 hl (k := 2) rfl rfl (by decide) rfl (fun ls hl => ?_)
        refine lv_goto (tgt := 4) hx hb dX8_fewest_61 (by decide) ?_
        exact ih _ _ _ _ _ hP hS (lv_sub hl [1, 2, 0] rfl) hm
set_option maxRecDepth 100000 in
set_option maxHeartbeats 4000000 in
theorem c_X8_fewest {l : Launch} {D : va_G} {cI cJ cB cL cS cW : ClassId} {a : Nat → Nat} {m_s m_past m_kept m_refused m_text m_asked m_heads m_forkBit m_forkFrom m_forkTo m_wayPage m_wayKnown m_wayGuess m_wayDiff m_wayRead m_wayPlace m_treeBit m_treeLeft m_treeRight m_treeAbove m_pileFrom m_pileTo m_pileAbove : Nat → Int32} {m_known m_typed m_askedLength m_entries m_forks m_guess m_diff m_read m_placeOf m_treeForks m_treeDeep : Int32} {r : Int32} (hm : M_fewest m_s = some r) : k_MI l yX8_fewest wsX8_fewest { frames := 1, cells := 0, slots := 0, locals := 22 } D (kT cI cJ cB cL cS cW) [.ref (a 0)] (WM a cI m_s m_past m_kept m_refused m_text m_asked m_heads m_forkBit m_forkFrom m_forkTo m_wayPage m_wayKnown m_wayGuess m_wayDiff m_wayRead m_wayPlace m_treeBit m_treeLeft m_treeRight m_treeAbove m_pileFrom m_pileTo m_pileAbove m_known m_typed m_askedLength m_entries m_forks m_guess m_diff m_read m_placeOf m_treeForks m_treeDeep) r (WM a cI m_s m_past m_kept m_refused m_text m_asked m_heads m_forkBit m_forkFrom m_forkTo m_wayPage m_wayKnown m_wayGuess m_wayDiff m_wayRead m_wayPlace m_treeBit m_treeLeft m_treeRight m_treeAbove m_pileFrom m_pileTo m_pileAbove m_known m_typed m_askedLength m_entries m_forks m_guess m_diff m_read m_placeOf m_treeForks m_treeDeep) := by
  refine k_ofI (cc := cX8_fewest) (maxL := 4) (own := RX8) (by decide) rfl rfl (Nat.le_of_ble_eq_true rfl) ?_
  intro p e s m args below meth c A Q ls C hP hD hl hret
  have hD : va_D A (WM0 a cI) := va_D_re hD rfl
  have hS : va_S A s.heap s.heap [] := va_S.rf
  have hl : lv_has ls 4 [(0, .ref (a 0))] := hl
  obtain ⟨hx, hb, hml, hr, hown, hts, hlocks, hK, hA, hN⟩ := id C
  rw [M_fewest] at hm
  refine lv_iconst (v := (-1)) hx hb dX8_fewest_0 (by decide) ?_
  refine lv_istore_n (lv' := [(1, .int (-1)), (0, .ref (a 0))]) hx hb dX8_fewest_1 rfl hl (by decide) rfl (fun ls hl => ?_)
  refine lv_iconst (v := 0) hx hb dX8_fewest_2 (by decide) ?_
  refine lv_istore_n (lv' := [(2, .int 0), (1, .int (-1)), (0, .ref (a 0))]) hx hb dX8_fewest_3 rfl hl (by decide) rfl (fun ls hl => ?_)
  refine t_M_fewest_L4 C hD hret ?_ FU _ _ _ _ _ hP hS (lv_sub hl [2, 1, 0] rfl) hm
  · intro v1 H locs ls hP hS hl hm
    try dsimp only at hm
    refine lv_iload_n hx hb dX8_fewest_64 rfl (lv_at hl 0 rfl) ?_
    obtain rfl := Option.some.inj hm
    exact hret _ _ _ _ dX8_fewest_65 hP hS
