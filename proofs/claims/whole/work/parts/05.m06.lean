theorem hdX8_type : yX8_type.cls = RX8 ∧ yX8_type.cls ≠ "java/lang/invoke/MethodHandle" ∧ yX8_type.cls ≠ "java/lang/invoke/VarHandle" ∧ (parseMethodDescriptor yX8_type.desc).map (fun d => d.parameters.length) = some 1 := by decide +kernel
theorem hiX8_type : ∀ w ∈ u_ws RX8 TX8 34, w ∈ wsX8_type := by decide +kernel
theorem flX8_type_182 : Cond.fieldLink RX8 182 "BlindPagesModel" "typed" "I" ∈ wsX8_type := by decide +kernel
theorem flX8_type_22 : Cond.fieldLink RX8 22 "BlindPagesModel" "text" "[I" ∈ wsX8_type := by decide +kernel
def M_type (m_refused m_text : Nat → Int32) (m_typed : Int32) (v1 : Int32) : Option (Int32 × (Nat → Int32) × (Nat → Int32) × Int32) := bd1 (M_in v1 0 127) fun r4 => if r4 = 0 then (bd2 (M_refuses m_refused (-2)) fun r13 m_refused_13 => some (r13, m_refused_13, m_text, m_typed)) else (if m_typed = 120 then (bd2 (M_refuses m_refused (-4)) fun r29 m_refused_29 => some (r29, m_refused_29, m_text, m_typed)) else (ga m_typed 120 (some ((m_typed + 1), m_refused, (upd m_text m_typed.toNatClampNeg v1), (m_typed + 1)))))
set_option maxRecDepth 100000 in
set_option maxHeartbeats 4000000 in
theorem c_X8_type {l : Launch} {D : va_G} {cI cJ cB cL cS cW : ClassId} {a : Nat → Nat} {m_s m_past m_kept m_refused m_text m_asked m_heads m_forkBit m_forkFrom m_forkTo m_wayPage m_wayKnown m_wayGuess m_wayDiff m_wayRead m_wayPlace m_treeBit m_treeLeft m_treeRight m_treeAbove m_pileFrom m_pileTo m_pileAbove : Nat → Int32} {m_known m_typed m_askedLength m_entries m_forks m_guess m_diff m_read m_placeOf m_treeForks m_treeDeep : Int32} {v1 : Int32} {r : Int32} {o_refused : Nat → Int32} {o_text : Nat → Int32} {o_typed : Int32} (hm : M_type m_refused m_text m_typed v1 = some (r, o_refused, o_text, o_typed)) : k_MI l yX8_type wsX8_type { frames := 1, cells := 0, slots := 0, locals := 22 } D (kT cI cJ cB cL cS cW) [.ref (a 0), .int v1] (WM a cI m_s m_past m_kept m_refused m_text m_asked m_heads m_forkBit m_forkFrom m_forkTo m_wayPage m_wayKnown m_wayGuess m_wayDiff m_wayRead m_wayPlace m_treeBit m_treeLeft m_treeRight m_treeAbove m_pileFrom m_pileTo m_pileAbove m_known m_typed m_askedLength m_entries m_forks m_guess m_diff m_read m_placeOf m_treeForks m_treeDeep) r (WM a cI m_s m_past m_kept o_refused o_text m_asked m_heads m_forkBit m_forkFrom m_forkTo m_wayPage m_wayKnown m_wayGuess m_wayDiff m_wayRead m_wayPlace m_treeBit m_treeLeft m_treeRight m_treeAbove m_pileFrom m_pileTo m_pileAbove m_known o_typed m_askedLength m_entries m_forks m_guess m_diff m_read m_placeOf m_treeForks m_treeDeep) := by
  refine k_ofI (cc := cX8_type) (maxL := 2) (own := RX8) (by decide) rfl rfl (Nat.le_of_ble_eq_true rfl) ?_
  intro p e s m args below meth c A Q ls C hP hD hl hret
  have hD : va_D A (WM0 a cI) := va_D_re hD rfl
  have hS : va_S A s.heap s.heap [] := va_S.rf
  have hl : lv_has ls 2 [(0, .ref (a 0)), (1, .int v1)] := hl
  obtain ⟨hx, hb, hml, hr, hown, hts, hlocks, hK, hA, hN⟩ := id C
  rw [M_type] at hm
  refine lv_iload_n hx hb dX8_type_0 rfl (lv_at hl 1 rfl) ?_
  refine lv_iconst (v := 0) hx hb dX8_type_1 (by decide) ?_
  refine lv_bipush (v := 127) hx hb dX8_type_2 (by decide) ?_
  obtain ⟨r4, hq, hm⟩ := bd1_some hm
  refine k_callSI (As := [.int v1, .int 0, .int 127]) (rest := []) ⟨hx, hb, hml, hown, hts⟩ hK hA hN (c_X8_in (a := a) hq) (va_cwS 3 hts gX8_type_X8_in rfl rfl rfl hdX8_in ⟨Nat.le_of_ble_eq_true rfl, Nat.le_of_ble_eq_true rfl⟩) hP (va_D_re hD rfl) hS hl.1 rfl rfl (Nat.le_of_ble_eq_true rfl) ⟨Nat.zero_le _, Nat.zero_le _⟩ dX8_type_4 (fun H locs hP hS => ?_)
  refine lv_if_ne (tgt := 17) hx hb dX8_type_7 (by decide) (fun hc => ?_) (fun hc => ?_)
  · have hm := if_f hc hm
    refine lv_aload_n hx hb dX8_type_17 rfl (lv_at hl 0 rfl) ?_
    refine kg (v := .int m_typed) hx hb hts hiX8_type hown hK hP 0 rfl rfl 6 (by decide) flX8_type_182 rfl rfl dX8_type_18 ?_
    refine lv_bipush (v := 120) hx hb dX8_type_21 (by decide) ?_
    refine lv_icmp_ne (tgt := 33) hx hb dX8_type_23 (by decide) (fun hc => ?_) (fun hc => ?_)
    · have hm := if_f hc hm
      refine lv_aload_n hx hb dX8_type_33 rfl (lv_at hl 0 rfl) ?_
      refine kg (v := .ref (a 5)) hx hb hts hiX8_type hown hK hP 0 rfl rfl 5 (by decide) flX8_type_22 rfl rfl dX8_type_34 ?_
      refine lv_aload_n hx hb dX8_type_37 rfl (lv_at hl 0 rfl) ?_
      refine kg (v := .int m_typed) hx hb hts hiX8_type hown hK hP 0 rfl rfl 6 (by decide) flX8_type_182 rfl rfl dX8_type_38 ?_
      refine lv_iload_n hx hb dX8_type_41 rfl (lv_at hl 1 rfl) ?_
      obtain ⟨hi, hm⟩ := ga_some hm
      refine k_iast hx hb hK hP (va_D_re hD rfl) hS 5 0 rfl rfl rfl hi dX8_type_42 (fun H locs hP hS => ?_)
      have hP : va_P D vwCl (WM a cI m_s m_past m_kept m_refused (upd m_text m_typed.toNatClampNeg v1) m_asked m_heads m_forkBit m_forkFrom m_forkTo m_wayPage m_wayKnown m_wayGuess m_wayDiff m_wayRead m_wayPlace m_treeBit m_treeLeft m_treeRight m_treeAbove m_pileFrom m_pileTo m_pileAbove m_known m_typed m_askedLength m_entries m_forks m_guess m_diff m_read m_placeOf m_treeForks m_treeDeep) H := hP
      refine lv_aload_n hx hb dX8_type_43 rfl (lv_at hl 0 rfl) ?_
      refine lv_dup hx hb dX8_type_44 rfl ?_
      refine kg (v := .int m_typed) hx hb hts hiX8_type hown hK hP 0 rfl rfl 6 (by decide) flX8_type_182 rfl rfl dX8_type_45 ?_
      refine lv_iconst (v := 1) hx hb dX8_type_48 (by decide) ?_
      refine lv_iadd hx hb dX8_type_49 ?_
      refine kp hx hb hts hiX8_type tyX8 tyX8_ok nmX8 hown hK hP (va_D_re hD rfl) hS 0 rfl rfl 6 (by decide) flX8_type_182 rfl rfl rfl (Nat.le_of_ble_eq_true rfl) dX8_type_50 (fun H locs hP hS => ?_)
      have hP : va_P D vwCl (WM a cI m_s m_past m_kept m_refused (upd m_text m_typed.toNatClampNeg v1) m_asked m_heads m_forkBit m_forkFrom m_forkTo m_wayPage m_wayKnown m_wayGuess m_wayDiff m_wayRead m_wayPlace m_treeBit m_treeLeft m_treeRight m_treeAbove m_pileFrom m_pileTo m_pileAbove m_known (m_typed + 1) m_askedLength m_entries m_forks m_guess m_diff m_read m_placeOf m_treeForks m_treeDeep) H := hP
      refine lv_aload_n hx hb dX8_type_53 rfl (lv_at hl 0 rfl) ?_
      refine kg (v := .int (m_typed + 1)) hx hb hts hiX8_type hown hK hP 0 rfl rfl 6 (by decide) flX8_type_182 rfl rfl dX8_type_54 ?_
      simp only [Option.some.injEq, Prod.mk.injEq] at hm
      obtain ⟨rfl, rfl, rfl, rfl⟩ := hm
      exact hret _ _ _ _ dX8_type_57 hP hS
    · have hm := if_t hc hm
      refine lv_aload_n hx hb dX8_type_26 rfl (lv_at hl 0 rfl) ?_
      refine lv_bipush (v := (-4)) hx hb dX8_type_27 (by decide) ?_
      obtain ⟨r29, m_refused_29, hq, hm⟩ := bd2_some hm
      refine k_callVI (As := [.int (-4)]) (rest := []) ⟨hx, hb, hml, hown, hts⟩ hK hA hN (c_X8_refuses (a := a) hq) (cwV 1 hts gX8_type_X8_refuses rfl rfl rfl hdX8_refuses ⟨Nat.le_of_ble_eq_true rfl, Nat.le_of_ble_eq_true rfl⟩) hP (va_D_re hD rfl) hS 0 8 rfl rfl rfl hl.1 rfl rfl (Nat.le_of_ble_eq_true rfl) ⟨Nat.zero_le _, Nat.zero_le _⟩ dX8_type_29 (fun H locs hP hS => ?_)
      simp only [Option.some.injEq, Prod.mk.injEq] at hm
      obtain ⟨rfl, rfl, rfl, rfl⟩ := hm
      exact hret _ _ _ _ dX8_type_32 hP hS
  · have hm := if_t hc hm
    refine lv_aload_n hx hb dX8_type_10 rfl (lv_at hl 0 rfl) ?_
    refine lv_bipush (v := (-2)) hx hb dX8_type_11 (by decide) ?_
    obtain ⟨r13, m_refused_13, hq, hm⟩ := bd2_some hm
    refine k_callVI (As := [.int (-2)]) (rest := []) ⟨hx, hb, hml, hown, hts⟩ hK hA hN (c_X8_refuses (a := a) hq) (cwV 1 hts gX8_type_X8_refuses rfl rfl rfl hdX8_refuses ⟨Nat.le_of_ble_eq_true rfl, Nat.le_of_ble_eq_true rfl⟩) hP (va_D_re hD rfl) hS 0 8 rfl rfl rfl hl.1 rfl rfl (Nat.le_of_ble_eq_true rfl) ⟨Nat.zero_le _, Nat.zero_le _⟩ dX8_type_13 (fun H locs hP hS => ?_)
    simp only [Option.some.injEq, Prod.mk.injEq] at hm
    obtain ⟨rfl, rfl, rfl, rfl⟩ := hm
    exact hret _ _ _ _ dX8_type_16 hP hS
theorem hdX8_clear : yX8_clear.cls = RX8 ∧ yX8_clear.cls ≠ "java/lang/invoke/MethodHandle" ∧ yX8_clear.cls ≠ "java/lang/invoke/VarHandle" ∧ (parseMethodDescriptor yX8_clear.desc).map (fun d => d.parameters.length) = some 0 := by decide +kernel
theorem hiX8_clear : ∀ w ∈ u_ws RX8 TX8 34, w ∈ wsX8_clear := by decide +kernel
theorem flX8_clear_182 : Cond.fieldLink RX8 182 "BlindPagesModel" "typed" "I" ∈ wsX8_clear := by decide +kernel
def M_clear (m_typed : Int32) : Option (Int32 × Int32) := some (m_typed, 0)
set_option maxRecDepth 100000 in
set_option maxHeartbeats 4000000 in
theorem c_X8_clear {l : Launch} {D : va_G} {cI cJ cB cL cS cW : ClassId} {a : Nat → Nat} {m_s m_past m_kept m_refused m_text m_asked m_heads m_forkBit m_forkFrom m_forkTo m_wayPage m_wayKnown m_wayGuess m_wayDiff m_wayRead m_wayPlace m_treeBit m_treeLeft m_treeRight m_treeAbove m_pileFrom m_pileTo m_pileAbove : Nat → Int32} {m_known m_typed m_askedLength m_entries m_forks m_guess m_diff m_read m_placeOf m_treeForks m_treeDeep : Int32} {r : Int32} {o_typed : Int32} (hm : M_clear m_typed = some (r, o_typed)) : k_MI l yX8_clear wsX8_clear { frames := 0, cells := 0, slots := 0, locals := 0 } D (kT cI cJ cB cL cS cW) [.ref (a 0)] (WM a cI m_s m_past m_kept m_refused m_text m_asked m_heads m_forkBit m_forkFrom m_forkTo m_wayPage m_wayKnown m_wayGuess m_wayDiff m_wayRead m_wayPlace m_treeBit m_treeLeft m_treeRight m_treeAbove m_pileFrom m_pileTo m_pileAbove m_known m_typed m_askedLength m_entries m_forks m_guess m_diff m_read m_placeOf m_treeForks m_treeDeep) r (WM a cI m_s m_past m_kept m_refused m_text m_asked m_heads m_forkBit m_forkFrom m_forkTo m_wayPage m_wayKnown m_wayGuess m_wayDiff m_wayRead m_wayPlace m_treeBit m_treeLeft m_treeRight m_treeAbove m_pileFrom m_pileTo m_pileAbove m_known o_typed m_askedLength m_entries m_forks m_guess m_diff m_read m_placeOf m_treeForks m_treeDeep) := by
  refine k_ofI (cc := cX8_clear) (maxL := 2) (own := RX8) (by decide) rfl rfl (Nat.le_of_ble_eq_true rfl) ?_
  intro p e s m args below meth c A Q ls C hP hD hl hret
  have hD : va_D A (WM0 a cI) := va_D_re hD rfl
  have hS : va_S A s.heap s.heap [] := va_S.rf
  have hl : lv_has ls 2 [(0, .ref (a 0))] := hl
  obtain ⟨hx, hb, hml, hr, hown, hts, hlocks, hK, hA, hN⟩ := id C
  rw [M_clear] at hm
  refine lv_aload_n hx hb dX8_clear_0 rfl (lv_at hl 0 rfl) ?_
  refine kg (v := .int m_typed) hx hb hts hiX8_clear hown hK hP 0 rfl rfl 6 (by decide) flX8_clear_182 rfl rfl dX8_clear_1 ?_
  refine lv_istore_n (lv' := [(1, .int m_typed), (0, .ref (a 0))]) hx hb dX8_clear_4 rfl hl (by decide) rfl (fun ls hl => ?_)
  refine lv_aload_n hx hb dX8_clear_5 rfl (lv_at hl 1 rfl) ?_
  refine lv_iconst (v := 0) hx hb dX8_clear_6 (by decide) ?_
  refine kp hx hb hts hiX8_clear tyX8 tyX8_ok nmX8 hown hK hP (va_D_re hD rfl) hS 0 rfl rfl 6 (by decide) flX8_clear_182 rfl rfl rfl (Nat.le_of_ble_eq_true rfl) dX8_clear_7 (fun H locs hP hS => ?_)
  have hP : va_P D vwCl (WM a cI m_s m_past m_kept m_refused m_text m_asked m_heads m_forkBit m_forkFrom m_forkTo m_wayPage m_wayKnown m_wayGuess m_wayDiff m_wayRead m_wayPlace m_treeBit m_treeLeft m_treeRight m_treeAbove m_pileFrom m_pileTo m_pileAbove m_known 0 m_askedLength m_entries m_forks m_guess m_diff m_read m_placeOf m_treeForks m_treeDeep) H := hP
  refine lv_iload_n hx hb dX8_clear_10 rfl (lv_at hl 0 rfl) ?_
  simp only [Option.some.injEq, Prod.mk.injEq] at hm
  obtain ⟨rfl, rfl⟩ := hm
  exact hret _ _ _ _ dX8_clear_11 hP hS
theorem hdX8_isSign : yX8_isSign.cls ≠ "java/lang/invoke/MethodHandle" ∧ yX8_isSign.cls ≠ "java/lang/invoke/VarHandle" ∧ (parseMethodDescriptor yX8_isSign.desc).map (fun d => d.parameters.length) = some 1 := by decide +kernel
def M_isSign (v0 : Int32) : Option (Int32) := bd1 (M_in v0 97 122) fun r5 => if r5 = 0 then (bd1 (M_in v0 65 90) fun r16 => if r16 = 0 then (bd1 (M_in v0 48 57) fun r27 => if r27 = 0 then (some 0) else (some 1)) else (some 1)) else (some 1)
set_option maxRecDepth 100000 in
set_option maxHeartbeats 4000000 in
theorem c_X8_isSign {l : Launch} {D : va_G} {cI cJ cB cL cS cW : ClassId} {a : Nat → Nat} {m_s m_past m_kept m_refused m_text m_asked m_heads m_forkBit m_forkFrom m_forkTo m_wayPage m_wayKnown m_wayGuess m_wayDiff m_wayRead m_wayPlace m_treeBit m_treeLeft m_treeRight m_treeAbove m_pileFrom m_pileTo m_pileAbove : Nat → Int32} {m_known m_typed m_askedLength m_entries m_forks m_guess m_diff m_read m_placeOf m_treeForks m_treeDeep : Int32} {v0 : Int32} {r : Int32} (hm : M_isSign v0 = some r) : k_MI l yX8_isSign wsX8_isSign { frames := 1, cells := 0, slots := 0, locals := 22 } D (kT cI cJ cB cL cS cW) [.int v0] (WM a cI m_s m_past m_kept m_refused m_text m_asked m_heads m_forkBit m_forkFrom m_forkTo m_wayPage m_wayKnown m_wayGuess m_wayDiff m_wayRead m_wayPlace m_treeBit m_treeLeft m_treeRight m_treeAbove m_pileFrom m_pileTo m_pileAbove m_known m_typed m_askedLength m_entries m_forks m_guess m_diff m_read m_placeOf m_treeForks m_treeDeep) r (WM a cI m_s m_past m_kept m_refused m_text m_asked m_heads m_forkBit m_forkFrom m_forkTo m_wayPage m_wayKnown m_wayGuess m_wayDiff m_wayRead m_wayPlace m_treeBit m_treeLeft m_treeRight m_treeAbove m_pileFrom m_pileTo m_pileAbove m_known m_typed m_askedLength m_entries m_forks m_guess m_diff m_read m_placeOf m_treeForks m_treeDeep) := by
  refine k_ofZ (cc := cX8_isSign) (maxL := 1) (own := RX8) (by decide) rfl rfl (Nat.le_of_ble_eq_true rfl) ?_
  intro p e s m args below meth c A Q ls C hP hD hl hret
  have hD : va_D A (WM0 a cI) := va_D_re hD rfl
  have hS : va_S A s.heap s.heap [] := va_S.rf
  have hl : lv_has ls 1 [(0, .int v0)] := hl
  obtain ⟨hx, hb, hml, hr, hown, hts, hlocks, hK, hA, hN⟩ := id C
  rw [M_isSign] at hm
  refine lv_iload_n hx hb dX8_isSign_0 rfl (lv_at hl 0 rfl) ?_
  refine lv_bipush (v := 97) hx hb dX8_isSign_1 (by decide) ?_
  refine lv_bipush (v := 122) hx hb dX8_isSign_3 (by decide) ?_
  obtain ⟨r5, hq, hm⟩ := bd1_some hm
  refine k_callSI (As := [.int v0, .int 97, .int 122]) (rest := []) ⟨hx, hb, hml, hown, hts⟩ hK hA hN (c_X8_in (a := a) hq) (va_cwS 3 hts gX8_isSign_X8_in rfl rfl rfl hdX8_in ⟨Nat.le_of_ble_eq_true rfl, Nat.le_of_ble_eq_true rfl⟩) hP (va_D_re hD rfl) hS hl.1 rfl rfl (Nat.le_of_ble_eq_true rfl) ⟨Nat.zero_le _, Nat.zero_le _⟩ dX8_isSign_5 (fun H locs hP hS => ?_)
  refine lv_if_ne (tgt := 33) hx hb dX8_isSign_8 (by decide) (fun hc => ?_) (fun hc => ?_)
  · have hm := if_f hc hm
    refine lv_iconst (v := 1) hx hb dX8_isSign_33 (by decide) ?_
    refine lv_goto (tgt := 38) hx hb dX8_isSign_34 (by decide) ?_
    obtain rfl := Option.some.inj hm
    exact hret _ _ _ _ dX8_isSign_38 (by decide) hP hS
  · have hm := if_t hc hm
    refine lv_iload_n hx hb dX8_isSign_11 rfl (lv_at hl 0 rfl) ?_
    refine lv_bipush (v := 65) hx hb dX8_isSign_12 (by decide) ?_
    refine lv_bipush (v := 90) hx hb dX8_isSign_14 (by decide) ?_
    obtain ⟨r16, hq, hm⟩ := bd1_some hm
    refine k_callSI (As := [.int v0, .int 65, .int 90]) (rest := []) ⟨hx, hb, hml, hown, hts⟩ hK hA hN (c_X8_in (a := a) hq) (va_cwS 3 hts gX8_isSign_X8_in rfl rfl rfl hdX8_in ⟨Nat.le_of_ble_eq_true rfl, Nat.le_of_ble_eq_true rfl⟩) hP (va_D_re hD rfl) hS hl.1 rfl rfl (Nat.le_of_ble_eq_true rfl) ⟨Nat.zero_le _, Nat.zero_le _⟩ dX8_isSign_16 (fun H locs hP hS => ?_)
    refine lv_if_ne (tgt := 33) hx hb dX8_isSign_19 (by decide) (fun hc => ?_) (fun hc => ?_)
    · have hm := if_f hc hm
      refine lv_iconst (v := 1) hx hb dX8_isSign_33 (by decide) ?_
      refine lv_goto (tgt := 38) hx hb dX8_isSign_34 (by decide) ?_
      obtain rfl := Option.some.inj hm
      exact hret _ _ _ _ dX8_isSign_38 (by decide) hP hS
    · have hm := if_t hc hm
      refine lv_iload_n hx hb dX8_isSign_22 rfl (lv_at hl 0 rfl) ?_
      refine lv_bipush (v := 48) hx hb dX8_isSign_23 (by decide) ?_
      refine lv_bipush (v := 57) hx hb dX8_isSign_25 (by decide) ?_
      obtain ⟨r27, hq, hm⟩ := bd1_some hm
      refine k_callSI (As := [.int v0, .int 48, .int 57]) (rest := []) ⟨hx, hb, hml, hown, hts⟩ hK hA hN (c_X8_in (a := a) hq) (va_cwS 3 hts gX8_isSign_X8_in rfl rfl rfl hdX8_in ⟨Nat.le_of_ble_eq_true rfl, Nat.le_of_ble_eq_true rfl⟩) hP (va_D_re hD rfl) hS hl.1 rfl rfl (Nat.le_of_ble_eq_true rfl) ⟨Nat.zero_le _, Nat.zero_le _⟩ dX8_isSign_27 (fun H locs hP hS => ?_)
      refine lv_if_eq (tgt := 37) hx hb dX8_isSign_30 (by decide) (fun hc => ?_) (fun hc => ?_)
      · have hm := if_t hc hm
        refine lv_iconst (v := 0) hx hb dX8_isSign_37 (by decide) ?_
        obtain rfl := Option.some.inj hm
        exact hret _ _ _ _ dX8_isSign_38 (by decide) hP hS
      · have hm := if_f hc hm
        refine lv_iconst (v := 1) hx hb dX8_isSign_33 (by decide) ?_
        refine lv_goto (tgt := 38) hx hb dX8_isSign_34 (by decide) ?_
        obtain rfl := Option.some.inj hm
        exact hret _ _ _ _ dX8_isSign_38 (by decide) hP hS
theorem hdX8_isWord : yX8_isWord.cls = RX8 ∧ yX8_isWord.cls ≠ "java/lang/invoke/MethodHandle" ∧ yX8_isWord.cls ≠ "java/lang/invoke/VarHandle" ∧ (parseMethodDescriptor yX8_isWord.desc).map (fun d => d.parameters.length) = some 0 := by decide +kernel
theorem hiX8_isWord : ∀ w ∈ u_ws RX8 TX8 34, w ∈ wsX8_isWord := by decide +kernel
theorem flX8_isWord_182 : Cond.fieldLink RX8 182 "BlindPagesModel" "typed" "I" ∈ wsX8_isWord := by decide +kernel
theorem flX8_isWord_22 : Cond.fieldLink RX8 22 "BlindPagesModel" "text" "[I" ∈ wsX8_isWord := by decide +kernel
theorem flX8_isWord_25 : Cond.fieldLink RX8 25 "BlindPagesModel" "asked" "[I" ∈ wsX8_isWord := by decide +kernel
theorem flX8_isWord_83 : Cond.fieldLink RX8 83 "BlindPagesModel" "askedLength" "I" ∈ wsX8_isWord := by decide +kernel
def M_isWord_L13 (m_text : Nat → Int32) (m_typed : Int32) (k53 : (Nat → Int32) → Int32 → Int32 → Option (Int32 × (Nat → Int32) × Int32)) : Nat → (Nat → Int32) → Int32 → Int32 → Int32 → Option (Int32 × (Nat → Int32) × Int32)
  | 0, _, _, _, _ => none
  | n + 1, m_asked, m_askedLength, v1, v2 => if m_typed ≤ v2 then (k53 m_asked m_askedLength v1) else (if v1 = 0 then (k53 m_asked m_askedLength v1) else (ga v2 120 (bd1 (M_isSign (m_text v2.toNatClampNeg)) fun r31 => ga v2 120 (ga v2 24 (M_isWord_L13 m_text m_typed k53 n (upd m_asked v2.toNatClampNeg (m_text v2.toNatClampNeg)) m_askedLength r31 (v2 + 1))))))
def M_isWord_J53 (m_text : Nat → Int32) (m_typed : Int32) (m_asked : (Nat → Int32)) (m_askedLength : Int32) (v1 : Int32) : Option (Int32 × (Nat → Int32) × Int32) := if v1 = 0 then (gb v1 (some (v1, m_asked, m_askedLength))) else (gb v1 (some (v1, m_asked, m_typed)))
def M_isWord (m_text : Nat → Int32) (m_typed : Int32) (m_asked : Nat → Int32) (m_askedLength : Int32) : Option (Int32 × (Nat → Int32) × Int32) := bd1 (M_in m_typed 1 24) fun r7 => M_isWord_L13 m_text m_typed (fun m_asked m_askedLength v1 => M_isWord_J53 m_text m_typed m_asked m_askedLength v1) FU m_asked m_askedLength r7 0
set_option maxRecDepth 100000 in
set_option maxHeartbeats 4000000 in
theorem t_M_isWord_L13 {p : Program} {l : Launch} {e : Env} {s : State} {m : MethodId} {args : Array Value} {below : List Frame} {meth : Method} {c : Code} {Q : State → Prop} {A : Nat → Prop} {D : va_G} {cI cJ cB cL cS cW : ClassId} {a : Nat → Nat} {m_s m_past m_kept m_refused m_text m_heads m_forkBit m_forkFrom m_forkTo m_wayPage m_wayKnown m_wayGuess m_wayDiff m_wayRead m_wayPlace m_treeBit m_treeLeft m_treeRight m_treeAbove m_pileFrom m_pileTo m_pileAbove : Nat → Int32} {m_known m_typed m_entries m_forks m_guess m_diff m_read m_placeOf m_treeForks m_treeDeep : Int32} {r : Int32} {o_asked : Nat → Int32} {o_askedLength : Int32} (C : k_C p s m args meth c cX8_isWord 3 (some .boolean) RX8 wsX8_isWord D (kT cI cJ cB cL cS cW) A) (hD : va_D A (WM0 a cI)) (hret : ∀ (H : Heap) (locs : List Loc) (pc : Nat) (ls : Array Slot), decode cX8_isWord pc = .ok (.ireturn, 1) → (r = 0 ∨ r = 1) → va_P D vwCl (WM a cI m_s m_past m_kept m_refused m_text o_asked m_heads m_forkBit m_forkFrom m_forkTo m_wayPage m_wayKnown m_wayGuess m_wayDiff m_wayRead m_wayPlace m_treeBit m_treeLeft m_treeRight m_treeAbove m_pileFrom m_pileTo m_pileAbove m_known m_typed o_askedLength m_entries m_forks m_guess m_diff m_read m_placeOf m_treeForks m_treeDeep) H → va_S A s.heap H locs → W p l e { frames := 2, cells := 0, slots := 0, locals := 42 } s m args below meth c H locs 0 0 Q (F0 m pc ls [.int r])) {k53 : (Nat → Int32) → Int32 → Int32 → Option (Int32 × (Nat → Int32) × Int32)} (hk53 : ∀ (m_asked : (Nat → Int32)) (m_askedLength : Int32) (v1 : Int32) (H : Heap) (locs : List Loc) (ls : Array Slot), va_P D vwCl (WM a cI m_s m_past m_kept m_refused m_text m_asked m_heads m_forkBit m_forkFrom m_forkTo m_wayPage m_wayKnown m_wayGuess m_wayDiff m_wayRead m_wayPlace m_treeBit m_treeLeft m_treeRight m_treeAbove m_pileFrom m_pileTo m_pileAbove m_known m_typed m_askedLength m_entries m_forks m_guess m_diff m_read m_placeOf m_treeForks m_treeDeep) H → va_S A s.heap H locs → lv_has ls 3 [(0, .ref (a 0)), (1, .int v1)] → k53 m_asked m_askedLength v1 = some (r, o_asked, o_askedLength) → W p l e { frames := 2, cells := 0, slots := 0, locals := 42 } s m args below meth c H locs 0 0 Q (F0 m 53 ls [])) : ∀ n : Nat, ∀ (m_asked : (Nat → Int32)) (m_askedLength : Int32) (v1 : Int32) (v2 : Int32) (H : Heap) (locs : List Loc) (ls : Array Slot), va_P D vwCl (WM a cI m_s m_past m_kept m_refused m_text m_asked m_heads m_forkBit m_forkFrom m_forkTo m_wayPage m_wayKnown m_wayGuess m_wayDiff m_wayRead m_wayPlace m_treeBit m_treeLeft m_treeRight m_treeAbove m_pileFrom m_pileTo m_pileAbove m_known m_typed m_askedLength m_entries m_forks m_guess m_diff m_read m_placeOf m_treeForks m_treeDeep) H → va_S A s.heap H locs → lv_has ls 3 [(0, .ref (a 0)), (1, .int v1), (2, .int v2)] → (M_isWord_L13 m_text m_typed k53 n) m_asked m_askedLength v1 v2 = some (r, o_asked, o_askedLength) → W p l e { frames := 2, cells := 0, slots := 0, locals := 42 } s m args below meth c H locs 0 0 Q (F0 m 13 ls []) := by
  obtain ⟨hx, hb, hml, hr, hown, hts, hlocks, hK, hA, hN⟩ := id C
  intro n
  induction n with
  | zero =>
    intro m_asked m_askedLength v1 v2 H locs ls hP hS hl hm
    cases hm
  | succ n ih =>
    intro m_asked m_askedLength v1 v2 H locs ls hP hS hl hm
    rw [M_isWord_L13] at hm
    refine lv_iload_n hx hb dX8_isWord_13 rfl (lv_at hl 2 rfl) ?_
    refine lv_aload_n hx hb dX8_isWord_14 rfl (lv_at hl 0 rfl) ?_
    refine kg (v := .int m_typed) hx hb hts hiX8_isWord hown hK hP 0 rfl rfl 6 (by decide) flX8_isWord_182 rfl rfl dX8_isWord_15 ?_
    refine lv_icmp_ge (tgt := 53) hx hb dX8_isWord_18 (by decide) (fun hc => ?_) (fun hc => ?_)
    · have hm := if_t hc hm
      exact hk53 _ _ _ _ _ _ hP hS (lv_sub hl [0, 1] rfl) hm
    · have hm := if_f hc hm
      refine lv_iload_n hx hb dX8_isWord_21 rfl (lv_at hl 1 rfl) ?_
      refine lv_if_eq (tgt := 53) hx hb dX8_isWord_22 (by decide) (fun hc => ?_) (fun hc => ?_)
      · have hm := if_t hc hm
        exact hk53 _ _ _ _ _ _ hP hS (lv_sub hl [0, 1] rfl) hm
      · have hm := if_f hc hm
        refine lv_aload_n hx hb dX8_isWord_25 rfl (lv_at hl 0 rfl) ?_
        refine kg (v := .ref (a 5)) hx hb hts hiX8_isWord hown hK hP 0 rfl rfl 5 (by decide) flX8_isWord_22 rfl rfl dX8_isWord_26 ?_
        refine lv_iload_n hx hb dX8_isWord_29 rfl (lv_at hl 2 rfl) ?_
        obtain ⟨hi, hm⟩ := ga_some hm
        refine k_iald hx hb hK hP 5 0 rfl rfl rfl hi dX8_isWord_30 ?_
        obtain ⟨r31, hq, hm⟩ := bd1_some hm
        refine k_callSI (As := [.int (m_text v2.toNatClampNeg)]) (rest := []) ⟨hx, hb, hml, hown, hts⟩ hK hA hN (c_X8_isSign (a := a) hq) (va_cwS 1 hts gX8_isWord_X8_isSign rfl rfl rfl hdX8_isSign ⟨Nat.le_of_ble_eq_true rfl, Nat.le_of_ble_eq_true rfl⟩) hP (va_D_re hD rfl) hS hl.1 rfl rfl (Nat.le_of_ble_eq_true rfl) ⟨Nat.zero_le _, Nat.zero_le _⟩ dX8_isWord_31 (fun H locs hP hS => ?_)
        refine lv_istore_n (lv' := [(1, .int r31), (0, .ref (a 0)), (2, .int v2)]) hx hb dX8_isWord_34 rfl hl (by decide) rfl (fun ls hl => ?_)
        refine lv_aload_n hx hb dX8_isWord_35 rfl (lv_at hl 1 rfl) ?_
        refine kg (v := .ref (a 6)) hx hb hts hiX8_isWord hown hK hP 0 rfl rfl 7 (by decide) flX8_isWord_25 rfl rfl dX8_isWord_36 ?_
        refine lv_iload_n hx hb dX8_isWord_39 rfl (lv_at hl 2 rfl) ?_
        refine lv_aload_n hx hb dX8_isWord_40 rfl (lv_at hl 1 rfl) ?_
        refine kg (v := .ref (a 5)) hx hb hts hiX8_isWord hown hK hP 0 rfl rfl 5 (by decide) flX8_isWord_22 rfl rfl dX8_isWord_41 ?_
        refine lv_iload_n hx hb dX8_isWord_44 rfl (lv_at hl 2 rfl) ?_
        obtain ⟨hi, hm⟩ := ga_some hm
        refine k_iald hx hb hK hP 5 0 rfl rfl rfl hi dX8_isWord_45 ?_
        obtain ⟨hi, hm⟩ := ga_some hm
        refine k_iast hx hb hK hP (va_D_re hD rfl) hS 6 0 rfl rfl rfl hi dX8_isWord_46 (fun H locs hP hS => ?_)
        have hP : va_P D vwCl (WM a cI m_s m_past m_kept m_refused m_text (upd m_asked v2.toNatClampNeg (m_text v2.toNatClampNeg)) m_heads m_forkBit m_forkFrom m_forkTo m_wayPage m_wayKnown m_wayGuess m_wayDiff m_wayRead m_wayPlace m_treeBit m_treeLeft m_treeRight m_treeAbove m_pileFrom m_pileTo m_pileAbove m_known m_typed m_askedLength m_entries m_forks m_guess m_diff m_read m_placeOf m_treeForks m_treeDeep) H := hP
        refine lv_iinc (v := (v2 + 1)) (lv' := [(2, .int (v2 + 1)), (1, .int r31), (0, .ref (a 0))]) hx hb dX8_isWord_47 hl (k := 2) rfl rfl (by decide) rfl (fun ls hl => ?_)
        refine lv_goto (tgt := 13) hx hb dX8_isWord_50 (by decide) ?_
        exact ih _ _ _ _ _ _ _ hP hS (lv_sub hl [2, 1, 0] rfl) hm
set_option maxRecDepth 100000 in
set_option maxHeartbeats 4000000 in
theorem t_M_isWord_J53 {p : Program} {l : Launch} {e : Env} {s : State} {m : MethodId} {args : Array Value} {below : List Frame} {meth : Method} {c : Code} {Q : State → Prop} {A : Nat → Prop} {D : va_G} {cI cJ cB cL cS cW : ClassId} {a : Nat → Nat} {m_s m_past m_kept m_refused m_text m_heads m_forkBit m_forkFrom m_forkTo m_wayPage m_wayKnown m_wayGuess m_wayDiff m_wayRead m_wayPlace m_treeBit m_treeLeft m_treeRight m_treeAbove m_pileFrom m_pileTo m_pileAbove : Nat → Int32} {m_known m_typed m_entries m_forks m_guess m_diff m_read m_placeOf m_treeForks m_treeDeep : Int32} {r : Int32} {o_asked : Nat → Int32} {o_askedLength : Int32} (C : k_C p s m args meth c cX8_isWord 3 (some .boolean) RX8 wsX8_isWord D (kT cI cJ cB cL cS cW) A) (hD : va_D A (WM0 a cI)) (hret : ∀ (H : Heap) (locs : List Loc) (pc : Nat) (ls : Array Slot), decode cX8_isWord pc = .ok (.ireturn, 1) → (r = 0 ∨ r = 1) → va_P D vwCl (WM a cI m_s m_past m_kept m_refused m_text o_asked m_heads m_forkBit m_forkFrom m_forkTo m_wayPage m_wayKnown m_wayGuess m_wayDiff m_wayRead m_wayPlace m_treeBit m_treeLeft m_treeRight m_treeAbove m_pileFrom m_pileTo m_pileAbove m_known m_typed o_askedLength m_entries m_forks m_guess m_diff m_read m_placeOf m_treeForks m_treeDeep) H → va_S A s.heap H locs → W p l e { frames := 2, cells := 0, slots := 0, locals := 42 } s m args below meth c H locs 0 0 Q (F0 m pc ls [.int r])) : ∀ (m_asked : (Nat → Int32)) (m_askedLength : Int32) (v1 : Int32) (H : Heap) (locs : List Loc) (ls : Array Slot), va_P D vwCl (WM a cI m_s m_past m_kept m_refused m_text m_asked m_heads m_forkBit m_forkFrom m_forkTo m_wayPage m_wayKnown m_wayGuess m_wayDiff m_wayRead m_wayPlace m_treeBit m_treeLeft m_treeRight m_treeAbove m_pileFrom m_pileTo m_pileAbove m_known m_typed m_askedLength m_entries m_forks m_guess m_diff m_read m_placeOf m_treeForks m_treeDeep) H → va_S A s.heap H locs → lv_has ls 3 [(0, .ref (a 0)), (1, .int v1)] → M_isWord_J53 m_text m_typed m_asked m_askedLength v1 = some (r, o_asked, o_askedLength) → W p l e { frames := 2, cells := 0, slots := 0, locals := 42 } s m args below meth c H locs 0 0 Q (F0 m 53 ls []) := by
  obtain ⟨hx, hb, hml, hr, hown, hts, hlocks, hK, hA, hN⟩ := id C
  intro m_asked m_askedLength v1 H locs ls hP hS hl hm
  rw [M_isWord_J53] at hm
  refine lv_aload_n hx hb dX8_isWord_53 rfl (lv_at hl 0 rfl) ?_
  refine lv_iload_n hx hb dX8_isWord_54 rfl (lv_at hl 1 rfl) ?_
  refine lv_if_eq (tgt := 65) hx hb dX8_isWord_55 (by decide) (fun hc => ?_) (fun hc => ?_)
  · have hm := if_t hc hm
    refine lv_aload_n hx hb dX8_isWord_65 rfl (lv_at hl 0 rfl) ?_
    refine kg (v := .int m_askedLength) hx hb hts hiX8_isWord hown hK hP 0 rfl rfl 8 (by decide) flX8_isWord_83 rfl rfl dX8_isWord_66 ?_
    refine kp hx hb hts hiX8_isWord tyX8 tyX8_ok nmX8 hown hK hP (va_D_re hD rfl) hS 0 rfl rfl 8 (by decide) flX8_isWord_83 rfl rfl rfl (Nat.le_of_ble_eq_true rfl) dX8_isWord_69 (fun H locs hP hS => ?_)
    have hP : va_P D vwCl (WM a cI m_s m_past m_kept m_refused m_text m_asked m_heads m_forkBit m_forkFrom m_forkTo m_wayPage m_wayKnown m_wayGuess m_wayDiff m_wayRead m_wayPlace m_treeBit m_treeLeft m_treeRight m_treeAbove m_pileFrom m_pileTo m_pileAbove m_known m_typed m_askedLength m_entries m_forks m_guess m_diff m_read m_placeOf m_treeForks m_treeDeep) H := hP
    refine lv_iload_n hx hb dX8_isWord_72 rfl (lv_at hl 1 rfl) ?_
    obtain ⟨hi, hm⟩ := gb_some hm
    simp only [Option.some.injEq, Prod.mk.injEq] at hm
    obtain ⟨rfl, rfl, rfl⟩ := hm
    exact hret _ _ _ _ dX8_isWord_73 hi hP hS
  · have hm := if_f hc hm
    refine lv_aload_n hx hb dX8_isWord_58 rfl (lv_at hl 0 rfl) ?_
    refine kg (v := .int m_typed) hx hb hts hiX8_isWord hown hK hP 0 rfl rfl 6 (by decide) flX8_isWord_182 rfl rfl dX8_isWord_59 ?_
    refine lv_goto (tgt := 69) hx hb dX8_isWord_62 (by decide) ?_
    refine kp hx hb hts hiX8_isWord tyX8 tyX8_ok nmX8 hown hK hP (va_D_re hD rfl) hS 0 rfl rfl 8 (by decide) flX8_isWord_83 rfl rfl rfl (Nat.le_of_ble_eq_true rfl) dX8_isWord_69 (fun H locs hP hS => ?_)
    have hP : va_P D vwCl (WM a cI m_s m_past m_kept m_refused m_text m_asked m_heads m_forkBit m_forkFrom m_forkTo m_wayPage m_wayKnown m_wayGuess m_wayDiff m_wayRead m_wayPlace m_treeBit m_treeLeft m_treeRight m_treeAbove m_pileFrom m_pileTo m_pileAbove m_known m_typed m_typed m_entries m_forks m_guess m_diff m_read m_placeOf m_treeForks m_treeDeep) H := hP
    refine lv_iload_n hx hb dX8_isWord_72 rfl (lv_at hl 1 rfl) ?_
    obtain ⟨hi, hm⟩ := gb_some hm
    simp only [Option.some.injEq, Prod.mk.injEq] at hm
    obtain ⟨rfl, rfl, rfl⟩ := hm
    exact hret _ _ _ _ dX8_isWord_73 hi hP hS
set_option maxRecDepth 100000 in
set_option maxHeartbeats 4000000 in
theorem c_X8_isWord {l : Launch} {D : va_G} {cI cJ cB cL cS cW : ClassId} {a : Nat → Nat} {m_s m_past m_kept m_refused m_text m_asked m_heads m_forkBit m_forkFrom m_forkTo m_wayPage m_wayKnown m_wayGuess m_wayDiff m_wayRead m_wayPlace m_treeBit m_treeLeft m_treeRight m_treeAbove m_pileFrom m_pileTo m_pileAbove : Nat → Int32} {m_known m_typed m_askedLength m_entries m_forks m_guess m_diff m_read m_placeOf m_treeForks m_treeDeep : Int32} {r : Int32} {o_asked : Nat → Int32} {o_askedLength : Int32} (hm : M_isWord m_text m_typed m_asked m_askedLength = some (r, o_asked, o_askedLength)) : k_MI l yX8_isWord wsX8_isWord { frames := 2, cells := 0, slots := 0, locals := 42 } D (kT cI cJ cB cL cS cW) [.ref (a 0)] (WM a cI m_s m_past m_kept m_refused m_text m_asked m_heads m_forkBit m_forkFrom m_forkTo m_wayPage m_wayKnown m_wayGuess m_wayDiff m_wayRead m_wayPlace m_treeBit m_treeLeft m_treeRight m_treeAbove m_pileFrom m_pileTo m_pileAbove m_known m_typed m_askedLength m_entries m_forks m_guess m_diff m_read m_placeOf m_treeForks m_treeDeep) r (WM a cI m_s m_past m_kept m_refused m_text o_asked m_heads m_forkBit m_forkFrom m_forkTo m_wayPage m_wayKnown m_wayGuess m_wayDiff m_wayRead m_wayPlace m_treeBit m_treeLeft m_treeRight m_treeAbove m_pileFrom m_pileTo m_pileAbove m_known m_typed o_askedLength m_entries m_forks m_guess m_diff m_read m_placeOf m_treeForks m_treeDeep) := by
  refine k_ofZ (cc := cX8_isWord) (maxL := 3) (own := RX8) (by decide) rfl rfl (Nat.le_of_ble_eq_true rfl) ?_
  intro p e s m args below meth c A Q ls C hP hD hl hret
  have hD : va_D A (WM0 a cI) := va_D_re hD rfl
  have hS : va_S A s.heap s.heap [] := va_S.rf
  have hl : lv_has ls 3 [(0, .ref (a 0))] := hl
  obtain ⟨hx, hb, hml, hr, hown, hts, hlocks, hK, hA, hN⟩ := id C
  rw [M_isWord] at hm
  refine lv_aload_n hx hb dX8_isWord_0 rfl (lv_at hl 0 rfl) ?_
  refine kg (v := .int m_typed) hx hb hts hiX8_isWord hown hK hP 0 rfl rfl 6 (by decide) flX8_isWord_182 rfl rfl dX8_isWord_1 ?_
  refine lv_iconst (v := 1) hx hb dX8_isWord_4 (by decide) ?_
  refine lv_bipush (v := 24) hx hb dX8_isWord_5 (by decide) ?_
  obtain ⟨r7, hq, hm⟩ := bd1_some hm
  refine k_callSI (As := [.int m_typed, .int 1, .int 24]) (rest := []) ⟨hx, hb, hml, hown, hts⟩ hK hA hN (c_X8_in (a := a) hq) (va_cwS 3 hts gX8_isWord_X8_in rfl rfl rfl hdX8_in ⟨Nat.le_of_ble_eq_true rfl, Nat.le_of_ble_eq_true rfl⟩) hP (va_D_re hD rfl) hS hl.1 rfl rfl (Nat.le_of_ble_eq_true rfl) ⟨Nat.zero_le _, Nat.zero_le _⟩ dX8_isWord_7 (fun H locs hP hS => ?_)
  refine lv_istore_n (lv' := [(1, .int r7), (0, .ref (a 0))]) hx hb dX8_isWord_10 rfl hl (by decide) rfl (fun ls hl => ?_)
  refine lv_iconst (v := 0) hx hb dX8_isWord_11 (by decide) ?_
  refine lv_istore_n (lv' := [(2, .int 0), (1, .int r7), (0, .ref (a 0))]) hx hb dX8_isWord_12 rfl hl (by decide) rfl (fun ls hl => ?_)
  refine t_M_isWord_L13 C hD hret ?_ FU _ _ _ _ _ _ _ hP hS (lv_sub hl [2, 1, 0] rfl) hm
  · intro m_asked m_askedLength v1 H locs ls hP hS hl hm
    try dsimp only at hm
    exact t_M_isWord_J53 C hD hret _ _ _ _ _ _ hP hS (lv_sub hl [0, 1] rfl) hm
theorem hdX8_add : yX8_add.cls = RX8 ∧ yX8_add.cls ≠ "java/lang/invoke/MethodHandle" ∧ yX8_add.cls ≠ "java/lang/invoke/VarHandle" ∧ (parseMethodDescriptor yX8_add.desc).map (fun d => d.parameters.length) = some 0 := by decide +kernel
theorem hiX8_add : ∀ w ∈ u_ws RX8 TX8 34, w ∈ wsX8_add := by decide +kernel
theorem flX8_add_7 : Cond.fieldLink RX8 7 "BlindPagesModel" "s" "[I" ∈ wsX8_add := by decide +kernel
def M_add_J14 (m_text : Nat → Int32) (m_typed : Int32) (m_s : (Nat → Int32)) (m_past : (Nat → Int32)) (m_kept : (Nat → Int32)) (m_refused : (Nat → Int32)) (m_asked : (Nat → Int32)) (m_heads : (Nat → Int32)) (m_forkBit : (Nat → Int32)) (m_forkFrom : (Nat → Int32)) (m_forkTo : (Nat → Int32)) (m_wayPage : (Nat → Int32)) (m_wayKnown : (Nat → Int32)) (m_wayGuess : (Nat → Int32)) (m_wayDiff : (Nat → Int32)) (m_wayRead : (Nat → Int32)) (m_wayPlace : (Nat → Int32)) (m_known : Int32) (m_askedLength : Int32) (m_entries : Int32) (m_forks : Int32) (m_guess : Int32) (m_diff : Int32) (m_read : Int32) (m_placeOf : Int32) : Option (Int32 × (Nat → Int32) × (Nat → Int32) × (Nat → Int32) × (Nat → Int32) × (Nat → Int32) × (Nat → Int32) × (Nat → Int32) × (Nat → Int32) × (Nat → Int32) × (Nat → Int32) × (Nat → Int32) × (Nat → Int32) × (Nat → Int32) × (Nat → Int32) × (Nat → Int32) × Int32 × Int32 × Int32 × Int32 × Int32 × Int32 × Int32 × Int32) := bd2 (M_refuses m_refused (-3)) fun r17 m_refused_17 => some (r17, m_s, m_past, m_kept, m_refused_17, m_asked, m_heads, m_forkBit, m_forkFrom, m_forkTo, m_wayPage, m_wayKnown, m_wayGuess, m_wayDiff, m_wayRead, m_wayPlace, m_known, m_askedLength, m_entries, m_forks, m_guess, m_diff, m_read, m_placeOf)
def M_add (m_text : Nat → Int32) (m_typed : Int32) (m_s m_past m_kept m_refused m_asked m_heads m_forkBit m_forkFrom m_forkTo m_wayPage m_wayKnown m_wayGuess m_wayDiff m_wayRead m_wayPlace : Nat → Int32) (m_known m_askedLength m_entries m_forks m_guess m_diff m_read m_placeOf : Int32) : Option (Int32 × (Nat → Int32) × (Nat → Int32) × (Nat → Int32) × (Nat → Int32) × (Nat → Int32) × (Nat → Int32) × (Nat → Int32) × (Nat → Int32) × (Nat → Int32) × (Nat → Int32) × (Nat → Int32) × (Nat → Int32) × (Nat → Int32) × (Nat → Int32) × (Nat → Int32) × Int32 × Int32 × Int32 × Int32 × Int32 × Int32 × Int32 × Int32) := bd3 (M_isWord m_text m_typed m_asked m_askedLength) fun r1 m_asked_1 m_askedLength_1 => if r1 = 0 then (M_add_J14 m_text m_typed m_s m_past m_kept m_refused m_asked_1 m_heads m_forkBit m_forkFrom m_forkTo m_wayPage m_wayKnown m_wayGuess m_wayDiff m_wayRead m_wayPlace m_known m_askedLength_1 m_entries m_forks m_guess m_diff m_read m_placeOf) else (bd1 (M_isThere m_s m_asked_1 m_askedLength_1) fun r8 => if r8 = 0 then (if (m_s 0) = 48 then (bd2 (M_refuses m_refused (-4)) fun r35 m_refused_35 => some (r35, m_s, m_past, m_kept, m_refused_35, m_asked_1, m_heads, m_forkBit, m_forkFrom, m_forkTo, m_wayPage, m_wayKnown, m_wayGuess, m_wayDiff, m_wayRead, m_wayPlace, m_known, m_askedLength_1, m_entries, m_forks, m_guess, m_diff, m_read, m_placeOf)) else (bd1 (M_ahead m_s m_asked_1 m_askedLength_1) fun r40 => bd1 (M_aside m_s m_kept) fun m_kept_45 => bd17 (M_adds m_asked_1 m_askedLength_1 m_s m_heads m_forkBit m_forkFrom m_forkTo m_wayPage m_wayKnown m_wayGuess m_wayDiff m_wayRead m_wayPlace m_entries m_forks m_guess m_diff m_read m_placeOf) fun m_s_49 m_heads_49 m_forkBit_49 m_forkFrom_49 m_forkTo_49 m_wayPage_49 m_wayKnown_49 m_wayGuess_49 m_wayDiff_49 m_wayRead_49 m_wayPlace_49 m_entries_49 m_forks_49 m_guess_49 m_diff_49 m_read_49 m_placeOf_49 => bd2 (M_keeps m_kept_45 m_past m_known) fun m_past_53 m_known_53 => some (r40, m_s_49, m_past_53, m_kept_45, m_refused, m_asked_1, m_heads_49, m_forkBit_49, m_forkFrom_49, m_forkTo_49, m_wayPage_49, m_wayKnown_49, m_wayGuess_49, m_wayDiff_49, m_wayRead_49, m_wayPlace_49, m_known_53, m_askedLength_1, m_entries_49, m_forks_49, m_guess_49, m_diff_49, m_read_49, m_placeOf_49))) else (M_add_J14 m_text m_typed m_s m_past m_kept m_refused m_asked_1 m_heads m_forkBit m_forkFrom m_forkTo m_wayPage m_wayKnown m_wayGuess m_wayDiff m_wayRead m_wayPlace m_known m_askedLength_1 m_entries m_forks m_guess m_diff m_read m_placeOf))
set_option maxRecDepth 100000 in
set_option maxHeartbeats 4000000 in
theorem t_M_add_J14 {p : Program} {l : Launch} {e : Env} {s : State} {m : MethodId} {args : Array Value} {below : List Frame} {meth : Method} {c : Code} {Q : State → Prop} {A : Nat → Prop} {D : va_G} {cI cJ cB cL cS cW : ClassId} {a : Nat → Nat} {m_text m_treeBit m_treeLeft m_treeRight m_treeAbove m_pileFrom m_pileTo m_pileAbove : Nat → Int32} {m_typed m_treeForks m_treeDeep : Int32} {r : Int32} {o_s : Nat → Int32} {o_past : Nat → Int32} {o_kept : Nat → Int32} {o_refused : Nat → Int32} {o_asked : Nat → Int32} {o_heads : Nat → Int32} {o_forkBit : Nat → Int32} {o_forkFrom : Nat → Int32} {o_forkTo : Nat → Int32} {o_wayPage : Nat → Int32} {o_wayKnown : Nat → Int32} {o_wayGuess : Nat → Int32} {o_wayDiff : Nat → Int32} {o_wayRead : Nat → Int32} {o_wayPlace : Nat → Int32} {o_known : Int32} {o_askedLength : Int32} {o_entries : Int32} {o_forks : Int32} {o_guess : Int32} {o_diff : Int32} {o_read : Int32} {o_placeOf : Int32} (C : k_C p s m args meth c cX8_add 2 (some .int) RX8 wsX8_add D (kT cI cJ cB cL cS cW) A) (hD : va_D A (WM0 a cI)) (hret : ∀ (H : Heap) (locs : List Loc) (pc : Nat) (ls : Array Slot), decode cX8_add pc = .ok (.ireturn, 1) → va_P D vwCl (WM a cI o_s o_past o_kept o_refused m_text o_asked o_heads o_forkBit o_forkFrom o_forkTo o_wayPage o_wayKnown o_wayGuess o_wayDiff o_wayRead o_wayPlace m_treeBit m_treeLeft m_treeRight m_treeAbove m_pileFrom m_pileTo m_pileAbove o_known m_typed o_askedLength o_entries o_forks o_guess o_diff o_read o_placeOf m_treeForks m_treeDeep) H → va_S A s.heap H locs → W p l e { frames := 7, cells := 0, slots := 0, locals := 172 } s m args below meth c H locs 0 0 Q (F0 m pc ls [.int r])) : ∀ (m_s : (Nat → Int32)) (m_past : (Nat → Int32)) (m_kept : (Nat → Int32)) (m_refused : (Nat → Int32)) (m_asked : (Nat → Int32)) (m_heads : (Nat → Int32)) (m_forkBit : (Nat → Int32)) (m_forkFrom : (Nat → Int32)) (m_forkTo : (Nat → Int32)) (m_wayPage : (Nat → Int32)) (m_wayKnown : (Nat → Int32)) (m_wayGuess : (Nat → Int32)) (m_wayDiff : (Nat → Int32)) (m_wayRead : (Nat → Int32)) (m_wayPlace : (Nat → Int32)) (m_known : Int32) (m_askedLength : Int32) (m_entries : Int32) (m_forks : Int32) (m_guess : Int32) (m_diff : Int32) (m_read : Int32) (m_placeOf : Int32) (H : Heap) (locs : List Loc) (ls : Array Slot), va_P D vwCl (WM a cI m_s m_past m_kept m_refused m_text m_asked m_heads m_forkBit m_forkFrom m_forkTo m_wayPage m_wayKnown m_wayGuess m_wayDiff m_wayRead m_wayPlace m_treeBit m_treeLeft m_treeRight m_treeAbove m_pileFrom m_pileTo m_pileAbove m_known m_typed m_askedLength m_entries m_forks m_guess m_diff m_read m_placeOf m_treeForks m_treeDeep) H → va_S A s.heap H locs → lv_has ls 2 [(0, .ref (a 0))] → M_add_J14 m_text m_typed m_s m_past m_kept m_refused m_asked m_heads m_forkBit m_forkFrom m_forkTo m_wayPage m_wayKnown m_wayGuess m_wayDiff m_wayRead m_wayPlace m_known m_askedLength m_entries m_forks m_guess m_diff m_read m_placeOf = some (r, o_s, o_past, o_kept, o_refused, o_asked, o_heads, o_forkBit, o_forkFrom, o_forkTo, o_wayPage, o_wayKnown, o_wayGuess, o_wayDiff, o_wayRead, o_wayPlace, o_known, o_askedLength, o_entries, o_forks, o_guess, o_diff, o_read, o_placeOf) → W p l e { frames := 7, cells := 0, slots := 0, locals := 172 } s m args below meth c H locs 0 0 Q (F0 m 14 ls []) := by
  obtain ⟨hx, hb, hml, hr, hown, hts, hlocks, hK, hA, hN⟩ := id C
  intro m_s m_past m_kept m_refused m_asked m_heads m_forkBit m_forkFrom m_forkTo m_wayPage m_wayKnown m_wayGuess m_wayDiff m_wayRead m_wayPlace m_known m_askedLength m_entries m_forks m_guess m_diff m_read m_placeOf H locs ls hP hS hl hm
  rw [M_add_J14] at hm
  refine lv_aload_n hx hb dX8_add_14 rfl (lv_at hl 0 rfl) ?_
  refine lv_bipush (v := (-3)) hx hb dX8_add_15 (by decide) ?_
  obtain ⟨r17, m_refused_17, hq, hm⟩ := bd2_some hm
  refine k_callVI (As := [.int (-3)]) (rest := []) ⟨hx, hb, hml, hown, hts⟩ hK hA hN (c_X8_refuses (a := a) hq) (cwV 1 hts gX8_add_X8_refuses rfl rfl rfl hdX8_refuses ⟨Nat.le_of_ble_eq_true rfl, Nat.le_of_ble_eq_true rfl⟩) hP (va_D_re hD rfl) hS 0 8 rfl rfl rfl hl.1 rfl rfl (Nat.le_of_ble_eq_true rfl) ⟨Nat.zero_le _, Nat.zero_le _⟩ dX8_add_17 (fun H locs hP hS => ?_)
  simp only [Option.some.injEq, Prod.mk.injEq] at hm
  obtain ⟨rfl, rfl, rfl, rfl, rfl, rfl, rfl, rfl, rfl, rfl, rfl, rfl, rfl, rfl, rfl, rfl, rfl, rfl, rfl, rfl, rfl, rfl, rfl, rfl⟩ := hm
  exact hret _ _ _ _ dX8_add_20 hP hS
set_option maxRecDepth 100000 in
set_option maxHeartbeats 4000000 in
theorem c_X8_add {l : Launch} {D : va_G} {cI cJ cB cL cS cW : ClassId} {a : Nat → Nat} {m_s m_past m_kept m_refused m_text m_asked m_heads m_forkBit m_forkFrom m_forkTo m_wayPage m_wayKnown m_wayGuess m_wayDiff m_wayRead m_wayPlace m_treeBit m_treeLeft m_treeRight m_treeAbove m_pileFrom m_pileTo m_pileAbove : Nat → Int32} {m_known m_typed m_askedLength m_entries m_forks m_guess m_diff m_read m_placeOf m_treeForks m_treeDeep : Int32} {r : Int32} {o_s : Nat → Int32} {o_past : Nat → Int32} {o_kept : Nat → Int32} {o_refused : Nat → Int32} {o_asked : Nat → Int32} {o_heads : Nat → Int32} {o_forkBit : Nat → Int32} {o_forkFrom : Nat → Int32} {o_forkTo : Nat → Int32} {o_wayPage : Nat → Int32} {o_wayKnown : Nat → Int32} {o_wayGuess : Nat → Int32} {o_wayDiff : Nat → Int32} {o_wayRead : Nat → Int32} {o_wayPlace : Nat → Int32} {o_known : Int32} {o_askedLength : Int32} {o_entries : Int32} {o_forks : Int32} {o_guess : Int32} {o_diff : Int32} {o_read : Int32} {o_placeOf : Int32} (hm : M_add m_text m_typed m_s m_past m_kept m_refused m_asked m_heads m_forkBit m_forkFrom m_forkTo m_wayPage m_wayKnown m_wayGuess m_wayDiff m_wayRead m_wayPlace m_known m_askedLength m_entries m_forks m_guess m_diff m_read m_placeOf = some (r, o_s, o_past, o_kept, o_refused, o_asked, o_heads, o_forkBit, o_forkFrom, o_forkTo, o_wayPage, o_wayKnown, o_wayGuess, o_wayDiff, o_wayRead, o_wayPlace, o_known, o_askedLength, o_entries, o_forks, o_guess, o_diff, o_read, o_placeOf)) : k_MI l yX8_add wsX8_add { frames := 7, cells := 0, slots := 0, locals := 172 } D (kT cI cJ cB cL cS cW) [.ref (a 0)] (WM a cI m_s m_past m_kept m_refused m_text m_asked m_heads m_forkBit m_forkFrom m_forkTo m_wayPage m_wayKnown m_wayGuess m_wayDiff m_wayRead m_wayPlace m_treeBit m_treeLeft m_treeRight m_treeAbove m_pileFrom m_pileTo m_pileAbove m_known m_typed m_askedLength m_entries m_forks m_guess m_diff m_read m_placeOf m_treeForks m_treeDeep) r (WM a cI o_s o_past o_kept o_refused m_text o_asked o_heads o_forkBit o_forkFrom o_forkTo o_wayPage o_wayKnown o_wayGuess o_wayDiff o_wayRead o_wayPlace m_treeBit m_treeLeft m_treeRight m_treeAbove m_pileFrom m_pileTo m_pileAbove o_known m_typed o_askedLength o_entries o_forks o_guess o_diff o_read o_placeOf m_treeForks m_treeDeep) := by
  refine k_ofI (cc := cX8_add) (maxL := 2) (own := RX8) (by decide) rfl rfl (Nat.le_of_ble_eq_true rfl) ?_
  intro p e s m args below meth c A Q ls C hP hD hl hret
  have hD : va_D A (WM0 a cI) := va_D_re hD rfl
  have hS : va_S A s.heap s.heap [] := va_S.rf
  have hl : lv_has ls 2 [(0, .ref (a 0))] := hl
  obtain ⟨hx, hb, hml, hr, hown, hts, hlocks, hK, hA, hN⟩ := id C
  rw [M_add] at hm
  refine lv_aload_n hx hb dX8_add_0 rfl (lv_at hl 0 rfl) ?_
  obtain ⟨r1, m_asked_1, m_askedLength_1, hq, hm⟩ := bd3_some hm
  refine k_callVI (As := []) (rest := []) ⟨hx, hb, hml, hown, hts⟩ hK hA hN (c_X8_isWord (a := a) hq) (cwV 0 hts gX8_add_X8_isWord rfl rfl rfl hdX8_isWord ⟨Nat.le_of_ble_eq_true rfl, Nat.le_of_ble_eq_true rfl⟩) hP (va_D_re hD rfl) hS 0 8 rfl rfl rfl hl.1 rfl rfl (Nat.le_of_ble_eq_true rfl) ⟨Nat.zero_le _, Nat.zero_le _⟩ dX8_add_1 (fun H locs hP hS => ?_)
  refine lv_if_eq (tgt := 14) hx hb dX8_add_4 (by decide) (fun hc => ?_) (fun hc => ?_)
  · have hm := if_t hc hm
    exact t_M_add_J14 C hD hret _ _ _ _ _ _ _ _ _ _ _ _ _ _ _ _ _ _ _ _ _ _ _ _ _ _ hP hS (lv_sub hl [0] rfl) hm
  · have hm := if_f hc hm
    refine lv_aload_n hx hb dX8_add_7 rfl (lv_at hl 0 rfl) ?_
    obtain ⟨r8, hq, hm⟩ := bd1_some hm
    refine k_callVI (As := []) (rest := []) ⟨hx, hb, hml, hown, hts⟩ hK hA hN (c_X8_isThere (a := a) hq) (cwV 0 hts gX8_add_X8_isThere rfl rfl rfl hdX8_isThere ⟨Nat.le_of_ble_eq_true rfl, Nat.le_of_ble_eq_true rfl⟩) hP (va_D_re hD rfl) hS 0 8 rfl rfl rfl hl.1 rfl rfl (Nat.le_of_ble_eq_true rfl) ⟨Nat.zero_le _, Nat.zero_le _⟩ dX8_add_8 (fun H locs hP hS => ?_)
    refine lv_if_eq (tgt := 21) hx hb dX8_add_11 (by decide) (fun hc => ?_) (fun hc => ?_)
    · have hm := if_t hc hm
      refine lv_aload_n hx hb dX8_add_21 rfl (lv_at hl 0 rfl) ?_
      refine kg (v := .ref (a 1)) hx hb hts hiX8_add hown hK hP 0 rfl rfl 0 (by decide) flX8_add_7 rfl rfl dX8_add_22 ?_
      refine lv_iconst (v := 0) hx hb dX8_add_25 (by decide) ?_
      refine k_iald (j := 0) hx hb hK hP 1 0 rfl rfl rfl (vp_lit (by decide)) dX8_add_26 ?_
      refine lv_bipush (v := 48) hx hb dX8_add_27 (by decide) ?_
      refine lv_icmp_ne (tgt := 39) hx hb dX8_add_29 (by decide) (fun hc => ?_) (fun hc => ?_)
      · have hm := if_f hc hm
        refine lv_aload_n hx hb dX8_add_39 rfl (lv_at hl 0 rfl) ?_
        obtain ⟨r40, hq, hm⟩ := bd1_some hm
        refine k_callVI (As := []) (rest := []) ⟨hx, hb, hml, hown, hts⟩ hK hA hN (c_X8_ahead (a := a) hq) (cwV 0 hts gX8_add_X8_ahead rfl rfl rfl hdX8_ahead ⟨Nat.le_of_ble_eq_true rfl, Nat.le_of_ble_eq_true rfl⟩) hP (va_D_re hD rfl) hS 0 8 rfl rfl rfl hl.1 rfl rfl (Nat.le_of_ble_eq_true rfl) ⟨Nat.zero_le _, Nat.zero_le _⟩ dX8_add_40 (fun H locs hP hS => ?_)
        refine lv_istore_n (lv' := [(1, .int r40), (0, .ref (a 0))]) hx hb dX8_add_43 rfl hl (by decide) rfl (fun ls hl => ?_)
        refine lv_aload_n hx hb dX8_add_44 rfl (lv_at hl 1 rfl) ?_
        obtain ⟨m_kept_45, hq, hm⟩ := bd1_some hm
        refine k_callVV (As := []) (rest := []) ⟨hx, hb, hml, hown, hts⟩ hK hA hN (c_X8_aside (a := a) hq) (cwV 0 hts gX8_add_X8_aside rfl rfl rfl hdX8_aside ⟨Nat.le_of_ble_eq_true rfl, Nat.le_of_ble_eq_true rfl⟩) hP (va_D_re hD rfl) hS 0 8 rfl rfl rfl hl.1 rfl rfl (Nat.le_of_ble_eq_true rfl) ⟨Nat.zero_le _, Nat.zero_le _⟩ dX8_add_45 (fun H locs hP hS => ?_)
        refine lv_aload_n hx hb dX8_add_48 rfl (lv_at hl 1 rfl) ?_
        obtain ⟨m_s_49, m_heads_49, m_forkBit_49, m_forkFrom_49, m_forkTo_49, m_wayPage_49, m_wayKnown_49, m_wayGuess_49, m_wayDiff_49, m_wayRead_49, m_wayPlace_49, m_entries_49, m_forks_49, m_guess_49, m_diff_49, m_read_49, m_placeOf_49, hq, hm⟩ := bd17_some hm
        refine k_callVV (As := []) (rest := []) ⟨hx, hb, hml, hown, hts⟩ hK hA hN (c_X8_adds (a := a) hq) (cwV 0 hts gX8_add_X8_adds rfl rfl rfl hdX8_adds ⟨Nat.le_of_ble_eq_true rfl, Nat.le_of_ble_eq_true rfl⟩) hP (va_D_re hD rfl) hS 0 8 rfl rfl rfl hl.1 rfl rfl (Nat.le_of_ble_eq_true rfl) ⟨Nat.zero_le _, Nat.zero_le _⟩ dX8_add_49 (fun H locs hP hS => ?_)
        refine lv_aload_n hx hb dX8_add_52 rfl (lv_at hl 1 rfl) ?_
        obtain ⟨m_past_53, m_known_53, hq, hm⟩ := bd2_some hm
        refine k_callVV (As := []) (rest := []) ⟨hx, hb, hml, hown, hts⟩ hK hA hN (c_X8_keeps (a := a) hq) (cwV 0 hts gX8_add_X8_keeps rfl rfl rfl hdX8_keeps ⟨Nat.le_of_ble_eq_true rfl, Nat.le_of_ble_eq_true rfl⟩) hP (va_D_re hD rfl) hS 0 8 rfl rfl rfl hl.1 rfl rfl (Nat.le_of_ble_eq_true rfl) ⟨Nat.zero_le _, Nat.zero_le _⟩ dX8_add_53 (fun H locs hP hS => ?_)
        refine lv_iload_n hx hb dX8_add_56 rfl (lv_at hl 0 rfl) ?_
        simp only [Option.some.injEq, Prod.mk.injEq] at hm
        obtain ⟨rfl, rfl, rfl, rfl, rfl, rfl, rfl, rfl, rfl, rfl, rfl, rfl, rfl, rfl, rfl, rfl, rfl, rfl, rfl, rfl, rfl, rfl, rfl, rfl⟩ := hm
        exact hret _ _ _ _ dX8_add_57 hP hS
      · have hm := if_t hc hm
        refine lv_aload_n hx hb dX8_add_32 rfl (lv_at hl 0 rfl) ?_
        refine lv_bipush (v := (-4)) hx hb dX8_add_33 (by decide) ?_
        obtain ⟨r35, m_refused_35, hq, hm⟩ := bd2_some hm
        refine k_callVI (As := [.int (-4)]) (rest := []) ⟨hx, hb, hml, hown, hts⟩ hK hA hN (c_X8_refuses (a := a) hq) (cwV 1 hts gX8_add_X8_refuses rfl rfl rfl hdX8_refuses ⟨Nat.le_of_ble_eq_true rfl, Nat.le_of_ble_eq_true rfl⟩) hP (va_D_re hD rfl) hS 0 8 rfl rfl rfl hl.1 rfl rfl (Nat.le_of_ble_eq_true rfl) ⟨Nat.zero_le _, Nat.zero_le _⟩ dX8_add_35 (fun H locs hP hS => ?_)
        simp only [Option.some.injEq, Prod.mk.injEq] at hm
        obtain ⟨rfl, rfl, rfl, rfl, rfl, rfl, rfl, rfl, rfl, rfl, rfl, rfl, rfl, rfl, rfl, rfl, rfl, rfl, rfl, rfl, rfl, rfl, rfl, rfl⟩ := hm
        exact hret _ _ _ _ dX8_add_38 hP hS
    · have hm := if_f hc hm
      exact t_M_add_J14 C hD hret _ _ _ _ _ _ _ _ _ _ _ _ _ _ _ _ _ _ _ _ _ _ _ _ _ _ hP hS (lv_sub hl [0] rfl) hm
theorem hdX8_takeOut : yX8_takeOut.cls = RX8 ∧ yX8_takeOut.cls ≠ "java/lang/invoke/MethodHandle" ∧ yX8_takeOut.cls ≠ "java/lang/invoke/VarHandle" ∧ (parseMethodDescriptor yX8_takeOut.desc).map (fun d => d.parameters.length) = some 0 := by decide +kernel
theorem hiX8_takeOut : ∀ w ∈ u_ws RX8 TX8 34, w ∈ wsX8_takeOut := by decide +kernel
theorem flX8_takeOut_7 : Cond.fieldLink RX8 7 "BlindPagesModel" "s" "[I" ∈ wsX8_takeOut := by decide +kernel
def M_takeOut_J14 (m_text : Nat → Int32) (m_typed : Int32) (m_s : (Nat → Int32)) (m_past : (Nat → Int32)) (m_kept : (Nat → Int32)) (m_refused : (Nat → Int32)) (m_asked : (Nat → Int32)) (m_heads : (Nat → Int32)) (m_forkBit : (Nat → Int32)) (m_forkFrom : (Nat → Int32)) (m_forkTo : (Nat → Int32)) (m_wayPage : (Nat → Int32)) (m_wayKnown : (Nat → Int32)) (m_wayGuess : (Nat → Int32)) (m_wayDiff : (Nat → Int32)) (m_wayRead : (Nat → Int32)) (m_wayPlace : (Nat → Int32)) (m_known : Int32) (m_askedLength : Int32) (m_entries : Int32) (m_forks : Int32) (m_guess : Int32) (m_diff : Int32) (m_read : Int32) (m_placeOf : Int32) : Option (Int32 × (Nat → Int32) × (Nat → Int32) × (Nat → Int32) × (Nat → Int32) × (Nat → Int32) × (Nat → Int32) × (Nat → Int32) × (Nat → Int32) × (Nat → Int32) × (Nat → Int32) × (Nat → Int32) × (Nat → Int32) × (Nat → Int32) × (Nat → Int32) × (Nat → Int32) × Int32 × Int32 × Int32 × Int32 × Int32 × Int32 × Int32 × Int32) := bd2 (M_refuses m_refused (-3)) fun r17 m_refused_17 => some (r17, m_s, m_past, m_kept, m_refused_17, m_asked, m_heads, m_forkBit, m_forkFrom, m_forkTo, m_wayPage, m_wayKnown, m_wayGuess, m_wayDiff, m_wayRead, m_wayPlace, m_known, m_askedLength, m_entries, m_forks, m_guess, m_diff, m_read, m_placeOf)
def M_takeOut (m_text : Nat → Int32) (m_typed : Int32) (m_s m_past m_kept m_refused m_asked m_heads m_forkBit m_forkFrom m_forkTo m_wayPage m_wayKnown m_wayGuess m_wayDiff m_wayRead m_wayPlace : Nat → Int32) (m_known m_askedLength m_entries m_forks m_guess m_diff m_read m_placeOf : Int32) : Option (Int32 × (Nat → Int32) × (Nat → Int32) × (Nat → Int32) × (Nat → Int32) × (Nat → Int32) × (Nat → Int32) × (Nat → Int32) × (Nat → Int32) × (Nat → Int32) × (Nat → Int32) × (Nat → Int32) × (Nat → Int32) × (Nat → Int32) × (Nat → Int32) × (Nat → Int32) × Int32 × Int32 × Int32 × Int32 × Int32 × Int32 × Int32 × Int32) := bd3 (M_isWord m_text m_typed m_asked m_askedLength) fun r1 m_asked_1 m_askedLength_1 => if r1 = 0 then (M_takeOut_J14 m_text m_typed m_s m_past m_kept m_refused m_asked_1 m_heads m_forkBit m_forkFrom m_forkTo m_wayPage m_wayKnown m_wayGuess m_wayDiff m_wayRead m_wayPlace m_known m_askedLength_1 m_entries m_forks m_guess m_diff m_read m_placeOf) else (bd1 (M_isThere m_s m_asked_1 m_askedLength_1) fun r8 => if r8 = 0 then (M_takeOut_J14 m_text m_typed m_s m_past m_kept m_refused m_asked_1 m_heads m_forkBit m_forkFrom m_forkTo m_wayPage m_wayKnown m_wayGuess m_wayDiff m_wayRead m_wayPlace m_known m_askedLength_1 m_entries m_forks m_guess m_diff m_read m_placeOf) else (bd1 (M_aside m_s m_kept) fun m_kept_22 => bd17 (M_takes m_asked_1 m_askedLength_1 m_s m_heads m_forkBit m_forkFrom m_forkTo m_wayPage m_wayKnown m_wayGuess m_wayDiff m_wayRead m_wayPlace m_entries m_forks m_guess m_diff m_read m_placeOf) fun m_s_26 m_heads_26 m_forkBit_26 m_forkFrom_26 m_forkTo_26 m_wayPage_26 m_wayKnown_26 m_wayGuess_26 m_wayDiff_26 m_wayRead_26 m_wayPlace_26 m_entries_26 m_forks_26 m_guess_26 m_diff_26 m_read_26 m_placeOf_26 => bd2 (M_keeps m_kept_22 m_past m_known) fun m_past_30 m_known_30 => some ((m_s_26 0), m_s_26, m_past_30, m_kept_22, m_refused, m_asked_1, m_heads_26, m_forkBit_26, m_forkFrom_26, m_forkTo_26, m_wayPage_26, m_wayKnown_26, m_wayGuess_26, m_wayDiff_26, m_wayRead_26, m_wayPlace_26, m_known_30, m_askedLength_1, m_entries_26, m_forks_26, m_guess_26, m_diff_26, m_read_26, m_placeOf_26)))
set_option maxRecDepth 100000 in
set_option maxHeartbeats 4000000 in
theorem t_M_takeOut_J14 {p : Program} {l : Launch} {e : Env} {s : State} {m : MethodId} {args : Array Value} {below : List Frame} {meth : Method} {c : Code} {Q : State → Prop} {A : Nat → Prop} {D : va_G} {cI cJ cB cL cS cW : ClassId} {a : Nat → Nat} {m_text m_treeBit m_treeLeft m_treeRight m_treeAbove m_pileFrom m_pileTo m_pileAbove : Nat → Int32} {m_typed m_treeForks m_treeDeep : Int32} {r : Int32} {o_s : Nat → Int32} {o_past : Nat → Int32} {o_kept : Nat → Int32} {o_refused : Nat → Int32} {o_asked : Nat → Int32} {o_heads : Nat → Int32} {o_forkBit : Nat → Int32} {o_forkFrom : Nat → Int32} {o_forkTo : Nat → Int32} {o_wayPage : Nat → Int32} {o_wayKnown : Nat → Int32} {o_wayGuess : Nat → Int32} {o_wayDiff : Nat → Int32} {o_wayRead : Nat → Int32} {o_wayPlace : Nat → Int32} {o_known : Int32} {o_askedLength : Int32} {o_entries : Int32} {o_forks : Int32} {o_guess : Int32} {o_diff : Int32} {o_read : Int32} {o_placeOf : Int32} (C : k_C p s m args meth c cX8_takeOut 1 (some .int) RX8 wsX8_takeOut D (kT cI cJ cB cL cS cW) A) (hD : va_D A (WM0 a cI)) (hret : ∀ (H : Heap) (locs : List Loc) (pc : Nat) (ls : Array Slot), decode cX8_takeOut pc = .ok (.ireturn, 1) → va_P D vwCl (WM a cI o_s o_past o_kept o_refused m_text o_asked o_heads o_forkBit o_forkFrom o_forkTo o_wayPage o_wayKnown o_wayGuess o_wayDiff o_wayRead o_wayPlace m_treeBit m_treeLeft m_treeRight m_treeAbove m_pileFrom m_pileTo m_pileAbove o_known m_typed o_askedLength o_entries o_forks o_guess o_diff o_read o_placeOf m_treeForks m_treeDeep) H → va_S A s.heap H locs → W p l e { frames := 7, cells := 0, slots := 0, locals := 176 } s m args below meth c H locs 0 0 Q (F0 m pc ls [.int r])) : ∀ (m_s : (Nat → Int32)) (m_past : (Nat → Int32)) (m_kept : (Nat → Int32)) (m_refused : (Nat → Int32)) (m_asked : (Nat → Int32)) (m_heads : (Nat → Int32)) (m_forkBit : (Nat → Int32)) (m_forkFrom : (Nat → Int32)) (m_forkTo : (Nat → Int32)) (m_wayPage : (Nat → Int32)) (m_wayKnown : (Nat → Int32)) (m_wayGuess : (Nat → Int32)) (m_wayDiff : (Nat → Int32)) (m_wayRead : (Nat → Int32)) (m_wayPlace : (Nat → Int32)) (m_known : Int32) (m_askedLength : Int32) (m_entries : Int32) (m_forks : Int32) (m_guess : Int32) (m_diff : Int32) (m_read : Int32) (m_placeOf : Int32) (H : Heap) (locs : List Loc) (ls : Array Slot), va_P D vwCl (WM a cI m_s m_past m_kept m_refused m_text m_asked m_heads m_forkBit m_forkFrom m_forkTo m_wayPage m_wayKnown m_wayGuess m_wayDiff m_wayRead m_wayPlace m_treeBit m_treeLeft m_treeRight m_treeAbove m_pileFrom m_pileTo m_pileAbove m_known m_typed m_askedLength m_entries m_forks m_guess m_diff m_read m_placeOf m_treeForks m_treeDeep) H → va_S A s.heap H locs → lv_has ls 1 [(0, .ref (a 0))] → M_takeOut_J14 m_text m_typed m_s m_past m_kept m_refused m_asked m_heads m_forkBit m_forkFrom m_forkTo m_wayPage m_wayKnown m_wayGuess m_wayDiff m_wayRead m_wayPlace m_known m_askedLength m_entries m_forks m_guess m_diff m_read m_placeOf = some (r, o_s, o_past, o_kept, o_refused, o_asked, o_heads, o_forkBit, o_forkFrom, o_forkTo, o_wayPage, o_wayKnown, o_wayGuess, o_wayDiff, o_wayRead, o_wayPlace, o_known, o_askedLength, o_entries, o_forks, o_guess, o_diff, o_read, o_placeOf) → W p l e { frames := 7, cells := 0, slots := 0, locals := 176 } s m args below meth c H locs 0 0 Q (F0 m 14 ls []) := by
  obtain ⟨hx, hb, hml, hr, hown, hts, hlocks, hK, hA, hN⟩ := id C
  intro m_s m_past m_kept m_refused m_asked m_heads m_forkBit m_forkFrom m_forkTo m_wayPage m_wayKnown m_wayGuess m_wayDiff m_wayRead m_wayPlace m_known m_askedLength m_entries m_forks m_guess m_diff m_read m_placeOf H locs ls hP hS hl hm
  rw [M_takeOut_J14] at hm
  refine lv_aload_n hx hb dX8_takeOut_14 rfl (lv_at hl 0 rfl) ?_
  refine lv_bipush (v := (-3)) hx hb dX8_takeOut_15 (by decide) ?_
  obtain ⟨r17, m_refused_17, hq, hm⟩ := bd2_some hm
  refine k_callVI (As := [.int (-3)]) (rest := []) ⟨hx, hb, hml, hown, hts⟩ hK hA hN (c_X8_refuses (a := a) hq) (cwV 1 hts gX8_takeOut_X8_refuses rfl rfl rfl hdX8_refuses ⟨Nat.le_of_ble_eq_true rfl, Nat.le_of_ble_eq_true rfl⟩) hP (va_D_re hD rfl) hS 0 8 rfl rfl rfl hl.1 rfl rfl (Nat.le_of_ble_eq_true rfl) ⟨Nat.zero_le _, Nat.zero_le _⟩ dX8_takeOut_17 (fun H locs hP hS => ?_)
  simp only [Option.some.injEq, Prod.mk.injEq] at hm
  obtain ⟨rfl, rfl, rfl, rfl, rfl, rfl, rfl, rfl, rfl, rfl, rfl, rfl, rfl, rfl, rfl, rfl, rfl, rfl, rfl, rfl, rfl, rfl, rfl, rfl⟩ := hm
  exact hret _ _ _ _ dX8_takeOut_20 hP hS
set_option maxRecDepth 100000 in
set_option maxHeartbeats 4000000 in
theorem c_X8_takeOut {l : Launch} {D : va_G} {cI cJ cB cL cS cW : ClassId} {a : Nat → Nat} {m_s m_past m_kept m_refused m_text m_asked m_heads m_forkBit m_forkFrom m_forkTo m_wayPage m_wayKnown m_wayGuess m_wayDiff m_wayRead m_wayPlace m_treeBit m_treeLeft m_treeRight m_treeAbove m_pileFrom m_pileTo m_pileAbove : Nat → Int32} {m_known m_typed m_askedLength m_entries m_forks m_guess m_diff m_read m_placeOf m_treeForks m_treeDeep : Int32} {r : Int32} {o_s : Nat → Int32} {o_past : Nat → Int32} {o_kept : Nat → Int32} {o_refused : Nat → Int32} {o_asked : Nat → Int32} {o_heads : Nat → Int32} {o_forkBit : Nat → Int32} {o_forkFrom : Nat → Int32} {o_forkTo : Nat → Int32} {o_wayPage : Nat → Int32} {o_wayKnown : Nat → Int32} {o_wayGuess : Nat → Int32} {o_wayDiff : Nat → Int32} {o_wayRead : Nat → Int32} {o_wayPlace : Nat → Int32} {o_known : Int32} {o_askedLength : Int32} {o_entries : Int32} {o_forks : Int32} {o_guess : Int32} {o_diff : Int32} {o_read : Int32} {o_placeOf : Int32} (hm : M_takeOut m_text m_typed m_s m_past m_kept m_refused m_asked m_heads m_forkBit m_forkFrom m_forkTo m_wayPage m_wayKnown m_wayGuess m_wayDiff m_wayRead m_wayPlace m_known m_askedLength m_entries m_forks m_guess m_diff m_read m_placeOf = some (r, o_s, o_past, o_kept, o_refused, o_asked, o_heads, o_forkBit, o_forkFrom, o_forkTo, o_wayPage, o_wayKnown, o_wayGuess, o_wayDiff, o_wayRead, o_wayPlace, o_known, o_askedLength, o_entries, o_forks, o_guess, o_diff, o_read, o_placeOf)) : k_MI l yX8_takeOut wsX8_takeOut { frames := 7, cells := 0, slots := 0, locals := 176 } D (kT cI cJ cB cL cS cW) [.ref (a 0)] (WM a cI m_s m_past m_kept m_refused m_text m_asked m_heads m_forkBit m_forkFrom m_forkTo m_wayPage m_wayKnown m_wayGuess m_wayDiff m_wayRead m_wayPlace m_treeBit m_treeLeft m_treeRight m_treeAbove m_pileFrom m_pileTo m_pileAbove m_known m_typed m_askedLength m_entries m_forks m_guess m_diff m_read m_placeOf m_treeForks m_treeDeep) r (WM a cI o_s o_past o_kept o_refused m_text o_asked o_heads o_forkBit o_forkFrom o_forkTo o_wayPage o_wayKnown o_wayGuess o_wayDiff o_wayRead o_wayPlace m_treeBit m_treeLeft m_treeRight m_treeAbove m_pileFrom m_pileTo m_pileAbove o_known m_typed o_askedLength o_entries o_forks o_guess o_diff o_read o_placeOf m_treeForks m_treeDeep) := by
  refine k_ofI (cc := cX8_takeOut) (maxL := 1) (own := RX8) (by decide) rfl rfl (Nat.le_of_ble_eq_true rfl) ?_
  intro p e s m args below meth c A Q ls C hP hD hl hret
  have hD : va_D A (WM0 a cI) := va_D_re hD rfl
  have hS : va_S A s.heap s.heap [] := va_S.rf
  have hl : lv_has ls 1 [(0, .ref (a 0))] := hl
  obtain ⟨hx, hb, hml, hr, hown, hts, hlocks, hK, hA, hN⟩ := id C
  rw [M_takeOut] at hm
  refine lv_aload_n hx hb dX8_takeOut_0 rfl (lv_at hl 0 rfl) ?_
  obtain ⟨r1, m_asked_1, m_askedLength_1, hq, hm⟩ := bd3_some hm
  refine k_callVI (As := []) (rest := []) ⟨hx, hb, hml, hown, hts⟩ hK hA hN (c_X8_isWord (a := a) hq) (cwV 0 hts gX8_takeOut_X8_isWord rfl rfl rfl hdX8_isWord ⟨Nat.le_of_ble_eq_true rfl, Nat.le_of_ble_eq_true rfl⟩) hP (va_D_re hD rfl) hS 0 8 rfl rfl rfl hl.1 rfl rfl (Nat.le_of_ble_eq_true rfl) ⟨Nat.zero_le _, Nat.zero_le _⟩ dX8_takeOut_1 (fun H locs hP hS => ?_)
  refine lv_if_eq (tgt := 14) hx hb dX8_takeOut_4 (by decide) (fun hc => ?_) (fun hc => ?_)
  · have hm := if_t hc hm
    exact t_M_takeOut_J14 C hD hret _ _ _ _ _ _ _ _ _ _ _ _ _ _ _ _ _ _ _ _ _ _ _ _ _ _ hP hS (lv_sub hl [0] rfl) hm
  · have hm := if_f hc hm
    refine lv_aload_n hx hb dX8_takeOut_7 rfl (lv_at hl 0 rfl) ?_
    obtain ⟨r8, hq, hm⟩ := bd1_some hm
    refine k_callVI (As := []) (rest := []) ⟨hx, hb, hml, hown, hts⟩ hK hA hN (c_X8_isThere (a := a) hq) (cwV 0 hts gX8_takeOut_X8_isThere rfl rfl rfl hdX8_isThere ⟨Nat.le_of_ble_eq_true rfl, Nat.le_of_ble_eq_true rfl⟩) hP (va_D_re hD rfl) hS 0 8 rfl rfl rfl hl.1 rfl rfl (Nat.le_of_ble_eq_true rfl) ⟨Nat.zero_le _, Nat.zero_le _⟩ dX8_takeOut_8 (fun H locs hP hS => ?_)
    refine lv_if_ne (tgt := 21) hx hb dX8_takeOut_11 (by decide) (fun hc => ?_) (fun hc => ?_)
    · have hm := if_f hc hm
      refine lv_aload_n hx hb dX8_takeOut_21 rfl (lv_at hl 0 rfl) ?_
      obtain ⟨m_kept_22, hq, hm⟩ := bd1_some hm
      refine k_callVV (As := []) (rest := []) ⟨hx, hb, hml, hown, hts⟩ hK hA hN (c_X8_aside (a := a) hq) (cwV 0 hts gX8_takeOut_X8_aside rfl rfl rfl hdX8_aside ⟨Nat.le_of_ble_eq_true rfl, Nat.le_of_ble_eq_true rfl⟩) hP (va_D_re hD rfl) hS 0 8 rfl rfl rfl hl.1 rfl rfl (Nat.le_of_ble_eq_true rfl) ⟨Nat.zero_le _, Nat.zero_le _⟩ dX8_takeOut_22 (fun H locs hP hS => ?_)
      refine lv_aload_n hx hb dX8_takeOut_25 rfl (lv_at hl 0 rfl) ?_
      obtain ⟨m_s_26, m_heads_26, m_forkBit_26, m_forkFrom_26, m_forkTo_26, m_wayPage_26, m_wayKnown_26, m_wayGuess_26, m_wayDiff_26, m_wayRead_26, m_wayPlace_26, m_entries_26, m_forks_26, m_guess_26, m_diff_26, m_read_26, m_placeOf_26, hq, hm⟩ := bd17_some hm
      refine k_callVV (As := []) (rest := []) ⟨hx, hb, hml, hown, hts⟩ hK hA hN (c_X8_takes (a := a) hq) (cwV 0 hts gX8_takeOut_X8_takes rfl rfl rfl hdX8_takes ⟨Nat.le_of_ble_eq_true rfl, Nat.le_of_ble_eq_true rfl⟩) hP (va_D_re hD rfl) hS 0 8 rfl rfl rfl hl.1 rfl rfl (Nat.le_of_ble_eq_true rfl) ⟨Nat.zero_le _, Nat.zero_le _⟩ dX8_takeOut_26 (fun H locs hP hS => ?_)
      refine lv_aload_n hx hb dX8_takeOut_29 rfl (lv_at hl 0 rfl) ?_
      obtain ⟨m_past_30, m_known_30, hq, hm⟩ := bd2_some hm
      refine k_callVV (As := []) (rest := []) ⟨hx, hb, hml, hown, hts⟩ hK hA hN (c_X8_keeps (a := a) hq) (cwV 0 hts gX8_takeOut_X8_keeps rfl rfl rfl hdX8_keeps ⟨Nat.le_of_ble_eq_true rfl, Nat.le_of_ble_eq_true rfl⟩) hP (va_D_re hD rfl) hS 0 8 rfl rfl rfl hl.1 rfl rfl (Nat.le_of_ble_eq_true rfl) ⟨Nat.zero_le _, Nat.zero_le _⟩ dX8_takeOut_30 (fun H locs hP hS => ?_)
      refine lv_aload_n hx hb dX8_takeOut_33 rfl (lv_at hl 0 rfl) ?_
      refine kg (v := .ref (a 1)) hx hb hts hiX8_takeOut hown hK hP 0 rfl rfl 0 (by decide) flX8_takeOut_7 rfl rfl dX8_takeOut_34 ?_
      refine lv_iconst (v := 0) hx hb dX8_takeOut_37 (by decide) ?_
      refine k_iald (j := 0) hx hb hK hP 1 0 rfl rfl rfl (vp_lit (by decide)) dX8_takeOut_38 ?_
      simp only [Option.some.injEq, Prod.mk.injEq] at hm
      obtain ⟨rfl, rfl, rfl, rfl, rfl, rfl, rfl, rfl, rfl, rfl, rfl, rfl, rfl, rfl, rfl, rfl, rfl, rfl, rfl, rfl, rfl, rfl, rfl, rfl⟩ := hm
      exact hret _ _ _ _ dX8_takeOut_39 hP hS
    · have hm := if_t hc hm
      exact t_M_takeOut_J14 C hD hret _ _ _ _ _ _ _ _ _ _ _ _ _ _ _ _ _ _ _ _ _ _ _ _ _ _ hP hS (lv_sub hl [0] rfl) hm
