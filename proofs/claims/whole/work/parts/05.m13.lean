theorem hdX8_allOf : yX8_allOf.cls = RX8 ∧ yX8_allOf.cls ≠ "java/lang/invoke/MethodHandle" ∧ yX8_allOf.cls ≠ "java/lang/invoke/VarHandle" ∧ (parseMethodDescriptor yX8_allOf.desc).map (fun d => d.parameters.length) = some 1 := by decide +kernel
theorem hiX8_allOf : ∀ w ∈ u_ws RX8 TX8 34, w ∈ wsX8_allOf := by decide +kernel
theorem flX8_allOf_7 : Cond.fieldLink RX8 7 "BlindPagesModel" "s" "[I" ∈ wsX8_allOf := by decide +kernel
def M_allOf (m_s : Nat → Int32) (m_asked m_heads m_forkBit m_forkFrom m_forkTo m_wayPage m_wayKnown m_wayGuess m_wayDiff m_wayRead m_wayPlace : Nat → Int32) (m_askedLength m_entries m_forks m_guess m_diff m_read m_placeOf : Int32) (v1 : Int32) : Option (Int32 × (Nat → Int32) × (Nat → Int32) × (Nat → Int32) × (Nat → Int32) × (Nat → Int32) × (Nat → Int32) × (Nat → Int32) × (Nat → Int32) × (Nat → Int32) × (Nat → Int32) × (Nat → Int32) × Int32 × Int32 × Int32 × Int32 × Int32 × Int32 × Int32) := if v1 = 0 then (some ((m_s 0), m_asked, m_heads, m_forkBit, m_forkFrom, m_forkTo, m_wayPage, m_wayKnown, m_wayGuess, m_wayDiff, m_wayRead, m_wayPlace, m_askedLength, m_entries, m_forks, m_guess, m_diff, m_read, m_placeOf)) else if v1 = 1 then (bd1 (M_manyPages m_s) fun r48 => some (r48, m_asked, m_heads, m_forkBit, m_forkFrom, m_forkTo, m_wayPage, m_wayKnown, m_wayGuess, m_wayDiff, m_wayRead, m_wayPlace, m_askedLength, m_entries, m_forks, m_guess, m_diff, m_read, m_placeOf)) else if v1 = 2 then (some ((m_s 2), m_asked, m_heads, m_forkBit, m_forkFrom, m_forkTo, m_wayPage, m_wayKnown, m_wayGuess, m_wayDiff, m_wayRead, m_wayPlace, m_askedLength, m_entries, m_forks, m_guess, m_diff, m_read, m_placeOf)) else if v1 = 3 then (some ((m_s 1), m_asked, m_heads, m_forkBit, m_forkFrom, m_forkTo, m_wayPage, m_wayKnown, m_wayGuess, m_wayDiff, m_wayRead, m_wayPlace, m_askedLength, m_entries, m_forks, m_guess, m_diff, m_read, m_placeOf)) else if v1 = 4 then (bd19 (M_costs m_s m_asked m_heads m_forkBit m_forkFrom m_forkTo m_wayPage m_wayKnown m_wayGuess m_wayDiff m_wayRead m_wayPlace m_askedLength m_entries m_forks m_guess m_diff m_read m_placeOf 0) fun r68 m_asked_68 m_heads_68 m_forkBit_68 m_forkFrom_68 m_forkTo_68 m_wayPage_68 m_wayKnown_68 m_wayGuess_68 m_wayDiff_68 m_wayRead_68 m_wayPlace_68 m_askedLength_68 m_entries_68 m_forks_68 m_guess_68 m_diff_68 m_read_68 m_placeOf_68 => some (r68, m_asked_68, m_heads_68, m_forkBit_68, m_forkFrom_68, m_forkTo_68, m_wayPage_68, m_wayKnown_68, m_wayGuess_68, m_wayDiff_68, m_wayRead_68, m_wayPlace_68, m_askedLength_68, m_entries_68, m_forks_68, m_guess_68, m_diff_68, m_read_68, m_placeOf_68)) else if v1 = 5 then (bd19 (M_costs m_s m_asked m_heads m_forkBit m_forkFrom m_forkTo m_wayPage m_wayKnown m_wayGuess m_wayDiff m_wayRead m_wayPlace m_askedLength m_entries m_forks m_guess m_diff m_read m_placeOf 1) fun r74 m_asked_74 m_heads_74 m_forkBit_74 m_forkFrom_74 m_forkTo_74 m_wayPage_74 m_wayKnown_74 m_wayGuess_74 m_wayDiff_74 m_wayRead_74 m_wayPlace_74 m_askedLength_74 m_entries_74 m_forks_74 m_guess_74 m_diff_74 m_read_74 m_placeOf_74 => some (r74, m_asked_74, m_heads_74, m_forkBit_74, m_forkFrom_74, m_forkTo_74, m_wayPage_74, m_wayKnown_74, m_wayGuess_74, m_wayDiff_74, m_wayRead_74, m_wayPlace_74, m_askedLength_74, m_entries_74, m_forks_74, m_guess_74, m_diff_74, m_read_74, m_placeOf_74)) else (bd1 (M_fewest m_s) fun r79 => some (r79, m_asked, m_heads, m_forkBit, m_forkFrom, m_forkTo, m_wayPage, m_wayKnown, m_wayGuess, m_wayDiff, m_wayRead, m_wayPlace, m_askedLength, m_entries, m_forks, m_guess, m_diff, m_read, m_placeOf))
set_option maxRecDepth 100000 in
set_option maxHeartbeats 4000000 in
theorem c_X8_allOf {l : Launch} {D : va_G} {cI cJ cB cL cS cW : ClassId} {a : Nat → Nat} {m_s m_past m_kept m_refused m_text m_asked m_heads m_forkBit m_forkFrom m_forkTo m_wayPage m_wayKnown m_wayGuess m_wayDiff m_wayRead m_wayPlace m_treeBit m_treeLeft m_treeRight m_treeAbove m_pileFrom m_pileTo m_pileAbove : Nat → Int32} {m_known m_typed m_askedLength m_entries m_forks m_guess m_diff m_read m_placeOf m_treeForks m_treeDeep : Int32} {v1 : Int32} {r : Int32} {o_asked : Nat → Int32} {o_heads : Nat → Int32} {o_forkBit : Nat → Int32} {o_forkFrom : Nat → Int32} {o_forkTo : Nat → Int32} {o_wayPage : Nat → Int32} {o_wayKnown : Nat → Int32} {o_wayGuess : Nat → Int32} {o_wayDiff : Nat → Int32} {o_wayRead : Nat → Int32} {o_wayPlace : Nat → Int32} {o_askedLength : Int32} {o_entries : Int32} {o_forks : Int32} {o_guess : Int32} {o_diff : Int32} {o_read : Int32} {o_placeOf : Int32} (hm : M_allOf m_s m_asked m_heads m_forkBit m_forkFrom m_forkTo m_wayPage m_wayKnown m_wayGuess m_wayDiff m_wayRead m_wayPlace m_askedLength m_entries m_forks m_guess m_diff m_read m_placeOf v1 = some (r, o_asked, o_heads, o_forkBit, o_forkFrom, o_forkTo, o_wayPage, o_wayKnown, o_wayGuess, o_wayDiff, o_wayRead, o_wayPlace, o_askedLength, o_entries, o_forks, o_guess, o_diff, o_read, o_placeOf)) : k_MI l yX8_allOf wsX8_allOf { frames := 8, cells := 0, slots := 0, locals := 195 } D (kT cI cJ cB cL cS cW) [.ref (a 0), .int v1] (WM a cI m_s m_past m_kept m_refused m_text m_asked m_heads m_forkBit m_forkFrom m_forkTo m_wayPage m_wayKnown m_wayGuess m_wayDiff m_wayRead m_wayPlace m_treeBit m_treeLeft m_treeRight m_treeAbove m_pileFrom m_pileTo m_pileAbove m_known m_typed m_askedLength m_entries m_forks m_guess m_diff m_read m_placeOf m_treeForks m_treeDeep) r (WM a cI m_s m_past m_kept m_refused m_text o_asked o_heads o_forkBit o_forkFrom o_forkTo o_wayPage o_wayKnown o_wayGuess o_wayDiff o_wayRead o_wayPlace m_treeBit m_treeLeft m_treeRight m_treeAbove m_pileFrom m_pileTo m_pileAbove m_known m_typed o_askedLength o_entries o_forks o_guess o_diff o_read o_placeOf m_treeForks m_treeDeep) := by
  refine k_ofI (cc := cX8_allOf) (maxL := 2) (own := RX8) (by decide) rfl rfl (Nat.le_of_ble_eq_true rfl) ?_
  intro p e s m args below meth c A Q ls C hP hD hl hret
  have hD : va_D A (WM0 a cI) := va_D_re hD rfl
  have hS : va_S A s.heap s.heap [] := va_S.rf
  have hl : lv_has ls 2 [(0, .ref (a 0)), (1, .int v1)] := hl
  obtain ⟨hx, hb, hml, hr, hown, hts, hlocks, hK, hA, hN⟩ := id C
  rw [M_allOf] at hm
  refine lv_iload_n hx hb dX8_allOf_0 rfl (lv_at hl 1 rfl) ?_
  by_cases hc0 : v1 = 0
  · have hm := if_t hc0 hm
    refine lv_tableIn (tgt := 40) (off := 39) hx hb dX8_allOf_1 (by rw [hc0]; decide) (by rw [hc0]; decide) (by rw [hc0]; rfl) (by decide) ?_
    refine lv_aload_n hx hb dX8_allOf_40 rfl (lv_at hl 0 rfl) ?_
    refine kg (v := .ref (a 1)) hx hb hts hiX8_allOf hown hK hP 0 rfl rfl 0 (by decide) flX8_allOf_7 rfl rfl dX8_allOf_41 ?_
    refine lv_iconst (v := 0) hx hb dX8_allOf_44 (by decide) ?_
    refine k_iald (j := 0) hx hb hK hP 1 0 rfl rfl rfl (vp_lit (by decide)) dX8_allOf_45 ?_
    simp only [Option.some.injEq, Prod.mk.injEq] at hm
    obtain ⟨rfl, rfl, rfl, rfl, rfl, rfl, rfl, rfl, rfl, rfl, rfl, rfl, rfl, rfl, rfl, rfl, rfl, rfl, rfl⟩ := hm
    exact hret _ _ _ _ dX8_allOf_46 hP hS
  have hm := if_f hc0 hm
  by_cases hc1 : v1 = 1
  · have hm := if_t hc1 hm
    refine lv_tableIn (tgt := 47) (off := 46) hx hb dX8_allOf_1 (by rw [hc1]; decide) (by rw [hc1]; decide) (by rw [hc1]; rfl) (by decide) ?_
    refine lv_aload_n hx hb dX8_allOf_47 rfl (lv_at hl 0 rfl) ?_
    obtain ⟨r48, hq, hm⟩ := bd1_some hm
    refine k_callVI (As := []) (rest := []) ⟨hx, hb, hml, hown, hts⟩ hK hA hN (c_X8_manyPages (a := a) hq) (cwV 0 hts gX8_allOf_X8_manyPages rfl rfl rfl hdX8_manyPages ⟨Nat.le_of_ble_eq_true rfl, Nat.le_of_ble_eq_true rfl⟩) hP (va_D_re hD rfl) hS 0 8 rfl rfl rfl hl.1 rfl rfl (Nat.le_of_ble_eq_true rfl) ⟨Nat.zero_le _, Nat.zero_le _⟩ dX8_allOf_48 (fun H locs hP hS => ?_)
    simp only [Option.some.injEq, Prod.mk.injEq] at hm
    obtain ⟨rfl, rfl, rfl, rfl, rfl, rfl, rfl, rfl, rfl, rfl, rfl, rfl, rfl, rfl, rfl, rfl, rfl, rfl, rfl⟩ := hm
    exact hret _ _ _ _ dX8_allOf_51 hP hS
  have hm := if_f hc1 hm
  by_cases hc2 : v1 = 2
  · have hm := if_t hc2 hm
    refine lv_tableIn (tgt := 52) (off := 51) hx hb dX8_allOf_1 (by rw [hc2]; decide) (by rw [hc2]; decide) (by rw [hc2]; rfl) (by decide) ?_
    refine lv_aload_n hx hb dX8_allOf_52 rfl (lv_at hl 0 rfl) ?_
    refine kg (v := .ref (a 1)) hx hb hts hiX8_allOf hown hK hP 0 rfl rfl 0 (by decide) flX8_allOf_7 rfl rfl dX8_allOf_53 ?_
    refine lv_iconst (v := 2) hx hb dX8_allOf_56 (by decide) ?_
    refine k_iald (j := 2) hx hb hK hP 1 0 rfl rfl rfl (vp_lit (by decide)) dX8_allOf_57 ?_
    simp only [Option.some.injEq, Prod.mk.injEq] at hm
    obtain ⟨rfl, rfl, rfl, rfl, rfl, rfl, rfl, rfl, rfl, rfl, rfl, rfl, rfl, rfl, rfl, rfl, rfl, rfl, rfl⟩ := hm
    exact hret _ _ _ _ dX8_allOf_58 hP hS
  have hm := if_f hc2 hm
  by_cases hc3 : v1 = 3
  · have hm := if_t hc3 hm
    refine lv_tableIn (tgt := 59) (off := 58) hx hb dX8_allOf_1 (by rw [hc3]; decide) (by rw [hc3]; decide) (by rw [hc3]; rfl) (by decide) ?_
    refine lv_aload_n hx hb dX8_allOf_59 rfl (lv_at hl 0 rfl) ?_
    refine kg (v := .ref (a 1)) hx hb hts hiX8_allOf hown hK hP 0 rfl rfl 0 (by decide) flX8_allOf_7 rfl rfl dX8_allOf_60 ?_
    refine lv_iconst (v := 1) hx hb dX8_allOf_63 (by decide) ?_
    refine k_iald (j := 1) hx hb hK hP 1 0 rfl rfl rfl (vp_lit (by decide)) dX8_allOf_64 ?_
    simp only [Option.some.injEq, Prod.mk.injEq] at hm
    obtain ⟨rfl, rfl, rfl, rfl, rfl, rfl, rfl, rfl, rfl, rfl, rfl, rfl, rfl, rfl, rfl, rfl, rfl, rfl, rfl⟩ := hm
    exact hret _ _ _ _ dX8_allOf_65 hP hS
  have hm := if_f hc3 hm
  by_cases hc4 : v1 = 4
  · have hm := if_t hc4 hm
    refine lv_tableIn (tgt := 66) (off := 65) hx hb dX8_allOf_1 (by rw [hc4]; decide) (by rw [hc4]; decide) (by rw [hc4]; rfl) (by decide) ?_
    refine lv_aload_n hx hb dX8_allOf_66 rfl (lv_at hl 0 rfl) ?_
    refine lv_iconst (v := 0) hx hb dX8_allOf_67 (by decide) ?_
    obtain ⟨r68, m_asked_68, m_heads_68, m_forkBit_68, m_forkFrom_68, m_forkTo_68, m_wayPage_68, m_wayKnown_68, m_wayGuess_68, m_wayDiff_68, m_wayRead_68, m_wayPlace_68, m_askedLength_68, m_entries_68, m_forks_68, m_guess_68, m_diff_68, m_read_68, m_placeOf_68, hq, hm⟩ := bd19_some hm
    refine k_callVI (As := [.int 0]) (rest := []) ⟨hx, hb, hml, hown, hts⟩ hK hA hN (c_X8_costs (a := a) hq) (cwV 1 hts gX8_allOf_X8_costs rfl rfl rfl hdX8_costs ⟨Nat.le_of_ble_eq_true rfl, Nat.le_of_ble_eq_true rfl⟩) hP (va_D_re hD rfl) hS 0 8 rfl rfl rfl hl.1 rfl rfl (Nat.le_of_ble_eq_true rfl) ⟨Nat.zero_le _, Nat.zero_le _⟩ dX8_allOf_68 (fun H locs hP hS => ?_)
    simp only [Option.some.injEq, Prod.mk.injEq] at hm
    obtain ⟨rfl, rfl, rfl, rfl, rfl, rfl, rfl, rfl, rfl, rfl, rfl, rfl, rfl, rfl, rfl, rfl, rfl, rfl, rfl⟩ := hm
    exact hret _ _ _ _ dX8_allOf_71 hP hS
  have hm := if_f hc4 hm
  by_cases hc5 : v1 = 5
  · have hm := if_t hc5 hm
    refine lv_tableIn (tgt := 72) (off := 71) hx hb dX8_allOf_1 (by rw [hc5]; decide) (by rw [hc5]; decide) (by rw [hc5]; rfl) (by decide) ?_
    refine lv_aload_n hx hb dX8_allOf_72 rfl (lv_at hl 0 rfl) ?_
    refine lv_iconst (v := 1) hx hb dX8_allOf_73 (by decide) ?_
    obtain ⟨r74, m_asked_74, m_heads_74, m_forkBit_74, m_forkFrom_74, m_forkTo_74, m_wayPage_74, m_wayKnown_74, m_wayGuess_74, m_wayDiff_74, m_wayRead_74, m_wayPlace_74, m_askedLength_74, m_entries_74, m_forks_74, m_guess_74, m_diff_74, m_read_74, m_placeOf_74, hq, hm⟩ := bd19_some hm
    refine k_callVI (As := [.int 1]) (rest := []) ⟨hx, hb, hml, hown, hts⟩ hK hA hN (c_X8_costs (a := a) hq) (cwV 1 hts gX8_allOf_X8_costs rfl rfl rfl hdX8_costs ⟨Nat.le_of_ble_eq_true rfl, Nat.le_of_ble_eq_true rfl⟩) hP (va_D_re hD rfl) hS 0 8 rfl rfl rfl hl.1 rfl rfl (Nat.le_of_ble_eq_true rfl) ⟨Nat.zero_le _, Nat.zero_le _⟩ dX8_allOf_74 (fun H locs hP hS => ?_)
    simp only [Option.some.injEq, Prod.mk.injEq] at hm
    obtain ⟨rfl, rfl, rfl, rfl, rfl, rfl, rfl, rfl, rfl, rfl, rfl, rfl, rfl, rfl, rfl, rfl, rfl, rfl, rfl⟩ := hm
    exact hret _ _ _ _ dX8_allOf_77 hP hS
  have hm := if_f hc5 hm
  refine lv_tableOut (tgt := 78) hx hb dX8_allOf_1 (sw_out0_5 hc0 hc1 hc2 hc3 hc4 hc5) (by decide) ?_
  refine lv_aload_n hx hb dX8_allOf_78 rfl (lv_at hl 0 rfl) ?_
  obtain ⟨r79, hq, hm⟩ := bd1_some hm
  refine k_callVI (As := []) (rest := []) ⟨hx, hb, hml, hown, hts⟩ hK hA hN (c_X8_fewest (a := a) hq) (cwV 0 hts gX8_allOf_X8_fewest rfl rfl rfl hdX8_fewest ⟨Nat.le_of_ble_eq_true rfl, Nat.le_of_ble_eq_true rfl⟩) hP (va_D_re hD rfl) hS 0 8 rfl rfl rfl hl.1 rfl rfl (Nat.le_of_ble_eq_true rfl) ⟨Nat.zero_le _, Nat.zero_le _⟩ dX8_allOf_79 (fun H locs hP hS => ?_)
  simp only [Option.some.injEq, Prod.mk.injEq] at hm
  obtain ⟨rfl, rfl, rfl, rfl, rfl, rfl, rfl, rfl, rfl, rfl, rfl, rfl, rfl, rfl, rfl, rfl, rfl, rfl, rfl⟩ := hm
  exact hret _ _ _ _ dX8_allOf_82 hP hS
theorem hdX8_all : yX8_all.cls = RX8 ∧ yX8_all.cls ≠ "java/lang/invoke/MethodHandle" ∧ yX8_all.cls ≠ "java/lang/invoke/VarHandle" ∧ (parseMethodDescriptor yX8_all.desc).map (fun d => d.parameters.length) = some 1 := by decide +kernel
def M_all (m_s : Nat → Int32) (m_refused m_asked m_heads m_forkBit m_forkFrom m_forkTo m_wayPage m_wayKnown m_wayGuess m_wayDiff m_wayRead m_wayPlace : Nat → Int32) (m_askedLength m_entries m_forks m_guess m_diff m_read m_placeOf : Int32) (v1 : Int32) : Option (Int32 × (Nat → Int32) × (Nat → Int32) × (Nat → Int32) × (Nat → Int32) × (Nat → Int32) × (Nat → Int32) × (Nat → Int32) × (Nat → Int32) × (Nat → Int32) × (Nat → Int32) × (Nat → Int32) × (Nat → Int32) × Int32 × Int32 × Int32 × Int32 × Int32 × Int32 × Int32) := bd1 (M_in v1 0 6) fun r4 => if r4 = 0 then (bd2 (M_refuses m_refused (-2)) fun r21 m_refused_21 => some (r21, m_refused_21, m_asked, m_heads, m_forkBit, m_forkFrom, m_forkTo, m_wayPage, m_wayKnown, m_wayGuess, m_wayDiff, m_wayRead, m_wayPlace, m_askedLength, m_entries, m_forks, m_guess, m_diff, m_read, m_placeOf)) else (bd19 (M_allOf m_s m_asked m_heads m_forkBit m_forkFrom m_forkTo m_wayPage m_wayKnown m_wayGuess m_wayDiff m_wayRead m_wayPlace m_askedLength m_entries m_forks m_guess m_diff m_read m_placeOf v1) fun r12 m_asked_12 m_heads_12 m_forkBit_12 m_forkFrom_12 m_forkTo_12 m_wayPage_12 m_wayKnown_12 m_wayGuess_12 m_wayDiff_12 m_wayRead_12 m_wayPlace_12 m_askedLength_12 m_entries_12 m_forks_12 m_guess_12 m_diff_12 m_read_12 m_placeOf_12 => some (r12, m_refused, m_asked_12, m_heads_12, m_forkBit_12, m_forkFrom_12, m_forkTo_12, m_wayPage_12, m_wayKnown_12, m_wayGuess_12, m_wayDiff_12, m_wayRead_12, m_wayPlace_12, m_askedLength_12, m_entries_12, m_forks_12, m_guess_12, m_diff_12, m_read_12, m_placeOf_12))
set_option maxRecDepth 100000 in
set_option maxHeartbeats 4000000 in
theorem c_X8_all {l : Launch} {D : va_G} {cI cJ cB cL cS cW : ClassId} {a : Nat → Nat} {m_s m_past m_kept m_refused m_text m_asked m_heads m_forkBit m_forkFrom m_forkTo m_wayPage m_wayKnown m_wayGuess m_wayDiff m_wayRead m_wayPlace m_treeBit m_treeLeft m_treeRight m_treeAbove m_pileFrom m_pileTo m_pileAbove : Nat → Int32} {m_known m_typed m_askedLength m_entries m_forks m_guess m_diff m_read m_placeOf m_treeForks m_treeDeep : Int32} {v1 : Int32} {r : Int32} {o_refused : Nat → Int32} {o_asked : Nat → Int32} {o_heads : Nat → Int32} {o_forkBit : Nat → Int32} {o_forkFrom : Nat → Int32} {o_forkTo : Nat → Int32} {o_wayPage : Nat → Int32} {o_wayKnown : Nat → Int32} {o_wayGuess : Nat → Int32} {o_wayDiff : Nat → Int32} {o_wayRead : Nat → Int32} {o_wayPlace : Nat → Int32} {o_askedLength : Int32} {o_entries : Int32} {o_forks : Int32} {o_guess : Int32} {o_diff : Int32} {o_read : Int32} {o_placeOf : Int32} (hm : M_all m_s m_refused m_asked m_heads m_forkBit m_forkFrom m_forkTo m_wayPage m_wayKnown m_wayGuess m_wayDiff m_wayRead m_wayPlace m_askedLength m_entries m_forks m_guess m_diff m_read m_placeOf v1 = some (r, o_refused, o_asked, o_heads, o_forkBit, o_forkFrom, o_forkTo, o_wayPage, o_wayKnown, o_wayGuess, o_wayDiff, o_wayRead, o_wayPlace, o_askedLength, o_entries, o_forks, o_guess, o_diff, o_read, o_placeOf)) : k_MI l yX8_all wsX8_all { frames := 9, cells := 0, slots := 0, locals := 216 } D (kT cI cJ cB cL cS cW) [.ref (a 0), .int v1] (WM a cI m_s m_past m_kept m_refused m_text m_asked m_heads m_forkBit m_forkFrom m_forkTo m_wayPage m_wayKnown m_wayGuess m_wayDiff m_wayRead m_wayPlace m_treeBit m_treeLeft m_treeRight m_treeAbove m_pileFrom m_pileTo m_pileAbove m_known m_typed m_askedLength m_entries m_forks m_guess m_diff m_read m_placeOf m_treeForks m_treeDeep) r (WM a cI m_s m_past m_kept o_refused m_text o_asked o_heads o_forkBit o_forkFrom o_forkTo o_wayPage o_wayKnown o_wayGuess o_wayDiff o_wayRead o_wayPlace m_treeBit m_treeLeft m_treeRight m_treeAbove m_pileFrom m_pileTo m_pileAbove m_known m_typed o_askedLength o_entries o_forks o_guess o_diff o_read o_placeOf m_treeForks m_treeDeep) := by
  refine k_ofI (cc := cX8_all) (maxL := 2) (own := RX8) (by decide) rfl rfl (Nat.le_of_ble_eq_true rfl) ?_
  intro p e s m args below meth c A Q ls C hP hD hl hret
  have hD : va_D A (WM0 a cI) := va_D_re hD rfl
  have hS : va_S A s.heap s.heap [] := va_S.rf
  have hl : lv_has ls 2 [(0, .ref (a 0)), (1, .int v1)] := hl
  obtain ⟨hx, hb, hml, hr, hown, hts, hlocks, hK, hA, hN⟩ := id C
  rw [M_all] at hm
  refine lv_iload_n hx hb dX8_all_0 rfl (lv_at hl 1 rfl) ?_
  refine lv_iconst (v := 0) hx hb dX8_all_1 (by decide) ?_
  refine lv_bipush (v := 6) hx hb dX8_all_2 (by decide) ?_
  obtain ⟨r4, hq, hm⟩ := bd1_some hm
  refine k_callSI (As := [.int v1, .int 0, .int 6]) (rest := []) ⟨hx, hb, hml, hown, hts⟩ hK hA hN (c_X8_in (a := a) hq) (va_cwS 3 hts gX8_all_X8_in rfl rfl rfl hdX8_in ⟨Nat.le_of_ble_eq_true rfl, Nat.le_of_ble_eq_true rfl⟩) hP (va_D_re hD rfl) hS hl.1 rfl rfl (Nat.le_of_ble_eq_true rfl) ⟨Nat.zero_le _, Nat.zero_le _⟩ dX8_all_4 (fun H locs hP hS => ?_)
  refine lv_if_eq (tgt := 18) hx hb dX8_all_7 (by decide) (fun hc => ?_) (fun hc => ?_)
  · have hm := if_t hc hm
    refine lv_aload_n hx hb dX8_all_18 rfl (lv_at hl 0 rfl) ?_
    refine lv_bipush (v := (-2)) hx hb dX8_all_19 (by decide) ?_
    obtain ⟨r21, m_refused_21, hq, hm⟩ := bd2_some hm
    refine k_callVI (As := [.int (-2)]) (rest := []) ⟨hx, hb, hml, hown, hts⟩ hK hA hN (c_X8_refuses (a := a) hq) (cwV 1 hts gX8_all_X8_refuses rfl rfl rfl hdX8_refuses ⟨Nat.le_of_ble_eq_true rfl, Nat.le_of_ble_eq_true rfl⟩) hP (va_D_re hD rfl) hS 0 8 rfl rfl rfl hl.1 rfl rfl (Nat.le_of_ble_eq_true rfl) ⟨Nat.zero_le _, Nat.zero_le _⟩ dX8_all_21 (fun H locs hP hS => ?_)
    simp only [Option.some.injEq, Prod.mk.injEq] at hm
    obtain ⟨rfl, rfl, rfl, rfl, rfl, rfl, rfl, rfl, rfl, rfl, rfl, rfl, rfl, rfl, rfl, rfl, rfl, rfl, rfl, rfl⟩ := hm
    exact hret _ _ _ _ dX8_all_24 hP hS
  · have hm := if_f hc hm
    refine lv_aload_n hx hb dX8_all_10 rfl (lv_at hl 0 rfl) ?_
    refine lv_iload_n hx hb dX8_all_11 rfl (lv_at hl 1 rfl) ?_
    obtain ⟨r12, m_asked_12, m_heads_12, m_forkBit_12, m_forkFrom_12, m_forkTo_12, m_wayPage_12, m_wayKnown_12, m_wayGuess_12, m_wayDiff_12, m_wayRead_12, m_wayPlace_12, m_askedLength_12, m_entries_12, m_forks_12, m_guess_12, m_diff_12, m_read_12, m_placeOf_12, hq, hm⟩ := bd19_some hm
    refine k_callVI (As := [.int v1]) (rest := []) ⟨hx, hb, hml, hown, hts⟩ hK hA hN (c_X8_allOf (a := a) hq) (cwV 1 hts gX8_all_X8_allOf rfl rfl rfl hdX8_allOf ⟨Nat.le_of_ble_eq_true rfl, Nat.le_of_ble_eq_true rfl⟩) hP (va_D_re hD rfl) hS 0 8 rfl rfl rfl hl.1 rfl rfl (Nat.le_of_ble_eq_true rfl) ⟨Nat.zero_le _, Nat.zero_le _⟩ dX8_all_12 (fun H locs hP hS => ?_)
    refine lv_goto (tgt := 24) hx hb dX8_all_15 (by decide) ?_
    simp only [Option.some.injEq, Prod.mk.injEq] at hm
    obtain ⟨rfl, rfl, rfl, rfl, rfl, rfl, rfl, rfl, rfl, rfl, rfl, rfl, rfl, rfl, rfl, rfl, rfl, rfl, rfl, rfl⟩ := hm
    exact hret _ _ _ _ dX8_all_24 hP hS
theorem hdX8_back : yX8_back.cls = RX8 ∧ yX8_back.cls ≠ "java/lang/invoke/MethodHandle" ∧ yX8_back.cls ≠ "java/lang/invoke/VarHandle" ∧ (parseMethodDescriptor yX8_back.desc).map (fun d => d.parameters.length) = some 0 := by decide +kernel
theorem hiX8_back : ∀ w ∈ u_ws RX8 TX8 34, w ∈ wsX8_back := by decide +kernel
theorem flX8_back_79 : Cond.fieldLink RX8 79 "BlindPagesModel" "known" "I" ∈ wsX8_back := by decide +kernel
theorem flX8_back_7 : Cond.fieldLink RX8 7 "BlindPagesModel" "s" "[I" ∈ wsX8_back := by decide +kernel
theorem flX8_back_13 : Cond.fieldLink RX8 13 "BlindPagesModel" "past" "[I" ∈ wsX8_back := by decide +kernel
def M_back_L26 (m_past : Nat → Int32) (k60 : (Nat → Int32) → (Nat → Int32) → Int32 → Option (Int32 × (Nat → Int32) × (Nat → Int32) × Int32)) : Nat → (Nat → Int32) → (Nat → Int32) → Int32 → Int32 → Option (Int32 × (Nat → Int32) × (Nat → Int32) × Int32)
  | 0, _, _, _, _ => none
  | n + 1, m_s, m_refused, m_known, v1 => if 1552 ≤ v1 then (k60 m_s m_refused m_known) else (ga ((1552 * m_known) + v1) 9312 (ga v1 1552 (M_back_L26 m_past k60 n (upd m_s v1.toNatClampNeg (m_past ((1552 * m_known) + v1).toNatClampNeg)) m_refused m_known (v1 + 1))))
def M_back (m_past : Nat → Int32) (m_s m_refused : Nat → Int32) (m_known : Int32) : Option (Int32 × (Nat → Int32) × (Nat → Int32) × Int32) := if m_known = 0 then (bd2 (M_refuses m_refused (-3)) fun r10 m_refused_10 => some (r10, m_s, m_refused_10, m_known)) else (M_back_L26 m_past (fun m_s m_refused m_known => some (m_known, m_s, m_refused, m_known)) FU m_s m_refused (m_known - 1) 0)
set_option maxRecDepth 100000 in
set_option maxHeartbeats 4000000 in
theorem t_M_back_L26 {p : Program} {l : Launch} {e : Env} {s : State} {m : MethodId} {args : Array Value} {below : List Frame} {meth : Method} {c : Code} {Q : State → Prop} {A : Nat → Prop} {D : va_G} {cI cJ cB cL cS cW : ClassId} {a : Nat → Nat} {m_past m_kept m_text m_asked m_heads m_forkBit m_forkFrom m_forkTo m_wayPage m_wayKnown m_wayGuess m_wayDiff m_wayRead m_wayPlace m_treeBit m_treeLeft m_treeRight m_treeAbove m_pileFrom m_pileTo m_pileAbove : Nat → Int32} {m_typed m_askedLength m_entries m_forks m_guess m_diff m_read m_placeOf m_treeForks m_treeDeep : Int32} {r : Int32} {o_s : Nat → Int32} {o_refused : Nat → Int32} {o_known : Int32} (C : k_C p s m args meth c cX8_back 2 (some .int) RX8 wsX8_back D (kT cI cJ cB cL cS cW) A) (hD : va_D A (WM0 a cI)) (hret : ∀ (H : Heap) (locs : List Loc) (pc : Nat) (ls : Array Slot), decode cX8_back pc = .ok (.ireturn, 1) → va_P D vwCl (WM a cI o_s m_past m_kept o_refused m_text m_asked m_heads m_forkBit m_forkFrom m_forkTo m_wayPage m_wayKnown m_wayGuess m_wayDiff m_wayRead m_wayPlace m_treeBit m_treeLeft m_treeRight m_treeAbove m_pileFrom m_pileTo m_pileAbove o_known m_typed m_askedLength m_entries m_forks m_guess m_diff m_read m_placeOf m_treeForks m_treeDeep) H → va_S A s.heap H locs → W p l e { frames := 1, cells := 0, slots := 0, locals := 21 } s m args below meth c H locs 0 0 Q (F0 m pc ls [.int r])) {k60 : (Nat → Int32) → (Nat → Int32) → Int32 → Option (Int32 × (Nat → Int32) × (Nat → Int32) × Int32)} (hk60 : ∀ (m_s : (Nat → Int32)) (m_refused : (Nat → Int32)) (m_known : Int32) (H : Heap) (locs : List Loc) (ls : Array Slot), va_P D vwCl (WM a cI m_s m_past m_kept m_refused m_text m_asked m_heads m_forkBit m_forkFrom m_forkTo m_wayPage m_wayKnown m_wayGuess m_wayDiff m_wayRead m_wayPlace m_treeBit m_treeLeft m_treeRight m_treeAbove m_pileFrom m_pileTo m_pileAbove m_known m_typed m_askedLength m_entries m_forks m_guess m_diff m_read m_placeOf m_treeForks m_treeDeep) H → va_S A s.heap H locs → lv_has ls 2 [(0, .ref (a 0))] → k60 m_s m_refused m_known = some (r, o_s, o_refused, o_known) → W p l e { frames := 1, cells := 0, slots := 0, locals := 21 } s m args below meth c H locs 0 0 Q (F0 m 60 ls [])) : ∀ n : Nat, ∀ (m_s : (Nat → Int32)) (m_refused : (Nat → Int32)) (m_known : Int32) (v1 : Int32) (H : Heap) (locs : List Loc) (ls : Array Slot), va_P D vwCl (WM a cI m_s m_past m_kept m_refused m_text m_asked m_heads m_forkBit m_forkFrom m_forkTo m_wayPage m_wayKnown m_wayGuess m_wayDiff m_wayRead m_wayPlace m_treeBit m_treeLeft m_treeRight m_treeAbove m_pileFrom m_pileTo m_pileAbove m_known m_typed m_askedLength m_entries m_forks m_guess m_diff m_read m_placeOf m_treeForks m_treeDeep) H → va_S A s.heap H locs → lv_has ls 2 [(0, .ref (a 0)), (1, .int v1)] → (M_back_L26 m_past k60 n) m_s m_refused m_known v1 = some (r, o_s, o_refused, o_known) → W p l e { frames := 1, cells := 0, slots := 0, locals := 21 } s m args below meth c H locs 0 0 Q (F0 m 26 ls []) := by
  obtain ⟨hx, hb, hml, hr, hown, hts, hlocks, hK, hA, hN⟩ := id C
  intro n
  induction n with
  | zero =>
    intro m_s m_refused m_known v1 H locs ls hP hS hl hm
    cases hm
  | succ n ih =>
    intro m_s m_refused m_known v1 H locs ls hP hS hl hm
    rw [M_back_L26] at hm
    refine lv_iload_n hx hb dX8_back_26 rfl (lv_at hl 1 rfl) ?_
    refine lv_sipush (v := 1552) hx hb dX8_back_27 (by decide) ?_
    refine lv_icmp_ge (tgt := 60) hx hb dX8_back_30 (by decide) (fun hc => ?_) (fun hc => ?_)
    · have hm := if_t hc hm
      exact hk60 _ _ _ _ _ _ hP hS (lv_sub hl [0] rfl) hm
    · have hm := if_f hc hm
      refine lv_aload_n hx hb dX8_back_33 rfl (lv_at hl 0 rfl) ?_
      refine kg (v := .ref (a 1)) hx hb hts hiX8_back hown hK hP 0 rfl rfl 0 (by decide) flX8_back_7 rfl rfl dX8_back_34 ?_
      refine lv_iload_n hx hb dX8_back_37 rfl (lv_at hl 1 rfl) ?_
      refine lv_aload_n hx hb dX8_back_38 rfl (lv_at hl 0 rfl) ?_
      refine kg (v := .ref (a 2)) hx hb hts hiX8_back hown hK hP 0 rfl rfl 1 (by decide) flX8_back_13 rfl rfl dX8_back_39 ?_
      refine lv_sipush (v := 1552) hx hb dX8_back_42 (by decide) ?_
      refine lv_aload_n hx hb dX8_back_45 rfl (lv_at hl 0 rfl) ?_
      refine kg (v := .int m_known) hx hb hts hiX8_back hown hK hP 0 rfl rfl 3 (by decide) flX8_back_79 rfl rfl dX8_back_46 ?_
      refine lv_imul hx hb dX8_back_49 ?_
      refine lv_iload_n hx hb dX8_back_50 rfl (lv_at hl 1 rfl) ?_
      refine lv_iadd hx hb dX8_back_51 ?_
      obtain ⟨hi, hm⟩ := ga_some hm
      refine k_iald hx hb hK hP 2 0 rfl rfl rfl hi dX8_back_52 ?_
      obtain ⟨hi, hm⟩ := ga_some hm
      refine k_iast hx hb hK hP (va_D_re hD rfl) hS 1 0 rfl rfl rfl hi dX8_back_53 (fun H locs hP hS => ?_)
      have hP : va_P D vwCl (WM a cI (upd m_s v1.toNatClampNeg (m_past ((1552 * m_known) + v1).toNatClampNeg)) m_past m_kept m_refused m_text m_asked m_heads m_forkBit m_forkFrom m_forkTo m_wayPage m_wayKnown m_wayGuess m_wayDiff m_wayRead m_wayPlace m_treeBit m_treeLeft m_treeRight m_treeAbove m_pileFrom m_pileTo m_pileAbove m_known m_typed m_askedLength m_entries m_forks m_guess m_diff m_read m_placeOf m_treeForks m_treeDeep) H := hP
      refine lv_iinc (v := (v1 + 1)) (lv' := [(1, .int (v1 + 1)), (0, .ref (a 0))]) hx hb dX8_back_54 hl (k := 1) rfl rfl (by decide) rfl (fun ls hl => ?_)
      refine lv_goto (tgt := 26) hx hb dX8_back_57 (by decide) ?_
      exact ih _ _ _ _ _ _ _ hP hS (lv_sub hl [1, 0] rfl) hm
set_option maxRecDepth 100000 in
set_option maxHeartbeats 4000000 in
theorem c_X8_back {l : Launch} {D : va_G} {cI cJ cB cL cS cW : ClassId} {a : Nat → Nat} {m_s m_past m_kept m_refused m_text m_asked m_heads m_forkBit m_forkFrom m_forkTo m_wayPage m_wayKnown m_wayGuess m_wayDiff m_wayRead m_wayPlace m_treeBit m_treeLeft m_treeRight m_treeAbove m_pileFrom m_pileTo m_pileAbove : Nat → Int32} {m_known m_typed m_askedLength m_entries m_forks m_guess m_diff m_read m_placeOf m_treeForks m_treeDeep : Int32} {r : Int32} {o_s : Nat → Int32} {o_refused : Nat → Int32} {o_known : Int32} (hm : M_back m_past m_s m_refused m_known = some (r, o_s, o_refused, o_known)) : k_MI l yX8_back wsX8_back { frames := 1, cells := 0, slots := 0, locals := 21 } D (kT cI cJ cB cL cS cW) [.ref (a 0)] (WM a cI m_s m_past m_kept m_refused m_text m_asked m_heads m_forkBit m_forkFrom m_forkTo m_wayPage m_wayKnown m_wayGuess m_wayDiff m_wayRead m_wayPlace m_treeBit m_treeLeft m_treeRight m_treeAbove m_pileFrom m_pileTo m_pileAbove m_known m_typed m_askedLength m_entries m_forks m_guess m_diff m_read m_placeOf m_treeForks m_treeDeep) r (WM a cI o_s m_past m_kept o_refused m_text m_asked m_heads m_forkBit m_forkFrom m_forkTo m_wayPage m_wayKnown m_wayGuess m_wayDiff m_wayRead m_wayPlace m_treeBit m_treeLeft m_treeRight m_treeAbove m_pileFrom m_pileTo m_pileAbove o_known m_typed m_askedLength m_entries m_forks m_guess m_diff m_read m_placeOf m_treeForks m_treeDeep) := by
  refine k_ofI (cc := cX8_back) (maxL := 2) (own := RX8) (by decide) rfl rfl (Nat.le_of_ble_eq_true rfl) ?_
  intro p e s m args below meth c A Q ls C hP hD hl hret
  have hD : va_D A (WM0 a cI) := va_D_re hD rfl
  have hS : va_S A s.heap s.heap [] := va_S.rf
  have hl : lv_has ls 2 [(0, .ref (a 0))] := hl
  obtain ⟨hx, hb, hml, hr, hown, hts, hlocks, hK, hA, hN⟩ := id C
  rw [M_back] at hm
  refine lv_aload_n hx hb dX8_back_0 rfl (lv_at hl 0 rfl) ?_
  refine kg (v := .int m_known) hx hb hts hiX8_back hown hK hP 0 rfl rfl 3 (by decide) flX8_back_79 rfl rfl dX8_back_1 ?_
  refine lv_if_ne (tgt := 14) hx hb dX8_back_4 (by decide) (fun hc => ?_) (fun hc => ?_)
  · have hm := if_f hc hm
    refine lv_aload_n hx hb dX8_back_14 rfl (lv_at hl 0 rfl) ?_
    refine lv_dup hx hb dX8_back_15 rfl ?_
    refine kg (v := .int m_known) hx hb hts hiX8_back hown hK hP 0 rfl rfl 3 (by decide) flX8_back_79 rfl rfl dX8_back_16 ?_
    refine lv_iconst (v := 1) hx hb dX8_back_19 (by decide) ?_
    refine lv_isub hx hb dX8_back_20 ?_
    refine kp hx hb hts hiX8_back tyX8 tyX8_ok nmX8 hown hK hP (va_D_re hD rfl) hS 0 rfl rfl 3 (by decide) flX8_back_79 rfl rfl rfl (Nat.le_of_ble_eq_true rfl) dX8_back_21 (fun H locs hP hS => ?_)
    have hP : va_P D vwCl (WM a cI m_s m_past m_kept m_refused m_text m_asked m_heads m_forkBit m_forkFrom m_forkTo m_wayPage m_wayKnown m_wayGuess m_wayDiff m_wayRead m_wayPlace m_treeBit m_treeLeft m_treeRight m_treeAbove m_pileFrom m_pileTo m_pileAbove (m_known - 1) m_typed m_askedLength m_entries m_forks m_guess m_diff m_read m_placeOf m_treeForks m_treeDeep) H := hP
    refine lv_iconst (v := 0) hx hb dX8_back_24 (by decide) ?_
    refine lv_istore_n (lv' := [(1, .int 0), (0, .ref (a 0))]) hx hb dX8_back_25 rfl hl (by decide) rfl (fun ls hl => ?_)
    refine t_M_back_L26 C hD hret ?_ FU _ _ _ _ _ _ _ hP hS (lv_sub hl [1, 0] rfl) hm
    · intro m_s m_refused m_known H locs ls hP hS hl hm
      try dsimp only at hm
      refine lv_aload_n hx hb dX8_back_60 rfl (lv_at hl 0 rfl) ?_
      refine kg (v := .int m_known) hx hb hts hiX8_back hown hK hP 0 rfl rfl 3 (by decide) flX8_back_79 rfl rfl dX8_back_61 ?_
      simp only [Option.some.injEq, Prod.mk.injEq] at hm
      obtain ⟨rfl, rfl, rfl, rfl⟩ := hm
      exact hret _ _ _ _ dX8_back_64 hP hS
  · have hm := if_t hc hm
    refine lv_aload_n hx hb dX8_back_7 rfl (lv_at hl 0 rfl) ?_
    refine lv_bipush (v := (-3)) hx hb dX8_back_8 (by decide) ?_
    obtain ⟨r10, m_refused_10, hq, hm⟩ := bd2_some hm
    refine k_callVI (As := [.int (-3)]) (rest := []) ⟨hx, hb, hml, hown, hts⟩ hK hA hN (c_X8_refuses (a := a) hq) (cwV 1 hts gX8_back_X8_refuses rfl rfl rfl hdX8_refuses ⟨Nat.le_of_ble_eq_true rfl, Nat.le_of_ble_eq_true rfl⟩) hP (va_D_re hD rfl) hS 0 8 rfl rfl rfl hl.1 rfl rfl (Nat.le_of_ble_eq_true rfl) ⟨Nat.zero_le _, Nat.zero_le _⟩ dX8_back_10 (fun H locs hP hS => ?_)
    simp only [Option.some.injEq, Prod.mk.injEq] at hm
    obtain ⟨rfl, rfl, rfl, rfl⟩ := hm
    exact hret _ _ _ _ dX8_back_13 hP hS
theorem hdX8_toldOf : yX8_toldOf.cls = RX8 ∧ yX8_toldOf.cls ≠ "java/lang/invoke/MethodHandle" ∧ yX8_toldOf.cls ≠ "java/lang/invoke/VarHandle" ∧ (parseMethodDescriptor yX8_toldOf.desc).map (fun d => d.parameters.length) = some 1 := by decide +kernel
theorem hiX8_toldOf : ∀ w ∈ u_ws RX8 TX8 34, w ∈ wsX8_toldOf := by decide +kernel
theorem flX8_toldOf_19 : Cond.fieldLink RX8 19 "BlindPagesModel" "refused" "[I" ∈ wsX8_toldOf := by decide +kernel
theorem flX8_toldOf_182 : Cond.fieldLink RX8 182 "BlindPagesModel" "typed" "I" ∈ wsX8_toldOf := by decide +kernel
theorem flX8_toldOf_79 : Cond.fieldLink RX8 79 "BlindPagesModel" "known" "I" ∈ wsX8_toldOf := by decide +kernel
def M_toldOf (m_refused : Nat → Int32) (m_known m_typed : Int32) (v1 : Int32) : Option (Int32) := if 3 ≤ v1 then (if v1 = 3 then (some m_typed) else (some m_known)) else (ga v1 3 (some (m_refused v1.toNatClampNeg)))
set_option maxRecDepth 100000 in
set_option maxHeartbeats 4000000 in
theorem c_X8_toldOf {l : Launch} {D : va_G} {cI cJ cB cL cS cW : ClassId} {a : Nat → Nat} {m_s m_past m_kept m_refused m_text m_asked m_heads m_forkBit m_forkFrom m_forkTo m_wayPage m_wayKnown m_wayGuess m_wayDiff m_wayRead m_wayPlace m_treeBit m_treeLeft m_treeRight m_treeAbove m_pileFrom m_pileTo m_pileAbove : Nat → Int32} {m_known m_typed m_askedLength m_entries m_forks m_guess m_diff m_read m_placeOf m_treeForks m_treeDeep : Int32} {v1 : Int32} {r : Int32} (hm : M_toldOf m_refused m_known m_typed v1 = some r) : k_MI l yX8_toldOf wsX8_toldOf { frames := 0, cells := 0, slots := 0, locals := 0 } D (kT cI cJ cB cL cS cW) [.ref (a 0), .int v1] (WM a cI m_s m_past m_kept m_refused m_text m_asked m_heads m_forkBit m_forkFrom m_forkTo m_wayPage m_wayKnown m_wayGuess m_wayDiff m_wayRead m_wayPlace m_treeBit m_treeLeft m_treeRight m_treeAbove m_pileFrom m_pileTo m_pileAbove m_known m_typed m_askedLength m_entries m_forks m_guess m_diff m_read m_placeOf m_treeForks m_treeDeep) r (WM a cI m_s m_past m_kept m_refused m_text m_asked m_heads m_forkBit m_forkFrom m_forkTo m_wayPage m_wayKnown m_wayGuess m_wayDiff m_wayRead m_wayPlace m_treeBit m_treeLeft m_treeRight m_treeAbove m_pileFrom m_pileTo m_pileAbove m_known m_typed m_askedLength m_entries m_forks m_guess m_diff m_read m_placeOf m_treeForks m_treeDeep) := by
  refine k_ofI (cc := cX8_toldOf) (maxL := 2) (own := RX8) (by decide) rfl rfl (Nat.le_of_ble_eq_true rfl) ?_
  intro p e s m args below meth c A Q ls C hP hD hl hret
  have hD : va_D A (WM0 a cI) := va_D_re hD rfl
  have hS : va_S A s.heap s.heap [] := va_S.rf
  have hl : lv_has ls 2 [(0, .ref (a 0)), (1, .int v1)] := hl
  obtain ⟨hx, hb, hml, hr, hown, hts, hlocks, hK, hA, hN⟩ := id C
  rw [M_toldOf] at hm
  refine lv_iload_n hx hb dX8_toldOf_0 rfl (lv_at hl 1 rfl) ?_
  refine lv_iconst (v := 3) hx hb dX8_toldOf_1 (by decide) ?_
  refine lv_icmp_ge (tgt := 14) hx hb dX8_toldOf_2 (by decide) (fun hc => ?_) (fun hc => ?_)
  · have hm := if_t hc hm
    refine lv_iload_n hx hb dX8_toldOf_14 rfl (lv_at hl 1 rfl) ?_
    refine lv_iconst (v := 3) hx hb dX8_toldOf_15 (by decide) ?_
    refine lv_icmp_ne (tgt := 26) hx hb dX8_toldOf_16 (by decide) (fun hc => ?_) (fun hc => ?_)
    · have hm := if_f hc hm
      refine lv_aload_n hx hb dX8_toldOf_26 rfl (lv_at hl 0 rfl) ?_
      refine kg (v := .int m_known) hx hb hts hiX8_toldOf hown hK hP 0 rfl rfl 3 (by decide) flX8_toldOf_79 rfl rfl dX8_toldOf_27 ?_
      obtain rfl := Option.some.inj hm
      exact hret _ _ _ _ dX8_toldOf_30 hP hS
    · have hm := if_t hc hm
      refine lv_aload_n hx hb dX8_toldOf_19 rfl (lv_at hl 0 rfl) ?_
      refine kg (v := .int m_typed) hx hb hts hiX8_toldOf hown hK hP 0 rfl rfl 6 (by decide) flX8_toldOf_182 rfl rfl dX8_toldOf_20 ?_
      refine lv_goto (tgt := 30) hx hb dX8_toldOf_23 (by decide) ?_
      obtain rfl := Option.some.inj hm
      exact hret _ _ _ _ dX8_toldOf_30 hP hS
  · have hm := if_f hc hm
    refine lv_aload_n hx hb dX8_toldOf_5 rfl (lv_at hl 0 rfl) ?_
    refine kg (v := .ref (a 4)) hx hb hts hiX8_toldOf hown hK hP 0 rfl rfl 4 (by decide) flX8_toldOf_19 rfl rfl dX8_toldOf_6 ?_
    refine lv_iload_n hx hb dX8_toldOf_9 rfl (lv_at hl 1 rfl) ?_
    obtain ⟨hi, hm⟩ := ga_some hm
    refine k_iald hx hb hK hP 4 0 rfl rfl rfl hi dX8_toldOf_10 ?_
    refine lv_goto (tgt := 30) hx hb dX8_toldOf_11 (by decide) ?_
    obtain rfl := Option.some.inj hm
    exact hret _ _ _ _ dX8_toldOf_30 hP hS
theorem hdX8_told : yX8_told.cls = RX8 ∧ yX8_told.cls ≠ "java/lang/invoke/MethodHandle" ∧ yX8_told.cls ≠ "java/lang/invoke/VarHandle" ∧ (parseMethodDescriptor yX8_told.desc).map (fun d => d.parameters.length) = some 1 := by decide +kernel
def M_told (m_known m_typed : Int32) (m_refused : Nat → Int32) (v1 : Int32) : Option (Int32 × (Nat → Int32)) := bd1 (M_in v1 0 4) fun r3 => if r3 = 0 then (bd2 (M_refuses m_refused (-2)) fun r20 m_refused_20 => some (r20, m_refused_20)) else (bd1 (M_toldOf m_refused m_known m_typed v1) fun r11 => some (r11, m_refused))
set_option maxRecDepth 100000 in
set_option maxHeartbeats 4000000 in
theorem c_X8_told {l : Launch} {D : va_G} {cI cJ cB cL cS cW : ClassId} {a : Nat → Nat} {m_s m_past m_kept m_refused m_text m_asked m_heads m_forkBit m_forkFrom m_forkTo m_wayPage m_wayKnown m_wayGuess m_wayDiff m_wayRead m_wayPlace m_treeBit m_treeLeft m_treeRight m_treeAbove m_pileFrom m_pileTo m_pileAbove : Nat → Int32} {m_known m_typed m_askedLength m_entries m_forks m_guess m_diff m_read m_placeOf m_treeForks m_treeDeep : Int32} {v1 : Int32} {r : Int32} {o_refused : Nat → Int32} (hm : M_told m_known m_typed m_refused v1 = some (r, o_refused)) : k_MI l yX8_told wsX8_told { frames := 1, cells := 0, slots := 0, locals := 22 } D (kT cI cJ cB cL cS cW) [.ref (a 0), .int v1] (WM a cI m_s m_past m_kept m_refused m_text m_asked m_heads m_forkBit m_forkFrom m_forkTo m_wayPage m_wayKnown m_wayGuess m_wayDiff m_wayRead m_wayPlace m_treeBit m_treeLeft m_treeRight m_treeAbove m_pileFrom m_pileTo m_pileAbove m_known m_typed m_askedLength m_entries m_forks m_guess m_diff m_read m_placeOf m_treeForks m_treeDeep) r (WM a cI m_s m_past m_kept o_refused m_text m_asked m_heads m_forkBit m_forkFrom m_forkTo m_wayPage m_wayKnown m_wayGuess m_wayDiff m_wayRead m_wayPlace m_treeBit m_treeLeft m_treeRight m_treeAbove m_pileFrom m_pileTo m_pileAbove m_known m_typed m_askedLength m_entries m_forks m_guess m_diff m_read m_placeOf m_treeForks m_treeDeep) := by
  refine k_ofI (cc := cX8_told) (maxL := 2) (own := RX8) (by decide) rfl rfl (Nat.le_of_ble_eq_true rfl) ?_
  intro p e s m args below meth c A Q ls C hP hD hl hret
  have hD : va_D A (WM0 a cI) := va_D_re hD rfl
  have hS : va_S A s.heap s.heap [] := va_S.rf
  have hl : lv_has ls 2 [(0, .ref (a 0)), (1, .int v1)] := hl
  obtain ⟨hx, hb, hml, hr, hown, hts, hlocks, hK, hA, hN⟩ := id C
  rw [M_told] at hm
  refine lv_iload_n hx hb dX8_told_0 rfl (lv_at hl 1 rfl) ?_
  refine lv_iconst (v := 0) hx hb dX8_told_1 (by decide) ?_
  refine lv_iconst (v := 4) hx hb dX8_told_2 (by decide) ?_
  obtain ⟨r3, hq, hm⟩ := bd1_some hm
  refine k_callSI (As := [.int v1, .int 0, .int 4]) (rest := []) ⟨hx, hb, hml, hown, hts⟩ hK hA hN (c_X8_in (a := a) hq) (va_cwS 3 hts gX8_told_X8_in rfl rfl rfl hdX8_in ⟨Nat.le_of_ble_eq_true rfl, Nat.le_of_ble_eq_true rfl⟩) hP (va_D_re hD rfl) hS hl.1 rfl rfl (Nat.le_of_ble_eq_true rfl) ⟨Nat.zero_le _, Nat.zero_le _⟩ dX8_told_3 (fun H locs hP hS => ?_)
  refine lv_if_eq (tgt := 17) hx hb dX8_told_6 (by decide) (fun hc => ?_) (fun hc => ?_)
  · have hm := if_t hc hm
    refine lv_aload_n hx hb dX8_told_17 rfl (lv_at hl 0 rfl) ?_
    refine lv_bipush (v := (-2)) hx hb dX8_told_18 (by decide) ?_
    obtain ⟨r20, m_refused_20, hq, hm⟩ := bd2_some hm
    refine k_callVI (As := [.int (-2)]) (rest := []) ⟨hx, hb, hml, hown, hts⟩ hK hA hN (c_X8_refuses (a := a) hq) (cwV 1 hts gX8_told_X8_refuses rfl rfl rfl hdX8_refuses ⟨Nat.le_of_ble_eq_true rfl, Nat.le_of_ble_eq_true rfl⟩) hP (va_D_re hD rfl) hS 0 8 rfl rfl rfl hl.1 rfl rfl (Nat.le_of_ble_eq_true rfl) ⟨Nat.zero_le _, Nat.zero_le _⟩ dX8_told_20 (fun H locs hP hS => ?_)
    simp only [Option.some.injEq, Prod.mk.injEq] at hm
    obtain ⟨rfl, rfl⟩ := hm
    exact hret _ _ _ _ dX8_told_23 hP hS
  · have hm := if_f hc hm
    refine lv_aload_n hx hb dX8_told_9 rfl (lv_at hl 0 rfl) ?_
    refine lv_iload_n hx hb dX8_told_10 rfl (lv_at hl 1 rfl) ?_
    obtain ⟨r11, hq, hm⟩ := bd1_some hm
    refine k_callVI (As := [.int v1]) (rest := []) ⟨hx, hb, hml, hown, hts⟩ hK hA hN (c_X8_toldOf (a := a) hq) (cwV 1 hts gX8_told_X8_toldOf rfl rfl rfl hdX8_toldOf ⟨Nat.le_of_ble_eq_true rfl, Nat.le_of_ble_eq_true rfl⟩) hP (va_D_re hD rfl) hS 0 8 rfl rfl rfl hl.1 rfl rfl (Nat.le_of_ble_eq_true rfl) ⟨Nat.zero_le _, Nat.zero_le _⟩ dX8_told_11 (fun H locs hP hS => ?_)
    refine lv_goto (tgt := 23) hx hb dX8_told_14 (by decide) ?_
    simp only [Option.some.injEq, Prod.mk.injEq] at hm
    obtain ⟨rfl, rfl⟩ := hm
    exact hret _ _ _ _ dX8_told_23 hP hS
