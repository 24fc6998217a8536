theorem hdX8_looks : yX8_looks.cls = RX8 ∧ yX8_looks.cls ≠ "java/lang/invoke/MethodHandle" ∧ yX8_looks.cls ≠ "java/lang/invoke/VarHandle" ∧ (parseMethodDescriptor yX8_looks.desc).map (fun d => d.parameters.length) = some 2 := by decide +kernel
theorem hiX8_looks : ∀ w ∈ u_ws RX8 TX8 34, w ∈ wsX8_looks := by decide +kernel
theorem flX8_looks_137 : Cond.fieldLink RX8 137 "BlindPagesModel" "guess" "I" ∈ wsX8_looks := by decide +kernel
theorem flX8_looks_140 : Cond.fieldLink RX8 140 "BlindPagesModel" "diff" "I" ∈ wsX8_looks := by decide +kernel
theorem flX8_looks_143 : Cond.fieldLink RX8 143 "BlindPagesModel" "read" "I" ∈ wsX8_looks := by decide +kernel
theorem flX8_looks_146 : Cond.fieldLink RX8 146 "BlindPagesModel" "placeOf" "I" ∈ wsX8_looks := by decide +kernel
def M_looks_J17 (m_s m_text : Nat → Int32) (m_typed : Int32) (v1 : Int32) (v2 : Int32) (m_refused : (Nat → Int32)) (m_asked : (Nat → Int32)) (m_heads : (Nat → Int32)) (m_forkBit : (Nat → Int32)) (m_forkFrom : (Nat → Int32)) (m_forkTo : (Nat → Int32)) (m_askedLength : Int32) (m_entries : Int32) (m_forks : Int32) (m_guess : Int32) (m_diff : Int32) (m_read : Int32) (m_placeOf : Int32) : Option (Int32 × (Nat → Int32) × (Nat → Int32) × (Nat → Int32) × (Nat → Int32) × (Nat → Int32) × (Nat → Int32) × Int32 × Int32 × Int32 × Int32 × Int32 × Int32 × Int32) := bd2 (M_refuses m_refused (-2)) fun r20 m_refused_20 => some (r20, m_refused_20, m_asked, m_heads, m_forkBit, m_forkFrom, m_forkTo, m_askedLength, m_entries, m_forks, m_guess, m_diff, m_read, m_placeOf)
def M_looks (m_s m_text : Nat → Int32) (m_typed : Int32) (m_refused m_asked m_heads m_forkBit m_forkFrom m_forkTo : Nat → Int32) (m_askedLength m_entries m_forks m_guess m_diff m_read m_placeOf : Int32) (v1 : Int32) (v2 : Int32) : Option (Int32 × (Nat → Int32) × (Nat → Int32) × (Nat → Int32) × (Nat → Int32) × (Nat → Int32) × (Nat → Int32) × Int32 × Int32 × Int32 × Int32 × Int32 × Int32 × Int32) := bd1 (M_isPage m_s v1) fun r2 => if r2 = 0 then (M_looks_J17 m_s m_text m_typed v1 v2 m_refused m_asked m_heads m_forkBit m_forkFrom m_forkTo m_askedLength m_entries m_forks m_guess m_diff m_read m_placeOf) else (bd1 (M_in v2 0 3) fun r11 => if r11 = 0 then (M_looks_J17 m_s m_text m_typed v1 v2 m_refused m_asked m_heads m_forkBit m_forkFrom m_forkTo m_askedLength m_entries m_forks m_guess m_diff m_read m_placeOf) else (bd3 (M_isWord m_text m_typed m_asked m_askedLength) fun r25 m_asked_25 m_askedLength_25 => if r25 = 0 then (bd2 (M_refuses m_refused (-3)) fun r34 m_refused_34 => some (r34, m_refused_34, m_asked_25, m_heads, m_forkBit, m_forkFrom, m_forkTo, m_askedLength_25, m_entries, m_forks, m_guess, m_diff, m_read, m_placeOf)) else (bd1 (M_levelOf m_s v1) fun r41 => bd1 (M_pageOf m_s v1) fun r46 => bd10 (M_looksAt m_s m_asked_25 m_askedLength_25 m_heads m_forkBit m_forkFrom m_forkTo m_entries m_forks m_guess m_diff m_read m_placeOf r41 r46 0) fun m_heads_50 m_forkBit_50 m_forkFrom_50 m_forkTo_50 m_entries_50 m_forks_50 m_guess_50 m_diff_50 m_read_50 m_placeOf_50 => if v2 = 0 then (some (m_guess_50, m_refused, m_asked_25, m_heads_50, m_forkBit_50, m_forkFrom_50, m_forkTo_50, m_askedLength_25, m_entries_50, m_forks_50, m_guess_50, m_diff_50, m_read_50, m_placeOf_50)) else (if v2 = 1 then (some (m_diff_50, m_refused, m_asked_25, m_heads_50, m_forkBit_50, m_forkFrom_50, m_forkTo_50, m_askedLength_25, m_entries_50, m_forks_50, m_guess_50, m_diff_50, m_read_50, m_placeOf_50)) else (if v2 = 2 then (some (m_read_50, m_refused, m_asked_25, m_heads_50, m_forkBit_50, m_forkFrom_50, m_forkTo_50, m_askedLength_25, m_entries_50, m_forks_50, m_guess_50, m_diff_50, m_read_50, m_placeOf_50)) else (some (m_placeOf_50, m_refused, m_asked_25, m_heads_50, m_forkBit_50, m_forkFrom_50, m_forkTo_50, m_askedLength_25, m_entries_50, m_forks_50, m_guess_50, m_diff_50, m_read_50, m_placeOf_50)))))))
set_option maxRecDepth 100000 in
set_option maxHeartbeats 4000000 in
theorem t_M_looks_J17 {p : Program} {l : Launch} {e : Env} {s : State} {m : MethodId} {args : Array Value} {below : List Frame} {meth : Method} {c : Code} {Q : State → Prop} {A : Nat → Prop} {D : va_G} {cI cJ cB cL cS cW : ClassId} {a : Nat → Nat} {m_s m_past m_kept m_text m_wayPage m_wayKnown m_wayGuess m_wayDiff m_wayRead m_wayPlace m_treeBit m_treeLeft m_treeRight m_treeAbove m_pileFrom m_pileTo m_pileAbove : Nat → Int32} {m_known m_typed m_treeForks m_treeDeep : Int32} {v1 : Int32} {v2 : Int32} {r : Int32} {o_refused : Nat → Int32} {o_asked : Nat → Int32} {o_heads : Nat → Int32} {o_forkBit : Nat → Int32} {o_forkFrom : Nat → Int32} {o_forkTo : Nat → Int32} {o_askedLength : Int32} {o_entries : Int32} {o_forks : Int32} {o_guess : Int32} {o_diff : Int32} {o_read : Int32} {o_placeOf : Int32} (C : k_C p s m args meth c cX8_looks 3 (some .int) RX8 wsX8_looks D (kT cI cJ cB cL cS cW) A) (hD : va_D A (WM0 a cI)) (hret : ∀ (H : Heap) (locs : List Loc) (pc : Nat) (ls : Array Slot), decode cX8_looks pc = .ok (.ireturn, 1) → va_P D vwCl (WM a cI m_s m_past m_kept o_refused m_text o_asked o_heads o_forkBit o_forkFrom o_forkTo m_wayPage m_wayKnown m_wayGuess m_wayDiff m_wayRead m_wayPlace m_treeBit m_treeLeft m_treeRight m_treeAbove m_pileFrom m_pileTo m_pileAbove m_known m_typed o_askedLength o_entries o_forks o_guess o_diff o_read o_placeOf m_treeForks m_treeDeep) H → va_S A s.heap H locs → W p l e { frames := 5, cells := 0, slots := 0, locals := 123 } s m args below meth c H locs 0 0 Q (F0 m pc ls [.int r])) : ∀ (m_refused : (Nat → Int32)) (m_asked : (Nat → Int32)) (m_heads : (Nat → Int32)) (m_forkBit : (Nat → Int32)) (m_forkFrom : (Nat → Int32)) (m_forkTo : (Nat → Int32)) (m_askedLength : Int32) (m_entries : Int32) (m_forks : Int32) (m_guess : Int32) (m_diff : Int32) (m_read : Int32) (m_placeOf : Int32) (H : Heap) (locs : List Loc) (ls : Array Slot), va_P D vwCl (WM a cI m_s m_past m_kept m_refused m_text m_asked m_heads m_forkBit m_forkFrom m_forkTo m_wayPage m_wayKnown m_wayGuess m_wayDiff m_wayRead m_wayPlace m_treeBit m_treeLeft m_treeRight m_treeAbove m_pileFrom m_pileTo m_pileAbove m_known m_typed m_askedLength m_entries m_forks m_guess m_diff m_read m_placeOf m_treeForks m_treeDeep) H → va_S A s.heap H locs → lv_has ls 3 [(0, .ref (a 0))] → M_looks_J17 m_s m_text m_typed v1 v2 m_refused m_asked m_heads m_forkBit m_forkFrom m_forkTo m_askedLength m_entries m_forks m_guess m_diff m_read m_placeOf = some (r, o_refused, o_asked, o_heads, o_forkBit, o_forkFrom, o_forkTo, o_askedLength, o_entries, o_forks, o_guess, o_diff, o_read, o_placeOf) → W p l e { frames := 5, cells := 0, slots := 0, locals := 123 } s m args below meth c H locs 0 0 Q (F0 m 17 ls []) := by
  obtain ⟨hx, hb, hml, hr, hown, hts, hlocks, hK, hA, hN⟩ := id C
  intro m_refused m_asked m_heads m_forkBit m_forkFrom m_forkTo m_askedLength m_entries m_forks m_guess m_diff m_read m_placeOf H locs ls hP hS hl hm
  rw [M_looks_J17] at hm
  refine lv_aload_n hx hb dX8_looks_17 rfl (lv_at hl 0 rfl) ?_
  refine lv_bipush (v := (-2)) hx hb dX8_looks_18 (by decide) ?_
  obtain ⟨r20, m_refused_20, hq, hm⟩ := bd2_some hm
  refine k_callVI (As := [.int (-2)]) (rest := []) ⟨hx, hb, hml, hown, hts⟩ hK hA hN (c_X8_refuses (a := a) hq) (cwV 1 hts gX8_looks_X8_refuses rfl rfl rfl hdX8_refuses ⟨Nat.le_of_ble_eq_true rfl, Nat.le_of_ble_eq_true rfl⟩) hP (va_D_re hD rfl) hS 0 8 rfl rfl rfl hl.1 rfl rfl (Nat.le_of_ble_eq_true rfl) ⟨Nat.zero_le _, Nat.zero_le _⟩ dX8_looks_20 (fun H locs hP hS => ?_)
  simp only [Option.some.injEq, Prod.mk.injEq] at hm
  obtain ⟨rfl, rfl, rfl, rfl, rfl, rfl, rfl, rfl, rfl, rfl, rfl, rfl, rfl, rfl⟩ := hm
  exact hret _ _ _ _ dX8_looks_23 hP hS
set_option maxRecDepth 100000 in
set_option maxHeartbeats 4000000 in
theorem c_X8_looks {l : Launch} {D : va_G} {cI cJ cB cL cS cW : ClassId} {a : Nat → Nat} {m_s m_past m_kept m_refused m_text m_asked m_heads m_forkBit m_forkFrom m_forkTo m_wayPage m_wayKnown m_wayGuess m_wayDiff m_wayRead m_wayPlace m_treeBit m_treeLeft m_treeRight m_treeAbove m_pileFrom m_pileTo m_pileAbove : Nat → Int32} {m_known m_typed m_askedLength m_entries m_forks m_guess m_diff m_read m_placeOf m_treeForks m_treeDeep : Int32} {v1 : Int32} {v2 : Int32} {r : Int32} {o_refused : Nat → Int32} {o_asked : Nat → Int32} {o_heads : Nat → Int32} {o_forkBit : Nat → Int32} {o_forkFrom : Nat → Int32} {o_forkTo : Nat → Int32} {o_askedLength : Int32} {o_entries : Int32} {o_forks : Int32} {o_guess : Int32} {o_diff : Int32} {o_read : Int32} {o_placeOf : Int32} (hm : M_looks m_s m_text m_typed m_refused m_asked m_heads m_forkBit m_forkFrom m_forkTo m_askedLength m_entries m_forks m_guess m_diff m_read m_placeOf v1 v2 = some (r, o_refused, o_asked, o_heads, o_forkBit, o_forkFrom, o_forkTo, o_askedLength, o_entries, o_forks, o_guess, o_diff, o_read, o_placeOf)) : k_MI l yX8_looks wsX8_looks { frames := 5, cells := 0, slots := 0, locals := 123 } D (kT cI cJ cB cL cS cW) [.ref (a 0), .int v1, .int v2] (WM a cI m_s m_past m_kept m_refused m_text m_asked m_heads m_forkBit m_forkFrom m_forkTo m_wayPage m_wayKnown m_wayGuess m_wayDiff m_wayRead m_wayPlace m_treeBit m_treeLeft m_treeRight m_treeAbove m_pileFrom m_pileTo m_pileAbove m_known m_typed m_askedLength m_entries m_forks m_guess m_diff m_read m_placeOf m_treeForks m_treeDeep) r (WM a cI m_s m_past m_kept o_refused m_text o_asked o_heads o_forkBit o_forkFrom o_forkTo m_wayPage m_wayKnown m_wayGuess m_wayDiff m_wayRead m_wayPlace m_treeBit m_treeLeft m_treeRight m_treeAbove m_pileFrom m_pileTo m_pileAbove m_known m_typed o_askedLength o_entries o_forks o_guess o_diff o_read o_placeOf m_treeForks m_treeDeep) := by
  refine k_ofI (cc := cX8_looks) (maxL := 3) (own := RX8) (by decide) rfl rfl (Nat.le_of_ble_eq_true rfl) ?_
  intro p e s m args below meth c A Q ls C hP hD hl hret
  have hD : va_D A (WM0 a cI) := va_D_re hD rfl
  have hS : va_S A s.heap s.heap [] := va_S.rf
  have hl : lv_has ls 3 [(0, .ref (a 0)), (1, .int v1), (2, .int v2)] := hl
  obtain ⟨hx, hb, hml, hr, hown, hts, hlocks, hK, hA, hN⟩ := id C
  rw [M_looks] at hm
  refine lv_aload_n hx hb dX8_looks_0 rfl (lv_at hl 0 rfl) ?_
  refine lv_iload_n hx hb dX8_looks_1 rfl (lv_at hl 1 rfl) ?_
  obtain ⟨r2, hq, hm⟩ := bd1_some hm
  refine k_callVI (As := [.int v1]) (rest := []) ⟨hx, hb, hml, hown, hts⟩ hK hA hN (c_X8_isPage (a := a) hq) (cwV 1 hts gX8_looks_X8_isPage rfl rfl rfl hdX8_isPage ⟨Nat.le_of_ble_eq_true rfl, Nat.le_of_ble_eq_true rfl⟩) hP (va_D_re hD rfl) hS 0 8 rfl rfl rfl hl.1 rfl rfl (Nat.le_of_ble_eq_true rfl) ⟨Nat.zero_le _, Nat.zero_le _⟩ dX8_looks_2 (fun H locs hP hS => ?_)
  refine lv_if_eq (tgt := 17) hx hb dX8_looks_5 (by decide) (fun hc => ?_) (fun hc => ?_)
  · have hm := if_t hc hm
    exact t_M_looks_J17 C hD hret _ _ _ _ _ _ _ _ _ _ _ _ _ _ _ _ hP hS (lv_sub hl [0] rfl) hm
  · have hm := if_f hc hm
    refine lv_iload_n hx hb dX8_looks_8 rfl (lv_at hl 2 rfl) ?_
    refine lv_iconst (v := 0) hx hb dX8_looks_9 (by decide) ?_
    refine lv_iconst (v := 3) hx hb dX8_looks_10 (by decide) ?_
    obtain ⟨r11, hq, hm⟩ := bd1_some hm
    refine k_callSI (As := [.int v2, .int 0, .int 3]) (rest := []) ⟨hx, hb, hml, hown, hts⟩ hK hA hN (c_X8_in (a := a) hq) (va_cwS 3 hts gX8_looks_X8_in rfl rfl rfl hdX8_in ⟨Nat.le_of_ble_eq_true rfl, Nat.le_of_ble_eq_true rfl⟩) hP (va_D_re hD rfl) hS hl.1 rfl rfl (Nat.le_of_ble_eq_true rfl) ⟨Nat.zero_le _, Nat.zero_le _⟩ dX8_looks_11 (fun H locs hP hS => ?_)
    refine lv_if_ne (tgt := 24) hx hb dX8_looks_14 (by decide) (fun hc => ?_) (fun hc => ?_)
    · have hm := if_f hc hm
      refine lv_aload_n hx hb dX8_looks_24 rfl (lv_at hl 0 rfl) ?_
      obtain ⟨r25, m_asked_25, m_askedLength_25, hq, hm⟩ := bd3_some hm
      refine k_callVI (As := []) (rest := []) ⟨hx, hb, hml, hown, hts⟩ hK hA hN (c_X8_isWord (a := a) hq) (cwV 0 hts gX8_looks_X8_isWord rfl rfl rfl hdX8_isWord ⟨Nat.le_of_ble_eq_true rfl, Nat.le_of_ble_eq_true rfl⟩) hP (va_D_re hD rfl) hS 0 8 rfl rfl rfl hl.1 rfl rfl (Nat.le_of_ble_eq_true rfl) ⟨Nat.zero_le _, Nat.zero_le _⟩ dX8_looks_25 (fun H locs hP hS => ?_)
      refine lv_if_ne (tgt := 38) hx hb dX8_looks_28 (by decide) (fun hc => ?_) (fun hc => ?_)
      · have hm := if_f hc hm
        refine lv_aload_n hx hb dX8_looks_38 rfl (lv_at hl 0 rfl) ?_
        refine lv_aload_n hx hb dX8_looks_39 rfl (lv_at hl 0 rfl) ?_
        refine lv_iload_n hx hb dX8_looks_40 rfl (lv_at hl 1 rfl) ?_
        obtain ⟨r41, hq, hm⟩ := bd1_some hm
        refine k_callVI (As := [.int v1]) (rest := [.ref (a 0)]) ⟨hx, hb, hml, hown, hts⟩ hK hA hN (c_X8_levelOf (a := a) hq) (cwV 1 hts gX8_looks_X8_levelOf rfl rfl rfl hdX8_levelOf ⟨Nat.le_of_ble_eq_true rfl, Nat.le_of_ble_eq_true rfl⟩) hP (va_D_re hD rfl) hS 0 8 rfl rfl rfl hl.1 rfl rfl (Nat.le_of_ble_eq_true rfl) ⟨Nat.zero_le _, Nat.zero_le _⟩ dX8_looks_41 (fun H locs hP hS => ?_)
        refine lv_aload_n hx hb dX8_looks_44 rfl (lv_at hl 0 rfl) ?_
        refine lv_iload_n hx hb dX8_looks_45 rfl (lv_at hl 1 rfl) ?_
        obtain ⟨r46, hq, hm⟩ := bd1_some hm
        refine k_callVI (As := [.int v1]) (rest := [.int r41, .ref (a 0)]) ⟨hx, hb, hml, hown, hts⟩ hK hA hN (c_X8_pageOf (a := a) hq) (cwV 1 hts gX8_looks_X8_pageOf rfl rfl rfl hdX8_pageOf ⟨Nat.le_of_ble_eq_true rfl, Nat.le_of_ble_eq_true rfl⟩) hP (va_D_re hD rfl) hS 0 8 rfl rfl rfl hl.1 rfl rfl (Nat.le_of_ble_eq_true rfl) ⟨Nat.zero_le _, Nat.zero_le _⟩ dX8_looks_46 (fun H locs hP hS => ?_)
        refine lv_iconst (v := 0) hx hb dX8_looks_49 (by decide) ?_
        obtain ⟨m_heads_50, m_forkBit_50, m_forkFrom_50, m_forkTo_50, m_entries_50, m_forks_50, m_guess_50, m_diff_50, m_read_50, m_placeOf_50, hq, hm⟩ := bd10_some hm
        refine k_callVV (As := [.int r41, .int r46, .int 0]) (rest := []) ⟨hx, hb, hml, hown, hts⟩ hK hA hN (c_X8_looksAt (a := a) hq) (cwV 3 hts gX8_looks_X8_looksAt rfl rfl rfl hdX8_looksAt ⟨Nat.le_of_ble_eq_true rfl, Nat.le_of_ble_eq_true rfl⟩) hP (va_D_re hD rfl) hS 0 8 rfl rfl rfl hl.1 rfl rfl (Nat.le_of_ble_eq_true rfl) ⟨Nat.zero_le _, Nat.zero_le _⟩ dX8_looks_50 (fun H locs hP hS => ?_)
        refine lv_iload_n hx hb dX8_looks_53 rfl (lv_at hl 2 rfl) ?_
        refine lv_if_ne (tgt := 64) hx hb dX8_looks_54 (by decide) (fun hc => ?_) (fun hc => ?_)
        · have hm := if_f hc hm
          refine lv_iload_n hx hb dX8_looks_64 rfl (lv_at hl 2 rfl) ?_
          refine lv_iconst (v := 1) hx hb dX8_looks_65 (by decide) ?_
          refine lv_icmp_ne (tgt := 76) hx hb dX8_looks_66 (by decide) (fun hc => ?_) (fun hc => ?_)
          · have hm := if_f hc hm
            refine lv_iload_n hx hb dX8_looks_76 rfl (lv_at hl 2 rfl) ?_
            refine lv_iconst (v := 2) hx hb dX8_looks_77 (by decide) ?_
            refine lv_icmp_ne (tgt := 88) hx hb dX8_looks_78 (by decide) (fun hc => ?_) (fun hc => ?_)
            · have hm := if_f hc hm
              refine lv_aload_n hx hb dX8_looks_88 rfl (lv_at hl 0 rfl) ?_
              refine kg (v := .int m_placeOf_50) hx hb hts hiX8_looks hown hK hP 0 rfl rfl 18 (by decide) flX8_looks_146 rfl rfl dX8_looks_89 ?_
              simp only [Option.some.injEq, Prod.mk.injEq] at hm
              obtain ⟨rfl, rfl, rfl, rfl, rfl, rfl, rfl, rfl, rfl, rfl, rfl, rfl, rfl, rfl⟩ := hm
              exact hret _ _ _ _ dX8_looks_92 hP hS
            · have hm := if_t hc hm
              refine lv_aload_n hx hb dX8_looks_81 rfl (lv_at hl 0 rfl) ?_
              refine kg (v := .int m_read_50) hx hb hts hiX8_looks hown hK hP 0 rfl rfl 17 (by decide) flX8_looks_143 rfl rfl dX8_looks_82 ?_
              refine lv_goto (tgt := 92) hx hb dX8_looks_85 (by decide) ?_
              simp only [Option.some.injEq, Prod.mk.injEq] at hm
              obtain ⟨rfl, rfl, rfl, rfl, rfl, rfl, rfl, rfl, rfl, rfl, rfl, rfl, rfl, rfl⟩ := hm
              exact hret _ _ _ _ dX8_looks_92 hP hS
          · have hm := if_t hc hm
            refine lv_aload_n hx hb dX8_looks_69 rfl (lv_at hl 0 rfl) ?_
            refine kg (v := .int m_diff_50) hx hb hts hiX8_looks hown hK hP 0 rfl rfl 16 (by decide) flX8_looks_140 rfl rfl dX8_looks_70 ?_
            refine lv_goto (tgt := 92) hx hb dX8_looks_73 (by decide) ?_
            simp only [Option.some.injEq, Prod.mk.injEq] at hm
            obtain ⟨rfl, rfl, rfl, rfl, rfl, rfl, rfl, rfl, rfl, rfl, rfl, rfl, rfl, rfl⟩ := hm
            exact hret _ _ _ _ dX8_looks_92 hP hS
        · have hm := if_t hc hm
          refine lv_aload_n hx hb dX8_looks_57 rfl (lv_at hl 0 rfl) ?_
          refine kg (v := .int m_guess_50) hx hb hts hiX8_looks hown hK hP 0 rfl rfl 15 (by decide) flX8_looks_137 rfl rfl dX8_looks_58 ?_
          refine lv_goto (tgt := 92) hx hb dX8_looks_61 (by decide) ?_
          simp only [Option.some.injEq, Prod.mk.injEq] at hm
          obtain ⟨rfl, rfl, rfl, rfl, rfl, rfl, rfl, rfl, rfl, rfl, rfl, rfl, rfl, rfl⟩ := hm
          exact hret _ _ _ _ dX8_looks_92 hP hS
      · have hm := if_t hc hm
        refine lv_aload_n hx hb dX8_looks_31 rfl (lv_at hl 0 rfl) ?_
        refine lv_bipush (v := (-3)) hx hb dX8_looks_32 (by decide) ?_
        obtain ⟨r34, m_refused_34, hq, hm⟩ := bd2_some hm
        refine k_callVI (As := [.int (-3)]) (rest := []) ⟨hx, hb, hml, hown, hts⟩ hK hA hN (c_X8_refuses (a := a) hq) (cwV 1 hts gX8_looks_X8_refuses rfl rfl rfl hdX8_refuses ⟨Nat.le_of_ble_eq_true rfl, Nat.le_of_ble_eq_true rfl⟩) hP (va_D_re hD rfl) hS 0 8 rfl rfl rfl hl.1 rfl rfl (Nat.le_of_ble_eq_true rfl) ⟨Nat.zero_le _, Nat.zero_le _⟩ dX8_looks_34 (fun H locs hP hS => ?_)
        simp only [Option.some.injEq, Prod.mk.injEq] at hm
        obtain ⟨rfl, rfl, rfl, rfl, rfl, rfl, rfl, rfl, rfl, rfl, rfl, rfl, rfl, rfl⟩ := hm
        exact hret _ _ _ _ dX8_looks_37 hP hS
    · have hm := if_t hc hm
      exact t_M_looks_J17 C hD hret _ _ _ _ _ _ _ _ _ _ _ _ _ _ _ _ hP hS (lv_sub hl [0] rfl) hm
theorem hdX8_isBeginning : yX8_isBeginning.cls = RX8 ∧ yX8_isBeginning.cls ≠ "java/lang/invoke/MethodHandle" ∧ yX8_isBeginning.cls ≠ "java/lang/invoke/VarHandle" ∧ (parseMethodDescriptor yX8_isBeginning.desc).map (fun d => d.parameters.length) = some 1 := by decide +kernel
theorem hiX8_isBeginning : ∀ w ∈ u_ws RX8 TX8 34, w ∈ wsX8_isBeginning := by decide +kernel
theorem flX8_isBeginning_83 : Cond.fieldLink RX8 83 "BlindPagesModel" "askedLength" "I" ∈ wsX8_isBeginning := by decide +kernel
theorem flX8_isBeginning_25 : Cond.fieldLink RX8 25 "BlindPagesModel" "asked" "[I" ∈ wsX8_isBeginning := by decide +kernel
def M_isBeginning_L20 (m_s m_asked : Nat → Int32) (m_askedLength : Int32) (v1 : Int32) (k59 : Int32 → Option (Int32)) : Nat → Int32 → Int32 → Option (Int32)
  | 0, _, _ => none
  | n + 1, v2, v3 => if m_askedLength ≤ v3 then (k59 v2) else (if v2 = 0 then (k59 v2) else (bd1 (M_signOf m_s m_asked v1 v3) fun r35 => ga v3 24 (if r35 = (m_asked v3.toNatClampNeg) then (M_isBeginning_L20 m_s m_asked m_askedLength v1 k59 n 1 (v3 + 1)) else (M_isBeginning_L20 m_s m_asked m_askedLength v1 k59 n 0 (v3 + 1)))))
def M_isBeginning (m_s m_asked : Nat → Int32) (m_askedLength : Int32) (v1 : Int32) : Option (Int32) := bd1 (M_lengthOf m_s m_askedLength v1) fun r2 => if r2 < m_askedLength then (M_isBeginning_L20 m_s m_asked m_askedLength v1 (fun v2 => gb v2 (some v2)) FU 0 0) else (M_isBeginning_L20 m_s m_asked m_askedLength v1 (fun v2 => gb v2 (some v2)) FU 1 0)
set_option maxRecDepth 100000 in
set_option maxHeartbeats 4000000 in
theorem t_M_isBeginning_L20 {p : Program} {l : Launch} {e : Env} {s : State} {m : MethodId} {args : Array Value} {below : List Frame} {meth : Method} {c : Code} {Q : State → Prop} {A : Nat → Prop} {D : va_G} {cI cJ cB cL cS cW : ClassId} {a : Nat → Nat} {m_s m_past m_kept m_refused m_text m_asked m_heads m_forkBit m_forkFrom m_forkTo m_wayPage m_wayKnown m_wayGuess m_wayDiff m_wayRead m_wayPlace m_treeBit m_treeLeft m_treeRight m_treeAbove m_pileFrom m_pileTo m_pileAbove : Nat → Int32} {m_known m_typed m_askedLength m_entries m_forks m_guess m_diff m_read m_placeOf m_treeForks m_treeDeep : Int32} {v1 : Int32} {r : Int32} (C : k_C p s m args meth c cX8_isBeginning 4 (some .boolean) RX8 wsX8_isBeginning D (kT cI cJ cB cL cS cW) A) (hD : va_D A (WM0 a cI)) (hret : ∀ (H : Heap) (locs : List Loc) (pc : Nat) (ls : Array Slot), decode cX8_isBeginning pc = .ok (.ireturn, 1) → (r = 0 ∨ r = 1) → va_P D vwCl (WM a cI m_s m_past m_kept m_refused m_text m_asked m_heads m_forkBit m_forkFrom m_forkTo m_wayPage m_wayKnown m_wayGuess m_wayDiff m_wayRead m_wayPlace m_treeBit m_treeLeft m_treeRight m_treeAbove m_pileFrom m_pileTo m_pileAbove m_known m_typed m_askedLength m_entries m_forks m_guess m_diff m_read m_placeOf m_treeForks m_treeDeep) H → va_S A s.heap H locs → W p l e { frames := 1, cells := 0, slots := 0, locals := 22 } s m args below meth c H locs 0 0 Q (F0 m pc ls [.int r])) {k59 : Int32 → Option (Int32)} (hk59 : ∀ (v2 : Int32) (H : Heap) (locs : List Loc) (ls : Array Slot), va_P D vwCl (WM a cI m_s m_past m_kept m_refused m_text m_asked m_heads m_forkBit m_forkFrom m_forkTo m_wayPage m_wayKnown m_wayGuess m_wayDiff m_wayRead m_wayPlace m_treeBit m_treeLeft m_treeRight m_treeAbove m_pileFrom m_pileTo m_pileAbove m_known m_typed m_askedLength m_entries m_forks m_guess m_diff m_read m_placeOf m_treeForks m_treeDeep) H → va_S A s.heap H locs → lv_has ls 4 [(2, .int v2)] → k59 v2 = some r → W p l e { frames := 1, cells := 0, slots := 0, locals := 22 } s m args below meth c H locs 0 0 Q (F0 m 59 ls [])) : ∀ n : Nat, ∀ (v2 : Int32) (v3 : Int32) (H : Heap) (locs : List Loc) (ls : Array Slot), va_P D vwCl (WM a cI m_s m_past m_kept m_refused m_text m_asked m_heads m_forkBit m_forkFrom m_forkTo m_wayPage m_wayKnown m_wayGuess m_wayDiff m_wayRead m_wayPlace m_treeBit m_treeLeft m_treeRight m_treeAbove m_pileFrom m_pileTo m_pileAbove m_known m_typed m_askedLength m_entries m_forks m_guess m_diff m_read m_placeOf m_treeForks m_treeDeep) H → va_S A s.heap H locs → lv_has ls 4 [(0, .ref (a 0)), (1, .int v1), (2, .int v2), (3, .int v3)] → (M_isBeginning_L20 m_s m_asked m_askedLength v1 k59 n) v2 v3 = some r → W p l e { frames := 1, cells := 0, slots := 0, locals := 22 } s m args below meth c H locs 0 0 Q (F0 m 20 ls []) := by
  obtain ⟨hx, hb, hml, hr, hown, hts, hlocks, hK, hA, hN⟩ := id C
  intro n
  induction n with
  | zero =>
    intro v2 v3 H locs ls hP hS hl hm
    cases hm
  | succ n ih =>
    intro v2 v3 H locs ls hP hS hl hm
    rw [M_isBeginning_L20] at hm
    refine lv_iload_n hx hb dX8_isBeginning_20 rfl (lv_at hl 3 rfl) ?_
    refine lv_aload_n hx hb dX8_isBeginning_21 rfl (lv_at hl 0 rfl) ?_
    refine kg (v := .int m_askedLength) hx hb hts hiX8_isBeginning hown hK hP 0 rfl rfl 8 (by decide) flX8_isBeginning_83 rfl rfl dX8_isBeginning_22 ?_
    refine lv_icmp_ge (tgt := 59) hx hb dX8_isBeginning_25 (by decide) (fun hc => ?_) (fun hc => ?_)
    · have hm := if_t hc hm
      exact hk59 _ _ _ _ hP hS (lv_sub hl [2] rfl) hm
    · have hm := if_f hc hm
      refine lv_iload_n hx hb dX8_isBeginning_28 rfl (lv_at hl 2 rfl) ?_
      refine lv_if_eq (tgt := 59) hx hb dX8_isBeginning_29 (by decide) (fun hc => ?_) (fun hc => ?_)
      · have hm := if_t hc hm
        exact hk59 _ _ _ _ hP hS (lv_sub hl [2] rfl) hm
      · have hm := if_f hc hm
        refine lv_aload_n hx hb dX8_isBeginning_32 rfl (lv_at hl 0 rfl) ?_
        refine lv_iload_n hx hb dX8_isBeginning_33 rfl (lv_at hl 1 rfl) ?_
        refine lv_iload_n hx hb dX8_isBeginning_34 rfl (lv_at hl 3 rfl) ?_
        obtain ⟨r35, hq, hm⟩ := bd1_some hm
        refine k_callVI (As := [.int v1, .int v3]) (rest := []) ⟨hx, hb, hml, hown, hts⟩ hK hA hN (c_X8_signOf (a := a) hq) (cwV 2 hts gX8_isBeginning_X8_signOf rfl rfl rfl hdX8_signOf ⟨Nat.le_of_ble_eq_true rfl, Nat.le_of_ble_eq_true rfl⟩) hP (va_D_re hD rfl) hS 0 8 rfl rfl rfl hl.1 rfl rfl (Nat.le_of_ble_eq_true rfl) ⟨Nat.zero_le _, Nat.zero_le _⟩ dX8_isBeginning_35 (fun H locs hP hS => ?_)
        refine lv_aload_n hx hb dX8_isBeginning_38 rfl (lv_at hl 0 rfl) ?_
        refine kg (v := .ref (a 6)) hx hb hts hiX8_isBeginning hown hK hP 0 rfl rfl 7 (by decide) flX8_isBeginning_25 rfl rfl dX8_isBeginning_39 ?_
        refine lv_iload_n hx hb dX8_isBeginning_42 rfl (lv_at hl 3 rfl) ?_
        obtain ⟨hi, hm⟩ := ga_some hm
        refine k_iald hx hb hK hP 6 0 rfl rfl rfl hi dX8_isBeginning_43 ?_
        refine lv_icmp_ne (tgt := 51) hx hb dX8_isBeginning_44 (by decide) (fun hc => ?_) (fun hc => ?_)
        · have hm := if_f hc hm
          refine lv_iconst (v := 0) hx hb dX8_isBeginning_51 (by decide) ?_
          refine lv_istore_n (lv' := [(2, .int 0), (0, .ref (a 0)), (1, .int v1), (3, .int v3)]) hx hb dX8_isBeginning_52 rfl hl (by decide) rfl (fun ls hl => ?_)
          refine lv_iinc (v := (v3 + 1)) (lv' := [(3, .int (v3 + 1)), (2, .int 0), (0, .ref (a 0)), (1, .int v1)]) hx hb dX8_isBeginning_53 hl (k := 3) rfl rfl (by decide) rfl (fun ls hl => ?_)
          refine lv_goto (tgt := 20) hx hb dX8_isBeginning_56 (by decide) ?_
          exact ih _ _ _ _ _ hP hS (lv_sub hl [2, 3, 1, 0] rfl) hm
        · have hm := if_t hc hm
          refine lv_iconst (v := 1) hx hb dX8_isBeginning_47 (by decide) ?_
          refine lv_goto (tgt := 52) hx hb dX8_isBeginning_48 (by decide) ?_
          refine lv_istore_n (lv' := [(2, .int 1), (0, .ref (a 0)), (1, .int v1), (3, .int v3)]) hx hb dX8_isBeginning_52 rfl hl (by decide) rfl (fun ls hl => ?_)
          refine lv_iinc (v := (v3 + 1)) (lv' := [(3, .int (v3 + 1)), (2, .int 1), (0, .ref (a 0)), (1, .int v1)]) hx hb dX8_isBeginning_53 hl (k := 3) rfl rfl (by decide) rfl (fun ls hl => ?_)
          refine lv_goto (tgt := 20) hx hb dX8_isBeginning_56 (by decide) ?_
          exact ih _ _ _ _ _ hP hS (lv_sub hl [2, 3, 1, 0] rfl) hm
set_option maxRecDepth 100000 in
set_option maxHeartbeats 4000000 in
theorem c_X8_isBeginning {l : Launch} {D : va_G} {cI cJ cB cL cS cW : ClassId} {a : Nat → Nat} {m_s m_past m_kept m_refused m_text m_asked m_heads m_forkBit m_forkFrom m_forkTo m_wayPage m_wayKnown m_wayGuess m_wayDiff m_wayRead m_wayPlace m_treeBit m_treeLeft m_treeRight m_treeAbove m_pileFrom m_pileTo m_pileAbove : Nat → Int32} {m_known m_typed m_askedLength m_entries m_forks m_guess m_diff m_read m_placeOf m_treeForks m_treeDeep : Int32} {v1 : Int32} {r : Int32} (hm : M_isBeginning m_s m_asked m_askedLength v1 = some r) : k_MI l yX8_isBeginning wsX8_isBeginning { frames := 1, cells := 0, slots := 0, locals := 22 } D (kT cI cJ cB cL cS cW) [.ref (a 0), .int v1] (WM a cI m_s m_past m_kept m_refused m_text m_asked m_heads m_forkBit m_forkFrom m_forkTo m_wayPage m_wayKnown m_wayGuess m_wayDiff m_wayRead m_wayPlace m_treeBit m_treeLeft m_treeRight m_treeAbove m_pileFrom m_pileTo m_pileAbove m_known m_typed m_askedLength m_entries m_forks m_guess m_diff m_read m_placeOf m_treeForks m_treeDeep) r (WM a cI m_s m_past m_kept m_refused m_text m_asked m_heads m_forkBit m_forkFrom m_forkTo m_wayPage m_wayKnown m_wayGuess m_wayDiff m_wayRead m_wayPlace m_treeBit m_treeLeft m_treeRight m_treeAbove m_pileFrom m_pileTo m_pileAbove m_known m_typed m_askedLength m_entries m_forks m_guess m_diff m_read m_placeOf m_treeForks m_treeDeep) := by
  refine k_ofZ (cc := cX8_isBeginning) (maxL := 4) (own := RX8) (by decide) rfl rfl (Nat.le_of_ble_eq_true rfl) ?_
  intro p e s m args below meth c A Q ls C hP hD hl hret
  have hD : va_D A (WM0 a cI) := va_D_re hD rfl
  have hS : va_S A s.heap s.heap [] := va_S.rf
  have hl : lv_has ls 4 [(0, .ref (a 0)), (1, .int v1)] := hl
  obtain ⟨hx, hb, hml, hr, hown, hts, hlocks, hK, hA, hN⟩ := id C
  rw [M_isBeginning] at hm
  refine lv_aload_n hx hb dX8_isBeginning_0 rfl (lv_at hl 0 rfl) ?_
  refine lv_iload_n hx hb dX8_isBeginning_1 rfl (lv_at hl 1 rfl) ?_
  obtain ⟨r2, hq, hm⟩ := bd1_some hm
  refine k_callVI (As := [.int v1]) (rest := []) ⟨hx, hb, hml, hown, hts⟩ hK hA hN (c_X8_lengthOf (a := a) hq) (cwV 1 hts gX8_isBeginning_X8_lengthOf rfl rfl rfl hdX8_lengthOf ⟨Nat.le_of_ble_eq_true rfl, Nat.le_of_ble_eq_true rfl⟩) hP (va_D_re hD rfl) hS 0 8 rfl rfl rfl hl.1 rfl rfl (Nat.le_of_ble_eq_true rfl) ⟨Nat.zero_le _, Nat.zero_le _⟩ dX8_isBeginning_2 (fun H locs hP hS => ?_)
  refine lv_aload_n hx hb dX8_isBeginning_5 rfl (lv_at hl 0 rfl) ?_
  refine kg (v := .int m_askedLength) hx hb hts hiX8_isBeginning hown hK hP 0 rfl rfl 8 (by decide) flX8_isBeginning_83 rfl rfl dX8_isBeginning_6 ?_
  refine lv_icmp_lt (tgt := 16) hx hb dX8_isBeginning_9 (by decide) (fun hc => ?_) (fun hc => ?_)
  · have hm := if_t hc hm
    refine lv_iconst (v := 0) hx hb dX8_isBeginning_16 (by decide) ?_
    refine lv_istore_n (lv' := [(2, .int 0), (0, .ref (a 0)), (1, .int v1)]) hx hb dX8_isBeginning_17 rfl hl (by decide) rfl (fun ls hl => ?_)
    refine lv_iconst (v := 0) hx hb dX8_isBeginning_18 (by decide) ?_
    refine lv_istore_n (lv' := [(3, .int 0), (2, .int 0), (0, .ref (a 0)), (1, .int v1)]) hx hb dX8_isBeginning_19 rfl hl (by decide) rfl (fun ls hl => ?_)
    refine t_M_isBeginning_L20 C hD hret ?_ FU _ _ _ _ _ hP hS (lv_sub hl [2, 3, 1, 0] rfl) hm
    · intro v2 H locs ls hP hS hl hm
      try dsimp only at hm
      refine lv_iload_n hx hb dX8_isBeginning_59 rfl (lv_at hl 0 rfl) ?_
      obtain ⟨hi, hm⟩ := gb_some hm
      obtain rfl := Option.some.inj hm
      exact hret _ _ _ _ dX8_isBeginning_60 hi hP hS
  · have hm := if_f hc hm
    refine lv_iconst (v := 1) hx hb dX8_isBeginning_12 (by decide) ?_
    refine lv_goto (tgt := 17) hx hb dX8_isBeginning_13 (by decide) ?_
    refine lv_istore_n (lv' := [(2, .int 1), (0, .ref (a 0)), (1, .int v1)]) hx hb dX8_isBeginning_17 rfl hl (by decide) rfl (fun ls hl => ?_)
    refine lv_iconst (v := 0) hx hb dX8_isBeginning_18 (by decide) ?_
    refine lv_istore_n (lv' := [(3, .int 0), (2, .int 1), (0, .ref (a 0)), (1, .int v1)]) hx hb dX8_isBeginning_19 rfl hl (by decide) rfl (fun ls hl => ?_)
    refine t_M_isBeginning_L20 C hD hret ?_ FU _ _ _ _ _ hP hS (lv_sub hl [2, 3, 1, 0] rfl) hm
    · intro v2 H locs ls hP hS hl hm
      try dsimp only at hm
      refine lv_iload_n hx hb dX8_isBeginning_59 rfl (lv_at hl 0 rfl) ?_
      obtain ⟨hi, hm⟩ := gb_some hm
      obtain rfl := Option.some.inj hm
      exact hret _ _ _ _ dX8_isBeginning_60 hi hP hS
theorem hdX8_begins : yX8_begins.cls = RX8 ∧ yX8_begins.cls ≠ "java/lang/invoke/MethodHandle" ∧ yX8_begins.cls ≠ "java/lang/invoke/VarHandle" ∧ (parseMethodDescriptor yX8_begins.desc).map (fun d => d.parameters.length) = some 1 := by decide +kernel
theorem hiX8_begins : ∀ w ∈ u_ws RX8 TX8 34, w ∈ wsX8_begins := by decide +kernel
theorem flX8_begins_7 : Cond.fieldLink RX8 7 "BlindPagesModel" "s" "[I" ∈ wsX8_begins := by decide +kernel
def M_begins_L44 (m_s m_text : Nat → Int32) (m_typed : Int32) (v1 : Int32) (k76 : (Nat → Int32) → (Nat → Int32) → Int32 → Int32 → Option (Int32 × (Nat → Int32) × (Nat → Int32) × Int32)) : Nat → (Nat → Int32) → (Nat → Int32) → Int32 → Int32 → Int32 → Option (Int32 × (Nat → Int32) × (Nat → Int32) × Int32)
  | 0, _, _, _, _, _ => none
  | n + 1, m_refused, m_asked, m_askedLength, v2, v3 => if (m_s 0) ≤ v3 then (k76 m_refused m_asked m_askedLength v2) else (bd1 (M_isBeginning m_s m_asked m_askedLength v3) fun r57 => if r57 = 0 then (M_begins_L44 m_s m_text m_typed v1 k76 n m_refused m_asked m_askedLength (v2 + 0) (v3 + 1)) else (M_begins_L44 m_s m_text m_typed v1 k76 n m_refused m_asked m_askedLength (v2 + 1) (v3 + 1)))
def M_begins (m_s m_text : Nat → Int32) (m_typed : Int32) (m_refused m_asked : Nat → Int32) (m_askedLength : Int32) (v1 : Int32) : Option (Int32 × (Nat → Int32) × (Nat → Int32) × Int32) := bd1 (M_in v1 0 1) fun r3 => if r3 = 0 then (bd2 (M_refuses m_refused (-2)) fun r12 m_refused_12 => some (r12, m_refused_12, m_asked, m_askedLength)) else (bd3 (M_isWord m_text m_typed m_asked m_askedLength) fun r17 m_asked_17 m_askedLength_17 => if r17 = 0 then (bd2 (M_refuses m_refused (-3)) fun r26 m_refused_26 => some (r26, m_refused_26, m_asked_17, m_askedLength_17)) else (if v1 = 1 then (bd1 (M_ahead m_s m_asked_17 m_askedLength_17) fun r36 => some (r36, m_refused, m_asked_17, m_askedLength_17)) else (M_begins_L44 m_s m_text m_typed v1 (fun m_refused m_asked m_askedLength v2 => some (v2, m_refused, m_asked, m_askedLength)) FU m_refused m_asked_17 m_askedLength_17 0 0)))
set_option maxRecDepth 100000 in
set_option maxHeartbeats 4000000 in
theorem t_M_begins_L44 {p : Program} {l : Launch} {e : Env} {s : State} {m : MethodId} {args : Array Value} {below : List Frame} {meth : Method} {c : Code} {Q : State → Prop} {A : Nat → Prop} {D : va_G} {cI cJ cB cL cS cW : ClassId} {a : Nat → Nat} {m_s m_past m_kept m_text m_heads m_forkBit m_forkFrom m_forkTo m_wayPage m_wayKnown m_wayGuess m_wayDiff m_wayRead m_wayPlace m_treeBit m_treeLeft m_treeRight m_treeAbove m_pileFrom m_pileTo m_pileAbove : Nat → Int32} {m_known m_typed m_entries m_forks m_guess m_diff m_read m_placeOf m_treeForks m_treeDeep : Int32} {v1 : Int32} {r : Int32} {o_refused : Nat → Int32} {o_asked : Nat → Int32} {o_askedLength : Int32} (C : k_C p s m args meth c cX8_begins 4 (some .int) RX8 wsX8_begins D (kT cI cJ cB cL cS cW) A) (hD : va_D A (WM0 a cI)) (hret : ∀ (H : Heap) (locs : List Loc) (pc : Nat) (ls : Array Slot), decode cX8_begins pc = .ok (.ireturn, 1) → va_P D vwCl (WM a cI m_s m_past m_kept o_refused m_text o_asked m_heads m_forkBit m_forkFrom m_forkTo m_wayPage m_wayKnown m_wayGuess m_wayDiff m_wayRead m_wayPlace m_treeBit m_treeLeft m_treeRight m_treeAbove m_pileFrom m_pileTo m_pileAbove m_known m_typed o_askedLength m_entries m_forks m_guess m_diff m_read m_placeOf m_treeForks m_treeDeep) H → va_S A s.heap H locs → W p l e { frames := 5, cells := 0, slots := 0, locals := 113 } s m args below meth c H locs 0 0 Q (F0 m pc ls [.int r])) {k76 : (Nat → Int32) → (Nat → Int32) → Int32 → Int32 → Option (Int32 × (Nat → Int32) × (Nat → Int32) × Int32)} (hk76 : ∀ (m_refused : (Nat → Int32)) (m_asked : (Nat → Int32)) (m_askedLength : Int32) (v2 : Int32) (H : Heap) (locs : List Loc) (ls : Array Slot), va_P D vwCl (WM a cI m_s m_past m_kept m_refused m_text m_asked m_heads m_forkBit m_forkFrom m_forkTo m_wayPage m_wayKnown m_wayGuess m_wayDiff m_wayRead m_wayPlace m_treeBit m_treeLeft m_treeRight m_treeAbove m_pileFrom m_pileTo m_pileAbove m_known m_typed m_askedLength m_entries m_forks m_guess m_diff m_read m_placeOf m_treeForks m_treeDeep) H → va_S A s.heap H locs → lv_has ls 4 [(2, .int v2)] → k76 m_refused m_asked m_askedLength v2 = some (r, o_refused, o_asked, o_askedLength) → W p l e { frames := 5, cells := 0, slots := 0, locals := 113 } s m args below meth c H locs 0 0 Q (F0 m 76 ls [])) : ∀ n : Nat, ∀ (m_refused : (Nat → Int32)) (m_asked : (Nat → Int32)) (m_askedLength : Int32) (v2 : Int32) (v3 : Int32) (H : Heap) (locs : List Loc) (ls : Array Slot), va_P D vwCl (WM a cI m_s m_past m_kept m_refused m_text m_asked m_heads m_forkBit m_forkFrom m_forkTo m_wayPage m_wayKnown m_wayGuess m_wayDiff m_wayRead m_wayPlace m_treeBit m_treeLeft m_treeRight m_treeAbove m_pileFrom m_pileTo m_pileAbove m_known m_typed m_askedLength m_entries m_forks m_guess m_diff m_read m_placeOf m_treeForks m_treeDeep) H → va_S A s.heap H locs → lv_has ls 4 [(0, .ref (a 0)), (2, .int v2), (3, .int v3)] → (M_begins_L44 m_s m_text m_typed v1 k76 n) m_refused m_asked m_askedLength v2 v3 = some (r, o_refused, o_asked, o_askedLength) → W p l e { frames := 5, cells := 0, slots := 0, locals := 113 } s m args below meth c H locs 0 0 Q (F0 m 44 ls []) := by
  obtain ⟨hx, hb, hml, hr, hown, hts, hlocks, hK, hA, hN⟩ := id C
  intro n
  induction n with
  | zero =>
    intro m_refused m_asked m_askedLength v2 v3 H locs ls hP hS hl hm
    cases hm
  | succ n ih =>
    intro m_refused m_asked m_askedLength v2 v3 H locs ls hP hS hl hm
    rw [M_begins_L44] at hm
    refine lv_iload_n hx hb dX8_begins_44 rfl (lv_at hl 2 rfl) ?_
    refine lv_aload_n hx hb dX8_begins_45 rfl (lv_at hl 0 rfl) ?_
    refine kg (v := .ref (a 1)) hx hb hts hiX8_begins hown hK hP 0 rfl rfl 0 (by decide) flX8_begins_7 rfl rfl dX8_begins_46 ?_
    refine lv_iconst (v := 0) hx hb dX8_begins_49 (by decide) ?_
    refine k_iald (j := 0) hx hb hK hP 1 0 rfl rfl rfl (vp_lit (by decide)) dX8_begins_50 ?_
    refine lv_icmp_ge (tgt := 76) hx hb dX8_begins_51 (by decide) (fun hc => ?_) (fun hc => ?_)
    · have hm := if_t hc hm
      exact hk76 _ _ _ _ _ _ _ hP hS (lv_sub hl [1] rfl) hm
    · have hm := if_f hc hm
      refine lv_iload_n hx hb dX8_begins_54 rfl (lv_at hl 1 rfl) ?_
      refine lv_aload_n hx hb dX8_begins_55 rfl (lv_at hl 0 rfl) ?_
      refine lv_iload_n hx hb dX8_begins_56 rfl (lv_at hl 2 rfl) ?_
      obtain ⟨r57, hq, hm⟩ := bd1_some hm
      refine k_callVI (As := [.int v3]) (rest := [.int v2]) ⟨hx, hb, hml, hown, hts⟩ hK hA hN (c_X8_isBeginning (a := a) hq) (cwV 1 hts gX8_begins_X8_isBeginning rfl rfl rfl hdX8_isBeginning ⟨Nat.le_of_ble_eq_true rfl, Nat.le_of_ble_eq_true rfl⟩) hP (va_D_re hD rfl) hS 0 8 rfl rfl rfl hl.1 rfl rfl (Nat.le_of_ble_eq_true rfl) ⟨Nat.zero_le _, Nat.zero_le _⟩ dX8_begins_57 (fun H locs hP hS => ?_)
      refine lv_if_eq (tgt := 67) hx hb dX8_begins_60 (by decide) (fun hc => ?_) (fun hc => ?_)
      · have hm := if_t hc hm
        refine lv_iconst (v := 0) hx hb dX8_begins_67 (by decide) ?_
        refine lv_iadd hx hb dX8_begins_68 ?_
        refine lv_istore_n (lv' := [(2, .int (v2 + 0)), (0, .ref (a 0)), (3, .int v3)]) hx hb dX8_begins_69 rfl hl (by decide) rfl (fun ls hl => ?_)
        refine lv_iinc (v := (v3 + 1)) (lv' := [(3, .int (v3 + 1)), (2, .int (v2 + 0)), (0, .ref (a 0))]) hx hb dX8_begins_70 hl (k := 2) rfl rfl (by decide) rfl (fun ls hl => ?_)
        refine lv_goto (tgt := 44) hx hb dX8_begins_73 (by decide) ?_
        exact ih _ _ _ _ _ _ _ _ hP hS (lv_sub hl [2, 1, 0] rfl) hm
      · have hm := if_f hc hm
        refine lv_iconst (v := 1) hx hb dX8_begins_63 (by decide) ?_
        refine lv_goto (tgt := 68) hx hb dX8_begins_64 (by decide) ?_
        refine lv_iadd hx hb dX8_begins_68 ?_
        refine lv_istore_n (lv' := [(2, .int (v2 + 1)), (0, .ref (a 0)), (3, .int v3)]) hx hb dX8_begins_69 rfl hl (by decide) rfl (fun ls hl => ?_)
        refine lv_iinc (v := (v3 + 1)) (lv' := [(3, .int (v3 + 1)), (2, .int (v2 + 1)), (0, .ref (a 0))]) hx hb dX8_begins_70 hl (k := 2) rfl rfl (by decide) rfl (fun ls hl => ?_)
        refine lv_goto (tgt := 44) hx hb dX8_begins_73 (by decide) ?_
        exact ih _ _ _ _ _ _ _ _ hP hS (lv_sub hl [2, 1, 0] rfl) hm
set_option maxRecDepth 100000 in
set_option maxHeartbeats 4000000 in
theorem c_X8_begins {l : Launch} {D : va_G} {cI cJ cB cL cS cW : ClassId} {a : Nat → Nat} {m_s m_past m_kept m_refused m_text m_asked m_heads m_forkBit m_forkFrom m_forkTo m_wayPage m_wayKnown m_wayGuess m_wayDiff m_wayRead m_wayPlace m_treeBit m_treeLeft m_treeRight m_treeAbove m_pileFrom m_pileTo m_pileAbove : Nat → Int32} {m_known m_typed m_askedLength m_entries m_forks m_guess m_diff m_read m_placeOf m_treeForks m_treeDeep : Int32} {v1 : Int32} {r : Int32} {o_refused : Nat → Int32} {o_asked : Nat → Int32} {o_askedLength : Int32} (hm : M_begins m_s m_text m_typed m_refused m_asked m_askedLength v1 = some (r, o_refused, o_asked, o_askedLength)) : k_MI l yX8_begins wsX8_begins { frames := 5, cells := 0, slots := 0, locals := 113 } D (kT cI cJ cB cL cS cW) [.ref (a 0), .int v1] (WM a cI m_s m_past m_kept m_refused m_text m_asked m_heads m_forkBit m_forkFrom m_forkTo m_wayPage m_wayKnown m_wayGuess m_wayDiff m_wayRead m_wayPlace m_treeBit m_treeLeft m_treeRight m_treeAbove m_pileFrom m_pileTo m_pileAbove m_known m_typed m_askedLength m_entries m_forks m_guess m_diff m_read m_placeOf m_treeForks m_treeDeep) r (WM a cI m_s m_past m_kept o_refused m_text o_asked m_heads m_forkBit m_forkFrom m_forkTo m_wayPage m_wayKnown m_wayGuess m_wayDiff m_wayRead m_wayPlace m_treeBit m_treeLeft m_treeRight m_treeAbove m_pileFrom m_pileTo m_pileAbove m_known m_typed o_askedLength m_entries m_forks m_guess m_diff m_read m_placeOf m_treeForks m_treeDeep) := by
  refine k_ofI (cc := cX8_begins) (maxL := 4) (own := RX8) (by decide) rfl rfl (Nat.le_of_ble_eq_true rfl) ?_
  intro p e s m args below meth c A Q ls C hP hD hl hret
  have hD : va_D A (WM0 a cI) := va_D_re hD rfl
  have hS : va_S A s.heap s.heap [] := va_S.rf
  have hl : lv_has ls 4 [(0, .ref (a 0)), (1, .int v1)] := hl
  obtain ⟨hx, hb, hml, hr, hown, hts, hlocks, hK, hA, hN⟩ := id C
  rw [M_begins] at hm
  refine lv_iload_n hx hb dX8_begins_0 rfl (lv_at hl 1 rfl) ?_
  refine lv_iconst (v := 0) hx hb dX8_begins_1 (by decide) ?_
  refine lv_iconst (v := 1) hx hb dX8_begins_2 (by decide) ?_
  obtain ⟨r3, hq, hm⟩ := bd1_some hm
  refine k_callSI (As := [.int v1, .int 0, .int 1]) (rest := []) ⟨hx, hb, hml, hown, hts⟩ hK hA hN (c_X8_in (a := a) hq) (va_cwS 3 hts gX8_begins_X8_in rfl rfl rfl hdX8_in ⟨Nat.le_of_ble_eq_true rfl, Nat.le_of_ble_eq_true rfl⟩) hP (va_D_re hD rfl) hS hl.1 rfl rfl (Nat.le_of_ble_eq_true rfl) ⟨Nat.zero_le _, Nat.zero_le _⟩ dX8_begins_3 (fun H locs hP hS => ?_)
  refine lv_if_ne (tgt := 16) hx hb dX8_begins_6 (by decide) (fun hc => ?_) (fun hc => ?_)
  · have hm := if_f hc hm
    refine lv_aload_n hx hb dX8_begins_16 rfl (lv_at hl 0 rfl) ?_
    obtain ⟨r17, m_asked_17, m_askedLength_17, hq, hm⟩ := bd3_some hm
    refine k_callVI (As := []) (rest := []) ⟨hx, hb, hml, hown, hts⟩ hK hA hN (c_X8_isWord (a := a) hq) (cwV 0 hts gX8_begins_X8_isWord rfl rfl rfl hdX8_isWord ⟨Nat.le_of_ble_eq_true rfl, Nat.le_of_ble_eq_true rfl⟩) hP (va_D_re hD rfl) hS 0 8 rfl rfl rfl hl.1 rfl rfl (Nat.le_of_ble_eq_true rfl) ⟨Nat.zero_le _, Nat.zero_le _⟩ dX8_begins_17 (fun H locs hP hS => ?_)
    refine lv_if_ne (tgt := 30) hx hb dX8_begins_20 (by decide) (fun hc => ?_) (fun hc => ?_)
    · have hm := if_f hc hm
      refine lv_iload_n hx hb dX8_begins_30 rfl (lv_at hl 1 rfl) ?_
      refine lv_iconst (v := 1) hx hb dX8_begins_31 (by decide) ?_
      refine lv_icmp_ne (tgt := 40) hx hb dX8_begins_32 (by decide) (fun hc => ?_) (fun hc => ?_)
      · have hm := if_f hc hm
        refine lv_iconst (v := 0) hx hb dX8_begins_40 (by decide) ?_
        refine lv_istore_n (lv' := [(2, .int 0), (0, .ref (a 0)), (1, .int v1)]) hx hb dX8_begins_41 rfl hl (by decide) rfl (fun ls hl => ?_)
        refine lv_iconst (v := 0) hx hb dX8_begins_42 (by decide) ?_
        refine lv_istore_n (lv' := [(3, .int 0), (2, .int 0), (0, .ref (a 0)), (1, .int v1)]) hx hb dX8_begins_43 rfl hl (by decide) rfl (fun ls hl => ?_)
        refine t_M_begins_L44 C hD hret ?_ FU _ _ _ _ _ _ _ _ hP hS (lv_sub hl [2, 1, 0] rfl) hm
        · intro m_refused m_asked m_askedLength v2 H locs ls hP hS hl hm
          try dsimp only at hm
          refine lv_iload_n hx hb dX8_begins_76 rfl (lv_at hl 0 rfl) ?_
          simp only [Option.some.injEq, Prod.mk.injEq] at hm
          obtain ⟨rfl, rfl, rfl, rfl⟩ := hm
          exact hret _ _ _ _ dX8_begins_77 hP hS
      · have hm := if_t hc hm
        refine lv_aload_n hx hb dX8_begins_35 rfl (lv_at hl 0 rfl) ?_
        obtain ⟨r36, hq, hm⟩ := bd1_some hm
        refine k_callVI (As := []) (rest := []) ⟨hx, hb, hml, hown, hts⟩ hK hA hN (c_X8_ahead (a := a) hq) (cwV 0 hts gX8_begins_X8_ahead rfl rfl rfl hdX8_ahead ⟨Nat.le_of_ble_eq_true rfl, Nat.le_of_ble_eq_true rfl⟩) hP (va_D_re hD rfl) hS 0 8 rfl rfl rfl hl.1 rfl rfl (Nat.le_of_ble_eq_true rfl) ⟨Nat.zero_le _, Nat.zero_le _⟩ dX8_begins_36 (fun H locs hP hS => ?_)
        simp only [Option.some.injEq, Prod.mk.injEq] at hm
        obtain ⟨rfl, rfl, rfl, rfl⟩ := hm
        exact hret _ _ _ _ dX8_begins_39 hP hS
    · have hm := if_t hc hm
      refine lv_aload_n hx hb dX8_begins_23 rfl (lv_at hl 0 rfl) ?_
      refine lv_bipush (v := (-3)) hx hb dX8_begins_24 (by decide) ?_
      obtain ⟨r26, m_refused_26, hq, hm⟩ := bd2_some hm
      refine k_callVI (As := [.int (-3)]) (rest := []) ⟨hx, hb, hml, hown, hts⟩ hK hA hN (c_X8_refuses (a := a) hq) (cwV 1 hts gX8_begins_X8_refuses rfl rfl rfl hdX8_refuses ⟨Nat.le_of_ble_eq_true rfl, Nat.le_of_ble_eq_true rfl⟩) hP (va_D_re hD rfl) hS 0 8 rfl rfl rfl hl.1 rfl rfl (Nat.le_of_ble_eq_true rfl) ⟨Nat.zero_le _, Nat.zero_le _⟩ dX8_begins_26 (fun H locs hP hS => ?_)
      simp only [Option.some.injEq, Prod.mk.injEq] at hm
      obtain ⟨rfl, rfl, rfl, rfl⟩ := hm
      exact hret _ _ _ _ dX8_begins_29 hP hS
  · have hm := if_t hc hm
    refine lv_aload_n hx hb dX8_begins_9 rfl (lv_at hl 0 rfl) ?_
    refine lv_bipush (v := (-2)) hx hb dX8_begins_10 (by decide) ?_
    obtain ⟨r12, m_refused_12, hq, hm⟩ := bd2_some hm
    refine k_callVI (As := [.int (-2)]) (rest := []) ⟨hx, hb, hml, hown, hts⟩ hK hA hN (c_X8_refuses (a := a) hq) (cwV 1 hts gX8_begins_X8_refuses rfl rfl rfl hdX8_refuses ⟨Nat.le_of_ble_eq_true rfl, Nat.le_of_ble_eq_true rfl⟩) hP (va_D_re hD rfl) hS 0 8 rfl rfl rfl hl.1 rfl rfl (Nat.le_of_ble_eq_true rfl) ⟨Nat.zero_le _, Nat.zero_le _⟩ dX8_begins_12 (fun H locs hP hS => ?_)
    simp only [Option.some.injEq, Prod.mk.injEq] at hm
    obtain ⟨rfl, rfl, rfl, rfl⟩ := hm
    exact hret _ _ _ _ dX8_begins_15 hP hS
theorem hdX8_isIndexed : yX8_isIndexed.cls = RX8 ∧ yX8_isIndexed.cls ≠ "java/lang/invoke/MethodHandle" ∧ yX8_isIndexed.cls ≠ "java/lang/invoke/VarHandle" ∧ (parseMethodDescriptor yX8_isIndexed.desc).map (fun d => d.parameters.length) = some 1 := by decide +kernel
theorem hiX8_isIndexed : ∀ w ∈ u_ws RX8 TX8 34, w ∈ wsX8_isIndexed := by decide +kernel
theorem flX8_isIndexed_7 : Cond.fieldLink RX8 7 "BlindPagesModel" "s" "[I" ∈ wsX8_isIndexed := by decide +kernel
def M_isIndexed (m_s : Nat → Int32) (v1 : Int32) : Option (Int32) := bd1 (M_in v1 0 ((m_s 0) - 1)) fun r10 => gb r10 (some r10)
set_option maxRecDepth 100000 in
set_option maxHeartbeats 4000000 in
theorem c_X8_isIndexed {l : Launch} {D : va_G} {cI cJ cB cL cS cW : ClassId} {a : Nat → Nat} {m_s m_past m_kept m_refused m_text m_asked m_heads m_forkBit m_forkFrom m_forkTo m_wayPage m_wayKnown m_wayGuess m_wayDiff m_wayRead m_wayPlace m_treeBit m_treeLeft m_treeRight m_treeAbove m_pileFrom m_pileTo m_pileAbove : Nat → Int32} {m_known m_typed m_askedLength m_entries m_forks m_guess m_diff m_read m_placeOf m_treeForks m_treeDeep : Int32} {v1 : Int32} {r : Int32} (hm : M_isIndexed m_s v1 = some r) : k_MI l yX8_isIndexed wsX8_isIndexed { frames := 1, cells := 0, slots := 0, locals := 22 } D (kT cI cJ cB cL cS cW) [.ref (a 0), .int v1] (WM a cI m_s m_past m_kept m_refused m_text m_asked m_heads m_forkBit m_forkFrom m_forkTo m_wayPage m_wayKnown m_wayGuess m_wayDiff m_wayRead m_wayPlace m_treeBit m_treeLeft m_treeRight m_treeAbove m_pileFrom m_pileTo m_pileAbove m_known m_typed m_askedLength m_entries m_forks m_guess m_diff m_read m_placeOf m_treeForks m_treeDeep) r (WM a cI m_s m_past m_kept m_refused m_text m_asked m_heads m_forkBit m_forkFrom m_forkTo m_wayPage m_wayKnown m_wayGuess m_wayDiff m_wayRead m_wayPlace m_treeBit m_treeLeft m_treeRight m_treeAbove m_pileFrom m_pileTo m_pileAbove m_known m_typed m_askedLength m_entries m_forks m_guess m_diff m_read m_placeOf m_treeForks m_treeDeep) := by
  refine k_ofZ (cc := cX8_isIndexed) (maxL := 2) (own := RX8) (by decide) rfl rfl (Nat.le_of_ble_eq_true rfl) ?_
  intro p e s m args below meth c A Q ls C hP hD hl hret
  have hD : va_D A (WM0 a cI) := va_D_re hD rfl
  have hS : va_S A s.heap s.heap [] := va_S.rf
  have hl : lv_has ls 2 [(0, .ref (a 0)), (1, .int v1)] := hl
  obtain ⟨hx, hb, hml, hr, hown, hts, hlocks, hK, hA, hN⟩ := id C
  rw [M_isIndexed] at hm
  refine lv_iload_n hx hb dX8_isIndexed_0 rfl (lv_at hl 1 rfl) ?_
  refine lv_iconst (v := 0) hx hb dX8_isIndexed_1 (by decide) ?_
  refine lv_aload_n hx hb dX8_isIndexed_2 rfl (lv_at hl 0 rfl) ?_
  refine kg (v := .ref (a 1)) hx hb hts hiX8_isIndexed hown hK hP 0 rfl rfl 0 (by decide) flX8_isIndexed_7 rfl rfl dX8_isIndexed_3 ?_
  refine lv_iconst (v := 0) hx hb dX8_isIndexed_6 (by decide) ?_
  refine k_iald (j := 0) hx hb hK hP 1 0 rfl rfl rfl (vp_lit (by decide)) dX8_isIndexed_7 ?_
  refine lv_iconst (v := 1) hx hb dX8_isIndexed_8 (by decide) ?_
  refine lv_isub hx hb dX8_isIndexed_9 ?_
  obtain ⟨r10, hq, hm⟩ := bd1_some hm
  refine k_callSI (As := [.int v1, .int 0, .int ((m_s 0) - 1)]) (rest := []) ⟨hx, hb, hml, hown, hts⟩ hK hA hN (c_X8_in (a := a) hq) (va_cwS 3 hts gX8_isIndexed_X8_in rfl rfl rfl hdX8_in ⟨Nat.le_of_ble_eq_true rfl, Nat.le_of_ble_eq_true rfl⟩) hP (va_D_re hD rfl) hS hl.1 rfl rfl (Nat.le_of_ble_eq_true rfl) ⟨Nat.zero_le _, Nat.zero_le _⟩ dX8_isIndexed_10 (fun H locs hP hS => ?_)
  obtain ⟨hi, hm⟩ := gb_some hm
  obtain rfl := Option.some.inj hm
  exact hret _ _ _ _ dX8_isIndexed_13 hi hP hS
theorem hdX8_between : yX8_between.cls = RX8 ∧ yX8_between.cls ≠ "java/lang/invoke/MethodHandle" ∧ yX8_between.cls ≠ "java/lang/invoke/VarHandle" ∧ (parseMethodDescriptor yX8_between.desc).map (fun d => d.parameters.length) = some 1 := by decide +kernel
theorem hiX8_between : ∀ w ∈ u_ws RX8 TX8 34, w ∈ wsX8_between := by decide +kernel
theorem flX8_between_7 : Cond.fieldLink RX8 7 "BlindPagesModel" "s" "[I" ∈ wsX8_between := by decide +kernel
def M_between_J104 (m_s m_text : Nat → Int32) (m_typed : Int32) (v1 : Int32) (k42 : (Nat → Int32) → (Nat → Int32) → Int32 → Int32 → Int32 → Int32 → Option (Int32 × (Nat → Int32) × (Nat → Int32) × Int32)) (k125 : (Nat → Int32) → (Nat → Int32) → Int32 → Int32 → Option (Int32 × (Nat → Int32) × (Nat → Int32) × Int32)) (m_refused : (Nat → Int32)) (m_asked : (Nat → Int32)) (m_askedLength : Int32) (v2 : Int32) (v3 : Int32) (v4 : Int32) (t0 : Int32) : Option (Int32 × (Nat → Int32) × (Nat → Int32) × Int32) := if t0 = 0 then (k42 m_refused m_asked m_askedLength (v2 + 0) v3 (v4 + 1)) else (k42 m_refused m_asked m_askedLength (v2 + 1) v3 (v4 + 1))
def M_between_L42 (m_s m_text : Nat → Int32) (m_typed : Int32) (v1 : Int32) (k125 : (Nat → Int32) → (Nat → Int32) → Int32 → Int32 → Option (Int32 × (Nat → Int32) × (Nat → Int32) × Int32)) : Nat → (Nat → Int32) → (Nat → Int32) → Int32 → Int32 → Int32 → Int32 → Option (Int32 × (Nat → Int32) × (Nat → Int32) × Int32)
  | 0, _, _, _, _, _, _ => none
  | n + 1, m_refused, m_asked, m_askedLength, v2, v3, v4 => if (m_s 0) ≤ v4 then (k125 m_refused m_asked m_askedLength v2) else (if v3 = 0 then (if v1 < v4 then (M_between_J104 m_s m_text m_typed v1 (M_between_L42 m_s m_text m_typed v1 k125 n) k125 m_refused m_asked m_askedLength v2 v3 v4 0) else (bd1 (M_isAhead m_s m_asked m_askedLength v4 48) fun r93 => if r93 = 0 then (M_between_J104 m_s m_text m_typed v1 (M_between_L42 m_s m_text m_typed v1 k125 n) k125 m_refused m_asked m_askedLength v2 v3 v4 1) else (M_between_J104 m_s m_text m_typed v1 (M_between_L42 m_s m_text m_typed v1 k125 n) k125 m_refused m_asked m_askedLength v2 v3 v4 0))) else (if v4 < v1 then (M_between_J104 m_s m_text m_typed v1 (M_between_L42 m_s m_text m_typed v1 k125 n) k125 m_refused m_asked m_askedLength v2 v3 v4 0) else (bd1 (M_isAhead m_s m_asked m_askedLength 48 v4) fun r68 => if r68 = 0 then (M_between_J104 m_s m_text m_typed v1 (M_between_L42 m_s m_text m_typed v1 k125 n) k125 m_refused m_asked m_askedLength v2 v3 v4 1) else (M_between_J104 m_s m_text m_typed v1 (M_between_L42 m_s m_text m_typed v1 k125 n) k125 m_refused m_asked m_askedLength v2 v3 v4 0))))
def M_between (m_s m_text : Nat → Int32) (m_typed : Int32) (m_refused m_asked : Nat → Int32) (m_askedLength : Int32) (v1 : Int32) : Option (Int32 × (Nat → Int32) × (Nat → Int32) × Int32) := bd1 (M_isIndexed m_s v1) fun r2 => if r2 = 0 then (bd2 (M_refuses m_refused (-2)) fun r11 m_refused_11 => some (r11, m_refused_11, m_asked, m_askedLength)) else (bd3 (M_isWord m_text m_typed m_asked m_askedLength) fun r16 m_asked_16 m_askedLength_16 => if r16 = 0 then (bd2 (M_refuses m_refused (-3)) fun r25 m_refused_25 => some (r25, m_refused_25, m_asked_16, m_askedLength_16)) else (bd1 (M_isAhead m_s m_asked_16 m_askedLength_16 v1 48) fun r35 => M_between_L42 m_s m_text m_typed v1 (fun m_refused m_asked m_askedLength v2 => some (v2, m_refused, m_asked, m_askedLength)) FU m_refused m_asked_16 m_askedLength_16 0 r35 0))
set_option maxRecDepth 100000 in
set_option maxHeartbeats 4000000 in
theorem t_M_between_J104 {p : Program} {l : Launch} {e : Env} {s : State} {m : MethodId} {args : Array Value} {below : List Frame} {meth : Method} {c : Code} {Q : State → Prop} {A : Nat → Prop} {D : va_G} {cI cJ cB cL cS cW : ClassId} {a : Nat → Nat} {m_s m_past m_kept m_text m_heads m_forkBit m_forkFrom m_forkTo m_wayPage m_wayKnown m_wayGuess m_wayDiff m_wayRead m_wayPlace m_treeBit m_treeLeft m_treeRight m_treeAbove m_pileFrom m_pileTo m_pileAbove : Nat → Int32} {m_known m_typed m_entries m_forks m_guess m_diff m_read m_placeOf m_treeForks m_treeDeep : Int32} {v1 : Int32} {r : Int32} {o_refused : Nat → Int32} {o_asked : Nat → Int32} {o_askedLength : Int32} (C : k_C p s m args meth c cX8_between 6 (some .int) RX8 wsX8_between D (kT cI cJ cB cL cS cW) A) (hD : va_D A (WM0 a cI)) (hret : ∀ (H : Heap) (locs : List Loc) (pc : Nat) (ls : Array Slot), decode cX8_between pc = .ok (.ireturn, 1) → va_P D vwCl (WM a cI m_s m_past m_kept o_refused m_text o_asked m_heads m_forkBit m_forkFrom m_forkTo m_wayPage m_wayKnown m_wayGuess m_wayDiff m_wayRead m_wayPlace m_treeBit m_treeLeft m_treeRight m_treeAbove m_pileFrom m_pileTo m_pileAbove m_known m_typed o_askedLength m_entries m_forks m_guess m_diff m_read m_placeOf m_treeForks m_treeDeep) H → va_S A s.heap H locs → W p l e { frames := 4, cells := 0, slots := 0, locals := 91 } s m args below meth c H locs 0 0 Q (F0 m pc ls [.int r])) {k42 : (Nat → Int32) → (Nat → Int32) → Int32 → Int32 → Int32 → Int32 → Option (Int32 × (Nat → Int32) × (Nat → Int32) × Int32)} (hk42 : ∀ (m_refused : (Nat → Int32)) (m_asked : (Nat → Int32)) (m_askedLength : Int32) (v2 : Int32) (v3 : Int32) (v4 : Int32) (H : Heap) (locs : List Loc) (ls : Array Slot), va_P D vwCl (WM a cI m_s m_past m_kept m_refused m_text m_asked m_heads m_forkBit m_forkFrom m_forkTo m_wayPage m_wayKnown m_wayGuess m_wayDiff m_wayRead m_wayPlace m_treeBit m_treeLeft m_treeRight m_treeAbove m_pileFrom m_pileTo m_pileAbove m_known m_typed m_askedLength m_entries m_forks m_guess m_diff m_read m_placeOf m_treeForks m_treeDeep) H → va_S A s.heap H locs → lv_has ls 6 [(0, .ref (a 0)), (1, .int v1), (2, .int v2), (3, .int v3), (4, .int v4)] → k42 m_refused m_asked m_askedLength v2 v3 v4 = some (r, o_refused, o_asked, o_askedLength) → W p l e { frames := 4, cells := 0, slots := 0, locals := 91 } s m args below meth c H locs 0 0 Q (F0 m 42 ls [])) {k125 : (Nat → Int32) → (Nat → Int32) → Int32 → Int32 → Option (Int32 × (Nat → Int32) × (Nat → Int32) × Int32)} (hk125 : ∀ (m_refused : (Nat → Int32)) (m_asked : (Nat → Int32)) (m_askedLength : Int32) (v2 : Int32) (H : Heap) (locs : List Loc) (ls : Array Slot), va_P D vwCl (WM a cI m_s m_past m_kept m_refused m_text m_asked m_heads m_forkBit m_forkFrom m_forkTo m_wayPage m_wayKnown m_wayGuess m_wayDiff m_wayRead m_wayPlace m_treeBit m_treeLeft m_treeRight m_treeAbove m_pileFrom m_pileTo m_pileAbove m_known m_typed m_askedLength m_entries m_forks m_guess m_diff m_read m_placeOf m_treeForks m_treeDeep) H → va_S A s.heap H locs → lv_has ls 6 [(2, .int v2)] → k125 m_refused m_asked m_askedLength v2 = some (r, o_refused, o_asked, o_askedLength) → W p l e { frames := 4, cells := 0, slots := 0, locals := 91 } s m args below meth c H locs 0 0 Q (F0 m 125 ls [])) : ∀ (m_refused : (Nat → Int32)) (m_asked : (Nat → Int32)) (m_askedLength : Int32) (v2 : Int32) (v3 : Int32) (v4 : Int32) (t0 : Int32) (H : Heap) (locs : List Loc) (ls : Array Slot), va_P D vwCl (WM a cI m_s m_past m_kept m_refused m_text m_asked m_heads m_forkBit m_forkFrom m_forkTo m_wayPage m_wayKnown m_wayGuess m_wayDiff m_wayRead m_wayPlace m_treeBit m_treeLeft m_treeRight m_treeAbove m_pileFrom m_pileTo m_pileAbove m_known m_typed m_askedLength m_entries m_forks m_guess m_diff m_read m_placeOf m_treeForks m_treeDeep) H → va_S A s.heap H locs → lv_has ls 6 [(0, .ref (a 0)), (1, .int v1), (2, .int v2), (3, .int v3), (4, .int v4)] → M_between_J104 m_s m_text m_typed v1 k42 k125 m_refused m_asked m_askedLength v2 v3 v4 t0 = some (r, o_refused, o_asked, o_askedLength) → W p l e { frames := 4, cells := 0, slots := 0, locals := 91 } s m args below meth c H locs 0 0 Q (F0 m 104 ls [.int t0]) := by
  obtain ⟨hx, hb, hml, hr, hown, hts, hlocks, hK, hA, hN⟩ := id C
  intro m_refused m_asked m_askedLength v2 v3 v4 t0 H locs ls hP hS hl hm
  rw [M_between_J104] at hm
  refine lv_istore (lv' := [(5, .int t0), (0, .ref (a 0)), (1, .int v1), (2, .int v2), (3, .int v3), (4, .int v4)]) hx hb dX8_between_104 hl (by decide) rfl (fun ls hl => ?_)
  refine lv_iload_n hx hb dX8_between_106 rfl (lv_at hl 3 rfl) ?_
  refine lv_iload hx hb dX8_between_107 (lv_at hl 0 rfl) ?_
  refine lv_if_eq (tgt := 116) hx hb dX8_between_109 (by decide) (fun hc => ?_) (fun hc => ?_)
  · have hm := if_t hc hm
    refine lv_iconst (v := 0) hx hb dX8_between_116 (by decide) ?_
    refine lv_iadd hx hb dX8_between_117 ?_
    refine lv_istore_n (lv' := [(2, .int (v2 + 0)), (5, .int t0), (0, .ref (a 0)), (1, .int v1), (3, .int v3), (4, .int v4)]) hx hb dX8_between_118 rfl hl (by decide) rfl (fun ls hl => ?_)
    refine lv_iinc (v := (v4 + 1)) (lv' := [(4, .int (v4 + 1)), (2, .int (v2 + 0)), (5, .int t0), (0, .ref (a 0)), (1, .int v1), (3, .int v3)]) hx hb dX8_between_119 hl (k := 5) rfl rfl (by decide) rfl (fun ls hl => ?_)
    refine lv_goto (tgt := 42) hx hb dX8_between_122 (by decide) ?_
    exact hk42 _ _ _ _ _ _ _ _ _ hP hS (lv_sub hl [3, 4, 1, 5, 0] rfl) hm
  · have hm := if_f hc hm
    refine lv_iconst (v := 1) hx hb dX8_between_112 (by decide) ?_
    refine lv_goto (tgt := 117) hx hb dX8_between_113 (by decide) ?_
    refine lv_iadd hx hb dX8_between_117 ?_
    refine lv_istore_n (lv' := [(2, .int (v2 + 1)), (5, .int t0), (0, .ref (a 0)), (1, .int v1), (3, .int v3), (4, .int v4)]) hx hb dX8_between_118 rfl hl (by decide) rfl (fun ls hl => ?_)
    refine lv_iinc (v := (v4 + 1)) (lv' := [(4, .int (v4 + 1)), (2, .int (v2 + 1)), (5, .int t0), (0, .ref (a 0)), (1, .int v1), (3, .int v3)]) hx hb dX8_between_119 hl (k := 5) rfl rfl (by decide) rfl (fun ls hl => ?_)
    refine lv_goto (tgt := 42) hx hb dX8_between_122 (by decide) ?_
    exact hk42 _ _ _ _ _ _ _ _ _ hP hS (lv_sub hl [3, 4, 1, 5, 0] rfl) hm
set_option maxRecDepth 100000 in
set_option maxHeartbeats 4000000 in
theorem t_M_between_L42 {p : Program} {l : Launch} {e : Env} {s : State} {m : MethodId} {args : Array Value} {below : List Frame} {meth : Method} {c : Code} {Q : State → Prop} {A : Nat → Prop} {D : va_G} {cI cJ cB cL cS cW : ClassId} {a : Nat → Nat} {m_s m_past m_kept m_text m_heads m_forkBit m_forkFrom m_forkTo m_wayPage m_wayKnown m_wayGuess m_wayDiff m_wayRead m_wayPlace m_treeBit m_treeLeft m_treeRight m_treeAbove m_pileFrom m_pileTo m_pileAbove : Nat → Int32} {m_known m_typed m_entries m_forks m_guess m_diff m_read m_placeOf m_treeForks m_treeDeep : Int32} {v1 : Int32} {r : Int32} {o_refused : Nat → Int32} {o_asked : Nat → Int32} {o_askedLength : Int32} (C : k_C p s m args meth c cX8_between 6 (some .int) RX8 wsX8_between D (kT cI cJ cB cL cS cW) A) (hD : va_D A (WM0 a cI)) (hret : ∀ (H : Heap) (locs : List Loc) (pc : Nat) (ls : Array Slot), decode cX8_between pc = .ok (.ireturn, 1) → va_P D vwCl (WM a cI m_s m_past m_kept o_refused m_text o_asked m_heads m_forkBit m_forkFrom m_forkTo m_wayPage m_wayKnown m_wayGuess m_wayDiff m_wayRead m_wayPlace m_treeBit m_treeLeft m_treeRight m_treeAbove m_pileFrom m_pileTo m_pileAbove m_known m_typed o_askedLength m_entries m_forks m_guess m_diff m_read m_placeOf m_treeForks m_treeDeep) H → va_S A s.heap H locs → W p l e { frames := 4, cells := 0, slots := 0, locals := 91 } s m args below meth c H locs 0 0 Q (F0 m pc ls [.int r])) {k125 : (Nat → Int32) → (Nat → Int32) → Int32 → Int32 → Option (Int32 × (Nat → Int32) × (Nat → Int32) × Int32)} (hk125 : ∀ (m_refused : (Nat → Int32)) (m_asked : (Nat → Int32)) (m_askedLength : Int32) (v2 : Int32) (H : Heap) (locs : List Loc) (ls : Array Slot), va_P D vwCl (WM a cI m_s m_past m_kept m_refused m_text m_asked m_heads m_forkBit m_forkFrom m_forkTo m_wayPage m_wayKnown m_wayGuess m_wayDiff m_wayRead m_wayPlace m_treeBit m_treeLeft m_treeRight m_treeAbove m_pileFrom m_pileTo m_pileAbove m_known m_typed m_askedLength m_entries m_forks m_guess m_diff m_read m_placeOf m_treeForks m_treeDeep) H → va_S A s.heap H locs → lv_has ls 6 [(2, .int v2)] → k125 m_refused m_asked m_askedLength v2 = some (r, o_refused, o_asked, o_askedLength) → W p l e { frames := 4, cells := 0, slots := 0, locals := 91 } s m args below meth c H locs 0 0 Q (F0 m 125 ls [])) : ∀ n : Nat, ∀ (m_refused : (Nat → Int32)) (m_asked : (Nat → Int32)) (m_askedLength : Int32) (v2 : Int32) (v3 : Int32) (v4 : Int32) (H : Heap) (locs : List Loc) (ls : Array Slot), va_P D vwCl (WM a cI m_s m_past m_kept m_refused m_text m_asked m_heads m_forkBit m_forkFrom m_forkTo m_wayPage m_wayKnown m_wayGuess m_wayDiff m_wayRead m_wayPlace m_treeBit m_treeLeft m_treeRight m_treeAbove m_pileFrom m_pileTo m_pileAbove m_known m_typed m_askedLength m_entries m_forks m_guess m_diff m_read m_placeOf m_treeForks m_treeDeep) H → va_S A s.heap H locs → lv_has ls 6 [(0, .ref (a 0)), (1, .int v1), (2, .int v2), (3, .int v3), (4, .int v4)] → (M_between_L42 m_s m_text m_typed v1 k125 n) m_refused m_asked m_askedLength v2 v3 v4 = some (r, o_refused, o_asked, o_askedLength) → W p l e { frames := 4, cells := 0, slots := 0, locals := 91 } s m args below meth c H locs 0 0 Q (F0 m 42 ls []) := by
  obtain ⟨hx, hb, hml, hr, hown, hts, hlocks, hK, hA, hN⟩ := id C
  intro n
  induction n with
  | zero =>
    intro m_refused m_asked m_askedLength v2 v3 v4 H locs ls hP hS hl hm
    cases hm
  | succ n ih =>
    intro m_refused m_asked m_askedLength v2 v3 v4 H locs ls hP hS hl hm
    rw [M_between_L42] at hm
    refine lv_iload hx hb dX8_between_42 (lv_at hl 4 rfl) ?_
    refine lv_aload_n hx hb dX8_between_44 rfl (lv_at hl 0 rfl) ?_
    refine kg (v := .ref (a 1)) hx hb hts hiX8_between hown hK hP 0 rfl rfl 0 (by decide) flX8_between_7 rfl rfl dX8_between_45 ?_
    refine lv_iconst (v := 0) hx hb dX8_between_48 (by decide) ?_
    refine k_iald (j := 0) hx hb hK hP 1 0 rfl rfl rfl (vp_lit (by decide)) dX8_between_49 ?_
    refine lv_icmp_ge (tgt := 125) hx hb dX8_between_50 (by decide) (fun hc => ?_) (fun hc => ?_)
    · have hm := if_t hc hm
      exact hk125 _ _ _ _ _ _ _ hP hS (lv_sub hl [2] rfl) hm
    · have hm := if_f hc hm
      refine lv_iload_n hx hb dX8_between_53 rfl (lv_at hl 3 rfl) ?_
      refine lv_if_eq (tgt := 82) hx hb dX8_between_54 (by decide) (fun hc => ?_) (fun hc => ?_)
      · have hm := if_t hc hm
        refine lv_iload hx hb dX8_between_82 (lv_at hl 4 rfl) ?_
        refine lv_iload_n hx hb dX8_between_84 rfl (lv_at hl 1 rfl) ?_
        refine lv_icmp_gt (tgt := 103) hx hb dX8_between_85 (by decide) (fun hc => ?_) (fun hc => ?_)
        · have hm := if_t hc hm
          refine lv_iconst (v := 0) hx hb dX8_between_103 (by decide) ?_
          exact t_M_between_J104 C hD hret ih hk125 _ _ _ _ _ _ _ _ _ _ hP hS (lv_sub hl [0, 1, 2, 3, 4] rfl) hm
        · have hm := if_f hc hm
          refine lv_aload_n hx hb dX8_between_88 rfl (lv_at hl 0 rfl) ?_
          refine lv_iload hx hb dX8_between_89 (lv_at hl 4 rfl) ?_
          refine lv_bipush (v := 48) hx hb dX8_between_91 (by decide) ?_
          obtain ⟨r93, hq, hm⟩ := bd1_some hm
          refine k_callVI (As := [.int v4, .int 48]) (rest := []) ⟨hx, hb, hml, hown, hts⟩ hK hA hN (c_X8_isAhead (a := a) hq) (cwV 2 hts gX8_between_X8_isAhead rfl rfl rfl hdX8_isAhead ⟨Nat.le_of_ble_eq_true rfl, Nat.le_of_ble_eq_true rfl⟩) hP (va_D_re hD rfl) hS 0 8 rfl rfl rfl hl.1 rfl rfl (Nat.le_of_ble_eq_true rfl) ⟨Nat.zero_le _, Nat.zero_le _⟩ dX8_between_93 (fun H locs hP hS => ?_)
          refine lv_if_ne (tgt := 103) hx hb dX8_between_96 (by decide) (fun hc => ?_) (fun hc => ?_)
          · have hm := if_f hc hm
            refine lv_iconst (v := 0) hx hb dX8_between_103 (by decide) ?_
            exact t_M_between_J104 C hD hret ih hk125 _ _ _ _ _ _ _ _ _ _ hP hS (lv_sub hl [0, 1, 2, 3, 4] rfl) hm
          · have hm := if_t hc hm
            refine lv_iconst (v := 1) hx hb dX8_between_99 (by decide) ?_
            refine lv_goto (tgt := 104) hx hb dX8_between_100 (by decide) ?_
            exact t_M_between_J104 C hD hret ih hk125 _ _ _ _ _ _ _ _ _ _ hP hS (lv_sub hl [0, 1, 2, 3, 4] rfl) hm
      · have hm := if_f hc hm
        refine lv_iload hx hb dX8_between_57 (lv_at hl 4 rfl) ?_
        refine lv_iload_n hx hb dX8_between_59 rfl (lv_at hl 1 rfl) ?_
        refine lv_icmp_lt (tgt := 78) hx hb dX8_between_60 (by decide) (fun hc => ?_) (fun hc => ?_)
        · have hm := if_t hc hm
          refine lv_iconst (v := 0) hx hb dX8_between_78 (by decide) ?_
          refine lv_goto (tgt := 104) hx hb dX8_between_79 (by decide) ?_
          exact t_M_between_J104 C hD hret ih hk125 _ _ _ _ _ _ _ _ _ _ hP hS (lv_sub hl [0, 1, 2, 3, 4] rfl) hm
        · have hm := if_f hc hm
          refine lv_aload_n hx hb dX8_between_63 rfl (lv_at hl 0 rfl) ?_
          refine lv_bipush (v := 48) hx hb dX8_between_64 (by decide) ?_
          refine lv_iload hx hb dX8_between_66 (lv_at hl 4 rfl) ?_
          obtain ⟨r68, hq, hm⟩ := bd1_some hm
          refine k_callVI (As := [.int 48, .int v4]) (rest := []) ⟨hx, hb, hml, hown, hts⟩ hK hA hN (c_X8_isAhead (a := a) hq) (cwV 2 hts gX8_between_X8_isAhead rfl rfl rfl hdX8_isAhead ⟨Nat.le_of_ble_eq_true rfl, Nat.le_of_ble_eq_true rfl⟩) hP (va_D_re hD rfl) hS 0 8 rfl rfl rfl hl.1 rfl rfl (Nat.le_of_ble_eq_true rfl) ⟨Nat.zero_le _, Nat.zero_le _⟩ dX8_between_68 (fun H locs hP hS => ?_)
          refine lv_if_ne (tgt := 78) hx hb dX8_between_71 (by decide) (fun hc => ?_) (fun hc => ?_)
          · have hm := if_f hc hm
            refine lv_iconst (v := 0) hx hb dX8_between_78 (by decide) ?_
            refine lv_goto (tgt := 104) hx hb dX8_between_79 (by decide) ?_
            exact t_M_between_J104 C hD hret ih hk125 _ _ _ _ _ _ _ _ _ _ hP hS (lv_sub hl [0, 1, 2, 3, 4] rfl) hm
          · have hm := if_t hc hm
            refine lv_iconst (v := 1) hx hb dX8_between_74 (by decide) ?_
            refine lv_goto (tgt := 104) hx hb dX8_between_75 (by decide) ?_
            exact t_M_between_J104 C hD hret ih hk125 _ _ _ _ _ _ _ _ _ _ hP hS (lv_sub hl [0, 1, 2, 3, 4] rfl) hm
set_option maxRecDepth 100000 in
set_option maxHeartbeats 4000000 in
theorem c_X8_between {l : Launch} {D : va_G} {cI cJ cB cL cS cW : ClassId} {a : Nat → Nat} {m_s m_past m_kept m_refused m_text m_asked m_heads m_forkBit m_forkFrom m_forkTo m_wayPage m_wayKnown m_wayGuess m_wayDiff m_wayRead m_wayPlace m_treeBit m_treeLeft m_treeRight m_treeAbove m_pileFrom m_pileTo m_pileAbove : Nat → Int32} {m_known m_typed m_askedLength m_entries m_forks m_guess m_diff m_read m_placeOf m_treeForks m_treeDeep : Int32} {v1 : Int32} {r : Int32} {o_refused : Nat → Int32} {o_asked : Nat → Int32} {o_askedLength : Int32} (hm : M_between m_s m_text m_typed m_refused m_asked m_askedLength v1 = some (r, o_refused, o_asked, o_askedLength)) : k_MI l yX8_between wsX8_between { frames := 4, cells := 0, slots := 0, locals := 91 } D (kT cI cJ cB cL cS cW) [.ref (a 0), .int v1] (WM a cI m_s m_past m_kept m_refused m_text m_asked m_heads m_forkBit m_forkFrom m_forkTo m_wayPage m_wayKnown m_wayGuess m_wayDiff m_wayRead m_wayPlace m_treeBit m_treeLeft m_treeRight m_treeAbove m_pileFrom m_pileTo m_pileAbove m_known m_typed m_askedLength m_entries m_forks m_guess m_diff m_read m_placeOf m_treeForks m_treeDeep) r (WM a cI m_s m_past m_kept o_refused m_text o_asked m_heads m_forkBit m_forkFrom m_forkTo m_wayPage m_wayKnown m_wayGuess m_wayDiff m_wayRead m_wayPlace m_treeBit m_treeLeft m_treeRight m_treeAbove m_pileFrom m_pileTo m_pileAbove m_known m_typed o_askedLength m_entries m_forks m_guess m_diff m_read m_placeOf m_treeForks m_treeDeep) := by
  refine k_ofI (cc := cX8_between) (maxL := 6) (own := RX8) (by decide) rfl rfl (Nat.le_of_ble_eq_true rfl) ?_
  intro p e s m args below meth c A Q ls C hP hD hl hret
  have hD : va_D A (WM0 a cI) := va_D_re hD rfl
  have hS : va_S A s.heap s.heap [] := va_S.rf
  have hl : lv_has ls 6 [(0, .ref (a 0)), (1, .int v1)] := hl
  obtain ⟨hx, hb, hml, hr, hown, hts, hlocks, hK, hA, hN⟩ := id C
  rw [M_between] at hm
  refine lv_aload_n hx hb dX8_between_0 rfl (lv_at hl 0 rfl) ?_
  refine lv_iload_n hx hb dX8_between_1 rfl (lv_at hl 1 rfl) ?_
  obtain ⟨r2, hq, hm⟩ := bd1_some hm
  refine k_callVI (As := [.int v1]) (rest := []) ⟨hx, hb, hml, hown, hts⟩ hK hA hN (c_X8_isIndexed (a := a) hq) (cwV 1 hts gX8_between_X8_isIndexed rfl rfl rfl hdX8_isIndexed ⟨Nat.le_of_ble_eq_true rfl, Nat.le_of_ble_eq_true rfl⟩) hP (va_D_re hD rfl) hS 0 8 rfl rfl rfl hl.1 rfl rfl (Nat.le_of_ble_eq_true rfl) ⟨Nat.zero_le _, Nat.zero_le _⟩ dX8_between_2 (fun H locs hP hS => ?_)
  refine lv_if_ne (tgt := 15) hx hb dX8_between_5 (by decide) (fun hc => ?_) (fun hc => ?_)
  · have hm := if_f hc hm
    refine lv_aload_n hx hb dX8_between_15 rfl (lv_at hl 0 rfl) ?_
    obtain ⟨r16, m_asked_16, m_askedLength_16, hq, hm⟩ := bd3_some hm
    refine k_callVI (As := []) (rest := []) ⟨hx, hb, hml, hown, hts⟩ hK hA hN (c_X8_isWord (a := a) hq) (cwV 0 hts gX8_between_X8_isWord rfl rfl rfl hdX8_isWord ⟨Nat.le_of_ble_eq_true rfl, Nat.le_of_ble_eq_true rfl⟩) hP (va_D_re hD rfl) hS 0 8 rfl rfl rfl hl.1 rfl rfl (Nat.le_of_ble_eq_true rfl) ⟨Nat.zero_le _, Nat.zero_le _⟩ dX8_between_16 (fun H locs hP hS => ?_)
    refine lv_if_ne (tgt := 29) hx hb dX8_between_19 (by decide) (fun hc => ?_) (fun hc => ?_)
    · have hm := if_f hc hm
      refine lv_iconst (v := 0) hx hb dX8_between_29 (by decide) ?_
      refine lv_istore_n (lv' := [(2, .int 0), (0, .ref (a 0)), (1, .int v1)]) hx hb dX8_between_30 rfl hl (by decide) rfl (fun ls hl => ?_)
      refine lv_aload_n hx hb dX8_between_31 rfl (lv_at hl 1 rfl) ?_
      refine lv_iload_n hx hb dX8_between_32 rfl (lv_at hl 2 rfl) ?_
      refine lv_bipush (v := 48) hx hb dX8_between_33 (by decide) ?_
      obtain ⟨r35, hq, hm⟩ := bd1_some hm
      refine k_callVI (As := [.int v1, .int 48]) (rest := []) ⟨hx, hb, hml, hown, hts⟩ hK hA hN (c_X8_isAhead (a := a) hq) (cwV 2 hts gX8_between_X8_isAhead rfl rfl rfl hdX8_isAhead ⟨Nat.le_of_ble_eq_true rfl, Nat.le_of_ble_eq_true rfl⟩) hP (va_D_re hD rfl) hS 0 8 rfl rfl rfl hl.1 rfl rfl (Nat.le_of_ble_eq_true rfl) ⟨Nat.zero_le _, Nat.zero_le _⟩ dX8_between_35 (fun H locs hP hS => ?_)
      refine lv_istore_n (lv' := [(3, .int r35), (2, .int 0), (0, .ref (a 0)), (1, .int v1)]) hx hb dX8_between_38 rfl hl (by decide) rfl (fun ls hl => ?_)
      refine lv_iconst (v := 0) hx hb dX8_between_39 (by decide) ?_
      refine lv_istore (lv' := [(4, .int 0), (3, .int r35), (2, .int 0), (0, .ref (a 0)), (1, .int v1)]) hx hb dX8_between_40 hl (by decide) rfl (fun ls hl => ?_)
      refine t_M_between_L42 C hD hret ?_ FU _ _ _ _ _ _ _ _ _ hP hS (lv_sub hl [3, 4, 2, 1, 0] rfl) hm
      · intro m_refused m_asked m_askedLength v2 H locs ls hP hS hl hm
        try dsimp only at hm
        refine lv_iload_n hx hb dX8_between_125 rfl (lv_at hl 0 rfl) ?_
        simp only [Option.some.injEq, Prod.mk.injEq] at hm
        obtain ⟨rfl, rfl, rfl, rfl⟩ := hm
        exact hret _ _ _ _ dX8_between_126 hP hS
    · have hm := if_t hc hm
      refine lv_aload_n hx hb dX8_between_22 rfl (lv_at hl 0 rfl) ?_
      refine lv_bipush (v := (-3)) hx hb dX8_between_23 (by decide) ?_
      obtain ⟨r25, m_refused_25, hq, hm⟩ := bd2_some hm
      refine k_callVI (As := [.int (-3)]) (rest := []) ⟨hx, hb, hml, hown, hts⟩ hK hA hN (c_X8_refuses (a := a) hq) (cwV 1 hts gX8_between_X8_refuses rfl rfl rfl hdX8_refuses ⟨Nat.le_of_ble_eq_true rfl, Nat.le_of_ble_eq_true rfl⟩) hP (va_D_re hD rfl) hS 0 8 rfl rfl rfl hl.1 rfl rfl (Nat.le_of_ble_eq_true rfl) ⟨Nat.zero_le _, Nat.zero_le _⟩ dX8_between_25 (fun H locs hP hS => ?_)
      simp only [Option.some.injEq, Prod.mk.injEq] at hm
      obtain ⟨rfl, rfl, rfl, rfl⟩ := hm
      exact hret _ _ _ _ dX8_between_28 hP hS
  · have hm := if_t hc hm
    refine lv_aload_n hx hb dX8_between_8 rfl (lv_at hl 0 rfl) ?_
    refine lv_bipush (v := (-2)) hx hb dX8_between_9 (by decide) ?_
    obtain ⟨r11, m_refused_11, hq, hm⟩ := bd2_some hm
    refine k_callVI (As := [.int (-2)]) (rest := []) ⟨hx, hb, hml, hown, hts⟩ hK hA hN (c_X8_refuses (a := a) hq) (cwV 1 hts gX8_between_X8_refuses rfl rfl rfl hdX8_refuses ⟨Nat.le_of_ble_eq_true rfl, Nat.le_of_ble_eq_true rfl⟩) hP (va_D_re hD rfl) hS 0 8 rfl rfl rfl hl.1 rfl rfl (Nat.le_of_ble_eq_true rfl) ⟨Nat.zero_le _, Nat.zero_le _⟩ dX8_between_11 (fun H locs hP hS => ?_)
    simp only [Option.some.injEq, Prod.mk.injEq] at hm
    obtain ⟨rfl, rfl, rfl, rfl⟩ := hm
    exact hret _ _ _ _ dX8_between_14 hP hS
theorem hdX8_sign : yX8_sign.cls = RX8 ∧ yX8_sign.cls ≠ "java/lang/invoke/MethodHandle" ∧ yX8_sign.cls ≠ "java/lang/invoke/VarHandle" ∧ (parseMethodDescriptor yX8_sign.desc).map (fun d => d.parameters.length) = some 2 := by decide +kernel
def M_sign_J12 (m_s m_asked : Nat → Int32) (m_askedLength : Int32) (v1 : Int32) (v2 : Int32) (m_refused : (Nat → Int32)) : Option (Int32 × (Nat → Int32)) := bd2 (M_refuses m_refused (-2)) fun r15 m_refused_15 => some (r15, m_refused_15)
def M_sign (m_s m_asked : Nat → Int32) (m_askedLength : Int32) (m_refused : Nat → Int32) (v1 : Int32) (v2 : Int32) : Option (Int32 × (Nat → Int32)) := bd1 (M_isIndexed m_s v1) fun r2 => if r2 = 0 then (M_sign_J12 m_s m_asked m_askedLength v1 v2 m_refused) else (if 0 ≤ v2 then (bd1 (M_lengthOf m_s m_askedLength v1) fun r22 => if r22 ≤ v2 then (some ((-1), m_refused)) else (bd1 (M_signOf m_s m_asked v1 v2) fun r31 => some (r31, m_refused))) else (M_sign_J12 m_s m_asked m_askedLength v1 v2 m_refused))
set_option maxRecDepth 100000 in
set_option maxHeartbeats 4000000 in
theorem t_M_sign_J12 {p : Program} {l : Launch} {e : Env} {s : State} {m : MethodId} {args : Array Value} {below : List Frame} {meth : Method} {c : Code} {Q : State → Prop} {A : Nat → Prop} {D : va_G} {cI cJ cB cL cS cW : ClassId} {a : Nat → Nat} {m_s m_past m_kept m_text m_asked m_heads m_forkBit m_forkFrom m_forkTo m_wayPage m_wayKnown m_wayGuess m_wayDiff m_wayRead m_wayPlace m_treeBit m_treeLeft m_treeRight m_treeAbove m_pileFrom m_pileTo m_pileAbove : Nat → Int32} {m_known m_typed m_askedLength m_entries m_forks m_guess m_diff m_read m_placeOf m_treeForks m_treeDeep : Int32} {v1 : Int32} {v2 : Int32} {r : Int32} {o_refused : Nat → Int32} (C : k_C p s m args meth c cX8_sign 3 (some .int) RX8 wsX8_sign D (kT cI cJ cB cL cS cW) A) (hD : va_D A (WM0 a cI)) (hret : ∀ (H : Heap) (locs : List Loc) (pc : Nat) (ls : Array Slot), decode cX8_sign pc = .ok (.ireturn, 1) → va_P D vwCl (WM a cI m_s m_past m_kept o_refused m_text m_asked m_heads m_forkBit m_forkFrom m_forkTo m_wayPage m_wayKnown m_wayGuess m_wayDiff m_wayRead m_wayPlace m_treeBit m_treeLeft m_treeRight m_treeAbove m_pileFrom m_pileTo m_pileAbove m_known m_typed m_askedLength m_entries m_forks m_guess m_diff m_read m_placeOf m_treeForks m_treeDeep) H → va_S A s.heap H locs → W p l e { frames := 2, cells := 0, slots := 0, locals := 43 } s m args below meth c H locs 0 0 Q (F0 m pc ls [.int r])) : ∀ (m_refused : (Nat → Int32)) (H : Heap) (locs : List Loc) (ls : Array Slot), va_P D vwCl (WM a cI m_s m_past m_kept m_refused m_text m_asked m_heads m_forkBit m_forkFrom m_forkTo m_wayPage m_wayKnown m_wayGuess m_wayDiff m_wayRead m_wayPlace m_treeBit m_treeLeft m_treeRight m_treeAbove m_pileFrom m_pileTo m_pileAbove m_known m_typed m_askedLength m_entries m_forks m_guess m_diff m_read m_placeOf m_treeForks m_treeDeep) H → va_S A s.heap H locs → lv_has ls 3 [(0, .ref (a 0))] → M_sign_J12 m_s m_asked m_askedLength v1 v2 m_refused = some (r, o_refused) → W p l e { frames := 2, cells := 0, slots := 0, locals := 43 } s m args below meth c H locs 0 0 Q (F0 m 12 ls []) := by
  obtain ⟨hx, hb, hml, hr, hown, hts, hlocks, hK, hA, hN⟩ := id C
  intro m_refused H locs ls hP hS hl hm
  rw [M_sign_J12] at hm
  refine lv_aload_n hx hb dX8_sign_12 rfl (lv_at hl 0 rfl) ?_
  refine lv_bipush (v := (-2)) hx hb dX8_sign_13 (by decide) ?_
  obtain ⟨r15, m_refused_15, hq, hm⟩ := bd2_some hm
  refine k_callVI (As := [.int (-2)]) (rest := []) ⟨hx, hb, hml, hown, hts⟩ hK hA hN (c_X8_refuses (a := a) hq) (cwV 1 hts gX8_sign_X8_refuses rfl rfl rfl hdX8_refuses ⟨Nat.le_of_ble_eq_true rfl, Nat.le_of_ble_eq_true rfl⟩) hP (va_D_re hD rfl) hS 0 8 rfl rfl rfl hl.1 rfl rfl (Nat.le_of_ble_eq_true rfl) ⟨Nat.zero_le _, Nat.zero_le _⟩ dX8_sign_15 (fun H locs hP hS => ?_)
  simp only [Option.some.injEq, Prod.mk.injEq] at hm
  obtain ⟨rfl, rfl⟩ := hm
  exact hret _ _ _ _ dX8_sign_18 hP hS
set_option maxRecDepth 100000 in
set_option maxHeartbeats 4000000 in
theorem c_X8_sign {l : Launch} {D : va_G} {cI cJ cB cL cS cW : ClassId} {a : Nat → Nat} {m_s m_past m_kept m_refused m_text m_asked m_heads m_forkBit m_forkFrom m_forkTo m_wayPage m_wayKnown m_wayGuess m_wayDiff m_wayRead m_wayPlace m_treeBit m_treeLeft m_treeRight m_treeAbove m_pileFrom m_pileTo m_pileAbove : Nat → Int32} {m_known m_typed m_askedLength m_entries m_forks m_guess m_diff m_read m_placeOf m_treeForks m_treeDeep : Int32} {v1 : Int32} {v2 : Int32} {r : Int32} {o_refused : Nat → Int32} (hm : M_sign m_s m_asked m_askedLength m_refused v1 v2 = some (r, o_refused)) : k_MI l yX8_sign wsX8_sign { frames := 2, cells := 0, slots := 0, locals := 43 } D (kT cI cJ cB cL cS cW) [.ref (a 0), .int v1, .int v2] (WM a cI m_s m_past m_kept m_refused m_text m_asked m_heads m_forkBit m_forkFrom m_forkTo m_wayPage m_wayKnown m_wayGuess m_wayDiff m_wayRead m_wayPlace m_treeBit m_treeLeft m_treeRight m_treeAbove m_pileFrom m_pileTo m_pileAbove m_known m_typed m_askedLength m_entries m_forks m_guess m_diff m_read m_placeOf m_treeForks m_treeDeep) r (WM a cI m_s m_past m_kept o_refused m_text m_asked m_heads m_forkBit m_forkFrom m_forkTo m_wayPage m_wayKnown m_wayGuess m_wayDiff m_wayRead m_wayPlace m_treeBit m_treeLeft m_treeRight m_treeAbove m_pileFrom m_pileTo m_pileAbove m_known m_typed m_askedLength m_entries m_forks m_guess m_diff m_read m_placeOf m_treeForks m_treeDeep) := by
  refine k_ofI (cc := cX8_sign) (maxL := 3) (own := RX8) (by decide) rfl rfl (Nat.le_of_ble_eq_true rfl) ?_
  intro p e s m args below meth c A Q ls C hP hD hl hret
  have hD : va_D A (WM0 a cI) := va_D_re hD rfl
  have hS : va_S A s.heap s.heap [] := va_S.rf
  have hl : lv_has ls 3 [(0, .ref (a 0)), (1, .int v1), (2, .int v2)] := hl
  obtain ⟨hx, hb, hml, hr, hown, hts, hlocks, hK, hA, hN⟩ := id C
  rw [M_sign] at hm
  refine lv_aload_n hx hb dX8_sign_0 rfl (lv_at hl 0 rfl) ?_
  refine lv_iload_n hx hb dX8_sign_1 rfl (lv_at hl 1 rfl) ?_
  obtain ⟨r2, hq, hm⟩ := bd1_some hm
  refine k_callVI (As := [.int v1]) (rest := []) ⟨hx, hb, hml, hown, hts⟩ hK hA hN (c_X8_isIndexed (a := a) hq) (cwV 1 hts gX8_sign_X8_isIndexed rfl rfl rfl hdX8_isIndexed ⟨Nat.le_of_ble_eq_true rfl, Nat.le_of_ble_eq_true rfl⟩) hP (va_D_re hD rfl) hS 0 8 rfl rfl rfl hl.1 rfl rfl (Nat.le_of_ble_eq_true rfl) ⟨Nat.zero_le _, Nat.zero_le _⟩ dX8_sign_2 (fun H locs hP hS => ?_)
  refine lv_if_eq (tgt := 12) hx hb dX8_sign_5 (by decide) (fun hc => ?_) (fun hc => ?_)
  · have hm := if_t hc hm
    exact t_M_sign_J12 C hD hret _ _ _ _ hP hS (lv_sub hl [0] rfl) hm
  · have hm := if_f hc hm
    refine lv_iload_n hx hb dX8_sign_8 rfl (lv_at hl 2 rfl) ?_
    refine lv_if_ge (tgt := 19) hx hb dX8_sign_9 (by decide) (fun hc => ?_) (fun hc => ?_)
    · have hm := if_t hc hm
      refine lv_iload_n hx hb dX8_sign_19 rfl (lv_at hl 2 rfl) ?_
      refine lv_aload_n hx hb dX8_sign_20 rfl (lv_at hl 0 rfl) ?_
      refine lv_iload_n hx hb dX8_sign_21 rfl (lv_at hl 1 rfl) ?_
      obtain ⟨r22, hq, hm⟩ := bd1_some hm
      refine k_callVI (As := [.int v1]) (rest := [.int v2]) ⟨hx, hb, hml, hown, hts⟩ hK hA hN (c_X8_lengthOf (a := a) hq) (cwV 1 hts gX8_sign_X8_lengthOf rfl rfl rfl hdX8_lengthOf ⟨Nat.le_of_ble_eq_true rfl, Nat.le_of_ble_eq_true rfl⟩) hP (va_D_re hD rfl) hS 0 8 rfl rfl rfl hl.1 rfl rfl (Nat.le_of_ble_eq_true rfl) ⟨Nat.zero_le _, Nat.zero_le _⟩ dX8_sign_22 (fun H locs hP hS => ?_)
      refine lv_icmp_ge (tgt := 37) hx hb dX8_sign_25 (by decide) (fun hc => ?_) (fun hc => ?_)
      · have hm := if_t hc hm
        refine lv_iconst (v := (-1)) hx hb dX8_sign_37 (by decide) ?_
        simp only [Option.some.injEq, Prod.mk.injEq] at hm
        obtain ⟨rfl, rfl⟩ := hm
        exact hret _ _ _ _ dX8_sign_38 hP hS
      · have hm := if_f hc hm
        refine lv_aload_n hx hb dX8_sign_28 rfl (lv_at hl 0 rfl) ?_
        refine lv_iload_n hx hb dX8_sign_29 rfl (lv_at hl 1 rfl) ?_
        refine lv_iload_n hx hb dX8_sign_30 rfl (lv_at hl 2 rfl) ?_
        obtain ⟨r31, hq, hm⟩ := bd1_some hm
        refine k_callVI (As := [.int v1, .int v2]) (rest := []) ⟨hx, hb, hml, hown, hts⟩ hK hA hN (c_X8_signOf (a := a) hq) (cwV 2 hts gX8_sign_X8_signOf rfl rfl rfl hdX8_signOf ⟨Nat.le_of_ble_eq_true rfl, Nat.le_of_ble_eq_true rfl⟩) hP (va_D_re hD rfl) hS 0 8 rfl rfl rfl hl.1 rfl rfl (Nat.le_of_ble_eq_true rfl) ⟨Nat.zero_le _, Nat.zero_le _⟩ dX8_sign_31 (fun H locs hP hS => ?_)
        refine lv_goto (tgt := 38) hx hb dX8_sign_34 (by decide) ?_
        simp only [Option.some.injEq, Prod.mk.injEq] at hm
        obtain ⟨rfl, rfl⟩ := hm
        exact hret _ _ _ _ dX8_sign_38 hP hS
    · have hm := if_f hc hm
      exact t_M_sign_J12 C hD hret _ _ _ _ hP hS (lv_sub hl [0] rfl) hm
theorem hdX8_parts : yX8_parts.cls = RX8 ∧ yX8_parts.cls ≠ "java/lang/invoke/MethodHandle" ∧ yX8_parts.cls ≠ "java/lang/invoke/VarHandle" ∧ (parseMethodDescriptor yX8_parts.desc).map (fun d => d.parameters.length) = some 1 := by decide +kernel
theorem hiX8_parts : ∀ w ∈ u_ws RX8 TX8 34, w ∈ wsX8_parts := by decide +kernel
theorem flX8_parts_7 : Cond.fieldLink RX8 7 "BlindPagesModel" "s" "[I" ∈ wsX8_parts := by decide +kernel
def M_parts_J31 (m_s m_asked : Nat → Int32) (m_askedLength : Int32) (v1 : Int32) (m_refused : (Nat → Int32)) : Option (Int32 × (Nat → Int32)) := bd2 (M_refuses m_refused (-2)) fun r34 m_refused_34 => some (r34, m_refused_34)
def M_parts (m_s m_asked : Nat → Int32) (m_askedLength : Int32) (m_refused : Nat → Int32) (v1 : Int32) : Option (Int32 × (Nat → Int32)) := bd1 (M_isIndexed m_s v1) fun r2 => if r2 = 0 then (M_parts_J31 m_s m_asked m_askedLength v1 m_refused) else (if ((m_s 0) - 1) ≤ v1 then (M_parts_J31 m_s m_asked m_askedLength v1 m_refused) else (bd1 (M_differ m_s m_asked m_askedLength v1 (v1 + 1)) fun r25 => some (r25, m_refused)))
set_option maxRecDepth 100000 in
set_option maxHeartbeats 4000000 in
theorem t_M_parts_J31 {p : Program} {l : Launch} {e : Env} {s : State} {m : MethodId} {args : Array Value} {below : List Frame} {meth : Method} {c : Code} {Q : State → Prop} {A : Nat → Prop} {D : va_G} {cI cJ cB cL cS cW : ClassId} {a : Nat → Nat} {m_s m_past m_kept m_text m_asked m_heads m_forkBit m_forkFrom m_forkTo m_wayPage m_wayKnown m_wayGuess m_wayDiff m_wayRead m_wayPlace m_treeBit m_treeLeft m_treeRight m_treeAbove m_pileFrom m_pileTo m_pileAbove : Nat → Int32} {m_known m_typed m_askedLength m_entries m_forks m_guess m_diff m_read m_placeOf m_treeForks m_treeDeep : Int32} {v1 : Int32} {r : Int32} {o_refused : Nat → Int32} (C : k_C p s m args meth c cX8_parts 2 (some .int) RX8 wsX8_parts D (kT cI cJ cB cL cS cW) A) (hD : va_D A (WM0 a cI)) (hret : ∀ (H : Heap) (locs : List Loc) (pc : Nat) (ls : Array Slot), decode cX8_parts pc = .ok (.ireturn, 1) → va_P D vwCl (WM a cI m_s m_past m_kept o_refused m_text m_asked m_heads m_forkBit m_forkFrom m_forkTo m_wayPage m_wayKnown m_wayGuess m_wayDiff m_wayRead m_wayPlace m_treeBit m_treeLeft m_treeRight m_treeAbove m_pileFrom m_pileTo m_pileAbove m_known m_typed m_askedLength m_entries m_forks m_guess m_diff m_read m_placeOf m_treeForks m_treeDeep) H → va_S A s.heap H locs → W p l e { frames := 3, cells := 0, slots := 0, locals := 68 } s m args below meth c H locs 0 0 Q (F0 m pc ls [.int r])) : ∀ (m_refused : (Nat → Int32)) (H : Heap) (locs : List Loc) (ls : Array Slot), va_P D vwCl (WM a cI m_s m_past m_kept m_refused m_text m_asked m_heads m_forkBit m_forkFrom m_forkTo m_wayPage m_wayKnown m_wayGuess m_wayDiff m_wayRead m_wayPlace m_treeBit m_treeLeft m_treeRight m_treeAbove m_pileFrom m_pileTo m_pileAbove m_known m_typed m_askedLength m_entries m_forks m_guess m_diff m_read m_placeOf m_treeForks m_treeDeep) H → va_S A s.heap H locs → lv_has ls 2 [(0, .ref (a 0))] → M_parts_J31 m_s m_asked m_askedLength v1 m_refused = some (r, o_refused) → W p l e { frames := 3, cells := 0, slots := 0, locals := 68 } s m args below meth c H locs 0 0 Q (F0 m 31 ls []) := by
  obtain ⟨hx, hb, hml, hr, hown, hts, hlocks, hK, hA, hN⟩ := id C
  intro m_refused H locs ls hP hS hl hm
  rw [M_parts_J31] at hm
  refine lv_aload_n hx hb dX8_parts_31 rfl (lv_at hl 0 rfl) ?_
  refine lv_bipush (v := (-2)) hx hb dX8_parts_32 (by decide) ?_
  obtain ⟨r34, m_refused_34, hq, hm⟩ := bd2_some hm
  refine k_callVI (As := [.int (-2)]) (rest := []) ⟨hx, hb, hml, hown, hts⟩ hK hA hN (c_X8_refuses (a := a) hq) (cwV 1 hts gX8_parts_X8_refuses rfl rfl rfl hdX8_refuses ⟨Nat.le_of_ble_eq_true rfl, Nat.le_of_ble_eq_true rfl⟩) hP (va_D_re hD rfl) hS 0 8 rfl rfl rfl hl.1 rfl rfl (Nat.le_of_ble_eq_true rfl) ⟨Nat.zero_le _, Nat.zero_le _⟩ dX8_parts_34 (fun H locs hP hS => ?_)
  simp only [Option.some.injEq, Prod.mk.injEq] at hm
  obtain ⟨rfl, rfl⟩ := hm
  exact hret _ _ _ _ dX8_parts_37 hP hS
set_option maxRecDepth 100000 in
set_option maxHeartbeats 4000000 in
theorem c_X8_parts {l : Launch} {D : va_G} {cI cJ cB cL cS cW : ClassId} {a : Nat → Nat} {m_s m_past m_kept m_refused m_text m_asked m_heads m_forkBit m_forkFrom m_forkTo m_wayPage m_wayKnown m_wayGuess m_wayDiff m_wayRead m_wayPlace m_treeBit m_treeLeft m_treeRight m_treeAbove m_pileFrom m_pileTo m_pileAbove : Nat → Int32} {m_known m_typed m_askedLength m_entries m_forks m_guess m_diff m_read m_placeOf m_treeForks m_treeDeep : Int32} {v1 : Int32} {r : Int32} {o_refused : Nat → Int32} (hm : M_parts m_s m_asked m_askedLength m_refused v1 = some (r, o_refused)) : k_MI l yX8_parts wsX8_parts { frames := 3, cells := 0, slots := 0, locals := 68 } D (kT cI cJ cB cL cS cW) [.ref (a 0), .int v1] (WM a cI m_s m_past m_kept m_refused m_text m_asked m_heads m_forkBit m_forkFrom m_forkTo m_wayPage m_wayKnown m_wayGuess m_wayDiff m_wayRead m_wayPlace m_treeBit m_treeLeft m_treeRight m_treeAbove m_pileFrom m_pileTo m_pileAbove m_known m_typed m_askedLength m_entries m_forks m_guess m_diff m_read m_placeOf m_treeForks m_treeDeep) r (WM a cI m_s m_past m_kept o_refused m_text m_asked m_heads m_forkBit m_forkFrom m_forkTo m_wayPage m_wayKnown m_wayGuess m_wayDiff m_wayRead m_wayPlace m_treeBit m_treeLeft m_treeRight m_treeAbove m_pileFrom m_pileTo m_pileAbove m_known m_typed m_askedLength m_entries m_forks m_guess m_diff m_read m_placeOf m_treeForks m_treeDeep) := by
  refine k_ofI (cc := cX8_parts) (maxL := 2) (own := RX8) (by decide) rfl rfl (Nat.le_of_ble_eq_true rfl) ?_
  intro p e s m args below meth c A Q ls C hP hD hl hret
  have hD : va_D A (WM0 a cI) := va_D_re hD rfl
  have hS : va_S A s.heap s.heap [] := va_S.rf
  have hl : lv_has ls 2 [(0, .ref (a 0)), (1, .int v1)] := hl
  obtain ⟨hx, hb, hml, hr, hown, hts, hlocks, hK, hA, hN⟩ := id C
  rw [M_parts] at hm
  refine lv_aload_n hx hb dX8_parts_0 rfl (lv_at hl 0 rfl) ?_
  refine lv_iload_n hx hb dX8_parts_1 rfl (lv_at hl 1 rfl) ?_
  obtain ⟨r2, hq, hm⟩ := bd1_some hm
  refine k_callVI (As := [.int v1]) (rest := []) ⟨hx, hb, hml, hown, hts⟩ hK hA hN (c_X8_isIndexed (a := a) hq) (cwV 1 hts gX8_parts_X8_isIndexed rfl rfl rfl hdX8_isIndexed ⟨Nat.le_of_ble_eq_true rfl, Nat.le_of_ble_eq_true rfl⟩) hP (va_D_re hD rfl) hS 0 8 rfl rfl rfl hl.1 rfl rfl (Nat.le_of_ble_eq_true rfl) ⟨Nat.zero_le _, Nat.zero_le _⟩ dX8_parts_2 (fun H locs hP hS => ?_)
  refine lv_if_eq (tgt := 31) hx hb dX8_parts_5 (by decide) (fun hc => ?_) (fun hc => ?_)
  · have hm := if_t hc hm
    exact t_M_parts_J31 C hD hret _ _ _ _ hP hS (lv_sub hl [0] rfl) hm
  · have hm := if_f hc hm
    refine lv_iload_n hx hb dX8_parts_8 rfl (lv_at hl 1 rfl) ?_
    refine lv_aload_n hx hb dX8_parts_9 rfl (lv_at hl 0 rfl) ?_
    refine kg (v := .ref (a 1)) hx hb hts hiX8_parts hown hK hP 0 rfl rfl 0 (by decide) flX8_parts_7 rfl rfl dX8_parts_10 ?_
    refine lv_iconst (v := 0) hx hb dX8_parts_13 (by decide) ?_
    refine k_iald (j := 0) hx hb hK hP 1 0 rfl rfl rfl (vp_lit (by decide)) dX8_parts_14 ?_
    refine lv_iconst (v := 1) hx hb dX8_parts_15 (by decide) ?_
    refine lv_isub hx hb dX8_parts_16 ?_
    refine lv_icmp_ge (tgt := 31) hx hb dX8_parts_17 (by decide) (fun hc => ?_) (fun hc => ?_)
    · have hm := if_t hc hm
      exact t_M_parts_J31 C hD hret _ _ _ _ hP hS (lv_sub hl [0] rfl) hm
    · have hm := if_f hc hm
      refine lv_aload_n hx hb dX8_parts_20 rfl (lv_at hl 0 rfl) ?_
      refine lv_iload_n hx hb dX8_parts_21 rfl (lv_at hl 1 rfl) ?_
      refine lv_iload_n hx hb dX8_parts_22 rfl (lv_at hl 1 rfl) ?_
      refine lv_iconst (v := 1) hx hb dX8_parts_23 (by decide) ?_
      refine lv_iadd hx hb dX8_parts_24 ?_
      obtain ⟨r25, hq, hm⟩ := bd1_some hm
      refine k_callVI (As := [.int v1, .int (v1 + 1)]) (rest := []) ⟨hx, hb, hml, hown, hts⟩ hK hA hN (c_X8_differ (a := a) hq) (cwV 2 hts gX8_parts_X8_differ rfl rfl rfl hdX8_differ ⟨Nat.le_of_ble_eq_true rfl, Nat.le_of_ble_eq_true rfl⟩) hP (va_D_re hD rfl) hS 0 8 rfl rfl rfl hl.1 rfl rfl (Nat.le_of_ble_eq_true rfl) ⟨Nat.zero_le _, Nat.zero_le _⟩ dX8_parts_25 (fun H locs hP hS => ?_)
      refine lv_goto (tgt := 37) hx hb dX8_parts_28 (by decide) ?_
      simp only [Option.some.injEq, Prod.mk.injEq] at hm
      obtain ⟨rfl, rfl⟩ := hm
      exact hret _ _ _ _ dX8_parts_37 hP hS
