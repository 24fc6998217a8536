theorem hdX8_looksAt : yX8_looksAt.cls = RX8 ∧ yX8_looksAt.cls ≠ "java/lang/invoke/MethodHandle" ∧ yX8_looksAt.cls ≠ "java/lang/invoke/VarHandle" ∧ (parseMethodDescriptor yX8_looksAt.desc).map (fun d => d.parameters.length) = some 3 := by decide +kernel
theorem hiX8_looksAt : ∀ w ∈ u_ws RX8 TX8 34, w ∈ wsX8_looksAt := by decide +kernel
theorem flX8_looksAt_130 : Cond.fieldLink RX8 130 "BlindPagesModel" "forks" "I" ∈ wsX8_looksAt := by decide +kernel
theorem flX8_looksAt_120 : Cond.fieldLink RX8 120 "BlindPagesModel" "entries" "I" ∈ wsX8_looksAt := by decide +kernel
theorem flX8_looksAt_28 : Cond.fieldLink RX8 28 "BlindPagesModel" "heads" "[I" ∈ wsX8_looksAt := by decide +kernel
theorem flX8_looksAt_31 : Cond.fieldLink RX8 31 "BlindPagesModel" "forkBit" "[I" ∈ wsX8_looksAt := by decide +kernel
theorem flX8_looksAt_34 : Cond.fieldLink RX8 34 "BlindPagesModel" "forkFrom" "[I" ∈ wsX8_looksAt := by decide +kernel
theorem flX8_looksAt_37 : Cond.fieldLink RX8 37 "BlindPagesModel" "forkTo" "[I" ∈ wsX8_looksAt := by decide +kernel
theorem flX8_looksAt_137 : Cond.fieldLink RX8 137 "BlindPagesModel" "guess" "I" ∈ wsX8_looksAt := by decide +kernel
theorem flX8_looksAt_140 : Cond.fieldLink RX8 140 "BlindPagesModel" "diff" "I" ∈ wsX8_looksAt := by decide +kernel
theorem flX8_looksAt_143 : Cond.fieldLink RX8 143 "BlindPagesModel" "read" "I" ∈ wsX8_looksAt := by decide +kernel
theorem flX8_looksAt_146 : Cond.fieldLink RX8 146 "BlindPagesModel" "placeOf" "I" ∈ wsX8_looksAt := by decide +kernel
def M_looksAt_J124 (m_s m_asked : Nat → Int32) (m_askedLength : Int32) (v1 : Int32) (v2 : Int32) (v3 : Int32) (k20 : (Nat → Int32) → (Nat → Int32) → (Nat → Int32) → (Nat → Int32) → Int32 → Int32 → Int32 → Int32 → Int32 → Int32 → Int32 → Int32 → Option ((Nat → Int32) × (Nat → Int32) × (Nat → Int32) × (Nat → Int32) × Int32 × Int32 × Int32 × Int32 × Int32 × Int32)) (k149 : (Nat → Int32) → (Nat → Int32) → (Nat → Int32) → (Nat → Int32) → Int32 → Int32 → Int32 → Int32 → Int32 → Int32 → Int32 → Option ((Nat → Int32) × (Nat → Int32) × (Nat → Int32) × (Nat → Int32) × Int32 × Int32 × Int32 × Int32 × Int32 × Int32)) (m_heads : (Nat → Int32)) (m_forkBit : (Nat → Int32)) (m_forkFrom : (Nat → Int32)) (m_forkTo : (Nat → Int32)) (m_entries : Int32) (m_forks : Int32) (m_guess : Int32) (m_diff : Int32) (m_read : Int32) (m_placeOf : Int32) (v4 : Int32) (v6 : Int32) (v7 : Int32) (t0 : Int32) : Option ((Nat → Int32) × (Nat → Int32) × (Nat → Int32) × (Nat → Int32) × Int32 × Int32 × Int32 × Int32 × Int32 × Int32) := bd1 (M_bitOf m_s m_asked m_askedLength 48 v6) fun r131 => if r131 = 0 then (k20 m_heads m_forkBit m_forkFrom m_forkTo m_entries m_forks m_guess m_diff m_read m_placeOf v4 t0) else (k20 m_heads m_forkBit m_forkFrom m_forkTo m_entries m_forks m_guess m_diff m_read m_placeOf v7 t0)
def M_looksAt_L20 (m_s m_asked : Nat → Int32) (m_askedLength : Int32) (v1 : Int32) (v2 : Int32) (v3 : Int32) (k149 : (Nat → Int32) → (Nat → Int32) → (Nat → Int32) → (Nat → Int32) → Int32 → Int32 → Int32 → Int32 → Int32 → Int32 → Int32 → Option ((Nat → Int32) × (Nat → Int32) × (Nat → Int32) × (Nat → Int32) × Int32 × Int32 × Int32 × Int32 × Int32 × Int32)) : Nat → (Nat → Int32) → (Nat → Int32) → (Nat → Int32) → (Nat → Int32) → Int32 → Int32 → Int32 → Int32 → Int32 → Int32 → Int32 → Int32 → Option ((Nat → Int32) × (Nat → Int32) × (Nat → Int32) × (Nat → Int32) × Int32 × Int32 × Int32 × Int32 × Int32 × Int32)
  | 0, _, _, _, _, _, _, _, _, _, _, _, _ => none
  | n + 1, m_heads, m_forkBit, m_forkFrom, m_forkTo, m_entries, m_forks, m_guess, m_diff, m_read, m_placeOf, v4, v5 => if (v5 - v4) ≤ 1 then (k149 m_heads m_forkBit m_forkFrom m_forkTo m_entries m_forks m_guess m_diff m_read m_placeOf v4) else (ga v4 10 (ga (v5 - 1) 10 (bd1 (M_differ m_s m_asked m_askedLength (m_heads v4.toNatClampNeg) (m_heads (v5 - 1).toNatClampNeg)) fun r46 => ga m_forks 10 (ga m_forks 10 (ga m_forks 10 (bd1 (M_parting m_s m_asked m_heads m_askedLength v4 v5 r46) fun r101 => bd1 (M_bitOf m_s m_asked m_askedLength 48 r46) fun r111 => if r111 = 0 then (M_looksAt_J124 m_s m_asked m_askedLength v1 v2 v3 (M_looksAt_L20 m_s m_asked m_askedLength v1 v2 v3 k149 n) k149 m_heads (upd m_forkBit m_forks.toNatClampNeg r46) (upd m_forkFrom m_forks.toNatClampNeg v4) (upd m_forkTo m_forks.toNatClampNeg v5) m_entries (m_forks + 1) m_guess m_diff m_read m_placeOf v4 r46 r101 r101) else (M_looksAt_J124 m_s m_asked m_askedLength v1 v2 v3 (M_looksAt_L20 m_s m_asked m_askedLength v1 v2 v3 k149 n) k149 m_heads (upd m_forkBit m_forks.toNatClampNeg r46) (upd m_forkFrom m_forks.toNatClampNeg v4) (upd m_forkTo m_forks.toNatClampNeg v5) m_entries (m_forks + 1) m_guess m_diff m_read m_placeOf v4 r46 r101 v5)))))))
def M_looksAt_L265 (m_s m_asked : Nat → Int32) (m_askedLength : Int32) (v1 : Int32) (v2 : Int32) (v3 : Int32) (k294 : (Nat → Int32) → (Nat → Int32) → (Nat → Int32) → (Nat → Int32) → Int32 → Int32 → Int32 → Int32 → Int32 → Int32 → Int32 → Option ((Nat → Int32) × (Nat → Int32) × (Nat → Int32) × (Nat → Int32) × Int32 × Int32 × Int32 × Int32 × Int32 × Int32)) : Nat → (Nat → Int32) → (Nat → Int32) → (Nat → Int32) → (Nat → Int32) → Int32 → Int32 → Int32 → Int32 → Int32 → Int32 → Int32 → Option ((Nat → Int32) × (Nat → Int32) × (Nat → Int32) × (Nat → Int32) × Int32 × Int32 × Int32 × Int32 × Int32 × Int32)
  | 0, _, _, _, _, _, _, _, _, _, _, _ => none
  | n + 1, m_heads, m_forkBit, m_forkFrom, m_forkTo, m_entries, m_forks, m_guess, m_diff, m_read, m_placeOf, v7 => if m_forks ≤ v7 then (k294 m_heads m_forkBit m_forkFrom m_forkTo m_entries m_forks m_guess m_diff m_read m_placeOf v7) else (ga v7 10 (if m_diff < (m_forkBit v7.toNatClampNeg) then (k294 m_heads m_forkBit m_forkFrom m_forkTo m_entries m_forks m_guess m_diff m_read m_placeOf v7) else (M_looksAt_L265 m_s m_asked m_askedLength v1 v2 v3 k294 n m_heads m_forkBit m_forkFrom m_forkTo m_entries m_forks m_guess m_diff m_read m_placeOf (v7 + 1))))
def M_looksAt_J344 (m_s m_asked : Nat → Int32) (m_askedLength : Int32) (v1 : Int32) (v2 : Int32) (v3 : Int32) (m_heads : (Nat → Int32)) (m_forkBit : (Nat → Int32)) (m_forkFrom : (Nat → Int32)) (m_forkTo : (Nat → Int32)) (m_entries : Int32) (m_forks : Int32) (m_guess : Int32) (m_diff : Int32) (m_read : Int32) (m_placeOf : Int32) (v8 : Int32) (t0 : Int32) : Option ((Nat → Int32) × (Nat → Int32) × (Nat → Int32) × (Nat → Int32) × Int32 × Int32 × Int32 × Int32 × Int32 × Int32) := bd1 (M_bitOf m_s m_asked m_askedLength 48 m_diff) fun r354 => if r354 = 0 then (some (m_heads, m_forkBit, m_forkFrom, m_forkTo, m_entries, m_forks, m_guess, m_diff, m_read, v8)) else (some (m_heads, m_forkBit, m_forkFrom, m_forkTo, m_entries, m_forks, m_guess, m_diff, m_read, t0))
def M_looksAt_J317 (m_s m_asked : Nat → Int32) (m_askedLength : Int32) (v1 : Int32) (v2 : Int32) (v3 : Int32) (m_heads : (Nat → Int32)) (m_forkBit : (Nat → Int32)) (m_forkFrom : (Nat → Int32)) (m_forkTo : (Nat → Int32)) (m_entries : Int32) (m_forks : Int32) (m_guess : Int32) (m_diff : Int32) (m_read : Int32) (m_placeOf : Int32) (v7 : Int32) (t0 : Int32) : Option ((Nat → Int32) × (Nat → Int32) × (Nat → Int32) × (Nat → Int32) × Int32 × Int32 × Int32 × Int32 × Int32 × Int32) := if m_forks ≤ v7 then (M_looksAt_J344 m_s m_asked m_askedLength v1 v2 v3 m_heads m_forkBit m_forkFrom m_forkTo m_entries m_forks m_guess m_diff m_read m_placeOf t0 (m_guess + 1)) else (ga v7 10 (M_looksAt_J344 m_s m_asked m_askedLength v1 v2 v3 m_heads m_forkBit m_forkFrom m_forkTo m_entries m_forks m_guess m_diff m_read m_placeOf t0 (m_forkTo v7.toNatClampNeg)))
def M_looksAt_J294 (m_s m_asked : Nat → Int32) (m_askedLength : Int32) (v1 : Int32) (v2 : Int32) (v3 : Int32) (m_heads : (Nat → Int32)) (m_forkBit : (Nat → Int32)) (m_forkFrom : (Nat → Int32)) (m_forkTo : (Nat → Int32)) (m_entries : Int32) (m_forks : Int32) (m_guess : Int32) (m_diff : Int32) (m_read : Int32) (m_placeOf : Int32) (v7 : Int32) : Option ((Nat → Int32) × (Nat → Int32) × (Nat → Int32) × (Nat → Int32) × Int32 × Int32 × Int32 × Int32 × Int32 × Int32) := if m_forks ≤ v7 then (M_looksAt_J317 m_s m_asked m_askedLength v1 v2 v3 m_heads m_forkBit m_forkFrom m_forkTo m_entries m_forks m_guess m_diff m_read m_placeOf v7 m_guess) else (ga v7 10 (M_looksAt_J317 m_s m_asked m_askedLength v1 v2 v3 m_heads m_forkBit m_forkFrom m_forkTo m_entries m_forks m_guess m_diff m_read m_placeOf v7 (m_forkFrom v7.toNatClampNeg)))
def M_looksAt_J240 (m_s m_asked : Nat → Int32) (m_askedLength : Int32) (v1 : Int32) (v2 : Int32) (v3 : Int32) (m_heads : (Nat → Int32)) (m_forkBit : (Nat → Int32)) (m_forkFrom : (Nat → Int32)) (m_forkTo : (Nat → Int32)) (m_entries : Int32) (m_forks : Int32) (m_guess : Int32) (m_diff : Int32) (m_read : Int32) (m_placeOf : Int32) (t1 : Int32) : Option ((Nat → Int32) × (Nat → Int32) × (Nat → Int32) × (Nat → Int32) × Int32 × Int32 × Int32 × Int32 × Int32 × Int32) := if m_diff = (-1) then (some (m_heads, m_forkBit, m_forkFrom, m_forkTo, m_entries, m_forks, m_guess, m_diff, t1, (m_guess + 1))) else (M_looksAt_L265 m_s m_asked m_askedLength v1 v2 v3 (fun m_heads m_forkBit m_forkFrom m_forkTo m_entries m_forks m_guess m_diff m_read m_placeOf v7 => M_looksAt_J294 m_s m_asked m_askedLength v1 v2 v3 m_heads m_forkBit m_forkFrom m_forkTo m_entries m_forks m_guess m_diff m_read m_placeOf v7) FU m_heads m_forkBit m_forkFrom m_forkTo m_entries m_forks m_guess m_diff t1 m_placeOf 0)
def M_looksAt_J209 (m_s m_asked : Nat → Int32) (m_askedLength : Int32) (v1 : Int32) (v2 : Int32) (v3 : Int32) (m_heads : (Nat → Int32)) (m_forkBit : (Nat → Int32)) (m_forkFrom : (Nat → Int32)) (m_forkTo : (Nat → Int32)) (m_entries : Int32) (m_forks : Int32) (m_guess : Int32) (m_diff : Int32) (m_read : Int32) (m_placeOf : Int32) (t0 : Int32) : Option ((Nat → Int32) × (Nat → Int32) × (Nat → Int32) × (Nat → Int32) × Int32 × Int32 × Int32 × Int32 × Int32 × Int32) := if 0 ≤ ((t0 - (v3 / 32)) + 1) then (M_looksAt_J240 m_s m_asked m_askedLength v1 v2 v3 m_heads m_forkBit m_forkFrom m_forkTo m_entries m_forks m_guess m_diff ((t0 - (v3 / 32)) + 1) m_placeOf ((t0 - (v3 / 32)) + 1)) else (M_looksAt_J240 m_s m_asked m_askedLength v1 v2 v3 m_heads m_forkBit m_forkFrom m_forkTo m_entries m_forks m_guess m_diff ((t0 - (v3 / 32)) + 1) m_placeOf 0)
def M_looksAt (m_s m_asked : Nat → Int32) (m_askedLength : Int32) (m_heads m_forkBit m_forkFrom m_forkTo : Nat → Int32) (m_entries m_forks m_guess m_diff m_read m_placeOf : Int32) (v1 : Int32) (v2 : Int32) (v3 : Int32) : Option ((Nat → Int32) × (Nat → Int32) × (Nat → Int32) × (Nat → Int32) × Int32 × Int32 × Int32 × Int32 × Int32 × Int32) := bd2 (M_laysHeads m_s m_heads m_entries v1 v2) fun m_heads_3 m_entries_3 => M_looksAt_L20 m_s m_asked m_askedLength v1 v2 v3 (fun m_heads m_forkBit m_forkFrom m_forkTo m_entries m_forks m_guess m_diff m_read m_placeOf v4 => ga v4 10 (bd1 (M_differ m_s m_asked m_askedLength 48 (m_heads v4.toNatClampNeg)) fun r168 => if r168 = (-1) then (ga v4 10 (bd1 (M_lengthOf m_s m_askedLength (m_heads v4.toNatClampNeg)) fun r192 => M_looksAt_J209 m_s m_asked m_askedLength v1 v2 v3 m_heads m_forkBit m_forkFrom m_forkTo m_entries m_forks v4 r168 m_read m_placeOf ((r192 - 1) / 4))) else (M_looksAt_J209 m_s m_asked m_askedLength v1 v2 v3 m_heads m_forkBit m_forkFrom m_forkTo m_entries m_forks v4 r168 m_read m_placeOf (r168 / 32)))) FU m_heads_3 m_forkBit m_forkFrom m_forkTo m_entries_3 0 m_guess m_diff m_read m_placeOf 0 m_entries_3
set_option maxRecDepth 100000 in
set_option maxHeartbeats 4000000 in
theorem t_M_looksAt_J124 {p : Program} {l : Launch} {e : Env} {s : State} {m : MethodId} {args : Array Value} {below : List Frame} {meth : Method} {c : Code} {Q : State → Prop} {A : Nat → Prop} {D : va_G} {cI cJ cB cL cS cW : ClassId} {a : Nat → Nat} {m_s m_past m_kept m_refused m_text m_asked m_wayPage m_wayKnown m_wayGuess m_wayDiff m_wayRead m_wayPlace m_treeBit m_treeLeft m_treeRight m_treeAbove m_pileFrom m_pileTo m_pileAbove : Nat → Int32} {m_known m_typed m_askedLength m_treeForks m_treeDeep : Int32} {v1 : Int32} {v2 : Int32} {v3 : Int32} {o_heads : Nat → Int32} {o_forkBit : Nat → Int32} {o_forkFrom : Nat → Int32} {o_forkTo : Nat → Int32} {o_entries : Int32} {o_forks : Int32} {o_guess : Int32} {o_diff : Int32} {o_read : Int32} {o_placeOf : Int32} (C : k_C p s m args meth c cX8_looksAt 10 none RX8 wsX8_looksAt D (kT cI cJ cB cL cS cW) A) (hD : va_D A (WM0 a cI)) (hret : ∀ (H : Heap) (locs : List Loc) (pc : Nat) (ls : Array Slot), decode cX8_looksAt pc = .ok (.return_, 1) → va_P D vwCl (WM a cI m_s m_past m_kept m_refused m_text m_asked o_heads o_forkBit o_forkFrom o_forkTo m_wayPage m_wayKnown m_wayGuess m_wayDiff m_wayRead m_wayPlace m_treeBit m_treeLeft m_treeRight m_treeAbove m_pileFrom m_pileTo m_pileAbove m_known m_typed m_askedLength o_entries o_forks o_guess o_diff o_read o_placeOf m_treeForks m_treeDeep) H → va_S A s.heap H locs → W p l e { frames := 4, cells := 0, slots := 0, locals := 94 } s m args below meth c H locs 0 0 Q (F0 m pc ls [])) {k20 : (Nat → Int32) → (Nat → Int32) → (Nat → Int32) → (Nat → Int32) → Int32 → Int32 → Int32 → Int32 → Int32 → Int32 → Int32 → Int32 → Option ((Nat → Int32) × (Nat → Int32) × (Nat → Int32) × (Nat → Int32) × Int32 × Int32 × Int32 × Int32 × Int32 × Int32)} (hk20 : ∀ (m_heads : (Nat → Int32)) (m_forkBit : (Nat → Int32)) (m_forkFrom : (Nat → Int32)) (m_forkTo : (Nat → Int32)) (m_entries : Int32) (m_forks : Int32) (m_guess : Int32) (m_diff : Int32) (m_read : Int32) (m_placeOf : Int32) (v4 : Int32) (v5 : Int32) (H : Heap) (locs : List Loc) (ls : Array Slot), va_P D vwCl (WM a cI m_s m_past m_kept m_refused m_text m_asked m_heads m_forkBit m_forkFrom m_forkTo m_wayPage m_wayKnown m_wayGuess m_wayDiff m_wayRead m_wayPlace m_treeBit m_treeLeft m_treeRight m_treeAbove m_pileFrom m_pileTo m_pileAbove m_known m_typed m_askedLength m_entries m_forks m_guess m_diff m_read m_placeOf m_treeForks m_treeDeep) H → va_S A s.heap H locs → lv_has ls 10 [(0, .ref (a 0)), (3, .int v3), (4, .int v4), (5, .int v5)] → k20 m_heads m_forkBit m_forkFrom m_forkTo m_entries m_forks m_guess m_diff m_read m_placeOf v4 v5 = some (o_heads, o_forkBit, o_forkFrom, o_forkTo, o_entries, o_forks, o_guess, o_diff, o_read, o_placeOf) → W p l e { frames := 4, cells := 0, slots := 0, locals := 94 } s m args below meth c H locs 0 0 Q (F0 m 20 ls [])) {k149 : (Nat → Int32) → (Nat → Int32) → (Nat → Int32) → (Nat → Int32) → Int32 → Int32 → Int32 → Int32 → Int32 → Int32 → Int32 → Option ((Nat → Int32) × (Nat → Int32) × (Nat → Int32) × (Nat → Int32) × Int32 × Int32 × Int32 × Int32 × Int32 × Int32)} (hk149 : ∀ (m_heads : (Nat → Int32)) (m_forkBit : (Nat → Int32)) (m_forkFrom : (Nat → Int32)) (m_forkTo : (Nat → Int32)) (m_entries : Int32) (m_forks : Int32) (m_guess : Int32) (m_diff : Int32) (m_read : Int32) (m_placeOf : Int32) (v4 : Int32) (H : Heap) (locs : List Loc) (ls : Array Slot), va_P D vwCl (WM a cI m_s m_past m_kept m_refused m_text m_asked m_heads m_forkBit m_forkFrom m_forkTo m_wayPage m_wayKnown m_wayGuess m_wayDiff m_wayRead m_wayPlace m_treeBit m_treeLeft m_treeRight m_treeAbove m_pileFrom m_pileTo m_pileAbove m_known m_typed m_askedLength m_entries m_forks m_guess m_diff m_read m_placeOf m_treeForks m_treeDeep) H → va_S A s.heap H locs → lv_has ls 10 [(0, .ref (a 0)), (3, .int v3), (4, .int v4)] → k149 m_heads m_forkBit m_forkFrom m_forkTo m_entries m_forks m_guess m_diff m_read m_placeOf v4 = some (o_heads, o_forkBit, o_forkFrom, o_forkTo, o_entries, o_forks, o_guess, o_diff, o_read, o_placeOf) → W p l e { frames := 4, cells := 0, slots := 0, locals := 94 } s m args below meth c H locs 0 0 Q (F0 m 149 ls [])) : ∀ (m_heads : (Nat → Int32)) (m_forkBit : (Nat → Int32)) (m_forkFrom : (Nat → Int32)) (m_forkTo : (Nat → Int32)) (m_entries : Int32) (m_forks : Int32) (m_guess : Int32) (m_diff : Int32) (m_read : Int32) (m_placeOf : Int32) (v4 : Int32) (v6 : Int32) (v7 : Int32) (t0 : Int32) (H : Heap) (locs : List Loc) (ls : Array Slot), va_P D vwCl (WM a cI m_s m_past m_kept m_refused m_text m_asked m_heads m_forkBit m_forkFrom m_forkTo m_wayPage m_wayKnown m_wayGuess m_wayDiff m_wayRead m_wayPlace m_treeBit m_treeLeft m_treeRight m_treeAbove m_pileFrom m_pileTo m_pileAbove m_known m_typed m_askedLength m_entries m_forks m_guess m_diff m_read m_placeOf m_treeForks m_treeDeep) H → va_S A s.heap H locs → lv_has ls 10 [(0, .ref (a 0)), (3, .int v3), (4, .int v4), (6, .int v6), (7, .int v7)] → M_looksAt_J124 m_s m_asked m_askedLength v1 v2 v3 k20 k149 m_heads m_forkBit m_forkFrom m_forkTo m_entries m_forks m_guess m_diff m_read m_placeOf v4 v6 v7 t0 = some (o_heads, o_forkBit, o_forkFrom, o_forkTo, o_entries, o_forks, o_guess, o_diff, o_read, o_placeOf) → W p l e { frames := 4, cells := 0, slots := 0, locals := 94 } s m args below meth c H locs 0 0 Q (F0 m 124 ls [.int t0]) := by
  obtain ⟨hx, hb, hml, hr, hown, hts, hlocks, hK, hA, hN⟩ := id C
  intro m_heads m_forkBit m_forkFrom m_forkTo m_entries m_forks m_guess m_diff m_read m_placeOf v4 v6 v7 t0 H locs ls hP hS hl hm
  rw [M_looksAt_J124] at hm
  refine lv_istore (lv' := [(5, .int t0), (0, .ref (a 0)), (3, .int v3), (4, .int v4), (6, .int v6), (7, .int v7)]) hx hb dX8_looksAt_124 hl (by decide) rfl (fun ls hl => ?_)
  refine lv_aload_n hx hb dX8_looksAt_126 rfl (lv_at hl 1 rfl) ?_
  refine lv_bipush (v := 48) hx hb dX8_looksAt_127 (by decide) ?_
  refine lv_iload hx hb dX8_looksAt_129 (lv_at hl 4 rfl) ?_
  obtain ⟨r131, hq, hm⟩ := bd1_some hm
  refine k_callVI (As := [.int 48, .int v6]) (rest := []) ⟨hx, hb, hml, hown, hts⟩ hK hA hN (c_X8_bitOf (a := a) hq) (cwV 2 hts gX8_looksAt_X8_bitOf rfl rfl rfl hdX8_bitOf ⟨Nat.le_of_ble_eq_true rfl, Nat.le_of_ble_eq_true rfl⟩) hP (va_D_re hD rfl) hS 0 8 rfl rfl rfl hl.1 rfl rfl (Nat.le_of_ble_eq_true rfl) ⟨Nat.zero_le _, Nat.zero_le _⟩ dX8_looksAt_131 (fun H locs hP hS => ?_)
  refine lv_if_ne (tgt := 142) hx hb dX8_looksAt_134 (by decide) (fun hc => ?_) (fun hc => ?_)
  · have hm := if_f hc hm
    refine lv_iload hx hb dX8_looksAt_142 (lv_at hl 5 rfl) ?_
    refine lv_istore (lv' := [(4, .int v7), (5, .int t0), (0, .ref (a 0)), (3, .int v3), (6, .int v6), (7, .int v7)]) hx hb dX8_looksAt_144 hl (by decide) rfl (fun ls hl => ?_)
    refine lv_goto (tgt := 20) hx hb dX8_looksAt_146 (by decide) ?_
    exact hk20 _ _ _ _ _ _ _ _ _ _ _ _ _ _ _ hP hS (lv_sub hl [2, 3, 0, 1] rfl) hm
  · have hm := if_t hc hm
    refine lv_iload hx hb dX8_looksAt_137 (lv_at hl 3 rfl) ?_
    refine lv_goto (tgt := 144) hx hb dX8_looksAt_139 (by decide) ?_
    refine lv_istore (lv' := [(4, .int v4), (5, .int t0), (0, .ref (a 0)), (3, .int v3), (6, .int v6), (7, .int v7)]) hx hb dX8_looksAt_144 hl (by decide) rfl (fun ls hl => ?_)
    refine lv_goto (tgt := 20) hx hb dX8_looksAt_146 (by decide) ?_
    exact hk20 _ _ _ _ _ _ _ _ _ _ _ _ _ _ _ hP hS (lv_sub hl [2, 3, 0, 1] rfl) hm
set_option maxRecDepth 100000 in
set_option maxHeartbeats 4000000 in
theorem t_M_looksAt_L20 {p : Program} {l : Launch} {e : Env} {s : State} {m : MethodId} {args : Array Value} {below : List Frame} {meth : Method} {c : Code} {Q : State → Prop} {A : Nat → Prop} {D : va_G} {cI cJ cB cL cS cW : ClassId} {a : Nat → Nat} {m_s m_past m_kept m_refused m_text m_asked m_wayPage m_wayKnown m_wayGuess m_wayDiff m_wayRead m_wayPlace m_treeBit m_treeLeft m_treeRight m_treeAbove m_pileFrom m_pileTo m_pileAbove : Nat → Int32} {m_known m_typed m_askedLength m_treeForks m_treeDeep : Int32} {v1 : Int32} {v2 : Int32} {v3 : Int32} {o_heads : Nat → Int32} {o_forkBit : Nat → Int32} {o_forkFrom : Nat → Int32} {o_forkTo : Nat → Int32} {o_entries : Int32} {o_forks : Int32} {o_guess : Int32} {o_diff : Int32} {o_read : Int32} {o_placeOf : Int32} (C : k_C p s m args meth c cX8_looksAt 10 none RX8 wsX8_looksAt D (kT cI cJ cB cL cS cW) A) (hD : va_D A (WM0 a cI)) (hret : ∀ (H : Heap) (locs : List Loc) (pc : Nat) (ls : Array Slot), decode cX8_looksAt pc = .ok (.return_, 1) → va_P D vwCl (WM a cI m_s m_past m_kept m_refused m_text m_asked o_heads o_forkBit o_forkFrom o_forkTo m_wayPage m_wayKnown m_wayGuess m_wayDiff m_wayRead m_wayPlace m_treeBit m_treeLeft m_treeRight m_treeAbove m_pileFrom m_pileTo m_pileAbove m_known m_typed m_askedLength o_entries o_forks o_guess o_diff o_read o_placeOf m_treeForks m_treeDeep) H → va_S A s.heap H locs → W p l e { frames := 4, cells := 0, slots := 0, locals := 94 } s m args below meth c H locs 0 0 Q (F0 m pc ls [])) {k149 : (Nat → Int32) → (Nat → Int32) → (Nat → Int32) → (Nat → Int32) → Int32 → Int32 → Int32 → Int32 → Int32 → Int32 → Int32 → Option ((Nat → Int32) × (Nat → Int32) × (Nat → Int32) × (Nat → Int32) × Int32 × Int32 × Int32 × Int32 × Int32 × Int32)} (hk149 : ∀ (m_heads : (Nat → Int32)) (m_forkBit : (Nat → Int32)) (m_forkFrom : (Nat → Int32)) (m_forkTo : (Nat → Int32)) (m_entries : Int32) (m_forks : Int32) (m_guess : Int32) (m_diff : Int32) (m_read : Int32) (m_placeOf : Int32) (v4 : Int32) (H : Heap) (locs : List Loc) (ls : Array Slot), va_P D vwCl (WM a cI m_s m_past m_kept m_refused m_text m_asked m_heads m_forkBit m_forkFrom m_forkTo m_wayPage m_wayKnown m_wayGuess m_wayDiff m_wayRead m_wayPlace m_treeBit m_treeLeft m_treeRight m_treeAbove m_pileFrom m_pileTo m_pileAbove m_known m_typed m_askedLength m_entries m_forks m_guess m_diff m_read m_placeOf m_treeForks m_treeDeep) H → va_S A s.heap H locs → lv_has ls 10 [(0, .ref (a 0)), (3, .int v3), (4, .int v4)] → k149 m_heads m_forkBit m_forkFrom m_forkTo m_entries m_forks m_guess m_diff m_read m_placeOf v4 = some (o_heads, o_forkBit, o_forkFrom, o_forkTo, o_entries, o_forks, o_guess, o_diff, o_read, o_placeOf) → W p l e { frames := 4, cells := 0, slots := 0, locals := 94 } s m args below meth c H locs 0 0 Q (F0 m 149 ls [])) : ∀ n : Nat, ∀ (m_heads : (Nat → Int32)) (m_forkBit : (Nat → Int32)) (m_forkFrom : (Nat → Int32)) (m_forkTo : (Nat → Int32)) (m_entries : Int32) (m_forks : Int32) (m_guess : Int32) (m_diff : Int32) (m_read : Int32) (m_placeOf : Int32) (v4 : Int32) (v5 : Int32) (H : Heap) (locs : List Loc) (ls : Array Slot), va_P D vwCl (WM a cI m_s m_past m_kept m_refused m_text m_asked m_heads m_forkBit m_forkFrom m_forkTo m_wayPage m_wayKnown m_wayGuess m_wayDiff m_wayRead m_wayPlace m_treeBit m_treeLeft m_treeRight m_treeAbove m_pileFrom m_pileTo m_pileAbove m_known m_typed m_askedLength m_entries m_forks m_guess m_diff m_read m_placeOf m_treeForks m_treeDeep) H → va_S A s.heap H locs → lv_has ls 10 [(0, .ref (a 0)), (3, .int v3), (4, .int v4), (5, .int v5)] → (M_looksAt_L20 m_s m_asked m_askedLength v1 v2 v3 k149 n) m_heads m_forkBit m_forkFrom m_forkTo m_entries m_forks m_guess m_diff m_read m_placeOf v4 v5 = some (o_heads, o_forkBit, o_forkFrom, o_forkTo, o_entries, o_forks, o_guess, o_diff, o_read, o_placeOf) → W p l e { frames := 4, cells := 0, slots := 0, locals := 94 } s m args below meth c H locs 0 0 Q (F0 m 20 ls []) := by
  obtain ⟨hx, hb, hml, hr, hown, hts, hlocks, hK, hA, hN⟩ := id C
  intro n
  induction n with
  | zero =>
    intro m_heads m_forkBit m_forkFrom m_forkTo m_entries m_forks m_guess m_diff m_read m_placeOf v4 v5 H locs ls hP hS hl hm
    cases hm
  | succ n ih =>
    intro m_heads m_forkBit m_forkFrom m_forkTo m_entries m_forks m_guess m_diff m_read m_placeOf v4 v5 H locs ls hP hS hl hm
    rw [M_looksAt_L20] at hm
    refine lv_iload hx hb dX8_looksAt_20 (lv_at hl 3 rfl) ?_
    refine lv_iload hx hb dX8_looksAt_22 (lv_at hl 2 rfl) ?_
    refine lv_isub hx hb dX8_looksAt_24 ?_
    refine lv_iconst (v := 1) hx hb dX8_looksAt_25 (by decide) ?_
    refine lv_icmp_le (tgt := 149) hx hb dX8_looksAt_26 (by decide) (fun hc => ?_) (fun hc => ?_)
    · have hm := if_t hc hm
      exact hk149 _ _ _ _ _ _ _ _ _ _ _ _ _ _ hP hS (lv_sub hl [0, 1, 2] rfl) hm
    · have hm := if_f hc hm
      refine lv_aload_n hx hb dX8_looksAt_29 rfl (lv_at hl 0 rfl) ?_
      refine lv_aload_n hx hb dX8_looksAt_30 rfl (lv_at hl 0 rfl) ?_
      refine kg (v := .ref (a 7)) hx hb hts hiX8_looksAt hown hK hP 0 rfl rfl 9 (by decide) flX8_looksAt_28 rfl rfl dX8_looksAt_31 ?_
      refine lv_iload hx hb dX8_looksAt_34 (lv_at hl 2 rfl) ?_
      obtain ⟨hi, hm⟩ := ga_some hm
      refine k_iald hx hb hK hP 7 0 rfl rfl rfl hi dX8_looksAt_36 ?_
      refine lv_aload_n hx hb dX8_looksAt_37 rfl (lv_at hl 0 rfl) ?_
      refine kg (v := .ref (a 7)) hx hb hts hiX8_looksAt hown hK hP 0 rfl rfl 9 (by decide) flX8_looksAt_28 rfl rfl dX8_looksAt_38 ?_
      refine lv_iload hx hb dX8_looksAt_41 (lv_at hl 3 rfl) ?_
      refine lv_iconst (v := 1) hx hb dX8_looksAt_43 (by decide) ?_
      refine lv_isub hx hb dX8_looksAt_44 ?_
      obtain ⟨hi, hm⟩ := ga_some hm
      refine k_iald hx hb hK hP 7 0 rfl rfl rfl hi dX8_looksAt_45 ?_
      obtain ⟨r46, hq, hm⟩ := bd1_some hm
      refine k_callVI (As := [.int (m_heads v4.toNatClampNeg), .int (m_heads (v5 - 1).toNatClampNeg)]) (rest := []) ⟨hx, hb, hml, hown, hts⟩ hK hA hN (c_X8_differ (a := a) hq) (cwV 2 hts gX8_looksAt_X8_differ rfl rfl rfl hdX8_differ ⟨Nat.le_of_ble_eq_true rfl, Nat.le_of_ble_eq_true rfl⟩) hP (va_D_re hD rfl) hS 0 8 rfl rfl rfl hl.1 rfl rfl (Nat.le_of_ble_eq_true rfl) ⟨Nat.zero_le _, Nat.zero_le _⟩ dX8_looksAt_46 (fun H locs hP hS => ?_)
      refine lv_istore (lv' := [(6, .int r46), (0, .ref (a 0)), (3, .int v3), (4, .int v4), (5, .int v5)]) hx hb dX8_looksAt_49 hl (by decide) rfl (fun ls hl => ?_)
      refine lv_aload_n hx hb dX8_looksAt_51 rfl (lv_at hl 1 rfl) ?_
      refine kg (v := .ref (a 8)) hx hb hts hiX8_looksAt hown hK hP 0 rfl rfl 11 (by decide) flX8_looksAt_31 rfl rfl dX8_looksAt_52 ?_
      refine lv_aload_n hx hb dX8_looksAt_55 rfl (lv_at hl 1 rfl) ?_
      refine kg (v := .int m_forks) hx hb hts hiX8_looksAt hown hK hP 0 rfl rfl 14 (by decide) flX8_looksAt_130 rfl rfl dX8_looksAt_56 ?_
      refine lv_iload hx hb dX8_looksAt_59 (lv_at hl 0 rfl) ?_
      obtain ⟨hi, hm⟩ := ga_some hm
      refine k_iast hx hb hK hP (va_D_re hD rfl) hS 8 0 rfl rfl rfl hi dX8_looksAt_61 (fun H locs hP hS => ?_)
      have hP : va_P D vwCl (WM a cI m_s m_past m_kept m_refused m_text m_asked m_heads (upd m_forkBit m_forks.toNatClampNeg r46) m_forkFrom m_forkTo m_wayPage m_wayKnown m_wayGuess m_wayDiff m_wayRead m_wayPlace m_treeBit m_treeLeft m_treeRight m_treeAbove m_pileFrom m_pileTo m_pileAbove m_known m_typed m_askedLength m_entries m_forks m_guess m_diff m_read m_placeOf m_treeForks m_treeDeep) H := hP
      refine lv_aload_n hx hb dX8_looksAt_62 rfl (lv_at hl 1 rfl) ?_
      refine kg (v := .ref (a 9)) hx hb hts hiX8_looksAt hown hK hP 0 rfl rfl 12 (by decide) flX8_looksAt_34 rfl rfl dX8_looksAt_63 ?_
      refine lv_aload_n hx hb dX8_looksAt_66 rfl (lv_at hl 1 rfl) ?_
      refine kg (v := .int m_forks) hx hb hts hiX8_looksAt hown hK hP 0 rfl rfl 14 (by decide) flX8_looksAt_130 rfl rfl dX8_looksAt_67 ?_
      refine lv_iload hx hb dX8_looksAt_70 (lv_at hl 3 rfl) ?_
      obtain ⟨hi, hm⟩ := ga_some hm
      refine k_iast hx hb hK hP (va_D_re hD rfl) hS 9 0 rfl rfl rfl hi dX8_looksAt_72 (fun H locs hP hS => ?_)
      have hP : va_P D vwCl (WM a cI m_s m_past m_kept m_refused m_text m_asked m_heads (upd m_forkBit m_forks.toNatClampNeg r46) (upd m_forkFrom m_forks.toNatClampNeg v4) m_forkTo m_wayPage m_wayKnown m_wayGuess m_wayDiff m_wayRead m_wayPlace m_treeBit m_treeLeft m_treeRight m_treeAbove m_pileFrom m_pileTo m_pileAbove m_known m_typed m_askedLength m_entries m_forks m_guess m_diff m_read m_placeOf m_treeForks m_treeDeep) H := hP
      refine lv_aload_n hx hb dX8_looksAt_73 rfl (lv_at hl 1 rfl) ?_
      refine kg (v := .ref (a 10)) hx hb hts hiX8_looksAt hown hK hP 0 rfl rfl 13 (by decide) flX8_looksAt_37 rfl rfl dX8_looksAt_74 ?_
      refine lv_aload_n hx hb dX8_looksAt_77 rfl (lv_at hl 1 rfl) ?_
      refine kg (v := .int m_forks) hx hb hts hiX8_looksAt hown hK hP 0 rfl rfl 14 (by decide) flX8_looksAt_130 rfl rfl dX8_looksAt_78 ?_
      refine lv_iload hx hb dX8_looksAt_81 (lv_at hl 4 rfl) ?_
      obtain ⟨hi, hm⟩ := ga_some hm
      refine k_iast hx hb hK hP (va_D_re hD rfl) hS 10 0 rfl rfl rfl hi dX8_looksAt_83 (fun H locs hP hS => ?_)
      have hP : va_P D vwCl (WM a cI m_s m_past m_kept m_refused m_text m_asked m_heads (upd m_forkBit m_forks.toNatClampNeg r46) (upd m_forkFrom m_forks.toNatClampNeg v4) (upd m_forkTo m_forks.toNatClampNeg v5) m_wayPage m_wayKnown m_wayGuess m_wayDiff m_wayRead m_wayPlace m_treeBit m_treeLeft m_treeRight m_treeAbove m_pileFrom m_pileTo m_pileAbove m_known m_typed m_askedLength m_entries m_forks m_guess m_diff m_read m_placeOf m_treeForks m_treeDeep) H := hP
      refine lv_aload_n hx hb dX8_looksAt_84 rfl (lv_at hl 1 rfl) ?_
      refine lv_dup hx hb dX8_looksAt_85 rfl ?_
      refine kg (v := .int m_forks) hx hb hts hiX8_looksAt hown hK hP 0 rfl rfl 14 (by decide) flX8_looksAt_130 rfl rfl dX8_looksAt_86 ?_
      refine lv_iconst (v := 1) hx hb dX8_looksAt_89 (by decide) ?_
      refine lv_iadd hx hb dX8_looksAt_90 ?_
      refine kp hx hb hts hiX8_looksAt tyX8 tyX8_ok nmX8 hown hK hP (va_D_re hD rfl) hS 0 rfl rfl 14 (by decide) flX8_looksAt_130 rfl rfl rfl (Nat.le_of_ble_eq_true rfl) dX8_looksAt_91 (fun H locs hP hS => ?_)
      have hP : va_P D vwCl (WM a cI m_s m_past m_kept m_refused m_text m_asked m_heads (upd m_forkBit m_forks.toNatClampNeg r46) (upd m_forkFrom m_forks.toNatClampNeg v4) (upd m_forkTo m_forks.toNatClampNeg v5) m_wayPage m_wayKnown m_wayGuess m_wayDiff m_wayRead m_wayPlace m_treeBit m_treeLeft m_treeRight m_treeAbove m_pileFrom m_pileTo m_pileAbove m_known m_typed m_askedLength m_entries (m_forks + 1) m_guess m_diff m_read m_placeOf m_treeForks m_treeDeep) H := hP
      refine lv_aload_n hx hb dX8_looksAt_94 rfl (lv_at hl 1 rfl) ?_
      refine lv_iload hx hb dX8_looksAt_95 (lv_at hl 3 rfl) ?_
      refine lv_iload hx hb dX8_looksAt_97 (lv_at hl 4 rfl) ?_
      refine lv_iload hx hb dX8_looksAt_99 (lv_at hl 0 rfl) ?_
      obtain ⟨r101, hq, hm⟩ := bd1_some hm
      refine k_callVI (As := [.int v4, .int v5, .int r46]) (rest := []) ⟨hx, hb, hml, hown, hts⟩ hK hA hN (c_X8_parting (a := a) hq) (cwV 3 hts gX8_looksAt_X8_parting rfl rfl rfl hdX8_parting ⟨Nat.le_of_ble_eq_true rfl, Nat.le_of_ble_eq_true rfl⟩) hP (va_D_re hD rfl) hS 0 8 rfl rfl rfl hl.1 rfl rfl (Nat.le_of_ble_eq_true rfl) ⟨Nat.zero_le _, Nat.zero_le _⟩ dX8_looksAt_101 (fun H locs hP hS => ?_)
      refine lv_istore (lv' := [(7, .int r101), (6, .int r46), (0, .ref (a 0)), (3, .int v3), (4, .int v4), (5, .int v5)]) hx hb dX8_looksAt_104 hl (by decide) rfl (fun ls hl => ?_)
      refine lv_aload_n hx hb dX8_looksAt_106 rfl (lv_at hl 2 rfl) ?_
      refine lv_bipush (v := 48) hx hb dX8_looksAt_107 (by decide) ?_
      refine lv_iload hx hb dX8_looksAt_109 (lv_at hl 1 rfl) ?_
      obtain ⟨r111, hq, hm⟩ := bd1_some hm
      refine k_callVI (As := [.int 48, .int r46]) (rest := []) ⟨hx, hb, hml, hown, hts⟩ hK hA hN (c_X8_bitOf (a := a) hq) (cwV 2 hts gX8_looksAt_X8_bitOf rfl rfl rfl hdX8_bitOf ⟨Nat.le_of_ble_eq_true rfl, Nat.le_of_ble_eq_true rfl⟩) hP (va_D_re hD rfl) hS 0 8 rfl rfl rfl hl.1 rfl rfl (Nat.le_of_ble_eq_true rfl) ⟨Nat.zero_le _, Nat.zero_le _⟩ dX8_looksAt_111 (fun H locs hP hS => ?_)
      refine lv_if_ne (tgt := 122) hx hb dX8_looksAt_114 (by decide) (fun hc => ?_) (fun hc => ?_)
      · have hm := if_f hc hm
        refine lv_iload hx hb dX8_looksAt_122 (lv_at hl 5 rfl) ?_
        exact t_M_looksAt_J124 C hD hret ih hk149 _ _ _ _ _ _ _ _ _ _ _ _ _ _ _ _ _ hP hS (lv_sub hl [2, 3, 4, 1, 0] rfl) hm
      · have hm := if_t hc hm
        refine lv_iload hx hb dX8_looksAt_117 (lv_at hl 0 rfl) ?_
        refine lv_goto (tgt := 124) hx hb dX8_looksAt_119 (by decide) ?_
        exact t_M_looksAt_J124 C hD hret ih hk149 _ _ _ _ _ _ _ _ _ _ _ _ _ _ _ _ _ hP hS (lv_sub hl [2, 3, 4, 1, 0] rfl) hm
set_option maxRecDepth 100000 in
set_option maxHeartbeats 4000000 in
theorem t_M_looksAt_L265 {p : Program} {l : Launch} {e : Env} {s : State} {m : MethodId} {args : Array Value} {below : List Frame} {meth : Method} {c : Code} {Q : State → Prop} {A : Nat → Prop} {D : va_G} {cI cJ cB cL cS cW : ClassId} {a : Nat → Nat} {m_s m_past m_kept m_refused m_text m_asked m_wayPage m_wayKnown m_wayGuess m_wayDiff m_wayRead m_wayPlace m_treeBit m_treeLeft m_treeRight m_treeAbove m_pileFrom m_pileTo m_pileAbove : Nat → Int32} {m_known m_typed m_askedLength m_treeForks m_treeDeep : Int32} {v1 : Int32} {v2 : Int32} {v3 : Int32} {o_heads : Nat → Int32} {o_forkBit : Nat → Int32} {o_forkFrom : Nat → Int32} {o_forkTo : Nat → Int32} {o_entries : Int32} {o_forks : Int32} {o_guess : Int32} {o_diff : Int32} {o_read : Int32} {o_placeOf : Int32} (C : k_C p s m args meth c cX8_looksAt 10 none RX8 wsX8_looksAt D (kT cI cJ cB cL cS cW) A) (hD : va_D A (WM0 a cI)) (hret : ∀ (H : Heap) (locs : List Loc) (pc : Nat) (ls : Array Slot), decode cX8_looksAt pc = .ok (.return_, 1) → va_P D vwCl (WM a cI m_s m_past m_kept m_refused m_text m_asked o_heads o_forkBit o_forkFrom o_forkTo m_wayPage m_wayKnown m_wayGuess m_wayDiff m_wayRead m_wayPlace m_treeBit m_treeLeft m_treeRight m_treeAbove m_pileFrom m_pileTo m_pileAbove m_known m_typed m_askedLength o_entries o_forks o_guess o_diff o_read o_placeOf m_treeForks m_treeDeep) H → va_S A s.heap H locs → W p l e { frames := 4, cells := 0, slots := 0, locals := 94 } s m args below meth c H locs 0 0 Q (F0 m pc ls [])) {k294 : (Nat → Int32) → (Nat → Int32) → (Nat → Int32) → (Nat → Int32) → Int32 → Int32 → Int32 → Int32 → Int32 → Int32 → Int32 → Option ((Nat → Int32) × (Nat → Int32) × (Nat → Int32) × (Nat → Int32) × Int32 × Int32 × Int32 × Int32 × Int32 × Int32)} (hk294 : ∀ (m_heads : (Nat → Int32)) (m_forkBit : (Nat → Int32)) (m_forkFrom : (Nat → Int32)) (m_forkTo : (Nat → Int32)) (m_entries : Int32) (m_forks : Int32) (m_guess : Int32) (m_diff : Int32) (m_read : Int32) (m_placeOf : Int32) (v7 : Int32) (H : Heap) (locs : List Loc) (ls : Array Slot), va_P D vwCl (WM a cI m_s m_past m_kept m_refused m_text m_asked m_heads m_forkBit m_forkFrom m_forkTo m_wayPage m_wayKnown m_wayGuess m_wayDiff m_wayRead m_wayPlace m_treeBit m_treeLeft m_treeRight m_treeAbove m_pileFrom m_pileTo m_pileAbove m_known m_typed m_askedLength m_entries m_forks m_guess m_diff m_read m_placeOf m_treeForks m_treeDeep) H → va_S A s.heap H locs → lv_has ls 10 [(0, .ref (a 0)), (7, .int v7)] → k294 m_heads m_forkBit m_forkFrom m_forkTo m_entries m_forks m_guess m_diff m_read m_placeOf v7 = some (o_heads, o_forkBit, o_forkFrom, o_forkTo, o_entries, o_forks, o_guess, o_diff, o_read, o_placeOf) → W p l e { frames := 4, cells := 0, slots := 0, locals := 94 } s m args below meth c H locs 0 0 Q (F0 m 294 ls [])) : ∀ n : Nat, ∀ (m_heads : (Nat → Int32)) (m_forkBit : (Nat → Int32)) (m_forkFrom : (Nat → Int32)) (m_forkTo : (Nat → Int32)) (m_entries : Int32) (m_forks : Int32) (m_guess : Int32) (m_diff : Int32) (m_read : Int32) (m_placeOf : Int32) (v7 : Int32) (H : Heap) (locs : List Loc) (ls : Array Slot), va_P D vwCl (WM a cI m_s m_past m_kept m_refused m_text m_asked m_heads m_forkBit m_forkFrom m_forkTo m_wayPage m_wayKnown m_wayGuess m_wayDiff m_wayRead m_wayPlace m_treeBit m_treeLeft m_treeRight m_treeAbove m_pileFrom m_pileTo m_pileAbove m_known m_typed m_askedLength m_entries m_forks m_guess m_diff m_read m_placeOf m_treeForks m_treeDeep) H → va_S A s.heap H locs → lv_has ls 10 [(0, .ref (a 0)), (7, .int v7)] → (M_looksAt_L265 m_s m_asked m_askedLength v1 v2 v3 k294 n) m_heads m_forkBit m_forkFrom m_forkTo m_entries m_forks m_guess m_diff m_read m_placeOf v7 = some (o_heads, o_forkBit, o_forkFrom, o_forkTo, o_entries, o_forks, o_guess, o_diff, o_read, o_placeOf) → W p l e { frames := 4, cells := 0, slots := 0, locals := 94 } s m args below meth c H locs 0 0 Q (F0 m 265 ls []) := by
  obtain ⟨hx, hb, hml, hr, hown, hts, hlocks, hK, hA, hN⟩ := id C
  intro n
  induction n with
  | zero =>
    intro m_heads m_forkBit m_forkFrom m_forkTo m_entries m_forks m_guess m_diff m_read m_placeOf v7 H locs ls hP hS hl hm
    cases hm
  | succ n ih =>
    intro m_heads m_forkBit m_forkFrom m_forkTo m_entries m_forks m_guess m_diff m_read m_placeOf v7 H locs ls hP hS hl hm
    rw [M_looksAt_L265] at hm
    refine lv_iload hx hb dX8_looksAt_265 (lv_at hl 1 rfl) ?_
    refine lv_aload_n hx hb dX8_looksAt_267 rfl (lv_at hl 0 rfl) ?_
    refine kg (v := .int m_forks) hx hb hts hiX8_looksAt hown hK hP 0 rfl rfl 14 (by decide) flX8_looksAt_130 rfl rfl dX8_looksAt_268 ?_
    refine lv_icmp_ge (tgt := 294) hx hb dX8_looksAt_271 (by decide) (fun hc => ?_) (fun hc => ?_)
    · have hm := if_t hc hm
      exact hk294 _ _ _ _ _ _ _ _ _ _ _ _ _ _ hP hS (lv_sub hl [0, 1] rfl) hm
    · have hm := if_f hc hm
      refine lv_aload_n hx hb dX8_looksAt_274 rfl (lv_at hl 0 rfl) ?_
      refine kg (v := .ref (a 8)) hx hb hts hiX8_looksAt hown hK hP 0 rfl rfl 11 (by decide) flX8_looksAt_31 rfl rfl dX8_looksAt_275 ?_
      refine lv_iload hx hb dX8_looksAt_278 (lv_at hl 1 rfl) ?_
      obtain ⟨hi, hm⟩ := ga_some hm
      refine k_iald hx hb hK hP 8 0 rfl rfl rfl hi dX8_looksAt_280 ?_
      refine lv_aload_n hx hb dX8_looksAt_281 rfl (lv_at hl 0 rfl) ?_
      refine kg (v := .int m_diff) hx hb hts hiX8_looksAt hown hK hP 0 rfl rfl 16 (by decide) flX8_looksAt_140 rfl rfl dX8_looksAt_282 ?_
      refine lv_icmp_gt (tgt := 294) hx hb dX8_looksAt_285 (by decide) (fun hc => ?_) (fun hc => ?_)
      · have hm := if_t hc hm
        exact hk294 _ _ _ _ _ _ _ _ _ _ _ _ _ _ hP hS (lv_sub hl [0, 1] rfl) hm
      · have hm := if_f hc hm
        refine lv_iinc (v := (v7 + 1)) (lv' := [(7, .int (v7 + 1)), (0, .ref (a 0))]) hx hb dX8_looksAt_288 hl (k := 1) rfl rfl (by decide) rfl (fun ls hl => ?_)
        refine lv_goto (tgt := 265) hx hb dX8_looksAt_291 (by decide) ?_
        exact ih _ _ _ _ _ _ _ _ _ _ _ _ _ _ hP hS (lv_sub hl [1, 0] rfl) hm
set_option maxRecDepth 100000 in
set_option maxHeartbeats 4000000 in
theorem t_M_looksAt_J344 {p : Program} {l : Launch} {e : Env} {s : State} {m : MethodId} {args : Array Value} {below : List Frame} {meth : Method} {c : Code} {Q : State → Prop} {A : Nat → Prop} {D : va_G} {cI cJ cB cL cS cW : ClassId} {a : Nat → Nat} {m_s m_past m_kept m_refused m_text m_asked m_wayPage m_wayKnown m_wayGuess m_wayDiff m_wayRead m_wayPlace m_treeBit m_treeLeft m_treeRight m_treeAbove m_pileFrom m_pileTo m_pileAbove : Nat → Int32} {m_known m_typed m_askedLength m_treeForks m_treeDeep : Int32} {v1 : Int32} {v2 : Int32} {v3 : Int32} {o_heads : Nat → Int32} {o_forkBit : Nat → Int32} {o_forkFrom : Nat → Int32} {o_forkTo : Nat → Int32} {o_entries : Int32} {o_forks : Int32} {o_guess : Int32} {o_diff : Int32} {o_read : Int32} {o_placeOf : Int32} (C : k_C p s m args meth c cX8_looksAt 10 none RX8 wsX8_looksAt D (kT cI cJ cB cL cS cW) A) (hD : va_D A (WM0 a cI)) (hret : ∀ (H : Heap) (locs : List Loc) (pc : Nat) (ls : Array Slot), decode cX8_looksAt pc = .ok (.return_, 1) → va_P D vwCl (WM a cI m_s m_past m_kept m_refused m_text m_asked o_heads o_forkBit o_forkFrom o_forkTo m_wayPage m_wayKnown m_wayGuess m_wayDiff m_wayRead m_wayPlace m_treeBit m_treeLeft m_treeRight m_treeAbove m_pileFrom m_pileTo m_pileAbove m_known m_typed m_askedLength o_entries o_forks o_guess o_diff o_read o_placeOf m_treeForks m_treeDeep) H → va_S A s.heap H locs → W p l e { frames := 4, cells := 0, slots := 0, locals := 94 } s m args below meth c H locs 0 0 Q (F0 m pc ls [])) : ∀ (m_heads : (Nat → Int32)) (m_forkBit : (Nat → Int32)) (m_forkFrom : (Nat → Int32)) (m_forkTo : (Nat → Int32)) (m_entries : Int32) (m_forks : Int32) (m_guess : Int32) (m_diff : Int32) (m_read : Int32) (m_placeOf : Int32) (v8 : Int32) (t0 : Int32) (H : Heap) (locs : List Loc) (ls : Array Slot), va_P D vwCl (WM a cI m_s m_past m_kept m_refused m_text m_asked m_heads m_forkBit m_forkFrom m_forkTo m_wayPage m_wayKnown m_wayGuess m_wayDiff m_wayRead m_wayPlace m_treeBit m_treeLeft m_treeRight m_treeAbove m_pileFrom m_pileTo m_pileAbove m_known m_typed m_askedLength m_entries m_forks m_guess m_diff m_read m_placeOf m_treeForks m_treeDeep) H → va_S A s.heap H locs → lv_has ls 10 [(0, .ref (a 0)), (8, .int v8)] → M_looksAt_J344 m_s m_asked m_askedLength v1 v2 v3 m_heads m_forkBit m_forkFrom m_forkTo m_entries m_forks m_guess m_diff m_read m_placeOf v8 t0 = some (o_heads, o_forkBit, o_forkFrom, o_forkTo, o_entries, o_forks, o_guess, o_diff, o_read, o_placeOf) → W p l e { frames := 4, cells := 0, slots := 0, locals := 94 } s m args below meth c H locs 0 0 Q (F0 m 344 ls [.int t0]) := by
  obtain ⟨hx, hb, hml, hr, hown, hts, hlocks, hK, hA, hN⟩ := id C
  intro m_heads m_forkBit m_forkFrom m_forkTo m_entries m_forks m_guess m_diff m_read m_placeOf v8 t0 H locs ls hP hS hl hm
  rw [M_looksAt_J344] at hm
  refine lv_istore (lv' := [(9, .int t0), (0, .ref (a 0)), (8, .int v8)]) hx hb dX8_looksAt_344 hl (by decide) rfl (fun ls hl => ?_)
  refine lv_aload_n hx hb dX8_looksAt_346 rfl (lv_at hl 1 rfl) ?_
  refine lv_aload_n hx hb dX8_looksAt_347 rfl (lv_at hl 1 rfl) ?_
  refine lv_bipush (v := 48) hx hb dX8_looksAt_348 (by decide) ?_
  refine lv_aload_n hx hb dX8_looksAt_350 rfl (lv_at hl 1 rfl) ?_
  refine kg (v := .int m_diff) hx hb hts hiX8_looksAt hown hK hP 0 rfl rfl 16 (by decide) flX8_looksAt_140 rfl rfl dX8_looksAt_351 ?_
  obtain ⟨r354, hq, hm⟩ := bd1_some hm
  refine k_callVI (As := [.int 48, .int m_diff]) (rest := [.ref (a 0)]) ⟨hx, hb, hml, hown, hts⟩ hK hA hN (c_X8_bitOf (a := a) hq) (cwV 2 hts gX8_looksAt_X8_bitOf rfl rfl rfl hdX8_bitOf ⟨Nat.le_of_ble_eq_true rfl, Nat.le_of_ble_eq_true rfl⟩) hP (va_D_re hD rfl) hS 0 8 rfl rfl rfl hl.1 rfl rfl (Nat.le_of_ble_eq_true rfl) ⟨Nat.zero_le _, Nat.zero_le _⟩ dX8_looksAt_354 (fun H locs hP hS => ?_)
  refine lv_if_ne (tgt := 365) hx hb dX8_looksAt_357 (by decide) (fun hc => ?_) (fun hc => ?_)
  · have hm := if_f hc hm
    refine lv_iload hx hb dX8_looksAt_365 (lv_at hl 0 rfl) ?_
    refine kp hx hb hts hiX8_looksAt tyX8 tyX8_ok nmX8 hown hK hP (va_D_re hD rfl) hS 0 rfl rfl 18 (by decide) flX8_looksAt_146 rfl rfl rfl (Nat.le_of_ble_eq_true rfl) dX8_looksAt_367 (fun H locs hP hS => ?_)
    have hP : va_P D vwCl (WM a cI m_s m_past m_kept m_refused m_text m_asked m_heads m_forkBit m_forkFrom m_forkTo m_wayPage m_wayKnown m_wayGuess m_wayDiff m_wayRead m_wayPlace m_treeBit m_treeLeft m_treeRight m_treeAbove m_pileFrom m_pileTo m_pileAbove m_known m_typed m_askedLength m_entries m_forks m_guess m_diff m_read t0 m_treeForks m_treeDeep) H := hP
    simp only [Option.some.injEq, Prod.mk.injEq] at hm
    obtain ⟨rfl, rfl, rfl, rfl, rfl, rfl, rfl, rfl, rfl, rfl⟩ := hm
    exact hret _ _ _ _ dX8_looksAt_370 hP hS
  · have hm := if_t hc hm
    refine lv_iload hx hb dX8_looksAt_360 (lv_at hl 2 rfl) ?_
    refine lv_goto (tgt := 367) hx hb dX8_looksAt_362 (by decide) ?_
    refine kp hx hb hts hiX8_looksAt tyX8 tyX8_ok nmX8 hown hK hP (va_D_re hD rfl) hS 0 rfl rfl 18 (by decide) flX8_looksAt_146 rfl rfl rfl (Nat.le_of_ble_eq_true rfl) dX8_looksAt_367 (fun H locs hP hS => ?_)
    have hP : va_P D vwCl (WM a cI m_s m_past m_kept m_refused m_text m_asked m_heads m_forkBit m_forkFrom m_forkTo m_wayPage m_wayKnown m_wayGuess m_wayDiff m_wayRead m_wayPlace m_treeBit m_treeLeft m_treeRight m_treeAbove m_pileFrom m_pileTo m_pileAbove m_known m_typed m_askedLength m_entries m_forks m_guess m_diff m_read v8 m_treeForks m_treeDeep) H := hP
    simp only [Option.some.injEq, Prod.mk.injEq] at hm
    obtain ⟨rfl, rfl, rfl, rfl, rfl, rfl, rfl, rfl, rfl, rfl⟩ := hm
    exact hret _ _ _ _ dX8_looksAt_370 hP hS
set_option maxRecDepth 100000 in
set_option maxHeartbeats 4000000 in
theorem t_M_looksAt_J317 {p : Program} {l : Launch} {e : Env} {s : State} {m : MethodId} {args : Array Value} {below : List Frame} {meth : Method} {c : Code} {Q : State → Prop} {A : Nat → Prop} {D : va_G} {cI cJ cB cL cS cW : ClassId} {a : Nat → Nat} {m_s m_past m_kept m_refused m_text m_asked m_wayPage m_wayKnown m_wayGuess m_wayDiff m_wayRead m_wayPlace m_treeBit m_treeLeft m_treeRight m_treeAbove m_pileFrom m_pileTo m_pileAbove : Nat → Int32} {m_known m_typed m_askedLength m_treeForks m_treeDeep : Int32} {v1 : Int32} {v2 : Int32} {v3 : Int32} {o_heads : Nat → Int32} {o_forkBit : Nat → Int32} {o_forkFrom : Nat → Int32} {o_forkTo : Nat → Int32} {o_entries : Int32} {o_forks : Int32} {o_guess : Int32} {o_diff : Int32} {o_read : Int32} {o_placeOf : Int32} (C : k_C p s m args meth c cX8_looksAt 10 none RX8 wsX8_looksAt D (kT cI cJ cB cL cS cW) A) (hD : va_D A (WM0 a cI)) (hret : ∀ (H : Heap) (locs : List Loc) (pc : Nat) (ls : Array Slot), decode cX8_looksAt pc = .ok (.return_, 1) → va_P D vwCl (WM a cI m_s m_past m_kept m_refused m_text m_asked o_heads o_forkBit o_forkFrom o_forkTo m_wayPage m_wayKnown m_wayGuess m_wayDiff m_wayRead m_wayPlace m_treeBit m_treeLeft m_treeRight m_treeAbove m_pileFrom m_pileTo m_pileAbove m_known m_typed m_askedLength o_entries o_forks o_guess o_diff o_read o_placeOf m_treeForks m_treeDeep) H → va_S A s.heap H locs → W p l e { frames := 4, cells := 0, slots := 0, locals := 94 } s m args below meth c H locs 0 0 Q (F0 m pc ls [])) : ∀ (m_heads : (Nat → Int32)) (m_forkBit : (Nat → Int32)) (m_forkFrom : (Nat → Int32)) (m_forkTo : (Nat → Int32)) (m_entries : Int32) (m_forks : Int32) (m_guess : Int32) (m_diff : Int32) (m_read : Int32) (m_placeOf : Int32) (v7 : Int32) (t0 : Int32) (H : Heap) (locs : List Loc) (ls : Array Slot), va_P D vwCl (WM a cI m_s m_past m_kept m_refused m_text m_asked m_heads m_forkBit m_forkFrom m_forkTo m_wayPage m_wayKnown m_wayGuess m_wayDiff m_wayRead m_wayPlace m_treeBit m_treeLeft m_treeRight m_treeAbove m_pileFrom m_pileTo m_pileAbove m_known m_typed m_askedLength m_entries m_forks m_guess m_diff m_read m_placeOf m_treeForks m_treeDeep) H → va_S A s.heap H locs → lv_has ls 10 [(0, .ref (a 0)), (7, .int v7)] → M_looksAt_J317 m_s m_asked m_askedLength v1 v2 v3 m_heads m_forkBit m_forkFrom m_forkTo m_entries m_forks m_guess m_diff m_read m_placeOf v7 t0 = some (o_heads, o_forkBit, o_forkFrom, o_forkTo, o_entries, o_forks, o_guess, o_diff, o_read, o_placeOf) → W p l e { frames := 4, cells := 0, slots := 0, locals := 94 } s m args below meth c H locs 0 0 Q (F0 m 317 ls [.int t0]) := by
  obtain ⟨hx, hb, hml, hr, hown, hts, hlocks, hK, hA, hN⟩ := id C
  intro m_heads m_forkBit m_forkFrom m_forkTo m_entries m_forks m_guess m_diff m_read m_placeOf v7 t0 H locs ls hP hS hl hm
  rw [M_looksAt_J317] at hm
  refine lv_istore (lv' := [(8, .int t0), (0, .ref (a 0)), (7, .int v7)]) hx hb dX8_looksAt_317 hl (by decide) rfl (fun ls hl => ?_)
  refine lv_iload hx hb dX8_looksAt_319 (lv_at hl 2 rfl) ?_
  refine lv_aload_n hx hb dX8_looksAt_321 rfl (lv_at hl 1 rfl) ?_
  refine kg (v := .int m_forks) hx hb hts hiX8_looksAt hown hK hP 0 rfl rfl 14 (by decide) flX8_looksAt_130 rfl rfl dX8_looksAt_322 ?_
  refine lv_icmp_ge (tgt := 338) hx hb dX8_looksAt_325 (by decide) (fun hc => ?_) (fun hc => ?_)
  · have hm := if_t hc hm
    refine lv_aload_n hx hb dX8_looksAt_338 rfl (lv_at hl 1 rfl) ?_
    refine kg (v := .int m_guess) hx hb hts hiX8_looksAt hown hK hP 0 rfl rfl 15 (by decide) flX8_looksAt_137 rfl rfl dX8_looksAt_339 ?_
    refine lv_iconst (v := 1) hx hb dX8_looksAt_342 (by decide) ?_
    refine lv_iadd hx hb dX8_looksAt_343 ?_
    exact t_M_looksAt_J344 C hD hret _ _ _ _ _ _ _ _ _ _ _ _ _ _ _ hP hS (lv_sub hl [1, 0] rfl) hm
  · have hm := if_f hc hm
    refine lv_aload_n hx hb dX8_looksAt_328 rfl (lv_at hl 1 rfl) ?_
    refine kg (v := .ref (a 10)) hx hb hts hiX8_looksAt hown hK hP 0 rfl rfl 13 (by decide) flX8_looksAt_37 rfl rfl dX8_looksAt_329 ?_
    refine lv_iload hx hb dX8_looksAt_332 (lv_at hl 2 rfl) ?_
    obtain ⟨hi, hm⟩ := ga_some hm
    refine k_iald hx hb hK hP 10 0 rfl rfl rfl hi dX8_looksAt_334 ?_
    refine lv_goto (tgt := 344) hx hb dX8_looksAt_335 (by decide) ?_
    exact t_M_looksAt_J344 C hD hret _ _ _ _ _ _ _ _ _ _ _ _ _ _ _ hP hS (lv_sub hl [1, 0] rfl) hm
set_option maxRecDepth 100000 in
set_option maxHeartbeats 4000000 in
theorem t_M_looksAt_J294 {p : Program} {l : Launch} {e : Env} {s : State} {m : MethodId} {args : Array Value} {below : List Frame} {meth : Method} {c : Code} {Q : State → Prop} {A : Nat → Prop} {D : va_G} {cI cJ cB cL cS cW : ClassId} {a : Nat → Nat} {m_s m_past m_kept m_refused m_text m_asked m_wayPage m_wayKnown m_wayGuess m_wayDiff m_wayRead m_wayPlace m_treeBit m_treeLeft m_treeRight m_treeAbove m_pileFrom m_pileTo m_pileAbove : Nat → Int32} {m_known m_typed m_askedLength m_treeForks m_treeDeep : Int32} {v1 : Int32} {v2 : Int32} {v3 : Int32} {o_heads : Nat → Int32} {o_forkBit : Nat → Int32} {o_forkFrom : Nat → Int32} {o_forkTo : Nat → Int32} {o_entries : Int32} {o_forks : Int32} {o_guess : Int32} {o_diff : Int32} {o_read : Int32} {o_placeOf : Int32} (C : k_C p s m args meth c cX8_looksAt 10 none RX8 wsX8_looksAt D (kT cI cJ cB cL cS cW) A) (hD : va_D A (WM0 a cI)) (hret : ∀ (H : Heap) (locs : List Loc) (pc : Nat) (ls : Array Slot), decode cX8_looksAt pc = .ok (.return_, 1) → va_P D vwCl (WM a cI m_s m_past m_kept m_refused m_text m_asked o_heads o_forkBit o_forkFrom o_forkTo m_wayPage m_wayKnown m_wayGuess m_wayDiff m_wayRead m_wayPlace m_treeBit m_treeLeft m_treeRight m_treeAbove m_pileFrom m_pileTo m_pileAbove m_known m_typed m_askedLength o_entries o_forks o_guess o_diff o_read o_placeOf m_treeForks m_treeDeep) H → va_S A s.heap H locs → W p l e { frames := 4, cells := 0, slots := 0, locals := 94 } s m args below meth c H locs 0 0 Q (F0 m pc ls [])) : ∀ (m_heads : (Nat → Int32)) (m_forkBit : (Nat → Int32)) (m_forkFrom : (Nat → Int32)) (m_forkTo : (Nat → Int32)) (m_entries : Int32) (m_forks : Int32) (m_guess : Int32) (m_diff : Int32) (m_read : Int32) (m_placeOf : Int32) (v7 : Int32) (H : Heap) (locs : List Loc) (ls : Array Slot), va_P D vwCl (WM a cI m_s m_past m_kept m_refused m_text m_asked m_heads m_forkBit m_forkFrom m_forkTo m_wayPage m_wayKnown m_wayGuess m_wayDiff m_wayRead m_wayPlace m_treeBit m_treeLeft m_treeRight m_treeAbove m_pileFrom m_pileTo m_pileAbove m_known m_typed m_askedLength m_entries m_forks m_guess m_diff m_read m_placeOf m_treeForks m_treeDeep) H → va_S A s.heap H locs → lv_has ls 10 [(0, .ref (a 0)), (7, .int v7)] → M_looksAt_J294 m_s m_asked m_askedLength v1 v2 v3 m_heads m_forkBit m_forkFrom m_forkTo m_entries m_forks m_guess m_diff m_read m_placeOf v7 = some (o_heads, o_forkBit, o_forkFrom, o_forkTo, o_entries, o_forks, o_guess, o_diff, o_read, o_placeOf) → W p l e { frames := 4, cells := 0, slots := 0, locals := 94 } s m args below meth c H locs 0 0 Q (F0 m 294 ls []) := by
  obtain ⟨hx, hb, hml, hr, hown, hts, hlocks, hK, hA, hN⟩ := id C
  intro m_heads m_forkBit m_forkFrom m_forkTo m_entries m_forks m_guess m_diff m_read m_placeOf v7 H locs ls hP hS hl hm
  rw [M_looksAt_J294] at hm
  refine lv_iload hx hb dX8_looksAt_294 (lv_at hl 1 rfl) ?_
  refine lv_aload_n hx hb dX8_looksAt_296 rfl (lv_at hl 0 rfl) ?_
  refine kg (v := .int m_forks) hx hb hts hiX8_looksAt hown hK hP 0 rfl rfl 14 (by decide) flX8_looksAt_130 rfl rfl dX8_looksAt_297 ?_
  refine lv_icmp_ge (tgt := 313) hx hb dX8_looksAt_300 (by decide) (fun hc => ?_) (fun hc => ?_)
  · have hm := if_t hc hm
    refine lv_aload_n hx hb dX8_looksAt_313 rfl (lv_at hl 0 rfl) ?_
    refine kg (v := .int m_guess) hx hb hts hiX8_looksAt hown hK hP 0 rfl rfl 15 (by decide) flX8_looksAt_137 rfl rfl dX8_looksAt_314 ?_
    exact t_M_looksAt_J317 C hD hret _ _ _ _ _ _ _ _ _ _ _ _ _ _ _ hP hS (lv_sub hl [0, 1] rfl) hm
  · have hm := if_f hc hm
    refine lv_aload_n hx hb dX8_looksAt_303 rfl (lv_at hl 0 rfl) ?_
    refine kg (v := .ref (a 9)) hx hb hts hiX8_looksAt hown hK hP 0 rfl rfl 12 (by decide) flX8_looksAt_34 rfl rfl dX8_looksAt_304 ?_
    refine lv_iload hx hb dX8_looksAt_307 (lv_at hl 1 rfl) ?_
    obtain ⟨hi, hm⟩ := ga_some hm
    refine k_iald hx hb hK hP 9 0 rfl rfl rfl hi dX8_looksAt_309 ?_
    refine lv_goto (tgt := 317) hx hb dX8_looksAt_310 (by decide) ?_
    exact t_M_looksAt_J317 C hD hret _ _ _ _ _ _ _ _ _ _ _ _ _ _ _ hP hS (lv_sub hl [0, 1] rfl) hm
set_option maxRecDepth 100000 in
set_option maxHeartbeats 4000000 in
theorem t_M_looksAt_J240 {p : Program} {l : Launch} {e : Env} {s : State} {m : MethodId} {args : Array Value} {below : List Frame} {meth : Method} {c : Code} {Q : State → Prop} {A : Nat → Prop} {D : va_G} {cI cJ cB cL cS cW : ClassId} {a : Nat → Nat} {m_s m_past m_kept m_refused m_text m_asked m_wayPage m_wayKnown m_wayGuess m_wayDiff m_wayRead m_wayPlace m_treeBit m_treeLeft m_treeRight m_treeAbove m_pileFrom m_pileTo m_pileAbove : Nat → Int32} {m_known m_typed m_askedLength m_treeForks m_treeDeep : Int32} {v1 : Int32} {v2 : Int32} {v3 : Int32} {o_heads : Nat → Int32} {o_forkBit : Nat → Int32} {o_forkFrom : Nat → Int32} {o_forkTo : Nat → Int32} {o_entries : Int32} {o_forks : Int32} {o_guess : Int32} {o_diff : Int32} {o_read : Int32} {o_placeOf : Int32} (C : k_C p s m args meth c cX8_looksAt 10 none RX8 wsX8_looksAt D (kT cI cJ cB cL cS cW) A) (hD : va_D A (WM0 a cI)) (hret : ∀ (H : Heap) (locs : List Loc) (pc : Nat) (ls : Array Slot), decode cX8_looksAt pc = .ok (.return_, 1) → va_P D vwCl (WM a cI m_s m_past m_kept m_refused m_text m_asked o_heads o_forkBit o_forkFrom o_forkTo m_wayPage m_wayKnown m_wayGuess m_wayDiff m_wayRead m_wayPlace m_treeBit m_treeLeft m_treeRight m_treeAbove m_pileFrom m_pileTo m_pileAbove m_known m_typed m_askedLength o_entries o_forks o_guess o_diff o_read o_placeOf m_treeForks m_treeDeep) H → va_S A s.heap H locs → W p l e { frames := 4, cells := 0, slots := 0, locals := 94 } s m args below meth c H locs 0 0 Q (F0 m pc ls [])) : ∀ (m_heads : (Nat → Int32)) (m_forkBit : (Nat → Int32)) (m_forkFrom : (Nat → Int32)) (m_forkTo : (Nat → Int32)) (m_entries : Int32) (m_forks : Int32) (m_guess : Int32) (m_diff : Int32) (m_read : Int32) (m_placeOf : Int32) (t1 : Int32) (H : Heap) (locs : List Loc) (ls : Array Slot), va_P D vwCl (WM a cI m_s m_past m_kept m_refused m_text m_asked m_heads m_forkBit m_forkFrom m_forkTo m_wayPage m_wayKnown m_wayGuess m_wayDiff m_wayRead m_wayPlace m_treeBit m_treeLeft m_treeRight m_treeAbove m_pileFrom m_pileTo m_pileAbove m_known m_typed m_askedLength m_entries m_forks m_guess m_diff m_read m_placeOf m_treeForks m_treeDeep) H → va_S A s.heap H locs → lv_has ls 10 [(0, .ref (a 0))] → M_looksAt_J240 m_s m_asked m_askedLength v1 v2 v3 m_heads m_forkBit m_forkFrom m_forkTo m_entries m_forks m_guess m_diff m_read m_placeOf t1 = some (o_heads, o_forkBit, o_forkFrom, o_forkTo, o_entries, o_forks, o_guess, o_diff, o_read, o_placeOf) → W p l e { frames := 4, cells := 0, slots := 0, locals := 94 } s m args below meth c H locs 0 0 Q (F0 m 240 ls [.int t1, .ref (a 0)]) := by
  obtain ⟨hx, hb, hml, hr, hown, hts, hlocks, hK, hA, hN⟩ := id C
  intro m_heads m_forkBit m_forkFrom m_forkTo m_entries m_forks m_guess m_diff m_read m_placeOf t1 H locs ls hP hS hl hm
  rw [M_looksAt_J240] at hm
  refine kp hx hb hts hiX8_looksAt tyX8 tyX8_ok nmX8 hown hK hP (va_D_re hD rfl) hS 0 rfl rfl 17 (by decide) flX8_looksAt_143 rfl rfl rfl (Nat.le_of_ble_eq_true rfl) dX8_looksAt_240 (fun H locs hP hS => ?_)
  have hP : va_P D vwCl (WM a cI m_s m_past m_kept m_refused m_text m_asked m_heads m_forkBit m_forkFrom m_forkTo m_wayPage m_wayKnown m_wayGuess m_wayDiff m_wayRead m_wayPlace m_treeBit m_treeLeft m_treeRight m_treeAbove m_pileFrom m_pileTo m_pileAbove m_known m_typed m_askedLength m_entries m_forks m_guess m_diff t1 m_placeOf m_treeForks m_treeDeep) H := hP
  refine lv_aload_n hx hb dX8_looksAt_243 rfl (lv_at hl 0 rfl) ?_
  refine kg (v := .int m_diff) hx hb hts hiX8_looksAt hown hK hP 0 rfl rfl 16 (by decide) flX8_looksAt_140 rfl rfl dX8_looksAt_244 ?_
  refine lv_iconst (v := (-1)) hx hb dX8_looksAt_247 (by decide) ?_
  refine lv_icmp_ne (tgt := 262) hx hb dX8_looksAt_248 (by decide) (fun hc => ?_) (fun hc => ?_)
  · have hm := if_f hc hm
    refine lv_iconst (v := 0) hx hb dX8_looksAt_262 (by decide) ?_
    refine lv_istore (lv' := [(7, .int 0), (0, .ref (a 0))]) hx hb dX8_looksAt_263 hl (by decide) rfl (fun ls hl => ?_)
    refine t_M_looksAt_L265 C hD hret ?_ FU _ _ _ _ _ _ _ _ _ _ _ _ _ _ hP hS (lv_sub hl [1, 0] rfl) hm
    · intro m_heads m_forkBit m_forkFrom m_forkTo m_entries m_forks m_guess m_diff m_read m_placeOf v7 H locs ls hP hS hl hm
      try dsimp only at hm
      exact t_M_looksAt_J294 C hD hret _ _ _ _ _ _ _ _ _ _ _ _ _ _ hP hS (lv_sub hl [0, 1] rfl) hm
  · have hm := if_t hc hm
    refine lv_aload_n hx hb dX8_looksAt_251 rfl (lv_at hl 0 rfl) ?_
    refine lv_aload_n hx hb dX8_looksAt_252 rfl (lv_at hl 0 rfl) ?_
    refine kg (v := .int m_guess) hx hb hts hiX8_looksAt hown hK hP 0 rfl rfl 15 (by decide) flX8_looksAt_137 rfl rfl dX8_looksAt_253 ?_
    refine lv_iconst (v := 1) hx hb dX8_looksAt_256 (by decide) ?_
    refine lv_iadd hx hb dX8_looksAt_257 ?_
    refine kp hx hb hts hiX8_looksAt tyX8 tyX8_ok nmX8 hown hK hP (va_D_re hD rfl) hS 0 rfl rfl 18 (by decide) flX8_looksAt_146 rfl rfl rfl (Nat.le_of_ble_eq_true rfl) dX8_looksAt_258 (fun H locs hP hS => ?_)
    have hP : va_P D vwCl (WM a cI m_s m_past m_kept m_refused m_text m_asked m_heads m_forkBit m_forkFrom m_forkTo m_wayPage m_wayKnown m_wayGuess m_wayDiff m_wayRead m_wayPlace m_treeBit m_treeLeft m_treeRight m_treeAbove m_pileFrom m_pileTo m_pileAbove m_known m_typed m_askedLength m_entries m_forks m_guess m_diff t1 (m_guess + 1) m_treeForks m_treeDeep) H := hP
    simp only [Option.some.injEq, Prod.mk.injEq] at hm
    obtain ⟨rfl, rfl, rfl, rfl, rfl, rfl, rfl, rfl, rfl, rfl⟩ := hm
    exact hret _ _ _ _ dX8_looksAt_261 hP hS
set_option maxRecDepth 100000 in
set_option maxHeartbeats 4000000 in
theorem t_M_looksAt_J209 {p : Program} {l : Launch} {e : Env} {s : State} {m : MethodId} {args : Array Value} {below : List Frame} {meth : Method} {c : Code} {Q : State → Prop} {A : Nat → Prop} {D : va_G} {cI cJ cB cL cS cW : ClassId} {a : Nat → Nat} {m_s m_past m_kept m_refused m_text m_asked m_wayPage m_wayKnown m_wayGuess m_wayDiff m_wayRead m_wayPlace m_treeBit m_treeLeft m_treeRight m_treeAbove m_pileFrom m_pileTo m_pileAbove : Nat → Int32} {m_known m_typed m_askedLength m_treeForks m_treeDeep : Int32} {v1 : Int32} {v2 : Int32} {v3 : Int32} {o_heads : Nat → Int32} {o_forkBit : Nat → Int32} {o_forkFrom : Nat → Int32} {o_forkTo : Nat → Int32} {o_entries : Int32} {o_forks : Int32} {o_guess : Int32} {o_diff : Int32} {o_read : Int32} {o_placeOf : Int32} (C : k_C p s m args meth c cX8_looksAt 10 none RX8 wsX8_looksAt D (kT cI cJ cB cL cS cW) A) (hD : va_D A (WM0 a cI)) (hret : ∀ (H : Heap) (locs : List Loc) (pc : Nat) (ls : Array Slot), decode cX8_looksAt pc = .ok (.return_, 1) → va_P D vwCl (WM a cI m_s m_past m_kept m_refused m_text m_asked o_heads o_forkBit o_forkFrom o_forkTo m_wayPage m_wayKnown m_wayGuess m_wayDiff m_wayRead m_wayPlace m_treeBit m_treeLeft m_treeRight m_treeAbove m_pileFrom m_pileTo m_pileAbove m_known m_typed m_askedLength o_entries o_forks o_guess o_diff o_read o_placeOf m_treeForks m_treeDeep) H → va_S A s.heap H locs → W p l e { frames := 4, cells := 0, slots := 0, locals := 94 } s m args below meth c H locs 0 0 Q (F0 m pc ls [])) : ∀ (m_heads : (Nat → Int32)) (m_forkBit : (Nat → Int32)) (m_forkFrom : (Nat → Int32)) (m_forkTo : (Nat → Int32)) (m_entries : Int32) (m_forks : Int32) (m_guess : Int32) (m_diff : Int32) (m_read : Int32) (m_placeOf : Int32) (t0 : Int32) (H : Heap) (locs : List Loc) (ls : Array Slot), va_P D vwCl (WM a cI m_s m_past m_kept m_refused m_text m_asked m_heads m_forkBit m_forkFrom m_forkTo m_wayPage m_wayKnown m_wayGuess m_wayDiff m_wayRead m_wayPlace m_treeBit m_treeLeft m_treeRight m_treeAbove m_pileFrom m_pileTo m_pileAbove m_known m_typed m_askedLength m_entries m_forks m_guess m_diff m_read m_placeOf m_treeForks m_treeDeep) H → va_S A s.heap H locs → lv_has ls 10 [(0, .ref (a 0)), (3, .int v3)] → M_looksAt_J209 m_s m_asked m_askedLength v1 v2 v3 m_heads m_forkBit m_forkFrom m_forkTo m_entries m_forks m_guess m_diff m_read m_placeOf t0 = some (o_heads, o_forkBit, o_forkFrom, o_forkTo, o_entries, o_forks, o_guess, o_diff, o_read, o_placeOf) → W p l e { frames := 4, cells := 0, slots := 0, locals := 94 } s m args below meth c H locs 0 0 Q (F0 m 209 ls [.int t0]) := by
  obtain ⟨hx, hb, hml, hr, hown, hts, hlocks, hK, hA, hN⟩ := id C
  intro m_heads m_forkBit m_forkFrom m_forkTo m_entries m_forks m_guess m_diff m_read m_placeOf t0 H locs ls hP hS hl hm
  rw [M_looksAt_J209] at hm
  refine lv_istore (lv' := [(6, .int t0), (0, .ref (a 0)), (3, .int v3)]) hx hb dX8_looksAt_209 hl (by decide) rfl (fun ls hl => ?_)
  refine lv_aload_n hx hb dX8_looksAt_211 rfl (lv_at hl 1 rfl) ?_
  refine lv_iload hx hb dX8_looksAt_212 (lv_at hl 0 rfl) ?_
  refine lv_iload_n hx hb dX8_looksAt_214 rfl (lv_at hl 2 rfl) ?_
  refine lv_bipush (v := 32) hx hb dX8_looksAt_215 (by decide) ?_
  refine lv_idiv hx hb dX8_looksAt_217 (by decide) ?_
  refine lv_isub hx hb dX8_looksAt_218 ?_
  refine lv_iconst (v := 1) hx hb dX8_looksAt_219 (by decide) ?_
  refine lv_iadd hx hb dX8_looksAt_220 ?_
  refine kp hx hb hts hiX8_looksAt tyX8 tyX8_ok nmX8 hown hK hP (va_D_re hD rfl) hS 0 rfl rfl 17 (by decide) flX8_looksAt_143 rfl rfl rfl (Nat.le_of_ble_eq_true rfl) dX8_looksAt_221 (fun H locs hP hS => ?_)
  have hP : va_P D vwCl (WM a cI m_s m_past m_kept m_refused m_text m_asked m_heads m_forkBit m_forkFrom m_forkTo m_wayPage m_wayKnown m_wayGuess m_wayDiff m_wayRead m_wayPlace m_treeBit m_treeLeft m_treeRight m_treeAbove m_pileFrom m_pileTo m_pileAbove m_known m_typed m_askedLength m_entries m_forks m_guess m_diff ((t0 - (v3 / 32)) + 1) m_placeOf m_treeForks m_treeDeep) H := hP
  refine lv_aload_n hx hb dX8_looksAt_224 rfl (lv_at hl 1 rfl) ?_
  refine lv_aload_n hx hb dX8_looksAt_225 rfl (lv_at hl 1 rfl) ?_
  refine kg (v := .int ((t0 - (v3 / 32)) + 1)) hx hb hts hiX8_looksAt hown hK hP 0 rfl rfl 17 (by decide) flX8_looksAt_143 rfl rfl dX8_looksAt_226 ?_
  refine lv_if_ge (tgt := 236) hx hb dX8_looksAt_229 (by decide) (fun hc => ?_) (fun hc => ?_)
  · have hm := if_t hc hm
    refine lv_aload_n hx hb dX8_looksAt_236 rfl (lv_at hl 1 rfl) ?_
    refine kg (v := .int ((t0 - (v3 / 32)) + 1)) hx hb hts hiX8_looksAt hown hK hP 0 rfl rfl 17 (by decide) flX8_looksAt_143 rfl rfl dX8_looksAt_237 ?_
    exact t_M_looksAt_J240 C hD hret _ _ _ _ _ _ _ _ _ _ _ _ _ _ hP hS (lv_sub hl [1] rfl) hm
  · have hm := if_f hc hm
    refine lv_iconst (v := 0) hx hb dX8_looksAt_232 (by decide) ?_
    refine lv_goto (tgt := 240) hx hb dX8_looksAt_233 (by decide) ?_
    exact t_M_looksAt_J240 C hD hret _ _ _ _ _ _ _ _ _ _ _ _ _ _ hP hS (lv_sub hl [1] rfl) hm
set_option maxRecDepth 100000 in
set_option maxHeartbeats 4000000 in
theorem c_X8_looksAt {l : Launch} {D : va_G} {cI cJ cB cL cS cW : ClassId} {a : Nat → Nat} {m_s m_past m_kept m_refused m_text m_asked m_heads m_forkBit m_forkFrom m_forkTo m_wayPage m_wayKnown m_wayGuess m_wayDiff m_wayRead m_wayPlace m_treeBit m_treeLeft m_treeRight m_treeAbove m_pileFrom m_pileTo m_pileAbove : Nat → Int32} {m_known m_typed m_askedLength m_entries m_forks m_guess m_diff m_read m_placeOf m_treeForks m_treeDeep : Int32} {v1 : Int32} {v2 : Int32} {v3 : Int32} {o_heads : Nat → Int32} {o_forkBit : Nat → Int32} {o_forkFrom : Nat → Int32} {o_forkTo : Nat → Int32} {o_entries : Int32} {o_forks : Int32} {o_guess : Int32} {o_diff : Int32} {o_read : Int32} {o_placeOf : Int32} (hm : M_looksAt m_s m_asked m_askedLength m_heads m_forkBit m_forkFrom m_forkTo m_entries m_forks m_guess m_diff m_read m_placeOf v1 v2 v3 = some (o_heads, o_forkBit, o_forkFrom, o_forkTo, o_entries, o_forks, o_guess, o_diff, o_read, o_placeOf)) : k_MV l yX8_looksAt wsX8_looksAt { frames := 4, cells := 0, slots := 0, locals := 94 } D (kT cI cJ cB cL cS cW) [.ref (a 0), .int v1, .int v2, .int v3] (WM a cI m_s m_past m_kept m_refused m_text m_asked m_heads m_forkBit m_forkFrom m_forkTo m_wayPage m_wayKnown m_wayGuess m_wayDiff m_wayRead m_wayPlace m_treeBit m_treeLeft m_treeRight m_treeAbove m_pileFrom m_pileTo m_pileAbove m_known m_typed m_askedLength m_entries m_forks m_guess m_diff m_read m_placeOf m_treeForks m_treeDeep) (WM a cI m_s m_past m_kept m_refused m_text m_asked o_heads o_forkBit o_forkFrom o_forkTo m_wayPage m_wayKnown m_wayGuess m_wayDiff m_wayRead m_wayPlace m_treeBit m_treeLeft m_treeRight m_treeAbove m_pileFrom m_pileTo m_pileAbove m_known m_typed m_askedLength o_entries o_forks o_guess o_diff o_read o_placeOf m_treeForks m_treeDeep) := by
  refine k_ofV (cc := cX8_looksAt) (maxL := 10) (own := RX8) (by decide) rfl rfl (Nat.le_of_ble_eq_true rfl) ?_
  intro p e s m args below meth c A Q ls C hP hD hl hret
  have hD : va_D A (WM0 a cI) := va_D_re hD rfl
  have hS : va_S A s.heap s.heap [] := va_S.rf
  have hl : lv_has ls 10 [(0, .ref (a 0)), (1, .int v1), (2, .int v2), (3, .int v3)] := hl
  obtain ⟨hx, hb, hml, hr, hown, hts, hlocks, hK, hA, hN⟩ := id C
  rw [M_looksAt] at hm
  refine lv_aload_n hx hb dX8_looksAt_0 rfl (lv_at hl 0 rfl) ?_
  refine lv_iload_n hx hb dX8_looksAt_1 rfl (lv_at hl 1 rfl) ?_
  refine lv_iload_n hx hb dX8_looksAt_2 rfl (lv_at hl 2 rfl) ?_
  obtain ⟨m_heads_3, m_entries_3, hq, hm⟩ := bd2_some hm
  refine k_callVV (As := [.int v1, .int v2]) (rest := []) ⟨hx, hb, hml, hown, hts⟩ hK hA hN (c_X8_laysHeads (a := a) hq) (cwV 2 hts gX8_looksAt_X8_laysHeads rfl rfl rfl hdX8_laysHeads ⟨Nat.le_of_ble_eq_true rfl, Nat.le_of_ble_eq_true rfl⟩) hP (va_D_re hD rfl) hS 0 8 rfl rfl rfl hl.1 rfl rfl (Nat.le_of_ble_eq_true rfl) ⟨Nat.zero_le _, Nat.zero_le _⟩ dX8_looksAt_3 (fun H locs hP hS => ?_)
  refine lv_aload_n hx hb dX8_looksAt_6 rfl (lv_at hl 0 rfl) ?_
  refine lv_iconst (v := 0) hx hb dX8_looksAt_7 (by decide) ?_
  refine kp hx hb hts hiX8_looksAt tyX8 tyX8_ok nmX8 hown hK hP (va_D_re hD rfl) hS 0 rfl rfl 14 (by decide) flX8_looksAt_130 rfl rfl rfl (Nat.le_of_ble_eq_true rfl) dX8_looksAt_8 (fun H locs hP hS => ?_)
  have hP : va_P D vwCl (WM a cI m_s m_past m_kept m_refused m_text m_asked m_heads_3 m_forkBit m_forkFrom m_forkTo m_wayPage m_wayKnown m_wayGuess m_wayDiff m_wayRead m_wayPlace m_treeBit m_treeLeft m_treeRight m_treeAbove m_pileFrom m_pileTo m_pileAbove m_known m_typed m_askedLength m_entries_3 0 m_guess m_diff m_read m_placeOf m_treeForks m_treeDeep) H := hP
  refine lv_iconst (v := 0) hx hb dX8_looksAt_11 (by decide) ?_
  refine lv_istore (lv' := [(4, .int 0), (0, .ref (a 0)), (1, .int v1), (2, .int v2), (3, .int v3)]) hx hb dX8_looksAt_12 hl (by decide) rfl (fun ls hl => ?_)
  refine lv_aload_n hx hb dX8_looksAt_14 rfl (lv_at hl 1 rfl) ?_
  refine kg (v := .int m_entries_3) hx hb hts hiX8_looksAt hown hK hP 0 rfl rfl 10 (by decide) flX8_looksAt_120 rfl rfl dX8_looksAt_15 ?_
  refine lv_istore (lv' := [(5, .int m_entries_3), (4, .int 0), (0, .ref (a 0)), (1, .int v1), (2, .int v2), (3, .int v3)]) hx hb dX8_looksAt_18 hl (by decide) rfl (fun ls hl => ?_)
  refine t_M_looksAt_L20 C hD hret ?_ FU _ _ _ _ _ _ _ _ _ _ _ _ _ _ _ hP hS (lv_sub hl [2, 5, 1, 0] rfl) hm
  · intro m_heads m_forkBit m_forkFrom m_forkTo m_entries m_forks m_guess m_diff m_read m_placeOf v4 H locs ls hP hS hl hm
    try dsimp only at hm
    refine lv_aload_n hx hb dX8_looksAt_149 rfl (lv_at hl 0 rfl) ?_
    refine lv_iload hx hb dX8_looksAt_150 (lv_at hl 2 rfl) ?_
    refine kp hx hb hts hiX8_looksAt tyX8 tyX8_ok nmX8 hown hK hP (va_D_re hD rfl) hS 0 rfl rfl 15 (by decide) flX8_looksAt_137 rfl rfl rfl (Nat.le_of_ble_eq_true rfl) dX8_looksAt_152 (fun H locs hP hS => ?_)
    have hP : va_P D vwCl (WM a cI m_s m_past m_kept m_refused m_text m_asked m_heads m_forkBit m_forkFrom m_forkTo m_wayPage m_wayKnown m_wayGuess m_wayDiff m_wayRead m_wayPlace m_treeBit m_treeLeft m_treeRight m_treeAbove m_pileFrom m_pileTo m_pileAbove m_known m_typed m_askedLength m_entries m_forks v4 m_diff m_read m_placeOf m_treeForks m_treeDeep) H := hP
    refine lv_aload_n hx hb dX8_looksAt_155 rfl (lv_at hl 0 rfl) ?_
    refine lv_aload_n hx hb dX8_looksAt_156 rfl (lv_at hl 0 rfl) ?_
    refine lv_bipush (v := 48) hx hb dX8_looksAt_157 (by decide) ?_
    refine lv_aload_n hx hb dX8_looksAt_159 rfl (lv_at hl 0 rfl) ?_
    refine kg (v := .ref (a 7)) hx hb hts hiX8_looksAt hown hK hP 0 rfl rfl 9 (by decide) flX8_looksAt_28 rfl rfl dX8_looksAt_160 ?_
    refine lv_aload_n hx hb dX8_looksAt_163 rfl (lv_at hl 0 rfl) ?_
    refine kg (v := .int v4) hx hb hts hiX8_looksAt hown hK hP 0 rfl rfl 15 (by decide) flX8_looksAt_137 rfl rfl dX8_looksAt_164 ?_
    obtain ⟨hi, hm⟩ := ga_some hm
    refine k_iald hx hb hK hP 7 0 rfl rfl rfl hi dX8_looksAt_167 ?_
    obtain ⟨r168, hq, hm⟩ := bd1_some hm
    refine k_callVI (As := [.int 48, .int (m_heads v4.toNatClampNeg)]) (rest := [.ref (a 0)]) ⟨hx, hb, hml, hown, hts⟩ hK hA hN (c_X8_differ (a := a) hq) (cwV 2 hts gX8_looksAt_X8_differ rfl rfl rfl hdX8_differ ⟨Nat.le_of_ble_eq_true rfl, Nat.le_of_ble_eq_true rfl⟩) hP (va_D_re hD rfl) hS 0 8 rfl rfl rfl hl.1 rfl rfl (Nat.le_of_ble_eq_true rfl) ⟨Nat.zero_le _, Nat.zero_le _⟩ dX8_looksAt_168 (fun H locs hP hS => ?_)
    refine kp hx hb hts hiX8_looksAt tyX8 tyX8_ok nmX8 hown hK hP (va_D_re hD rfl) hS 0 rfl rfl 16 (by decide) flX8_looksAt_140 rfl rfl rfl (Nat.le_of_ble_eq_true rfl) dX8_looksAt_171 (fun H locs hP hS => ?_)
    have hP : va_P D vwCl (WM a cI m_s m_past m_kept m_refused m_text m_asked m_heads m_forkBit m_forkFrom m_forkTo m_wayPage m_wayKnown m_wayGuess m_wayDiff m_wayRead m_wayPlace m_treeBit m_treeLeft m_treeRight m_treeAbove m_pileFrom m_pileTo m_pileAbove m_known m_typed m_askedLength m_entries m_forks v4 r168 m_read m_placeOf m_treeForks m_treeDeep) H := hP
    refine lv_aload_n hx hb dX8_looksAt_174 rfl (lv_at hl 0 rfl) ?_
    refine kg (v := .int r168) hx hb hts hiX8_looksAt hown hK hP 0 rfl rfl 16 (by decide) flX8_looksAt_140 rfl rfl dX8_looksAt_175 ?_
    refine lv_iconst (v := (-1)) hx hb dX8_looksAt_178 (by decide) ?_
    refine lv_icmp_ne (tgt := 202) hx hb dX8_looksAt_179 (by decide) (fun hc => ?_) (fun hc => ?_)
    · have hm := if_f hc hm
      refine lv_aload_n hx hb dX8_looksAt_202 rfl (lv_at hl 0 rfl) ?_
      refine kg (v := .int r168) hx hb hts hiX8_looksAt hown hK hP 0 rfl rfl 16 (by decide) flX8_looksAt_140 rfl rfl dX8_looksAt_203 ?_
      refine lv_bipush (v := 32) hx hb dX8_looksAt_206 (by decide) ?_
      refine lv_idiv hx hb dX8_looksAt_208 (by decide) ?_
      exact t_M_looksAt_J209 C hD hret _ _ _ _ _ _ _ _ _ _ _ _ _ _ hP hS (lv_sub hl [0, 1] rfl) hm
    · have hm := if_t hc hm
      refine lv_aload_n hx hb dX8_looksAt_182 rfl (lv_at hl 0 rfl) ?_
      refine lv_aload_n hx hb dX8_looksAt_183 rfl (lv_at hl 0 rfl) ?_
      refine kg (v := .ref (a 7)) hx hb hts hiX8_looksAt hown hK hP 0 rfl rfl 9 (by decide) flX8_looksAt_28 rfl rfl dX8_looksAt_184 ?_
      refine lv_aload_n hx hb dX8_looksAt_187 rfl (lv_at hl 0 rfl) ?_
      refine kg (v := .int v4) hx hb hts hiX8_looksAt hown hK hP 0 rfl rfl 15 (by decide) flX8_looksAt_137 rfl rfl dX8_looksAt_188 ?_
      obtain ⟨hi, hm⟩ := ga_some hm
      refine k_iald hx hb hK hP 7 0 rfl rfl rfl hi dX8_looksAt_191 ?_
      obtain ⟨r192, hq, hm⟩ := bd1_some hm
      refine k_callVI (As := [.int (m_heads v4.toNatClampNeg)]) (rest := []) ⟨hx, hb, hml, hown, hts⟩ hK hA hN (c_X8_lengthOf (a := a) hq) (cwV 1 hts gX8_looksAt_X8_lengthOf rfl rfl rfl hdX8_lengthOf ⟨Nat.le_of_ble_eq_true rfl, Nat.le_of_ble_eq_true rfl⟩) hP (va_D_re hD rfl) hS 0 8 rfl rfl rfl hl.1 rfl rfl (Nat.le_of_ble_eq_true rfl) ⟨Nat.zero_le _, Nat.zero_le _⟩ dX8_looksAt_192 (fun H locs hP hS => ?_)
      refine lv_iconst (v := 1) hx hb dX8_looksAt_195 (by decide) ?_
      refine lv_isub hx hb dX8_looksAt_196 ?_
      refine lv_iconst (v := 4) hx hb dX8_looksAt_197 (by decide) ?_
      refine lv_idiv hx hb dX8_looksAt_198 (by decide) ?_
      refine lv_goto (tgt := 209) hx hb dX8_looksAt_199 (by decide) ?_
      exact t_M_looksAt_J209 C hD hret _ _ _ _ _ _ _ _ _ _ _ _ _ _ hP hS (lv_sub hl [0, 1] rfl) hm
