theorem hdX8_goes : yX8_goes.cls = RX8 ∧ yX8_goes.cls ≠ "java/lang/invoke/MethodHandle" ∧ yX8_goes.cls ≠ "java/lang/invoke/VarHandle" ∧ (parseMethodDescriptor yX8_goes.desc).map (fun d => d.parameters.length) = some 0 := by decide +kernel
theorem hiX8_goes : ∀ w ∈ u_ws RX8 TX8 34, w ∈ wsX8_goes := by decide +kernel
theorem flX8_goes_40 : Cond.fieldLink RX8 40 "BlindPagesModel" "wayPage" "[I" ∈ wsX8_goes := by decide +kernel
theorem flX8_goes_43 : Cond.fieldLink RX8 43 "BlindPagesModel" "wayKnown" "[I" ∈ wsX8_goes := by decide +kernel
theorem flX8_goes_46 : Cond.fieldLink RX8 46 "BlindPagesModel" "wayGuess" "[I" ∈ wsX8_goes := by decide +kernel
theorem flX8_goes_137 : Cond.fieldLink RX8 137 "BlindPagesModel" "guess" "I" ∈ wsX8_goes := by decide +kernel
theorem flX8_goes_49 : Cond.fieldLink RX8 49 "BlindPagesModel" "wayDiff" "[I" ∈ wsX8_goes := by decide +kernel
theorem flX8_goes_140 : Cond.fieldLink RX8 140 "BlindPagesModel" "diff" "I" ∈ wsX8_goes := by decide +kernel
theorem flX8_goes_52 : Cond.fieldLink RX8 52 "BlindPagesModel" "wayRead" "[I" ∈ wsX8_goes := by decide +kernel
theorem flX8_goes_143 : Cond.fieldLink RX8 143 "BlindPagesModel" "read" "I" ∈ wsX8_goes := by decide +kernel
theorem flX8_goes_55 : Cond.fieldLink RX8 55 "BlindPagesModel" "wayPlace" "[I" ∈ wsX8_goes := by decide +kernel
theorem flX8_goes_146 : Cond.fieldLink RX8 146 "BlindPagesModel" "placeOf" "I" ∈ wsX8_goes := by decide +kernel
theorem flX8_goes_28 : Cond.fieldLink RX8 28 "BlindPagesModel" "heads" "[I" ∈ wsX8_goes := by decide +kernel
theorem flX8_goes_83 : Cond.fieldLink RX8 83 "BlindPagesModel" "askedLength" "I" ∈ wsX8_goes := by decide +kernel
def M_goes_J126 (m_s m_asked : Nat → Int32) (m_askedLength : Int32) (k9 : (Nat → Int32) → (Nat → Int32) → (Nat → Int32) → (Nat → Int32) → (Nat → Int32) → (Nat → Int32) → (Nat → Int32) → (Nat → Int32) → (Nat → Int32) → (Nat → Int32) → Int32 → Int32 → Int32 → Int32 → Int32 → Int32 → Int32 → Int32 → Int32 → Option ((Nat → Int32) × (Nat → Int32) × (Nat → Int32) × (Nat → Int32) × (Nat → Int32) × (Nat → Int32) × (Nat → Int32) × (Nat → Int32) × (Nat → Int32) × (Nat → Int32) × Int32 × Int32 × Int32 × Int32 × Int32 × Int32)) (k143 : (Nat → Int32) → (Nat → Int32) → (Nat → Int32) → (Nat → Int32) → (Nat → Int32) → (Nat → Int32) → (Nat → Int32) → (Nat → Int32) → (Nat → Int32) → (Nat → Int32) → Int32 → Int32 → Int32 → Int32 → Int32 → Int32 → Option ((Nat → Int32) × (Nat → Int32) × (Nat → Int32) × (Nat → Int32) × (Nat → Int32) × (Nat → Int32) × (Nat → Int32) × (Nat → Int32) × (Nat → Int32) × (Nat → Int32) × Int32 × Int32 × Int32 × Int32 × Int32 × Int32)) (m_heads : (Nat → Int32)) (m_forkBit : (Nat → Int32)) (m_forkFrom : (Nat → Int32)) (m_forkTo : (Nat → Int32)) (m_wayPage : (Nat → Int32)) (m_wayKnown : (Nat → Int32)) (m_wayGuess : (Nat → Int32)) (m_wayDiff : (Nat → Int32)) (m_wayRead : (Nat → Int32)) (m_wayPlace : (Nat → Int32)) (m_entries : Int32) (m_forks : Int32) (m_guess : Int32) (m_diff : Int32) (m_read : Int32) (m_placeOf : Int32) (v1 : Int32) (v3 : Int32) (v4 : Int32) (t0 : Int32) : Option ((Nat → Int32) × (Nat → Int32) × (Nat → Int32) × (Nat → Int32) × (Nat → Int32) × (Nat → Int32) × (Nat → Int32) × (Nat → Int32) × (Nat → Int32) × (Nat → Int32) × Int32 × Int32 × Int32 × Int32 × Int32 × Int32) := bd1 (M_entriesAhead m_s v3 v1) fun r130 => k9 m_heads m_forkBit m_forkFrom m_forkTo m_wayPage m_wayKnown m_wayGuess m_wayDiff m_wayRead m_wayPlace m_entries m_forks m_guess m_diff m_read m_placeOf (r130 + v4) t0 (v3 + (-1))
def M_goes_J91 (m_s m_asked : Nat → Int32) (m_askedLength : Int32) (k9 : (Nat → Int32) → (Nat → Int32) → (Nat → Int32) → (Nat → Int32) → (Nat → Int32) → (Nat → Int32) → (Nat → Int32) → (Nat → Int32) → (Nat → Int32) → (Nat → Int32) → Int32 → Int32 → Int32 → Int32 → Int32 → Int32 → Int32 → Int32 → Int32 → Option ((Nat → Int32) × (Nat → Int32) × (Nat → Int32) × (Nat → Int32) × (Nat → Int32) × (Nat → Int32) × (Nat → Int32) × (Nat → Int32) × (Nat → Int32) × (Nat → Int32) × Int32 × Int32 × Int32 × Int32 × Int32 × Int32)) (k143 : (Nat → Int32) → (Nat → Int32) → (Nat → Int32) → (Nat → Int32) → (Nat → Int32) → (Nat → Int32) → (Nat → Int32) → (Nat → Int32) → (Nat → Int32) → (Nat → Int32) → Int32 → Int32 → Int32 → Int32 → Int32 → Int32 → Option ((Nat → Int32) × (Nat → Int32) × (Nat → Int32) × (Nat → Int32) × (Nat → Int32) × (Nat → Int32) × (Nat → Int32) × (Nat → Int32) × (Nat → Int32) × (Nat → Int32) × Int32 × Int32 × Int32 × Int32 × Int32 × Int32)) (m_heads : (Nat → Int32)) (m_forkBit : (Nat → Int32)) (m_forkFrom : (Nat → Int32)) (m_forkTo : (Nat → Int32)) (m_wayPage : (Nat → Int32)) (m_wayKnown : (Nat → Int32)) (m_wayGuess : (Nat → Int32)) (m_wayDiff : (Nat → Int32)) (m_wayRead : (Nat → Int32)) (m_wayPlace : (Nat → Int32)) (m_entries : Int32) (m_forks : Int32) (m_guess : Int32) (m_diff : Int32) (m_read : Int32) (m_placeOf : Int32) (v1 : Int32) (v3 : Int32) (t0 : Int32) : Option ((Nat → Int32) × (Nat → Int32) × (Nat → Int32) × (Nat → Int32) × (Nat → Int32) × (Nat → Int32) × (Nat → Int32) × (Nat → Int32) × (Nat → Int32) × (Nat → Int32) × Int32 × Int32 × Int32 × Int32 × Int32 × Int32) := ga t0 10 (bd1 (M_differ m_s m_asked m_askedLength 48 (m_heads t0.toNatClampNeg)) fun r103 => if r103 = (-1) then (M_goes_J126 m_s m_asked m_askedLength k9 k143 m_heads m_forkBit m_forkFrom m_forkTo m_wayPage m_wayKnown m_wayGuess m_wayDiff m_wayRead m_wayPlace m_entries m_forks m_guess m_diff m_read m_placeOf v1 v3 t0 (8 * m_askedLength)) else (M_goes_J126 m_s m_asked m_askedLength k9 k143 m_heads m_forkBit m_forkFrom m_forkTo m_wayPage m_wayKnown m_wayGuess m_wayDiff m_wayRead m_wayPlace m_entries m_forks m_guess m_diff m_read m_placeOf v1 v3 t0 r103))
def M_goes_L9 (m_s m_asked : Nat → Int32) (m_askedLength : Int32) (k143 : (Nat → Int32) → (Nat → Int32) → (Nat → Int32) → (Nat → Int32) → (Nat → Int32) → (Nat → Int32) → (Nat → Int32) → (Nat → Int32) → (Nat → Int32) → (Nat → Int32) → Int32 → Int32 → Int32 → Int32 → Int32 → Int32 → Option ((Nat → Int32) × (Nat → Int32) × (Nat → Int32) × (Nat → Int32) × (Nat → Int32) × (Nat → Int32) × (Nat → Int32) × (Nat → Int32) × (Nat → Int32) × (Nat → Int32) × Int32 × Int32 × Int32 × Int32 × Int32 × Int32)) : Nat → (Nat → Int32) → (Nat → Int32) → (Nat → Int32) → (Nat → Int32) → (Nat → Int32) → (Nat → Int32) → (Nat → Int32) → (Nat → Int32) → (Nat → Int32) → (Nat → Int32) → Int32 → Int32 → Int32 → Int32 → Int32 → Int32 → Int32 → Int32 → Int32 → Option ((Nat → Int32) × (Nat → Int32) × (Nat → Int32) × (Nat → Int32) × (Nat → Int32) × (Nat → Int32) × (Nat → Int32) × (Nat → Int32) × (Nat → Int32) × (Nat → Int32) × Int32 × Int32 × Int32 × Int32 × Int32 × Int32)
  | 0, _, _, _, _, _, _, _, _, _, _, _, _, _, _, _, _, _, _, _ => none
  | n + 1, m_heads, m_forkBit, m_forkFrom, m_forkTo, m_wayPage, m_wayKnown, m_wayGuess, m_wayDiff, m_wayRead, m_wayPlace, m_entries, m_forks, m_guess, m_diff, m_read, m_placeOf, v1, v2, v3 => if v3 < 0 then (k143 m_heads m_forkBit m_forkFrom m_forkTo m_wayPage m_wayKnown m_wayGuess m_wayDiff m_wayRead m_wayPlace m_entries m_forks m_guess m_diff m_read m_placeOf) else (bd10 (M_looksAt m_s m_asked m_askedLength m_heads m_forkBit m_forkFrom m_forkTo m_entries m_forks m_guess m_diff m_read m_placeOf v3 v1 v2) fun m_heads_17 m_forkBit_17 m_forkFrom_17 m_forkTo_17 m_entries_17 m_forks_17 m_guess_17 m_diff_17 m_read_17 m_placeOf_17 => ga v3 8 (ga v3 8 (ga v3 8 (ga v3 8 (ga v3 8 (ga v3 8 (if m_placeOf_17 = 0 then (M_goes_J91 m_s m_asked m_askedLength (M_goes_L9 m_s m_asked m_askedLength k143 n) k143 m_heads_17 m_forkBit_17 m_forkFrom_17 m_forkTo_17 (upd m_wayPage v3.toNatClampNeg v1) (upd m_wayKnown v3.toNatClampNeg v2) (upd m_wayGuess v3.toNatClampNeg m_guess_17) (upd m_wayDiff v3.toNatClampNeg m_diff_17) (upd m_wayRead v3.toNatClampNeg m_read_17) (upd m_wayPlace v3.toNatClampNeg m_placeOf_17) m_entries_17 m_forks_17 m_guess_17 m_diff_17 m_read_17 m_placeOf_17 v1 v3 0) else (M_goes_J91 m_s m_asked m_askedLength (M_goes_L9 m_s m_asked m_askedLength k143 n) k143 m_heads_17 m_forkBit_17 m_forkFrom_17 m_forkTo_17 (upd m_wayPage v3.toNatClampNeg v1) (upd m_wayKnown v3.toNatClampNeg v2) (upd m_wayGuess v3.toNatClampNeg m_guess_17) (upd m_wayDiff v3.toNatClampNeg m_diff_17) (upd m_wayRead v3.toNatClampNeg m_read_17) (upd m_wayPlace v3.toNatClampNeg m_placeOf_17) m_entries_17 m_forks_17 m_guess_17 m_diff_17 m_read_17 m_placeOf_17 v1 v3 (m_placeOf_17 - 1)))))))))
def M_goes (m_s m_asked : Nat → Int32) (m_askedLength : Int32) (m_heads m_forkBit m_forkFrom m_forkTo m_wayPage m_wayKnown m_wayGuess m_wayDiff m_wayRead m_wayPlace : Nat → Int32) (m_entries m_forks m_guess m_diff m_read m_placeOf : Int32) : Option ((Nat → Int32) × (Nat → Int32) × (Nat → Int32) × (Nat → Int32) × (Nat → Int32) × (Nat → Int32) × (Nat → Int32) × (Nat → Int32) × (Nat → Int32) × (Nat → Int32) × Int32 × Int32 × Int32 × Int32 × Int32 × Int32) := bd1 (M_topLevel m_s) fun r5 => M_goes_L9 m_s m_asked m_askedLength (fun m_heads m_forkBit m_forkFrom m_forkTo m_wayPage m_wayKnown m_wayGuess m_wayDiff m_wayRead m_wayPlace m_entries m_forks m_guess m_diff m_read m_placeOf => some (m_heads, m_forkBit, m_forkFrom, m_forkTo, m_wayPage, m_wayKnown, m_wayGuess, m_wayDiff, m_wayRead, m_wayPlace, m_entries, m_forks, m_guess, m_diff, m_read, m_placeOf)) FU m_heads m_forkBit m_forkFrom m_forkTo m_wayPage m_wayKnown m_wayGuess m_wayDiff m_wayRead m_wayPlace m_entries m_forks m_guess m_diff m_read m_placeOf 0 0 r5
set_option maxRecDepth 100000 in
set_option maxHeartbeats 4000000 in
theorem t_M_goes_J126 {p : Program} {l : Launch} {e : Env} {s : State} {m : MethodId} {args : Array Value} {below : List Frame} {meth : Method} {c : Code} {Q : State → Prop} {A : Nat → Prop} {D : va_G} {cI cJ cB cL cS cW : ClassId} {a : Nat → Nat} {m_s m_past m_kept m_refused m_text m_asked m_treeBit m_treeLeft m_treeRight m_treeAbove m_pileFrom m_pileTo m_pileAbove : Nat → Int32} {m_known m_typed m_askedLength m_treeForks m_treeDeep : Int32} {o_heads : Nat → Int32} {o_forkBit : Nat → Int32} {o_forkFrom : Nat → Int32} {o_forkTo : Nat → Int32} {o_wayPage : Nat → Int32} {o_wayKnown : Nat → Int32} {o_wayGuess : Nat → Int32} {o_wayDiff : Nat → Int32} {o_wayRead : Nat → Int32} {o_wayPlace : Nat → Int32} {o_entries : Int32} {o_forks : Int32} {o_guess : Int32} {o_diff : Int32} {o_read : Int32} {o_placeOf : Int32} (C : k_C p s m args meth c cX8_goes 6 none RX8 wsX8_goes D (kT cI cJ cB cL cS cW) A) (hD : va_D A (WM0 a cI)) (hret : ∀ (H : Heap) (locs : List Loc) (pc : Nat) (ls : Array Slot), decode cX8_goes pc = .ok (.return_, 1) → va_P D vwCl (WM a cI m_s m_past m_kept m_refused m_text m_asked o_heads o_forkBit o_forkFrom o_forkTo o_wayPage o_wayKnown o_wayGuess o_wayDiff o_wayRead o_wayPlace m_treeBit m_treeLeft m_treeRight m_treeAbove m_pileFrom m_pileTo m_pileAbove m_known m_typed m_askedLength o_entries o_forks o_guess o_diff o_read o_placeOf m_treeForks m_treeDeep) H → va_S A s.heap H locs → W p l e { frames := 5, cells := 0, slots := 0, locals := 123 } s m args below meth c H locs 0 0 Q (F0 m pc ls [])) {k9 : (Nat → Int32) → (Nat → Int32) → (Nat → Int32) → (Nat → Int32) → (Nat → Int32) → (Nat → Int32) → (Nat → Int32) → (Nat → Int32) → (Nat → Int32) → (Nat → Int32) → Int32 → Int32 → Int32 → Int32 → Int32 → Int32 → Int32 → Int32 → Int32 → Option ((Nat → Int32) × (Nat → Int32) × (Nat → Int32) × (Nat → Int32) × (Nat → Int32) × (Nat → Int32) × (Nat → Int32) × (Nat → Int32) × (Nat → Int32) × (Nat → Int32) × Int32 × Int32 × Int32 × Int32 × Int32 × Int32)} (hk9 : ∀ (m_heads : (Nat → Int32)) (m_forkBit : (Nat → Int32)) (m_forkFrom : (Nat → Int32)) (m_forkTo : (Nat → Int32)) (m_wayPage : (Nat → Int32)) (m_wayKnown : (Nat → Int32)) (m_wayGuess : (Nat → Int32)) (m_wayDiff : (Nat → Int32)) (m_wayRead : (Nat → Int32)) (m_wayPlace : (Nat → Int32)) (m_entries : Int32) (m_forks : Int32) (m_guess : Int32) (m_diff : Int32) (m_read : Int32) (m_placeOf : Int32) (v1 : Int32) (v2 : Int32) (v3 : Int32) (H : Heap) (locs : List Loc) (ls : Array Slot), va_P D vwCl (WM a cI m_s m_past m_kept m_refused m_text m_asked m_heads m_forkBit m_forkFrom m_forkTo m_wayPage m_wayKnown m_wayGuess m_wayDiff m_wayRead m_wayPlace m_treeBit m_treeLeft m_treeRight m_treeAbove m_pileFrom m_pileTo m_pileAbove m_known m_typed m_askedLength m_entries m_forks m_guess m_diff m_read m_placeOf m_treeForks m_treeDeep) H → va_S A s.heap H locs → lv_has ls 6 [(0, .ref (a 0)), (1, .int v1), (2, .int v2), (3, .int v3)] → k9 m_heads m_forkBit m_forkFrom m_forkTo m_wayPage m_wayKnown m_wayGuess m_wayDiff m_wayRead m_wayPlace m_entries m_forks m_guess m_diff m_read m_placeOf v1 v2 v3 = some (o_heads, o_forkBit, o_forkFrom, o_forkTo, o_wayPage, o_wayKnown, o_wayGuess, o_wayDiff, o_wayRead, o_wayPlace, o_entries, o_forks, o_guess, o_diff, o_read, o_placeOf) → W p l e { frames := 5, cells := 0, slots := 0, locals := 123 } s m args below meth c H locs 0 0 Q (F0 m 9 ls [])) {k143 : (Nat → Int32) → (Nat → Int32) → (Nat → Int32) → (Nat → Int32) → (Nat → Int32) → (Nat → Int32) → (Nat → Int32) → (Nat → Int32) → (Nat → Int32) → (Nat → Int32) → Int32 → Int32 → Int32 → Int32 → Int32 → Int32 → Option ((Nat → Int32) × (Nat → Int32) × (Nat → Int32) × (Nat → Int32) × (Nat → Int32) × (Nat → Int32) × (Nat → Int32) × (Nat → Int32) × (Nat → Int32) × (Nat → Int32) × Int32 × Int32 × Int32 × Int32 × Int32 × Int32)} (hk143 : ∀ (m_heads : (Nat → Int32)) (m_forkBit : (Nat → Int32)) (m_forkFrom : (Nat → Int32)) (m_forkTo : (Nat → Int32)) (m_wayPage : (Nat → Int32)) (m_wayKnown : (Nat → Int32)) (m_wayGuess : (Nat → Int32)) (m_wayDiff : (Nat → Int32)) (m_wayRead : (Nat → Int32)) (m_wayPlace : (Nat → Int32)) (m_entries : Int32) (m_forks : Int32) (m_guess : Int32) (m_diff : Int32) (m_read : Int32) (m_placeOf : Int32) (H : Heap) (locs : List Loc) (ls : Array Slot), va_P D vwCl (WM a cI m_s m_past m_kept m_refused m_text m_asked m_heads m_forkBit m_forkFrom m_forkTo m_wayPage m_wayKnown m_wayGuess m_wayDiff m_wayRead m_wayPlace m_treeBit m_treeLeft m_treeRight m_treeAbove m_pileFrom m_pileTo m_pileAbove m_known m_typed m_askedLength m_entries m_forks m_guess m_diff m_read m_placeOf m_treeForks m_treeDeep) H → va_S A s.heap H locs → lv_has ls 6 [] → k143 m_heads m_forkBit m_forkFrom m_forkTo m_wayPage m_wayKnown m_wayGuess m_wayDiff m_wayRead m_wayPlace m_entries m_forks m_guess m_diff m_read m_placeOf = some (o_heads, o_forkBit, o_forkFrom, o_forkTo, o_wayPage, o_wayKnown, o_wayGuess, o_wayDiff, o_wayRead, o_wayPlace, o_entries, o_forks, o_guess, o_diff, o_read, o_placeOf) → W p l e { frames := 5, cells := 0, slots := 0, locals := 123 } s m args below meth c H locs 0 0 Q (F0 m 143 ls [])) : ∀ (m_heads : (Nat → Int32)) (m_forkBit : (Nat → Int32)) (m_forkFrom : (Nat → Int32)) (m_forkTo : (Nat → Int32)) (m_wayPage : (Nat → Int32)) (m_wayKnown : (Nat → Int32)) (m_wayGuess : (Nat → Int32)) (m_wayDiff : (Nat → Int32)) (m_wayRead : (Nat → Int32)) (m_wayPlace : (Nat → Int32)) (m_entries : Int32) (m_forks : Int32) (m_guess : Int32) (m_diff : Int32) (m_read : Int32) (m_placeOf : Int32) (v1 : Int32) (v3 : Int32) (v4 : Int32) (t0 : Int32) (H : Heap) (locs : List Loc) (ls : Array Slot), va_P D vwCl (WM a cI m_s m_past m_kept m_refused m_text m_asked m_heads m_forkBit m_forkFrom m_forkTo m_wayPage m_wayKnown m_wayGuess m_wayDiff m_wayRead m_wayPlace m_treeBit m_treeLeft m_treeRight m_treeAbove m_pileFrom m_pileTo m_pileAbove m_known m_typed m_askedLength m_entries m_forks m_guess m_diff m_read m_placeOf m_treeForks m_treeDeep) H → va_S A s.heap H locs → lv_has ls 6 [(0, .ref (a 0)), (1, .int v1), (3, .int v3), (4, .int v4)] → M_goes_J126 m_s m_asked m_askedLength k9 k143 m_heads m_forkBit m_forkFrom m_forkTo m_wayPage m_wayKnown m_wayGuess m_wayDiff m_wayRead m_wayPlace m_entries m_forks m_guess m_diff m_read m_placeOf v1 v3 v4 t0 = some (o_heads, o_forkBit, o_forkFrom, o_forkTo, o_wayPage, o_wayKnown, o_wayGuess, o_wayDiff, o_wayRead, o_wayPlace, o_entries, o_forks, o_guess, o_diff, o_read, o_placeOf) → W p l e { frames := 5, cells := 0, slots := 0, locals := 123 } s m args below meth c H locs 0 0 Q (F0 m 126 ls [.int t0]) := by
  obtain ⟨hx, hb, hml, hr, hown, hts, hlocks, hK, hA, hN⟩ := id C
  intro m_heads m_forkBit m_forkFrom m_forkTo m_wayPage m_wayKnown m_wayGuess m_wayDiff m_wayRead m_wayPlace m_entries m_forks m_guess m_diff m_read m_placeOf v1 v3 v4 t0 H locs ls hP hS hl hm
  rw [M_goes_J126] at hm
  refine lv_istore_n (lv' := [(2, .int t0), (0, .ref (a 0)), (1, .int v1), (3, .int v3), (4, .int v4)]) hx hb dX8_goes_126 rfl hl (by decide) rfl (fun ls hl => ?_)
  refine lv_aload_n hx hb dX8_goes_127 rfl (lv_at hl 1 rfl) ?_
  refine lv_iload_n hx hb dX8_goes_128 rfl (lv_at hl 3 rfl) ?_
  refine lv_iload_n hx hb dX8_goes_129 rfl (lv_at hl 2 rfl) ?_
  obtain ⟨r130, hq, hm⟩ := bd1_some hm
  refine k_callVI (As := [.int v3, .int v1]) (rest := []) ⟨hx, hb, hml, hown, hts⟩ hK hA hN (c_X8_entriesAhead (a := a) hq) (cwV 2 hts gX8_goes_X8_entriesAhead rfl rfl rfl hdX8_entriesAhead ⟨Nat.le_of_ble_eq_true rfl, Nat.le_of_ble_eq_true rfl⟩) hP (va_D_re hD rfl) hS 0 8 rfl rfl rfl hl.1 rfl rfl (Nat.le_of_ble_eq_true rfl) ⟨Nat.zero_le _, Nat.zero_le _⟩ dX8_goes_130 (fun H locs hP hS => ?_)
  refine lv_iload hx hb dX8_goes_133 (lv_at hl 4 rfl) ?_
  refine lv_iadd hx hb dX8_goes_135 ?_
  refine lv_istore_n (lv' := [(1, .int (r130 + v4)), (2, .int t0), (0, .ref (a 0)), (3, .int v3), (4, .int v4)]) hx hb dX8_goes_136 rfl hl (by decide) rfl (fun ls hl => ?_)
  refine lv_iinc (v := (v3 + (-1))) (lv' := [(3, .int (v3 + (-1))), (1, .int (r130 + v4)), (2, .int t0), (0, .ref (a 0)), (4, .int v4)]) hx hb dX8_goes_137 hl (k := 3) rfl rfl (by decide) rfl (fun ls hl => ?_)
  refine lv_goto (tgt := 9) hx hb dX8_goes_140 (by decide) ?_
  exact hk9 _ _ _ _ _ _ _ _ _ _ _ _ _ _ _ _ _ _ _ _ _ _ hP hS (lv_sub hl [3, 1, 2, 0] rfl) hm
set_option maxRecDepth 100000 in
set_option maxHeartbeats 4000000 in
theorem t_M_goes_J91 {p : Program} {l : Launch} {e : Env} {s : State} {m : MethodId} {args : Array Value} {below : List Frame} {meth : Method} {c : Code} {Q : State → Prop} {A : Nat → Prop} {D : va_G} {cI cJ cB cL cS cW : ClassId} {a : Nat → Nat} {m_s m_past m_kept m_refused m_text m_asked m_treeBit m_treeLeft m_treeRight m_treeAbove m_pileFrom m_pileTo m_pileAbove : Nat → Int32} {m_known m_typed m_askedLength m_treeForks m_treeDeep : Int32} {o_heads : Nat → Int32} {o_forkBit : Nat → Int32} {o_forkFrom : Nat → Int32} {o_forkTo : Nat → Int32} {o_wayPage : Nat → Int32} {o_wayKnown : Nat → Int32} {o_wayGuess : Nat → Int32} {o_wayDiff : Nat → Int32} {o_wayRead : Nat → Int32} {o_wayPlace : Nat → Int32} {o_entries : Int32} {o_forks : Int32} {o_guess : Int32} {o_diff : Int32} {o_read : Int32} {o_placeOf : Int32} (C : k_C p s m args meth c cX8_goes 6 none RX8 wsX8_goes D (kT cI cJ cB cL cS cW) A) (hD : va_D A (WM0 a cI)) (hret : ∀ (H : Heap) (locs : List Loc) (pc : Nat) (ls : Array Slot), decode cX8_goes pc = .ok (.return_, 1) → va_P D vwCl (WM a cI m_s m_past m_kept m_refused m_text m_asked o_heads o_forkBit o_forkFrom o_forkTo o_wayPage o_wayKnown o_wayGuess o_wayDiff o_wayRead o_wayPlace m_treeBit m_treeLeft m_treeRight m_treeAbove m_pileFrom m_pileTo m_pileAbove m_known m_typed m_askedLength o_entries o_forks o_guess o_diff o_read o_placeOf m_treeForks m_treeDeep) H → va_S A s.heap H locs → W p l e { frames := 5, cells := 0, slots := 0, locals := 123 } s m args below meth c H locs 0 0 Q (F0 m pc ls [])) {k9 : (Nat → Int32) → (Nat → Int32) → (Nat → Int32) → (Nat → Int32) → (Nat → Int32) → (Nat → Int32) → (Nat → Int32) → (Nat → Int32) → (Nat → Int32) → (Nat → Int32) → Int32 → Int32 → Int32 → Int32 → Int32 → Int32 → Int32 → Int32 → Int32 → Option ((Nat → Int32) × (Nat → Int32) × (Nat → Int32) × (Nat → Int32) × (Nat → Int32) × (Nat → Int32) × (Nat → Int32) × (Nat → Int32) × (Nat → Int32) × (Nat → Int32) × Int32 × Int32 × Int32 × Int32 × Int32 × Int32)} (hk9 : ∀ (m_heads : (Nat → Int32)) (m_forkBit : (Nat → Int32)) (m_forkFrom : (Nat → Int32)) (m_forkTo : (Nat → Int32)) (m_wayPage : (Nat → Int32)) (m_wayKnown : (Nat → Int32)) (m_wayGuess : (Nat → Int32)) (m_wayDiff : (Nat → Int32)) (m_wayRead : (Nat → Int32)) (m_wayPlace : (Nat → Int32)) (m_entries : Int32) (m_forks : Int32) (m_guess : Int32) (m_diff : Int32) (m_read : Int32) (m_placeOf : Int32) (v1 : Int32) (v2 : Int32) (v3 : Int32) (H : Heap) (locs : List Loc) (ls : Array Slot), va_P D vwCl (WM a cI m_s m_past m_kept m_refused m_text m_asked m_heads m_forkBit m_forkFrom m_forkTo m_wayPage m_wayKnown m_wayGuess m_wayDiff m_wayRead m_wayPlace m_treeBit m_treeLeft m_treeRight m_treeAbove m_pileFrom m_pileTo m_pileAbove m_known m_typed m_askedLength m_entries m_forks m_guess m_diff m_read m_placeOf m_treeForks m_treeDeep) H → va_S A s.heap H locs → lv_has ls 6 [(0, .ref (a 0)), (1, .int v1), (2, .int v2), (3, .int v3)] → k9 m_heads m_forkBit m_forkFrom m_forkTo m_wayPage m_wayKnown m_wayGuess m_wayDiff m_wayRead m_wayPlace m_entries m_forks m_guess m_diff m_read m_placeOf v1 v2 v3 = some (o_heads, o_forkBit, o_forkFrom, o_forkTo, o_wayPage, o_wayKnown, o_wayGuess, o_wayDiff, o_wayRead, o_wayPlace, o_entries, o_forks, o_guess, o_diff, o_read, o_placeOf) → W p l e { frames := 5, cells := 0, slots := 0, locals := 123 } s m args below meth c H locs 0 0 Q (F0 m 9 ls [])) {k143 : (Nat → Int32) → (Nat → Int32) → (Nat → Int32) → (Nat → Int32) → (Nat → Int32) → (Nat → Int32) → (Nat → Int32) → (Nat → Int32) → (Nat → Int32) → (Nat → Int32) → Int32 → Int32 → Int32 → Int32 → Int32 → Int32 → Option ((Nat → Int32) × (Nat → Int32) × (Nat → Int32) × (Nat → Int32) × (Nat → Int32) × (Nat → Int32) × (Nat → Int32) × (Nat → Int32) × (Nat → Int32) × (Nat → Int32) × Int32 × Int32 × Int32 × Int32 × Int32 × Int32)} (hk143 : ∀ (m_heads : (Nat → Int32)) (m_forkBit : (Nat → Int32)) (m_forkFrom : (Nat → Int32)) (m_forkTo : (Nat → Int32)) (m_wayPage : (Nat → Int32)) (m_wayKnown : (Nat → Int32)) (m_wayGuess : (Nat → Int32)) (m_wayDiff : (Nat → Int32)) (m_wayRead : (Nat → Int32)) (m_wayPlace : (Nat → Int32)) (m_entries : Int32) (m_forks : Int32) (m_guess : Int32) (m_diff : Int32) (m_read : Int32) (m_placeOf : Int32) (H : Heap) (locs : List Loc) (ls : Array Slot), va_P D vwCl (WM a cI m_s m_past m_kept m_refused m_text m_asked m_heads m_forkBit m_forkFrom m_forkTo m_wayPage m_wayKnown m_wayGuess m_wayDiff m_wayRead m_wayPlace m_treeBit m_treeLeft m_treeRight m_treeAbove m_pileFrom m_pileTo m_pileAbove m_known m_typed m_askedLength m_entries m_forks m_guess m_diff m_read m_placeOf m_treeForks m_treeDeep) H → va_S A s.heap H locs → lv_has ls 6 [] → k143 m_heads m_forkBit m_forkFrom m_forkTo m_wayPage m_wayKnown m_wayGuess m_wayDiff m_wayRead m_wayPlace m_entries m_forks m_guess m_diff m_read m_placeOf = some (o_heads, o_forkBit, o_forkFrom, o_forkTo, o_wayPage, o_wayKnown, o_wayGuess, o_wayDiff, o_wayRead, o_wayPlace, o_entries, o_forks, o_guess, o_diff, o_read, o_placeOf) → W p l e { frames := 5, cells := 0, slots := 0, locals := 123 } s m args below meth c H locs 0 0 Q (F0 m 143 ls [])) : ∀ (m_heads : (Nat → Int32)) (m_forkBit : (Nat → Int32)) (m_forkFrom : (Nat → Int32)) (m_forkTo : (Nat → Int32)) (m_wayPage : (Nat → Int32)) (m_wayKnown : (Nat → Int32)) (m_wayGuess : (Nat → Int32)) (m_wayDiff : (Nat → Int32)) (m_wayRead : (Nat → Int32)) (m_wayPlace : (Nat → Int32)) (m_entries : Int32) (m_forks : Int32) (m_guess : Int32) (m_diff : Int32) (m_read : Int32) (m_placeOf : Int32) (v1 : Int32) (v3 : Int32) (t0 : Int32) (H : Heap) (locs : List Loc) (ls : Array Slot), va_P D vwCl (WM a cI m_s m_past m_kept m_refused m_text m_asked m_heads m_forkBit m_forkFrom m_forkTo m_wayPage m_wayKnown m_wayGuess m_wayDiff m_wayRead m_wayPlace m_treeBit m_treeLeft m_treeRight m_treeAbove m_pileFrom m_pileTo m_pileAbove m_known m_typed m_askedLength m_entries m_forks m_guess m_diff m_read m_placeOf m_treeForks m_treeDeep) H → va_S A s.heap H locs → lv_has ls 6 [(0, .ref (a 0)), (1, .int v1), (3, .int v3)] → M_goes_J91 m_s m_asked m_askedLength k9 k143 m_heads m_forkBit m_forkFrom m_forkTo m_wayPage m_wayKnown m_wayGuess m_wayDiff m_wayRead m_wayPlace m_entries m_forks m_guess m_diff m_read m_placeOf v1 v3 t0 = some (o_heads, o_forkBit, o_forkFrom, o_forkTo, o_wayPage, o_wayKnown, o_wayGuess, o_wayDiff, o_wayRead, o_wayPlace, o_entries, o_forks, o_guess, o_diff, o_read, o_placeOf) → W p l e { frames := 5, cells := 0, slots := 0, locals := 123 } s m args below meth c H locs 0 0 Q (F0 m 91 ls [.int t0]) := by
  obtain ⟨hx, hb, hml, hr, hown, hts, hlocks, hK, hA, hN⟩ := id C
  intro m_heads m_forkBit m_forkFrom m_forkTo m_wayPage m_wayKnown m_wayGuess m_wayDiff m_wayRead m_wayPlace m_entries m_forks m_guess m_diff m_read m_placeOf v1 v3 t0 H locs ls hP hS hl hm
  rw [M_goes_J91] at hm
  refine lv_istore (lv' := [(4, .int t0), (0, .ref (a 0)), (1, .int v1), (3, .int v3)]) hx hb dX8_goes_91 hl (by decide) rfl (fun ls hl => ?_)
  refine lv_aload_n hx hb dX8_goes_93 rfl (lv_at hl 1 rfl) ?_
  refine lv_bipush (v := 48) hx hb dX8_goes_94 (by decide) ?_
  refine lv_aload_n hx hb dX8_goes_96 rfl (lv_at hl 1 rfl) ?_
  refine kg (v := .ref (a 7)) hx hb hts hiX8_goes hown hK hP 0 rfl rfl 9 (by decide) flX8_goes_28 rfl rfl dX8_goes_97 ?_
  refine lv_iload hx hb dX8_goes_100 (lv_at hl 0 rfl) ?_
  obtain ⟨hi, hm⟩ := ga_some hm
  refine k_iald hx hb hK hP 7 0 rfl rfl rfl hi dX8_goes_102 ?_
  obtain ⟨r103, hq, hm⟩ := bd1_some hm
  refine k_callVI (As := [.int 48, .int (m_heads t0.toNatClampNeg)]) (rest := []) ⟨hx, hb, hml, hown, hts⟩ hK hA hN (c_X8_differ (a := a) hq) (cwV 2 hts gX8_goes_X8_differ rfl rfl rfl hdX8_differ ⟨Nat.le_of_ble_eq_true rfl, Nat.le_of_ble_eq_true rfl⟩) hP (va_D_re hD rfl) hS 0 8 rfl rfl rfl hl.1 rfl rfl (Nat.le_of_ble_eq_true rfl) ⟨Nat.zero_le _, Nat.zero_le _⟩ dX8_goes_103 (fun H locs hP hS => ?_)
  refine lv_istore (lv' := [(5, .int r103), (4, .int t0), (0, .ref (a 0)), (1, .int v1), (3, .int v3)]) hx hb dX8_goes_106 hl (by decide) rfl (fun ls hl => ?_)
  refine lv_iload hx hb dX8_goes_108 (lv_at hl 0 rfl) ?_
  refine lv_iconst (v := (-1)) hx hb dX8_goes_110 (by decide) ?_
  refine lv_icmp_ne (tgt := 124) hx hb dX8_goes_111 (by decide) (fun hc => ?_) (fun hc => ?_)
  · have hm := if_f hc hm
    refine lv_iload hx hb dX8_goes_124 (lv_at hl 0 rfl) ?_
    exact t_M_goes_J126 C hD hret hk9 hk143 _ _ _ _ _ _ _ _ _ _ _ _ _ _ _ _ _ _ _ _ _ _ _ hP hS (lv_sub hl [2, 3, 4, 1] rfl) hm
  · have hm := if_t hc hm
    refine lv_bipush (v := 8) hx hb dX8_goes_114 (by decide) ?_
    refine lv_aload_n hx hb dX8_goes_116 rfl (lv_at hl 2 rfl) ?_
    refine kg (v := .int m_askedLength) hx hb hts hiX8_goes hown hK hP 0 rfl rfl 8 (by decide) flX8_goes_83 rfl rfl dX8_goes_117 ?_
    refine lv_imul hx hb dX8_goes_120 ?_
    refine lv_goto (tgt := 126) hx hb dX8_goes_121 (by decide) ?_
    exact t_M_goes_J126 C hD hret hk9 hk143 _ _ _ _ _ _ _ _ _ _ _ _ _ _ _ _ _ _ _ _ _ _ _ hP hS (lv_sub hl [2, 3, 4, 1] rfl) hm
set_option maxRecDepth 100000 in
set_option maxHeartbeats 4000000 in
theorem t_M_goes_L9 {p : Program} {l : Launch} {e : Env} {s : State} {m : MethodId} {args : Array Value} {below : List Frame} {meth : Method} {c : Code} {Q : State → Prop} {A : Nat → Prop} {D : va_G} {cI cJ cB cL cS cW : ClassId} {a : Nat → Nat} {m_s m_past m_kept m_refused m_text m_asked m_treeBit m_treeLeft m_treeRight m_treeAbove m_pileFrom m_pileTo m_pileAbove : Nat → Int32} {m_known m_typed m_askedLength m_treeForks m_treeDeep : Int32} {o_heads : Nat → Int32} {o_forkBit : Nat → Int32} {o_forkFrom : Nat → Int32} {o_forkTo : Nat → Int32} {o_wayPage : Nat → Int32} {o_wayKnown : Nat → Int32} {o_wayGuess : Nat → Int32} {o_wayDiff : Nat → Int32} {o_wayRead : Nat → Int32} {o_wayPlace : Nat → Int32} {o_entries : Int32} {o_forks : Int32} {o_guess : Int32} {o_diff : Int32} {o_read : Int32} {o_placeOf : Int32} (C : k_C p s m args meth c cX8_goes 6 none RX8 wsX8_goes D (kT cI cJ cB cL cS cW) A) (hD : va_D A (WM0 a cI)) (hret : ∀ (H : Heap) (locs : List Loc) (pc : Nat) (ls : Array Slot), decode cX8_goes pc = .ok (.return_, 1) → va_P D vwCl (WM a cI m_s m_past m_kept m_refused m_text m_asked o_heads o_forkBit o_forkFrom o_forkTo o_wayPage o_wayKnown o_wayGuess o_wayDiff o_wayRead o_wayPlace m_treeBit m_treeLeft m_treeRight m_treeAbove m_pileFrom m_pileTo m_pileAbove m_known m_typed m_askedLength o_entries o_forks o_guess o_diff o_read o_placeOf m_treeForks m_treeDeep) H → va_S A s.heap H locs → W p l e { frames := 5, cells := 0, slots := 0, locals := 123 } s m args below meth c H locs 0 0 Q (F0 m pc ls [])) {k143 : (Nat → Int32) → (Nat → Int32) → (Nat → Int32) → (Nat → Int32) → (Nat → Int32) → (Nat → Int32) → (Nat → Int32) → (Nat → Int32) → (Nat → Int32) → (Nat → Int32) → Int32 → Int32 → Int32 → Int32 → Int32 → Int32 → Option ((Nat → Int32) × (Nat → Int32) × (Nat → Int32) × (Nat → Int32) × (Nat → Int32) × (Nat → Int32) × (Nat → Int32) × (Nat → Int32) × (Nat → Int32) × (Nat → Int32) × Int32 × Int32 × Int32 × Int32 × Int32 × Int32)} (hk143 : ∀ (m_heads : (Nat → Int32)) (m_forkBit : (Nat → Int32)) (m_forkFrom : (Nat → Int32)) (m_forkTo : (Nat → Int32)) (m_wayPage : (Nat → Int32)) (m_wayKnown : (Nat → Int32)) (m_wayGuess : (Nat → Int32)) (m_wayDiff : (Nat → Int32)) (m_wayRead : (Nat → Int32)) (m_wayPlace : (Nat → Int32)) (m_entries : Int32) (m_forks : Int32) (m_guess : Int32) (m_diff : Int32) (m_read : Int32) (m_placeOf : Int32) (H : Heap) (locs : List Loc) (ls : Array Slot), va_P D vwCl (WM a cI m_s m_past m_kept m_refused m_text m_asked m_heads m_forkBit m_forkFrom m_forkTo m_wayPage m_wayKnown m_wayGuess m_wayDiff m_wayRead m_wayPlace m_treeBit m_treeLeft m_treeRight m_treeAbove m_pileFrom m_pileTo m_pileAbove m_known m_typed m_askedLength m_entries m_forks m_guess m_diff m_read m_placeOf m_treeForks m_treeDeep) H → va_S A s.heap H locs → lv_has ls 6 [] → k143 m_heads m_forkBit m_forkFrom m_forkTo m_wayPage m_wayKnown m_wayGuess m_wayDiff m_wayRead m_wayPlace m_entries m_forks m_guess m_diff m_read m_placeOf = some (o_heads, o_forkBit, o_forkFrom, o_forkTo, o_wayPage, o_wayKnown, o_wayGuess, o_wayDiff, o_wayRead, o_wayPlace, o_entries, o_forks, o_guess, o_diff, o_read, o_placeOf) → W p l e { frames := 5, cells := 0, slots := 0, locals := 123 } s m args below meth c H locs 0 0 Q (F0 m 143 ls [])) : ∀ n : Nat, ∀ (m_heads : (Nat → Int32)) (m_forkBit : (Nat → Int32)) (m_forkFrom : (Nat → Int32)) (m_forkTo : (Nat → Int32)) (m_wayPage : (Nat → Int32)) (m_wayKnown : (Nat → Int32)) (m_wayGuess : (Nat → Int32)) (m_wayDiff : (Nat → Int32)) (m_wayRead : (Nat → Int32)) (m_wayPlace : (Nat → Int32)) (m_entries : Int32) (m_forks : Int32) (m_guess : Int32) (m_diff : Int32) (m_read : Int32) (m_placeOf : Int32) (v1 : Int32) (v2 : Int32) (v3 : Int32) (H : Heap) (locs : List Loc) (ls : Array Slot), va_P D vwCl (WM a cI m_s m_past m_kept m_refused m_text m_asked m_heads m_forkBit m_forkFrom m_forkTo m_wayPage m_wayKnown m_wayGuess m_wayDiff m_wayRead m_wayPlace m_treeBit m_treeLeft m_treeRight m_treeAbove m_pileFrom m_pileTo m_pileAbove m_known m_typed m_askedLength m_entries m_forks m_guess m_diff m_read m_placeOf m_treeForks m_treeDeep) H → va_S A s.heap H locs → lv_has ls 6 [(0, .ref (a 0)), (1, .int v1), (2, .int v2), (3, .int v3)] → (M_goes_L9 m_s m_asked m_askedLength k143 n) m_heads m_forkBit m_forkFrom m_forkTo m_wayPage m_wayKnown m_wayGuess m_wayDiff m_wayRead m_wayPlace m_entries m_forks m_guess m_diff m_read m_placeOf v1 v2 v3 = some (o_heads, o_forkBit, o_forkFrom, o_forkTo, o_wayPage, o_wayKnown, o_wayGuess, o_wayDiff, o_wayRead, o_wayPlace, o_entries, o_forks, o_guess, o_diff, o_read, o_placeOf) → W p l e { frames := 5, cells := 0, slots := 0, locals := 123 } s m args below meth c H locs 0 0 Q (F0 m 9 ls []) := by
  obtain ⟨hx, hb, hml, hr, hown, hts, hlocks, hK, hA, hN⟩ := id C
  intro n
  induction n with
  | zero =>
    intro m_heads m_forkBit m_forkFrom m_forkTo m_wayPage m_wayKnown m_wayGuess m_wayDiff m_wayRead m_wayPlace m_entries m_forks m_guess m_diff m_read m_placeOf v1 v2 v3 H locs ls hP hS hl hm
    cases hm
  | succ n ih =>
    intro m_heads m_forkBit m_forkFrom m_forkTo m_wayPage m_wayKnown m_wayGuess m_wayDiff m_wayRead m_wayPlace m_entries m_forks m_guess m_diff m_read m_placeOf v1 v2 v3 H locs ls hP hS hl hm
    rw [M_goes_L9] at hm
    refine lv_iload_n hx hb dX8_goes_9 rfl (lv_at hl 3 rfl) ?_
    refine lv_if_lt (tgt := 143) hx hb dX8_goes_10 (by decide) (fun hc => ?_) (fun hc => ?_)
    · have hm := if_t hc hm
      exact hk143 _ _ _ _ _ _ _ _ _ _ _ _ _ _ _ _ _ _ _ hP hS (lv_sub hl [] rfl) hm
    · have hm := if_f hc hm
      refine lv_aload_n hx hb dX8_goes_13 rfl (lv_at hl 0 rfl) ?_
      refine lv_iload_n hx hb dX8_goes_14 rfl (lv_at hl 3 rfl) ?_
      refine lv_iload_n hx hb dX8_goes_15 rfl (lv_at hl 1 rfl) ?_
      refine lv_iload_n hx hb dX8_goes_16 rfl (lv_at hl 2 rfl) ?_
      obtain ⟨m_heads_17, m_forkBit_17, m_forkFrom_17, m_forkTo_17, m_entries_17, m_forks_17, m_guess_17, m_diff_17, m_read_17, m_placeOf_17, hq, hm⟩ := bd10_some hm
      refine k_callVV (As := [.int v3, .int v1, .int v2]) (rest := []) ⟨hx, hb, hml, hown, hts⟩ hK hA hN (c_X8_looksAt (a := a) hq) (cwV 3 hts gX8_goes_X8_looksAt rfl rfl rfl hdX8_looksAt ⟨Nat.le_of_ble_eq_true rfl, Nat.le_of_ble_eq_true rfl⟩) hP (va_D_re hD rfl) hS 0 8 rfl rfl rfl hl.1 rfl rfl (Nat.le_of_ble_eq_true rfl) ⟨Nat.zero_le _, Nat.zero_le _⟩ dX8_goes_17 (fun H locs hP hS => ?_)
      refine lv_aload_n hx hb dX8_goes_20 rfl (lv_at hl 0 rfl) ?_
      refine kg (v := .ref (a 11)) hx hb hts hiX8_goes hown hK hP 0 rfl rfl 19 (by decide) flX8_goes_40 rfl rfl dX8_goes_21 ?_
      refine lv_iload_n hx hb dX8_goes_24 rfl (lv_at hl 3 rfl) ?_
      refine lv_iload_n hx hb dX8_goes_25 rfl (lv_at hl 1 rfl) ?_
      obtain ⟨hi, hm⟩ := ga_some hm
      refine k_iast hx hb hK hP (va_D_re hD rfl) hS 11 0 rfl rfl rfl hi dX8_goes_26 (fun H locs hP hS => ?_)
      have hP : va_P D vwCl (WM a cI m_s m_past m_kept m_refused m_text m_asked m_heads_17 m_forkBit_17 m_forkFrom_17 m_forkTo_17 (upd m_wayPage v3.toNatClampNeg v1) m_wayKnown m_wayGuess m_wayDiff m_wayRead m_wayPlace m_treeBit m_treeLeft m_treeRight m_treeAbove m_pileFrom m_pileTo m_pileAbove m_known m_typed m_askedLength m_entries_17 m_forks_17 m_guess_17 m_diff_17 m_read_17 m_placeOf_17 m_treeForks m_treeDeep) H := hP
      refine lv_aload_n hx hb dX8_goes_27 rfl (lv_at hl 0 rfl) ?_
      refine kg (v := .ref (a 12)) hx hb hts hiX8_goes hown hK hP 0 rfl rfl 20 (by decide) flX8_goes_43 rfl rfl dX8_goes_28 ?_
      refine lv_iload_n hx hb dX8_goes_31 rfl (lv_at hl 3 rfl) ?_
      refine lv_iload_n hx hb dX8_goes_32 rfl (lv_at hl 2 rfl) ?_
      obtain ⟨hi, hm⟩ := ga_some hm
      refine k_iast hx hb hK hP (va_D_re hD rfl) hS 12 0 rfl rfl rfl hi dX8_goes_33 (fun H locs hP hS => ?_)
      have hP : va_P D vwCl (WM a cI m_s m_past m_kept m_refused m_text m_asked m_heads_17 m_forkBit_17 m_forkFrom_17 m_forkTo_17 (upd m_wayPage v3.toNatClampNeg v1) (upd m_wayKnown v3.toNatClampNeg v2) m_wayGuess m_wayDiff m_wayRead m_wayPlace m_treeBit m_treeLeft m_treeRight m_treeAbove m_pileFrom m_pileTo m_pileAbove m_known m_typed m_askedLength m_entries_17 m_forks_17 m_guess_17 m_diff_17 m_read_17 m_placeOf_17 m_treeForks m_treeDeep) H := hP
      refine lv_aload_n hx hb dX8_goes_34 rfl (lv_at hl 0 rfl) ?_
      refine kg (v := .ref (a 13)) hx hb hts hiX8_goes hown hK hP 0 rfl rfl 21 (by decide) flX8_goes_46 rfl rfl dX8_goes_35 ?_
      refine lv_iload_n hx hb dX8_goes_38 rfl (lv_at hl 3 rfl) ?_
      refine lv_aload_n hx hb dX8_goes_39 rfl (lv_at hl 0 rfl) ?_
      refine kg (v := .int m_guess_17) hx hb hts hiX8_goes hown hK hP 0 rfl rfl 15 (by decide) flX8_goes_137 rfl rfl dX8_goes_40 ?_
      obtain ⟨hi, hm⟩ := ga_some hm
      refine k_iast hx hb hK hP (va_D_re hD rfl) hS 13 0 rfl rfl rfl hi dX8_goes_43 (fun H locs hP hS => ?_)
      have hP : va_P D vwCl (WM a cI m_s m_past m_kept m_refused m_text m_asked m_heads_17 m_forkBit_17 m_forkFrom_17 m_forkTo_17 (upd m_wayPage v3.toNatClampNeg v1) (upd m_wayKnown v3.toNatClampNeg v2) (upd m_wayGuess v3.toNatClampNeg m_guess_17) m_wayDiff m_wayRead m_wayPlace m_treeBit m_treeLeft m_treeRight m_treeAbove m_pileFrom m_pileTo m_pileAbove m_known m_typed m_askedLength m_entries_17 m_forks_17 m_guess_17 m_diff_17 m_read_17 m_placeOf_17 m_treeForks m_treeDeep) H := hP
      refine lv_aload_n hx hb dX8_goes_44 rfl (lv_at hl 0 rfl) ?_
      refine kg (v := .ref (a 14)) hx hb hts hiX8_goes hown hK hP 0 rfl rfl 22 (by decide) flX8_goes_49 rfl rfl dX8_goes_45 ?_
      refine lv_iload_n hx hb dX8_goes_48 rfl (lv_at hl 3 rfl) ?_
      refine lv_aload_n hx hb dX8_goes_49 rfl (lv_at hl 0 rfl) ?_
      refine kg (v := .int m_diff_17) hx hb hts hiX8_goes hown hK hP 0 rfl rfl 16 (by decide) flX8_goes_140 rfl rfl dX8_goes_50 ?_
      obtain ⟨hi, hm⟩ := ga_some hm
      refine k_iast hx hb hK hP (va_D_re hD rfl) hS 14 0 rfl rfl rfl hi dX8_goes_53 (fun H locs hP hS => ?_)
      have hP : va_P D vwCl (WM a cI m_s m_past m_kept m_refused m_text m_asked m_heads_17 m_forkBit_17 m_forkFrom_17 m_forkTo_17 (upd m_wayPage v3.toNatClampNeg v1) (upd m_wayKnown v3.toNatClampNeg v2) (upd m_wayGuess v3.toNatClampNeg m_guess_17) (upd m_wayDiff v3.toNatClampNeg m_diff_17) m_wayRead m_wayPlace m_treeBit m_treeLeft m_treeRight m_treeAbove m_pileFrom m_pileTo m_pileAbove m_known m_typed m_askedLength m_entries_17 m_forks_17 m_guess_17 m_diff_17 m_read_17 m_placeOf_17 m_treeForks m_treeDeep) H := hP
      refine lv_aload_n hx hb dX8_goes_54 rfl (lv_at hl 0 rfl) ?_
      refine kg (v := .ref (a 15)) hx hb hts hiX8_goes hown hK hP 0 rfl rfl 23 (by decide) flX8_goes_52 rfl rfl dX8_goes_55 ?_
      refine lv_iload_n hx hb dX8_goes_58 rfl (lv_at hl 3 rfl) ?_
      refine lv_aload_n hx hb dX8_goes_59 rfl (lv_at hl 0 rfl) ?_
      refine kg (v := .int m_read_17) hx hb hts hiX8_goes hown hK hP 0 rfl rfl 17 (by decide) flX8_goes_143 rfl rfl dX8_goes_60 ?_
      obtain ⟨hi, hm⟩ := ga_some hm
      refine k_iast hx hb hK hP (va_D_re hD rfl) hS 15 0 rfl rfl rfl hi dX8_goes_63 (fun H locs hP hS => ?_)
      have hP : va_P D vwCl (WM a cI m_s m_past m_kept m_refused m_text m_asked m_heads_17 m_forkBit_17 m_forkFrom_17 m_forkTo_17 (upd m_wayPage v3.toNatClampNeg v1) (upd m_wayKnown v3.toNatClampNeg v2) (upd m_wayGuess v3.toNatClampNeg m_guess_17) (upd m_wayDiff v3.toNatClampNeg m_diff_17) (upd m_wayRead v3.toNatClampNeg m_read_17) m_wayPlace m_treeBit m_treeLeft m_treeRight m_treeAbove m_pileFrom m_pileTo m_pileAbove m_known m_typed m_askedLength m_entries_17 m_forks_17 m_guess_17 m_diff_17 m_read_17 m_placeOf_17 m_treeForks m_treeDeep) H := hP
      refine lv_aload_n hx hb dX8_goes_64 rfl (lv_at hl 0 rfl) ?_
      refine kg (v := .ref (a 16)) hx hb hts hiX8_goes hown hK hP 0 rfl rfl 24 (by decide) flX8_goes_55 rfl rfl dX8_goes_65 ?_
      refine lv_iload_n hx hb dX8_goes_68 rfl (lv_at hl 3 rfl) ?_
      refine lv_aload_n hx hb dX8_goes_69 rfl (lv_at hl 0 rfl) ?_
      refine kg (v := .int m_placeOf_17) hx hb hts hiX8_goes hown hK hP 0 rfl rfl 18 (by decide) flX8_goes_146 rfl rfl dX8_goes_70 ?_
      obtain ⟨hi, hm⟩ := ga_some hm
      refine k_iast hx hb hK hP (va_D_re hD rfl) hS 16 0 rfl rfl rfl hi dX8_goes_73 (fun H locs hP hS => ?_)
      have hP : va_P D vwCl (WM a cI m_s m_past m_kept m_refused m_text m_asked m_heads_17 m_forkBit_17 m_forkFrom_17 m_forkTo_17 (upd m_wayPage v3.toNatClampNeg v1) (upd m_wayKnown v3.toNatClampNeg v2) (upd m_wayGuess v3.toNatClampNeg m_guess_17) (upd m_wayDiff v3.toNatClampNeg m_diff_17) (upd m_wayRead v3.toNatClampNeg m_read_17) (upd m_wayPlace v3.toNatClampNeg m_placeOf_17) m_treeBit m_treeLeft m_treeRight m_treeAbove m_pileFrom m_pileTo m_pileAbove m_known m_typed m_askedLength m_entries_17 m_forks_17 m_guess_17 m_diff_17 m_read_17 m_placeOf_17 m_treeForks m_treeDeep) H := hP
      refine lv_aload_n hx hb dX8_goes_74 rfl (lv_at hl 0 rfl) ?_
      refine kg (v := .int m_placeOf_17) hx hb hts hiX8_goes hown hK hP 0 rfl rfl 18 (by decide) flX8_goes_146 rfl rfl dX8_goes_75 ?_
      refine lv_if_ne (tgt := 85) hx hb dX8_goes_78 (by decide) (fun hc => ?_) (fun hc => ?_)
      · have hm := if_f hc hm
        refine lv_aload_n hx hb dX8_goes_85 rfl (lv_at hl 0 rfl) ?_
        refine kg (v := .int m_placeOf_17) hx hb hts hiX8_goes hown hK hP 0 rfl rfl 18 (by decide) flX8_goes_146 rfl rfl dX8_goes_86 ?_
        refine lv_iconst (v := 1) hx hb dX8_goes_89 (by decide) ?_
        refine lv_isub hx hb dX8_goes_90 ?_
        exact t_M_goes_J91 C hD hret ih hk143 _ _ _ _ _ _ _ _ _ _ _ _ _ _ _ _ _ _ _ _ _ _ hP hS (lv_sub hl [0, 1, 3] rfl) hm
      · have hm := if_t hc hm
        refine lv_iconst (v := 0) hx hb dX8_goes_81 (by decide) ?_
        refine lv_goto (tgt := 91) hx hb dX8_goes_82 (by decide) ?_
        exact t_M_goes_J91 C hD hret ih hk143 _ _ _ _ _ _ _ _ _ _ _ _ _ _ _ _ _ _ _ _ _ _ hP hS (lv_sub hl [0, 1, 3] rfl) hm
set_option maxRecDepth 100000 in
set_option maxHeartbeats 4000000 in
theorem c_X8_goes {l : Launch} {D : va_G} {cI cJ cB cL cS cW : ClassId} {a : Nat → Nat} {m_s m_past m_kept m_refused m_text m_asked m_heads m_forkBit m_forkFrom m_forkTo m_wayPage m_wayKnown m_wayGuess m_wayDiff m_wayRead m_wayPlace m_treeBit m_treeLeft m_treeRight m_treeAbove m_pileFrom m_pileTo m_pileAbove : Nat → Int32} {m_known m_typed m_askedLength m_entries m_forks m_guess m_diff m_read m_placeOf m_treeForks m_treeDeep : Int32} {o_heads : Nat → Int32} {o_forkBit : Nat → Int32} {o_forkFrom : Nat → Int32} {o_forkTo : Nat → Int32} {o_wayPage : Nat → Int32} {o_wayKnown : Nat → Int32} {o_wayGuess : Nat → Int32} {o_wayDiff : Nat → Int32} {o_wayRead : Nat → Int32} {o_wayPlace : Nat → Int32} {o_entries : Int32} {o_forks : Int32} {o_guess : Int32} {o_diff : Int32} {o_read : Int32} {o_placeOf : Int32} (hm : M_goes m_s m_asked m_askedLength m_heads m_forkBit m_forkFrom m_forkTo m_wayPage m_wayKnown m_wayGuess m_wayDiff m_wayRead m_wayPlace m_entries m_forks m_guess m_diff m_read m_placeOf = some (o_heads, o_forkBit, o_forkFrom, o_forkTo, o_wayPage, o_wayKnown, o_wayGuess, o_wayDiff, o_wayRead, o_wayPlace, o_entries, o_forks, o_guess, o_diff, o_read, o_placeOf)) : k_MV l yX8_goes wsX8_goes { frames := 5, cells := 0, slots := 0, locals := 123 } D (kT cI cJ cB cL cS cW) [.ref (a 0)] (WM a cI m_s m_past m_kept m_refused m_text m_asked m_heads m_forkBit m_forkFrom m_forkTo m_wayPage m_wayKnown m_wayGuess m_wayDiff m_wayRead m_wayPlace m_treeBit m_treeLeft m_treeRight m_treeAbove m_pileFrom m_pileTo m_pileAbove m_known m_typed m_askedLength m_entries m_forks m_guess m_diff m_read m_placeOf m_treeForks m_treeDeep) (WM a cI m_s m_past m_kept m_refused m_text m_asked o_heads o_forkBit o_forkFrom o_forkTo o_wayPage o_wayKnown o_wayGuess o_wayDiff o_wayRead o_wayPlace m_treeBit m_treeLeft m_treeRight m_treeAbove m_pileFrom m_pileTo m_pileAbove m_known m_typed m_askedLength o_entries o_forks o_guess o_diff o_read o_placeOf m_treeForks m_treeDeep) := by
  refine k_ofV (cc := cX8_goes) (maxL := 6) (own := RX8) (by decide) rfl rfl (Nat.le_of_ble_eq_true rfl) ?_
  intro p e s m args below meth c A Q ls C hP hD hl hret
  have hD : va_D A (WM0 a cI) := va_D_re hD rfl
  have hS : va_S A s.heap s.heap [] := va_S.rf
  have hl : lv_has ls 6 [(0, .ref (a 0))] := hl
  obtain ⟨hx, hb, hml, hr, hown, hts, hlocks, hK, hA, hN⟩ := id C
  rw [M_goes] at hm
  refine lv_iconst (v := 0) hx hb dX8_goes_0 (by decide) ?_
  refine lv_istore_n (lv' := [(1, .int 0), (0, .ref (a 0))]) hx hb dX8_goes_1 rfl hl (by decide) rfl (fun ls hl => ?_)
  refine lv_iconst (v := 0) hx hb dX8_goes_2 (by decide) ?_
  refine lv_istore_n (lv' := [(2, .int 0), (1, .int 0), (0, .ref (a 0))]) hx hb dX8_goes_3 rfl hl (by decide) rfl (fun ls hl => ?_)
  refine lv_aload_n hx hb dX8_goes_4 rfl (lv_at hl 2 rfl) ?_
  obtain ⟨r5, hq, hm⟩ := bd1_some hm
  refine k_callVI (As := []) (rest := []) ⟨hx, hb, hml, hown, hts⟩ hK hA hN (c_X8_topLevel (a := a) hq) (cwV 0 hts gX8_goes_X8_topLevel rfl rfl rfl hdX8_topLevel ⟨Nat.le_of_ble_eq_true rfl, Nat.le_of_ble_eq_true rfl⟩) hP (va_D_re hD rfl) hS 0 8 rfl rfl rfl hl.1 rfl rfl (Nat.le_of_ble_eq_true rfl) ⟨Nat.zero_le _, Nat.zero_le _⟩ dX8_goes_5 (fun H locs hP hS => ?_)
  refine lv_istore_n (lv' := [(3, .int r5), (2, .int 0), (1, .int 0), (0, .ref (a 0))]) hx hb dX8_goes_8 rfl hl (by decide) rfl (fun ls hl => ?_)
  refine t_M_goes_L9 C hD hret ?_ FU _ _ _ _ _ _ _ _ _ _ _ _ _ _ _ _ _ _ _ _ _ _ hP hS (lv_sub hl [3, 2, 1, 0] rfl) hm
  · intro m_heads m_forkBit m_forkFrom m_forkTo m_wayPage m_wayKnown m_wayGuess m_wayDiff m_wayRead m_wayPlace m_entries m_forks m_guess m_diff m_read m_placeOf H locs ls hP hS hl hm
    try dsimp only at hm
    simp only [Option.some.injEq, Prod.mk.injEq] at hm
    obtain ⟨rfl, rfl, rfl, rfl, rfl, rfl, rfl, rfl, rfl, rfl, rfl, rfl, rfl, rfl, rfl, rfl⟩ := hm
    exact hret _ _ _ _ dX8_goes_143 hP hS
theorem hdX8_cost : yX8_cost.cls = RX8 ∧ yX8_cost.cls ≠ "java/lang/invoke/MethodHandle" ∧ yX8_cost.cls ≠ "java/lang/invoke/VarHandle" ∧ (parseMethodDescriptor yX8_cost.desc).map (fun d => d.parameters.length) = some 0 := by decide +kernel
theorem hiX8_cost : ∀ w ∈ u_ws RX8 TX8 34, w ∈ wsX8_cost := by decide +kernel
theorem flX8_cost_7 : Cond.fieldLink RX8 7 "BlindPagesModel" "s" "[I" ∈ wsX8_cost := by decide +kernel
theorem flX8_cost_52 : Cond.fieldLink RX8 52 "BlindPagesModel" "wayRead" "[I" ∈ wsX8_cost := by decide +kernel
def M_cost_L8 (m_s m_asked : Nat → Int32) (m_askedLength : Int32) (k33 : (Nat → Int32) → (Nat → Int32) → (Nat → Int32) → (Nat → Int32) → (Nat → Int32) → (Nat → Int32) → (Nat → Int32) → (Nat → Int32) → (Nat → Int32) → (Nat → Int32) → Int32 → Int32 → Int32 → Int32 → Int32 → Int32 → Int32 → Option (Int32 × (Nat → Int32) × (Nat → Int32) × (Nat → Int32) × (Nat → Int32) × (Nat → Int32) × (Nat → Int32) × (Nat → Int32) × (Nat → Int32) × (Nat → Int32) × (Nat → Int32) × Int32 × Int32 × Int32 × Int32 × Int32 × Int32)) : Nat → (Nat → Int32) → (Nat → Int32) → (Nat → Int32) → (Nat → Int32) → (Nat → Int32) → (Nat → Int32) → (Nat → Int32) → (Nat → Int32) → (Nat → Int32) → (Nat → Int32) → Int32 → Int32 → Int32 → Int32 → Int32 → Int32 → Int32 → Int32 → Option (Int32 × (Nat → Int32) × (Nat → Int32) × (Nat → Int32) × (Nat → Int32) × (Nat → Int32) × (Nat → Int32) × (Nat → Int32) × (Nat → Int32) × (Nat → Int32) × (Nat → Int32) × Int32 × Int32 × Int32 × Int32 × Int32 × Int32)
  | 0, _, _, _, _, _, _, _, _, _, _, _, _, _, _, _, _, _, _ => none
  | n + 1, m_heads, m_forkBit, m_forkFrom, m_forkTo, m_wayPage, m_wayKnown, m_wayGuess, m_wayDiff, m_wayRead, m_wayPlace, m_entries, m_forks, m_guess, m_diff, m_read, m_placeOf, v1, v2 => if (m_s 2) ≤ v2 then (k33 m_heads m_forkBit m_forkFrom m_forkTo m_wayPage m_wayKnown m_wayGuess m_wayDiff m_wayRead m_wayPlace m_entries m_forks m_guess m_diff m_read m_placeOf v1) else (ga v2 8 (M_cost_L8 m_s m_asked m_askedLength k33 n m_heads m_forkBit m_forkFrom m_forkTo m_wayPage m_wayKnown m_wayGuess m_wayDiff m_wayRead m_wayPlace m_entries m_forks m_guess m_diff m_read m_placeOf (v1 + (m_wayRead v2.toNatClampNeg)) (v2 + 1)))
def M_cost (m_s m_asked : Nat → Int32) (m_askedLength : Int32) (m_heads m_forkBit m_forkFrom m_forkTo m_wayPage m_wayKnown m_wayGuess m_wayDiff m_wayRead m_wayPlace : Nat → Int32) (m_entries m_forks m_guess m_diff m_read m_placeOf : Int32) : Option (Int32 × (Nat → Int32) × (Nat → Int32) × (Nat → Int32) × (Nat → Int32) × (Nat → Int32) × (Nat → Int32) × (Nat → Int32) × (Nat → Int32) × (Nat → Int32) × (Nat → Int32) × Int32 × Int32 × Int32 × Int32 × Int32 × Int32) := bd16 (M_goes m_s m_asked m_askedLength m_heads m_forkBit m_forkFrom m_forkTo m_wayPage m_wayKnown m_wayGuess m_wayDiff m_wayRead m_wayPlace m_entries m_forks m_guess m_diff m_read m_placeOf) fun m_heads_1 m_forkBit_1 m_forkFrom_1 m_forkTo_1 m_wayPage_1 m_wayKnown_1 m_wayGuess_1 m_wayDiff_1 m_wayRead_1 m_wayPlace_1 m_entries_1 m_forks_1 m_guess_1 m_diff_1 m_read_1 m_placeOf_1 => M_cost_L8 m_s m_asked m_askedLength (fun m_heads m_forkBit m_forkFrom m_forkTo m_wayPage m_wayKnown m_wayGuess m_wayDiff m_wayRead m_wayPlace m_entries m_forks m_guess m_diff m_read m_placeOf v1 => some (v1, m_heads, m_forkBit, m_forkFrom, m_forkTo, m_wayPage, m_wayKnown, m_wayGuess, m_wayDiff, m_wayRead, m_wayPlace, m_entries, m_forks, m_guess, m_diff, m_read, m_placeOf)) FU m_heads_1 m_forkBit_1 m_forkFrom_1 m_forkTo_1 m_wayPage_1 m_wayKnown_1 m_wayGuess_1 m_wayDiff_1 m_wayRead_1 m_wayPlace_1 m_entries_1 m_forks_1 m_guess_1 m_diff_1 m_read_1 m_placeOf_1 0 0
set_option maxRecDepth 100000 in
set_option maxHeartbeats 4000000 in
theorem t_M_cost_L8 {p : Program} {l : Launch} {e : Env} {s : State} {m : MethodId} {args : Array Value} {below : List Frame} {meth : Method} {c : Code} {Q : State → Prop} {A : Nat → Prop} {D : va_G} {cI cJ cB cL cS cW : ClassId} {a : Nat → Nat} {m_s m_past m_kept m_refused m_text m_asked m_treeBit m_treeLeft m_treeRight m_treeAbove m_pileFrom m_pileTo m_pileAbove : Nat → Int32} {m_known m_typed m_askedLength m_treeForks m_treeDeep : Int32} {r : Int32} {o_heads : Nat → Int32} {o_forkBit : Nat → Int32} {o_forkFrom : Nat → Int32} {o_forkTo : Nat → Int32} {o_wayPage : Nat → Int32} {o_wayKnown : Nat → Int32} {o_wayGuess : Nat → Int32} {o_wayDiff : Nat → Int32} {o_wayRead : Nat → Int32} {o_wayPlace : Nat → Int32} {o_entries : Int32} {o_forks : Int32} {o_guess : Int32} {o_diff : Int32} {o_read : Int32} {o_placeOf : Int32} (C : k_C p s m args meth c cX8_cost 3 (some .int) RX8 wsX8_cost D (kT cI cJ cB cL cS cW) A) (hD : va_D A (WM0 a cI)) (hret : ∀ (H : Heap) (locs : List Loc) (pc : Nat) (ls : Array Slot), decode cX8_cost pc = .ok (.ireturn, 1) → va_P D vwCl (WM a cI m_s m_past m_kept m_refused m_text m_asked o_heads o_forkBit o_forkFrom o_forkTo o_wayPage o_wayKnown o_wayGuess o_wayDiff o_wayRead o_wayPlace m_treeBit m_treeLeft m_treeRight m_treeAbove m_pileFrom m_pileTo m_pileAbove m_known m_typed m_askedLength o_entries o_forks o_guess o_diff o_read o_placeOf m_treeForks m_treeDeep) H → va_S A s.heap H locs → W p l e { frames := 6, cells := 0, slots := 0, locals := 148 } s m args below meth c H locs 0 0 Q (F0 m pc ls [.int r])) {k33 : (Nat → Int32) → (Nat → Int32) → (Nat → Int32) → (Nat → Int32) → (Nat → Int32) → (Nat → Int32) → (Nat → Int32) → (Nat → Int32) → (Nat → Int32) → (Nat → Int32) → Int32 → Int32 → Int32 → Int32 → Int32 → Int32 → Int32 → Option (Int32 × (Nat → Int32) × (Nat → Int32) × (Nat → Int32) × (Nat → Int32) × (Nat → Int32) × (Nat → Int32) × (Nat → Int32) × (Nat → Int32) × (Nat → Int32) × (Nat → Int32) × Int32 × Int32 × Int32 × Int32 × Int32 × Int32)} (hk33 : ∀ (m_heads : (Nat → Int32)) (m_forkBit : (Nat → Int32)) (m_forkFrom : (Nat → Int32)) (m_forkTo : (Nat → Int32)) (m_wayPage : (Nat → Int32)) (m_wayKnown : (Nat → Int32)) (m_wayGuess : (Nat → Int32)) (m_wayDiff : (Nat → Int32)) (m_wayRead : (Nat → Int32)) (m_wayPlace : (Nat → Int32)) (m_entries : Int32) (m_forks : Int32) (m_guess : Int32) (m_diff : Int32) (m_read : Int32) (m_placeOf : Int32) (v1 : Int32) (H : Heap) (locs : List Loc) (ls : Array Slot), va_P D vwCl (WM a cI m_s m_past m_kept m_refused m_text m_asked m_heads m_forkBit m_forkFrom m_forkTo m_wayPage m_wayKnown m_wayGuess m_wayDiff m_wayRead m_wayPlace m_treeBit m_treeLeft m_treeRight m_treeAbove m_pileFrom m_pileTo m_pileAbove m_known m_typed m_askedLength m_entries m_forks m_guess m_diff m_read m_placeOf m_treeForks m_treeDeep) H → va_S A s.heap H locs → lv_has ls 3 [(1, .int v1)] → k33 m_heads m_forkBit m_forkFrom m_forkTo m_wayPage m_wayKnown m_wayGuess m_wayDiff m_wayRead m_wayPlace m_entries m_forks m_guess m_diff m_read m_placeOf v1 = some (r, o_heads, o_forkBit, o_forkFrom, o_forkTo, o_wayPage, o_wayKnown, o_wayGuess, o_wayDiff, o_wayRead, o_wayPlace, o_entries, o_forks, o_guess, o_diff, o_read, o_placeOf) → W p l e { frames := 6, cells := 0, slots := 0, locals := 148 } s m args below meth c H locs 0 0 Q (F0 m 33 ls [])) : ∀ n : Nat, ∀ (m_heads : (Nat → Int32)) (m_forkBit : (Nat → Int32)) (m_forkFrom : (Nat → Int32)) (m_forkTo : (Nat → Int32)) (m_wayPage : (Nat → Int32)) (m_wayKnown : (Nat → Int32)) (m_wayGuess : (Nat → Int32)) (m_wayDiff : (Nat → Int32)) (m_wayRead : (Nat → Int32)) (m_wayPlace : (Nat → Int32)) (m_entries : Int32) (m_forks : Int32) (m_guess : Int32) (m_diff : Int32) (m_read : Int32) (m_placeOf : Int32) (v1 : Int32) (v2 : Int32) (H : Heap) (locs : List Loc) (ls : Array Slot), va_P D vwCl (WM a cI m_s m_past m_kept m_refused m_text m_asked m_heads m_forkBit m_forkFrom m_forkTo m_wayPage m_wayKnown m_wayGuess m_wayDiff m_wayRead m_wayPlace m_treeBit m_treeLeft m_treeRight m_treeAbove m_pileFrom m_pileTo m_pileAbove m_known m_typed m_askedLength m_entries m_forks m_guess m_diff m_read m_placeOf m_treeForks m_treeDeep) H → va_S A s.heap H locs → lv_has ls 3 [(0, .ref (a 0)), (1, .int v1), (2, .int v2)] → (M_cost_L8 m_s m_asked m_askedLength k33 n) m_heads m_forkBit m_forkFrom m_forkTo m_wayPage m_wayKnown m_wayGuess m_wayDiff m_wayRead m_wayPlace m_entries m_forks m_guess m_diff m_read m_placeOf v1 v2 = some (r, o_heads, o_forkBit, o_forkFrom, o_forkTo, o_wayPage, o_wayKnown, o_wayGuess, o_wayDiff, o_wayRead, o_wayPlace, o_entries, o_forks, o_guess, o_diff, o_read, o_placeOf) → W p l e { frames := 6, cells := 0, slots := 0, locals := 148 } s m args below meth c H locs 0 0 Q (F0 m 8 ls []) := by
  obtain ⟨hx, hb, hml, hr, hown, hts, hlocks, hK, hA, hN⟩ := id C
  intro n
  induction n with
  | zero =>
    intro m_heads m_forkBit m_forkFrom m_forkTo m_wayPage m_wayKnown m_wayGuess m_wayDiff m_wayRead m_wayPlace m_entries m_forks m_guess m_diff m_read m_placeOf v1 v2 H locs ls hP hS hl hm
    cases hm
  | succ n ih =>
    intro m_heads m_forkBit m_forkFrom m_forkTo m_wayPage m_wayKnown m_wayGuess m_wayDiff m_wayRead m_wayPlace m_entries m_forks m_guess m_diff m_read m_placeOf v1 v2 H locs ls hP hS hl hm
    rw [M_cost_L8] at hm
    refine lv_iload_n hx hb dX8_cost_8 rfl (lv_at hl 2 rfl) ?_
    refine lv_aload_n hx hb dX8_cost_9 rfl (lv_at hl 0 rfl) ?_
    refine kg (v := .ref (a 1)) hx hb hts hiX8_cost hown hK hP 0 rfl rfl 0 (by decide) flX8_cost_7 rfl rfl dX8_cost_10 ?_
    refine lv_iconst (v := 2) hx hb dX8_cost_13 (by decide) ?_
    refine k_iald (j := 2) hx hb hK hP 1 0 rfl rfl rfl (vp_lit (by decide)) dX8_cost_14 ?_
    refine lv_icmp_ge (tgt := 33) hx hb dX8_cost_15 (by decide) (fun hc => ?_) (fun hc => ?_)
    · have hm := if_t hc hm
      exact hk33 _ _ _ _ _ _ _ _ _ _ _ _ _ _ _ _ _ _ _ _ hP hS (lv_sub hl [1] rfl) hm
    · have hm := if_f hc hm
      refine lv_iload_n hx hb dX8_cost_18 rfl (lv_at hl 1 rfl) ?_
      refine lv_aload_n hx hb dX8_cost_19 rfl (lv_at hl 0 rfl) ?_
      refine kg (v := .ref (a 15)) hx hb hts hiX8_cost hown hK hP 0 rfl rfl 23 (by decide) flX8_cost_52 rfl rfl dX8_cost_20 ?_
      refine lv_iload_n hx hb dX8_cost_23 rfl (lv_at hl 2 rfl) ?_
      obtain ⟨hi, hm⟩ := ga_some hm
      refine k_iald hx hb hK hP 15 0 rfl rfl rfl hi dX8_cost_24 ?_
      refine lv_iadd hx hb dX8_cost_25 ?_
      refine lv_istore_n (lv' := [(1, .int (v1 + (m_wayRead v2.toNatClampNeg))), (0, .ref (a 0)), (2, .int v2)]) hx hb dX8_cost_26 rfl hl (by decide) rfl (fun ls hl => ?_)
      refine lv_iinc (v := (v2 + 1)) (lv' := [(2, .int (v2 + 1)), (1, .int (v1 + (m_wayRead v2.toNatClampNeg))), (0, .ref (a 0))]) hx hb dX8_cost_27 hl (k := 2) rfl rfl (by decide) rfl (fun ls hl => ?_)
      refine lv_goto (tgt := 8) hx hb dX8_cost_30 (by decide) ?_
      exact ih _ _ _ _ _ _ _ _ _ _ _ _ _ _ _ _ _ _ _ _ _ hP hS (lv_sub hl [2, 1, 0] rfl) hm
set_option maxRecDepth 100000 in
set_option maxHeartbeats 4000000 in
theorem c_X8_cost {l : Launch} {D : va_G} {cI cJ cB cL cS cW : ClassId} {a : Nat → Nat} {m_s m_past m_kept m_refused m_text m_asked m_heads m_forkBit m_forkFrom m_forkTo m_wayPage m_wayKnown m_wayGuess m_wayDiff m_wayRead m_wayPlace m_treeBit m_treeLeft m_treeRight m_treeAbove m_pileFrom m_pileTo m_pileAbove : Nat → Int32} {m_known m_typed m_askedLength m_entries m_forks m_guess m_diff m_read m_placeOf m_treeForks m_treeDeep : Int32} {r : Int32} {o_heads : Nat → Int32} {o_forkBit : Nat → Int32} {o_forkFrom : Nat → Int32} {o_forkTo : Nat → Int32} {o_wayPage : Nat → Int32} {o_wayKnown : Nat → Int32} {o_wayGuess : Nat → Int32} {o_wayDiff : Nat → Int32} {o_wayRead : Nat → Int32} {o_wayPlace : Nat → Int32} {o_entries : Int32} {o_forks : Int32} {o_guess : Int32} {o_diff : Int32} {o_read : Int32} {o_placeOf : Int32} (hm : M_cost m_s m_asked m_askedLength m_heads m_forkBit m_forkFrom m_forkTo m_wayPage m_wayKnown m_wayGuess m_wayDiff m_wayRead m_wayPlace m_entries m_forks m_guess m_diff m_read m_placeOf = some (r, o_heads, o_forkBit, o_forkFrom, o_forkTo, o_wayPage, o_wayKnown, o_wayGuess, o_wayDiff, o_wayRead, o_wayPlace, o_entries, o_forks, o_guess, o_diff, o_read, o_placeOf)) : k_MI l yX8_cost wsX8_cost { frames := 6, cells := 0, slots := 0, locals := 148 } D (kT cI cJ cB cL cS cW) [.ref (a 0)] (WM a cI m_s m_past m_kept m_refused m_text m_asked m_heads m_forkBit m_forkFrom m_forkTo m_wayPage m_wayKnown m_wayGuess m_wayDiff m_wayRead m_wayPlace m_treeBit m_treeLeft m_treeRight m_treeAbove m_pileFrom m_pileTo m_pileAbove m_known m_typed m_askedLength m_entries m_forks m_guess m_diff m_read m_placeOf m_treeForks m_treeDeep) r (WM a cI m_s m_past m_kept m_refused m_text m_asked o_heads o_forkBit o_forkFrom o_forkTo o_wayPage o_wayKnown o_wayGuess o_wayDiff o_wayRead o_wayPlace m_treeBit m_treeLeft m_treeRight m_treeAbove m_pileFrom m_pileTo m_pileAbove m_known m_typed m_askedLength o_entries o_forks o_guess o_diff o_read o_placeOf m_treeForks m_treeDeep) := by
  refine k_ofI (cc := cX8_cost) (maxL := 3) (own := RX8) (by decide) rfl rfl (Nat.le_of_ble_eq_true rfl) ?_
  intro p e s m args below meth c A Q ls C hP hD hl hret
  have hD : va_D A (WM0 a cI) := va_D_re hD rfl
  have hS : va_S A s.heap s.heap [] := va_S.rf
  have hl : lv_has ls 3 [(0, .ref (a 0))] := hl
  obtain ⟨hx, hb, hml, hr, hown, hts, hlocks, hK, hA, hN⟩ := id C
  rw [M_cost] at hm
  refine lv_aload_n hx hb dX8_cost_0 rfl (lv_at hl 0 rfl) ?_
  obtain ⟨m_heads_1, m_forkBit_1, m_forkFrom_1, m_forkTo_1, m_wayPage_1, m_wayKnown_1, m_wayGuess_1, m_wayDiff_1, m_wayRead_1, m_wayPlace_1, m_entries_1, m_forks_1, m_guess_1, m_diff_1, m_read_1, m_placeOf_1, hq, hm⟩ := bd16_some hm
  refine k_callVV (As := []) (rest := []) ⟨hx, hb, hml, hown, hts⟩ hK hA hN (c_X8_goes (a := a) hq) (cwV 0 hts gX8_cost_X8_goes rfl rfl rfl hdX8_goes ⟨Nat.le_of_ble_eq_true rfl, Nat.le_of_ble_eq_true rfl⟩) hP (va_D_re hD rfl) hS 0 8 rfl rfl rfl hl.1 rfl rfl (Nat.le_of_ble_eq_true rfl) ⟨Nat.zero_le _, Nat.zero_le _⟩ dX8_cost_1 (fun H locs hP hS => ?_)
  refine lv_iconst (v := 0) hx hb dX8_cost_4 (by decide) ?_
  refine lv_istore_n (lv' := [(1, .int 0), (0, .ref (a 0))]) hx hb dX8_cost_5 rfl hl (by decide) rfl (fun ls hl => ?_)
  refine lv_iconst (v := 0) hx hb dX8_cost_6 (by decide) ?_
  refine lv_istore_n (lv' := [(2, .int 0), (1, .int 0), (0, .ref (a 0))]) hx hb dX8_cost_7 rfl hl (by decide) rfl (fun ls hl => ?_)
  refine t_M_cost_L8 C hD hret ?_ FU _ _ _ _ _ _ _ _ _ _ _ _ _ _ _ _ _ _ _ _ _ hP hS (lv_sub hl [2, 1, 0] rfl) hm
  · intro m_heads m_forkBit m_forkFrom m_forkTo m_wayPage m_wayKnown m_wayGuess m_wayDiff m_wayRead m_wayPlace m_entries m_forks m_guess m_diff m_read m_placeOf v1 H locs ls hP hS hl hm
    try dsimp only at hm
    refine lv_iload_n hx hb dX8_cost_33 rfl (lv_at hl 0 rfl) ?_
    simp only [Option.some.injEq, Prod.mk.injEq] at hm
    obtain ⟨rfl, rfl, rfl, rfl, rfl, rfl, rfl, rfl, rfl, rfl, rfl, rfl, rfl, rfl, rfl, rfl, rfl⟩ := hm
    exact hret _ _ _ _ dX8_cost_34 hP hS
theorem hdX8_opensPage : yX8_opensPage.cls = RX8 ∧ yX8_opensPage.cls ≠ "java/lang/invoke/MethodHandle" ∧ yX8_opensPage.cls ≠ "java/lang/invoke/VarHandle" ∧ (parseMethodDescriptor yX8_opensPage.desc).map (fun d => d.parameters.length) = some 2 := by decide +kernel
theorem hiX8_opensPage : ∀ w ∈ u_ws RX8 TX8 34, w ∈ wsX8_opensPage := by decide +kernel
theorem flX8_opensPage_7 : Cond.fieldLink RX8 7 "BlindPagesModel" "s" "[I" ∈ wsX8_opensPage := by decide +kernel
def M_opensPage_L9 (v1 : Int32) (v2 : Int32) (k34 : (Nat → Int32) → Option ((Nat → Int32))) : Nat → (Nat → Int32) → Int32 → Option ((Nat → Int32))
  | 0, _, _ => none
  | n + 1, m_s, v3 => if v3 ≤ v2 then (k34 m_s) else (bd1 (M_sizeOf m_s v1 (v3 - 1)) fun r22 => bd1 (M_setSize m_s v1 v3 r22) fun m_s_25 => M_opensPage_L9 v1 v2 k34 n m_s_25 (v3 + (-1)))
def M_opensPage (m_s : Nat → Int32) (v1 : Int32) (v2 : Int32) : Option ((Nat → Int32)) := ga (3 + v1) 1552 (M_opensPage_L9 v1 v2 (fun m_s => ga (3 + v1) 1552 (ga (3 + v1) 1552 (some (upd m_s (3 + v1).toNatClampNeg ((m_s (3 + v1).toNatClampNeg) + 1))))) FU m_s (m_s (3 + v1).toNatClampNeg))
set_option maxRecDepth 100000 in
set_option maxHeartbeats 4000000 in
theorem t_M_opensPage_L9 {p : Program} {l : Launch} {e : Env} {s : State} {m : MethodId} {args : Array Value} {below : List Frame} {meth : Method} {c : Code} {Q : State → Prop} {A : Nat → Prop} {D : va_G} {cI cJ cB cL cS cW : ClassId} {a : Nat → Nat} {m_past m_kept m_refused m_text m_asked m_heads m_forkBit m_forkFrom m_forkTo m_wayPage m_wayKnown m_wayGuess m_wayDiff m_wayRead m_wayPlace m_treeBit m_treeLeft m_treeRight m_treeAbove m_pileFrom m_pileTo m_pileAbove : Nat → Int32} {m_known m_typed m_askedLength m_entries m_forks m_guess m_diff m_read m_placeOf m_treeForks m_treeDeep : Int32} {v1 : Int32} {v2 : Int32} {o_s : Nat → Int32} (C : k_C p s m args meth c cX8_opensPage 4 none RX8 wsX8_opensPage D (kT cI cJ cB cL cS cW) A) (hD : va_D A (WM0 a cI)) (hret : ∀ (H : Heap) (locs : List Loc) (pc : Nat) (ls : Array Slot), decode cX8_opensPage pc = .ok (.return_, 1) → va_P D vwCl (WM a cI o_s m_past m_kept m_refused m_text m_asked m_heads m_forkBit m_forkFrom m_forkTo m_wayPage m_wayKnown m_wayGuess m_wayDiff m_wayRead m_wayPlace m_treeBit m_treeLeft m_treeRight m_treeAbove m_pileFrom m_pileTo m_pileAbove m_known m_typed m_askedLength m_entries m_forks m_guess m_diff m_read m_placeOf m_treeForks m_treeDeep) H → va_S A s.heap H locs → W p l e { frames := 1, cells := 0, slots := 0, locals := 23 } s m args below meth c H locs 0 0 Q (F0 m pc ls [])) {k34 : (Nat → Int32) → Option ((Nat → Int32))} (hk34 : ∀ (m_s : (Nat → Int32)) (H : Heap) (locs : List Loc) (ls : Array Slot), va_P D vwCl (WM a cI m_s m_past m_kept m_refused m_text m_asked m_heads m_forkBit m_forkFrom m_forkTo m_wayPage m_wayKnown m_wayGuess m_wayDiff m_wayRead m_wayPlace m_treeBit m_treeLeft m_treeRight m_treeAbove m_pileFrom m_pileTo m_pileAbove m_known m_typed m_askedLength m_entries m_forks m_guess m_diff m_read m_placeOf m_treeForks m_treeDeep) H → va_S A s.heap H locs → lv_has ls 4 [(0, .ref (a 0)), (1, .int v1)] → k34 m_s = some o_s → W p l e { frames := 1, cells := 0, slots := 0, locals := 23 } s m args below meth c H locs 0 0 Q (F0 m 34 ls [])) : ∀ n : Nat, ∀ (m_s : (Nat → Int32)) (v3 : Int32) (H : Heap) (locs : List Loc) (ls : Array Slot), va_P D vwCl (WM a cI m_s m_past m_kept m_refused m_text m_asked m_heads m_forkBit m_forkFrom m_forkTo m_wayPage m_wayKnown m_wayGuess m_wayDiff m_wayRead m_wayPlace m_treeBit m_treeLeft m_treeRight m_treeAbove m_pileFrom m_pileTo m_pileAbove m_known m_typed m_askedLength m_entries m_forks m_guess m_diff m_read m_placeOf m_treeForks m_treeDeep) H → va_S A s.heap H locs → lv_has ls 4 [(0, .ref (a 0)), (1, .int v1), (2, .int v2), (3, .int v3)] → (M_opensPage_L9 v1 v2 k34 n) m_s v3 = some o_s → W p l e { frames := 1, cells := 0, slots := 0, locals := 23 } s m args below meth c H locs 0 0 Q (F0 m 9 ls []) := by
  obtain ⟨hx, hb, hml, hr, hown, hts, hlocks, hK, hA, hN⟩ := id C
  intro n
  induction n with
  | zero =>
    intro m_s v3 H locs ls hP hS hl hm
    cases hm
  | succ n ih =>
    intro m_s v3 H locs ls hP hS hl hm
    rw [M_opensPage_L9] at hm
    refine lv_iload_n hx hb dX8_opensPage_9 rfl (lv_at hl 3 rfl) ?_
    refine lv_iload_n hx hb dX8_opensPage_10 rfl (lv_at hl 2 rfl) ?_
    refine lv_icmp_le (tgt := 34) hx hb dX8_opensPage_11 (by decide) (fun hc => ?_) (fun hc => ?_)
    · have hm := if_t hc hm
      exact hk34 _ _ _ _ hP hS (lv_sub hl [0, 1] rfl) hm
    · have hm := if_f hc hm
      refine lv_aload_n hx hb dX8_opensPage_14 rfl (lv_at hl 0 rfl) ?_
      refine lv_iload_n hx hb dX8_opensPage_15 rfl (lv_at hl 1 rfl) ?_
      refine lv_iload_n hx hb dX8_opensPage_16 rfl (lv_at hl 3 rfl) ?_
      refine lv_aload_n hx hb dX8_opensPage_17 rfl (lv_at hl 0 rfl) ?_
      refine lv_iload_n hx hb dX8_opensPage_18 rfl (lv_at hl 1 rfl) ?_
      refine lv_iload_n hx hb dX8_opensPage_19 rfl (lv_at hl 3 rfl) ?_
      refine lv_iconst (v := 1) hx hb dX8_opensPage_20 (by decide) ?_
      refine lv_isub hx hb dX8_opensPage_21 ?_
      obtain ⟨r22, hq, hm⟩ := bd1_some hm
      refine k_callVI (As := [.int v1, .int (v3 - 1)]) (rest := [.int v3, .int v1, .ref (a 0)]) ⟨hx, hb, hml, hown, hts⟩ hK hA hN (c_X8_sizeOf (a := a) hq) (cwV 2 hts gX8_opensPage_X8_sizeOf rfl rfl rfl hdX8_sizeOf ⟨Nat.le_of_ble_eq_true rfl, Nat.le_of_ble_eq_true rfl⟩) hP (va_D_re hD rfl) hS 0 8 rfl rfl rfl hl.1 rfl rfl (Nat.le_of_ble_eq_true rfl) ⟨Nat.zero_le _, Nat.zero_le _⟩ dX8_opensPage_22 (fun H locs hP hS => ?_)
      obtain ⟨m_s_25, hq, hm⟩ := bd1_some hm
      refine k_callVV (As := [.int v1, .int v3, .int r22]) (rest := []) ⟨hx, hb, hml, hown, hts⟩ hK hA hN (c_X8_setSize (a := a) hq) (cwV 3 hts gX8_opensPage_X8_setSize rfl rfl rfl hdX8_setSize ⟨Nat.le_of_ble_eq_true rfl, Nat.le_of_ble_eq_true rfl⟩) hP (va_D_re hD rfl) hS 0 8 rfl rfl rfl hl.1 rfl rfl (Nat.le_of_ble_eq_true rfl) ⟨Nat.zero_le _, Nat.zero_le _⟩ dX8_opensPage_25 (fun H locs hP hS => ?_)
      refine lv_iinc (v := (v3 + (-1))) (lv' := [(3, .int (v3 + (-1))), (0, .ref (a 0)), (1, .int v1), (2, .int v2)]) hx hb dX8_opensPage_28 hl (k := 3) rfl rfl (by decide) rfl (fun ls hl => ?_)
      refine lv_goto (tgt := 9) hx hb dX8_opensPage_31 (by decide) ?_
      exact ih _ _ _ _ _ hP hS (lv_sub hl [1, 2, 3, 0] rfl) hm
set_option maxRecDepth 100000 in
set_option maxHeartbeats 4000000 in
theorem c_X8_opensPage {l : Launch} {D : va_G} {cI cJ cB cL cS cW : ClassId} {a : Nat → Nat} {m_s m_past m_kept m_refused m_text m_asked m_heads m_forkBit m_forkFrom m_forkTo m_wayPage m_wayKnown m_wayGuess m_wayDiff m_wayRead m_wayPlace m_treeBit m_treeLeft m_treeRight m_treeAbove m_pileFrom m_pileTo m_pileAbove : Nat → Int32} {m_known m_typed m_askedLength m_entries m_forks m_guess m_diff m_read m_placeOf m_treeForks m_treeDeep : Int32} {v1 : Int32} {v2 : Int32} {o_s : Nat → Int32} (hm : M_opensPage m_s v1 v2 = some o_s) : k_MV l yX8_opensPage wsX8_opensPage { frames := 1, cells := 0, slots := 0, locals := 23 } D (kT cI cJ cB cL cS cW) [.ref (a 0), .int v1, .int v2] (WM a cI m_s m_past m_kept m_refused m_text m_asked m_heads m_forkBit m_forkFrom m_forkTo m_wayPage m_wayKnown m_wayGuess m_wayDiff m_wayRead m_wayPlace m_treeBit m_treeLeft m_treeRight m_treeAbove m_pileFrom m_pileTo m_pileAbove m_known m_typed m_askedLength m_entries m_forks m_guess m_diff m_read m_placeOf m_treeForks m_treeDeep) (WM a cI o_s m_past m_kept m_refused m_text m_asked m_heads m_forkBit m_forkFrom m_forkTo m_wayPage m_wayKnown m_wayGuess m_wayDiff m_wayRead m_wayPlace m_treeBit m_treeLeft m_treeRight m_treeAbove m_pileFrom m_pileTo m_pileAbove m_known m_typed m_askedLength m_entries m_forks m_guess m_diff m_read m_placeOf m_treeForks m_treeDeep) := by
  refine k_ofV (cc := cX8_opensPage) (maxL := 4) (own := RX8) (by decide) rfl rfl (Nat.le_of_ble_eq_true rfl) ?_
  intro p e s m args below meth c A Q ls C hP hD hl hret
  have hD : va_D A (WM0 a cI) := va_D_re hD rfl
  have hS : va_S A s.heap s.heap [] := va_S.rf
  have hl : lv_has ls 4 [(0, .ref (a 0)), (1, .int v1), (2, .int v2)] := hl
  obtain ⟨hx, hb, hml, hr, hown, hts, hlocks, hK, hA, hN⟩ := id C
  rw [M_opensPage] at hm
  refine lv_aload_n hx hb dX8_opensPage_0 rfl (lv_at hl 0 rfl) ?_
  refine kg (v := .ref (a 1)) hx hb hts hiX8_opensPage hown hK hP 0 rfl rfl 0 (by decide) flX8_opensPage_7 rfl rfl dX8_opensPage_1 ?_
  refine lv_iconst (v := 3) hx hb dX8_opensPage_4 (by decide) ?_
  refine lv_iload_n hx hb dX8_opensPage_5 rfl (lv_at hl 1 rfl) ?_
  refine lv_iadd hx hb dX8_opensPage_6 ?_
  obtain ⟨hi, hm⟩ := ga_some hm
  refine k_iald hx hb hK hP 1 0 rfl rfl rfl hi dX8_opensPage_7 ?_
  refine lv_istore_n (lv' := [(3, .int (m_s (3 + v1).toNatClampNeg)), (0, .ref (a 0)), (1, .int v1), (2, .int v2)]) hx hb dX8_opensPage_8 rfl hl (by decide) rfl (fun ls hl => ?_)
  refine t_M_opensPage_L9 C hD hret ?_ FU _ _ _ _ _ hP hS (lv_sub hl [1, 2, 3, 0] rfl) hm
  · intro m_s H locs ls hP hS hl hm
    try dsimp only at hm
    refine lv_aload_n hx hb dX8_opensPage_34 rfl (lv_at hl 0 rfl) ?_
    refine kg (v := .ref (a 1)) hx hb hts hiX8_opensPage hown hK hP 0 rfl rfl 0 (by decide) flX8_opensPage_7 rfl rfl dX8_opensPage_35 ?_
    refine lv_iconst (v := 3) hx hb dX8_opensPage_38 (by decide) ?_
    refine lv_iload_n hx hb dX8_opensPage_39 rfl (lv_at hl 1 rfl) ?_
    refine lv_iadd hx hb dX8_opensPage_40 ?_
    refine lv_dup2_11 hx hb dX8_opensPage_41 rfl rfl ?_
    obtain ⟨hi, hm⟩ := ga_some hm
    refine k_iald hx hb hK hP 1 0 rfl rfl rfl hi dX8_opensPage_42 ?_
    refine lv_iconst (v := 1) hx hb dX8_opensPage_43 (by decide) ?_
    refine lv_iadd hx hb dX8_opensPage_44 ?_
    obtain ⟨hi, hm⟩ := ga_some hm
    refine k_iast hx hb hK hP (va_D_re hD rfl) hS 1 0 rfl rfl rfl hi dX8_opensPage_45 (fun H locs hP hS => ?_)
    have hP : va_P D vwCl (WM a cI (upd m_s (3 + v1).toNatClampNeg ((m_s (3 + v1).toNatClampNeg) + 1)) m_past m_kept m_refused m_text m_asked m_heads m_forkBit m_forkFrom m_forkTo m_wayPage m_wayKnown m_wayGuess m_wayDiff m_wayRead m_wayPlace m_treeBit m_treeLeft m_treeRight m_treeAbove m_pileFrom m_pileTo m_pileAbove m_known m_typed m_askedLength m_entries m_forks m_guess m_diff m_read m_placeOf m_treeForks m_treeDeep) H := hP
    obtain rfl := Option.some.inj hm
    exact hret _ _ _ _ dX8_opensPage_46 hP hS
theorem hdX8_shutsPage : yX8_shutsPage.cls = RX8 ∧ yX8_shutsPage.cls ≠ "java/lang/invoke/MethodHandle" ∧ yX8_shutsPage.cls ≠ "java/lang/invoke/VarHandle" ∧ (parseMethodDescriptor yX8_shutsPage.desc).map (fun d => d.parameters.length) = some 2 := by decide +kernel
theorem hiX8_shutsPage : ∀ w ∈ u_ws RX8 TX8 34, w ∈ wsX8_shutsPage := by decide +kernel
theorem flX8_shutsPage_7 : Cond.fieldLink RX8 7 "BlindPagesModel" "s" "[I" ∈ wsX8_shutsPage := by decide +kernel
def M_shutsPage_L14 (v1 : Int32) (v2 : Int32) (k46 : (Nat → Int32) → Option ((Nat → Int32))) : Nat → (Nat → Int32) → Int32 → Option ((Nat → Int32))
  | 0, _, _ => none
  | n + 1, m_s, v3 => ga (3 + v1) 1552 (if (m_s (3 + v1).toNatClampNeg) ≤ v3 then (k46 m_s) else (bd1 (M_sizeOf m_s v1 (v3 + 1)) fun r34 => bd1 (M_setSize m_s v1 v3 r34) fun m_s_37 => M_shutsPage_L14 v1 v2 k46 n m_s_37 (v3 + 1)))
def M_shutsPage (m_s : Nat → Int32) (v1 : Int32) (v2 : Int32) : Option ((Nat → Int32)) := ga (3 + v1) 1552 (ga (3 + v1) 1552 (M_shutsPage_L14 v1 v2 (fun m_s => some m_s) FU (upd m_s (3 + v1).toNatClampNeg ((m_s (3 + v1).toNatClampNeg) - 1)) v2))
set_option maxRecDepth 100000 in
set_option maxHeartbeats 4000000 in
theorem t_M_shutsPage_L14 {p : Program} {l : Launch} {e : Env} {s : State} {m : MethodId} {args : Array Value} {below : List Frame} {meth : Method} {c : Code} {Q : State → Prop} {A : Nat → Prop} {D : va_G} {cI cJ cB cL cS cW : ClassId} {a : Nat → Nat} {m_past m_kept m_refused m_text m_asked m_heads m_forkBit m_forkFrom m_forkTo m_wayPage m_wayKnown m_wayGuess m_wayDiff m_wayRead m_wayPlace m_treeBit m_treeLeft m_treeRight m_treeAbove m_pileFrom m_pileTo m_pileAbove : Nat → Int32} {m_known m_typed m_askedLength m_entries m_forks m_guess m_diff m_read m_placeOf m_treeForks m_treeDeep : Int32} {v1 : Int32} {v2 : Int32} {o_s : Nat → Int32} (C : k_C p s m args meth c cX8_shutsPage 4 none RX8 wsX8_shutsPage D (kT cI cJ cB cL cS cW) A) (hD : va_D A (WM0 a cI)) (hret : ∀ (H : Heap) (locs : List Loc) (pc : Nat) (ls : Array Slot), decode cX8_shutsPage pc = .ok (.return_, 1) → va_P D vwCl (WM a cI o_s m_past m_kept m_refused m_text m_asked m_heads m_forkBit m_forkFrom m_forkTo m_wayPage m_wayKnown m_wayGuess m_wayDiff m_wayRead m_wayPlace m_treeBit m_treeLeft m_treeRight m_treeAbove m_pileFrom m_pileTo m_pileAbove m_known m_typed m_askedLength m_entries m_forks m_guess m_diff m_read m_placeOf m_treeForks m_treeDeep) H → va_S A s.heap H locs → W p l e { frames := 1, cells := 0, slots := 0, locals := 23 } s m args below meth c H locs 0 0 Q (F0 m pc ls [])) {k46 : (Nat → Int32) → Option ((Nat → Int32))} (hk46 : ∀ (m_s : (Nat → Int32)) (H : Heap) (locs : List Loc) (ls : Array Slot), va_P D vwCl (WM a cI m_s m_past m_kept m_refused m_text m_asked m_heads m_forkBit m_forkFrom m_forkTo m_wayPage m_wayKnown m_wayGuess m_wayDiff m_wayRead m_wayPlace m_treeBit m_treeLeft m_treeRight m_treeAbove m_pileFrom m_pileTo m_pileAbove m_known m_typed m_askedLength m_entries m_forks m_guess m_diff m_read m_placeOf m_treeForks m_treeDeep) H → va_S A s.heap H locs → lv_has ls 4 [] → k46 m_s = some o_s → W p l e { frames := 1, cells := 0, slots := 0, locals := 23 } s m args below meth c H locs 0 0 Q (F0 m 46 ls [])) : ∀ n : Nat, ∀ (m_s : (Nat → Int32)) (v3 : Int32) (H : Heap) (locs : List Loc) (ls : Array Slot), va_P D vwCl (WM a cI m_s m_past m_kept m_refused m_text m_asked m_heads m_forkBit m_forkFrom m_forkTo m_wayPage m_wayKnown m_wayGuess m_wayDiff m_wayRead m_wayPlace m_treeBit m_treeLeft m_treeRight m_treeAbove m_pileFrom m_pileTo m_pileAbove m_known m_typed m_askedLength m_entries m_forks m_guess m_diff m_read m_placeOf m_treeForks m_treeDeep) H → va_S A s.heap H locs → lv_has ls 4 [(0, .ref (a 0)), (1, .int v1), (3, .int v3)] → (M_shutsPage_L14 v1 v2 k46 n) m_s v3 = some o_s → W p l e { frames := 1, cells := 0, slots := 0, locals := 23 } s m args below meth c H locs 0 0 Q (F0 m 14 ls []) := by
  obtain ⟨hx, hb, hml, hr, hown, hts, hlocks, hK, hA, hN⟩ := id C
  intro n
  induction n with
  | zero =>
    intro m_s v3 H locs ls hP hS hl hm
    cases hm
  | succ n ih =>
    intro m_s v3 H locs ls hP hS hl hm
    rw [M_shutsPage_L14] at hm
    refine lv_iload_n hx hb dX8_shutsPage_14 rfl (lv_at hl 2 rfl) ?_
    refine lv_aload_n hx hb dX8_shutsPage_15 rfl (lv_at hl 0 rfl) ?_
    refine kg (v := .ref (a 1)) hx hb hts hiX8_shutsPage hown hK hP 0 rfl rfl 0 (by decide) flX8_shutsPage_7 rfl rfl dX8_shutsPage_16 ?_
    refine lv_iconst (v := 3) hx hb dX8_shutsPage_19 (by decide) ?_
    refine lv_iload_n hx hb dX8_shutsPage_20 rfl (lv_at hl 1 rfl) ?_
    refine lv_iadd hx hb dX8_shutsPage_21 ?_
    obtain ⟨hi, hm⟩ := ga_some hm
    refine k_iald hx hb hK hP 1 0 rfl rfl rfl hi dX8_shutsPage_22 ?_
    refine lv_icmp_ge (tgt := 46) hx hb dX8_shutsPage_23 (by decide) (fun hc => ?_) (fun hc => ?_)
    · have hm := if_t hc hm
      exact hk46 _ _ _ _ hP hS (lv_sub hl [] rfl) hm
    · have hm := if_f hc hm
      refine lv_aload_n hx hb dX8_shutsPage_26 rfl (lv_at hl 0 rfl) ?_
      refine lv_iload_n hx hb dX8_shutsPage_27 rfl (lv_at hl 1 rfl) ?_
      refine lv_iload_n hx hb dX8_shutsPage_28 rfl (lv_at hl 2 rfl) ?_
      refine lv_aload_n hx hb dX8_shutsPage_29 rfl (lv_at hl 0 rfl) ?_
      refine lv_iload_n hx hb dX8_shutsPage_30 rfl (lv_at hl 1 rfl) ?_
      refine lv_iload_n hx hb dX8_shutsPage_31 rfl (lv_at hl 2 rfl) ?_
      refine lv_iconst (v := 1) hx hb dX8_shutsPage_32 (by decide) ?_
      refine lv_iadd hx hb dX8_shutsPage_33 ?_
      obtain ⟨r34, hq, hm⟩ := bd1_some hm
      refine k_callVI (As := [.int v1, .int (v3 + 1)]) (rest := [.int v3, .int v1, .ref (a 0)]) ⟨hx, hb, hml, hown, hts⟩ hK hA hN (c_X8_sizeOf (a := a) hq) (cwV 2 hts gX8_shutsPage_X8_sizeOf rfl rfl rfl hdX8_sizeOf ⟨Nat.le_of_ble_eq_true rfl, Nat.le_of_ble_eq_true rfl⟩) hP (va_D_re hD rfl) hS 0 8 rfl rfl rfl hl.1 rfl rfl (Nat.le_of_ble_eq_true rfl) ⟨Nat.zero_le _, Nat.zero_le _⟩ dX8_shutsPage_34 (fun H locs hP hS => ?_)
      obtain ⟨m_s_37, hq, hm⟩ := bd1_some hm
      refine k_callVV (As := [.int v1, .int v3, .int r34]) (rest := []) ⟨hx, hb, hml, hown, hts⟩ hK hA hN (c_X8_setSize (a := a) hq) (cwV 3 hts gX8_shutsPage_X8_setSize rfl rfl rfl hdX8_setSize ⟨Nat.le_of_ble_eq_true rfl, Nat.le_of_ble_eq_true rfl⟩) hP (va_D_re hD rfl) hS 0 8 rfl rfl rfl hl.1 rfl rfl (Nat.le_of_ble_eq_true rfl) ⟨Nat.zero_le _, Nat.zero_le _⟩ dX8_shutsPage_37 (fun H locs hP hS => ?_)
      refine lv_iinc (v := (v3 + 1)) (lv' := [(3, .int (v3 + 1)), (0, .ref (a 0)), (1, .int v1)]) hx hb dX8_shutsPage_40 hl (k := 2) rfl rfl (by decide) rfl (fun ls hl => ?_)
      refine lv_goto (tgt := 14) hx hb dX8_shutsPage_43 (by decide) ?_
      exact ih _ _ _ _ _ hP hS (lv_sub hl [1, 2, 0] rfl) hm
set_option maxRecDepth 100000 in
set_option maxHeartbeats 4000000 in
theorem c_X8_shutsPage {l : Launch} {D : va_G} {cI cJ cB cL cS cW : ClassId} {a : Nat → Nat} {m_s m_past m_kept m_refused m_text m_asked m_heads m_forkBit m_forkFrom m_forkTo m_wayPage m_wayKnown m_wayGuess m_wayDiff m_wayRead m_wayPlace m_treeBit m_treeLeft m_treeRight m_treeAbove m_pileFrom m_pileTo m_pileAbove : Nat → Int32} {m_known m_typed m_askedLength m_entries m_forks m_guess m_diff m_read m_placeOf m_treeForks m_treeDeep : Int32} {v1 : Int32} {v2 : Int32} {o_s : Nat → Int32} (hm : M_shutsPage m_s v1 v2 = some o_s) : k_MV l yX8_shutsPage wsX8_shutsPage { frames := 1, cells := 0, slots := 0, locals := 23 } D (kT cI cJ cB cL cS cW) [.ref (a 0), .int v1, .int v2] (WM a cI m_s m_past m_kept m_refused m_text m_asked m_heads m_forkBit m_forkFrom m_forkTo m_wayPage m_wayKnown m_wayGuess m_wayDiff m_wayRead m_wayPlace m_treeBit m_treeLeft m_treeRight m_treeAbove m_pileFrom m_pileTo m_pileAbove m_known m_typed m_askedLength m_entries m_forks m_guess m_diff m_read m_placeOf m_treeForks m_treeDeep) (WM a cI o_s m_past m_kept m_refused m_text m_asked m_heads m_forkBit m_forkFrom m_forkTo m_wayPage m_wayKnown m_wayGuess m_wayDiff m_wayRead m_wayPlace m_treeBit m_treeLeft m_treeRight m_treeAbove m_pileFrom m_pileTo m_pileAbove m_known m_typed m_askedLength m_entries m_forks m_guess m_diff m_read m_placeOf m_treeForks m_treeDeep) := by
  refine k_ofV (cc := cX8_shutsPage) (maxL := 4) (own := RX8) (by decide) rfl rfl (Nat.le_of_ble_eq_true rfl) ?_
  intro p e s m args below meth c A Q ls C hP hD hl hret
  have hD : va_D A (WM0 a cI) := va_D_re hD rfl
  have hS : va_S A s.heap s.heap [] := va_S.rf
  have hl : lv_has ls 4 [(0, .ref (a 0)), (1, .int v1), (2, .int v2)] := hl
  obtain ⟨hx, hb, hml, hr, hown, hts, hlocks, hK, hA, hN⟩ := id C
  rw [M_shutsPage] at hm
  refine lv_aload_n hx hb dX8_shutsPage_0 rfl (lv_at hl 0 rfl) ?_
  refine kg (v := .ref (a 1)) hx hb hts hiX8_shutsPage hown hK hP 0 rfl rfl 0 (by decide) flX8_shutsPage_7 rfl rfl dX8_shutsPage_1 ?_
  refine lv_iconst (v := 3) hx hb dX8_shutsPage_4 (by decide) ?_
  refine lv_iload_n hx hb dX8_shutsPage_5 rfl (lv_at hl 1 rfl) ?_
  refine lv_iadd hx hb dX8_shutsPage_6 ?_
  refine lv_dup2_11 hx hb dX8_shutsPage_7 rfl rfl ?_
  obtain ⟨hi, hm⟩ := ga_some hm
  refine k_iald hx hb hK hP 1 0 rfl rfl rfl hi dX8_shutsPage_8 ?_
  refine lv_iconst (v := 1) hx hb dX8_shutsPage_9 (by decide) ?_
  refine lv_isub hx hb dX8_shutsPage_10 ?_
  obtain ⟨hi, hm⟩ := ga_some hm
  refine k_iast hx hb hK hP (va_D_re hD rfl) hS 1 0 rfl rfl rfl hi dX8_shutsPage_11 (fun H locs hP hS => ?_)
  have hP : va_P D vwCl (WM a cI (upd m_s (3 + v1).toNatClampNeg ((m_s (3 + v1).toNatClampNeg) - 1)) m_past m_kept m_refused m_text m_asked m_heads m_forkBit m_forkFrom m_forkTo m_wayPage m_wayKnown m_wayGuess m_wayDiff m_wayRead m_wayPlace m_treeBit m_treeLeft m_treeRight m_treeAbove m_pileFrom m_pileTo m_pileAbove m_known m_typed m_askedLength m_entries m_forks m_guess m_diff m_read m_placeOf m_treeForks m_treeDeep) H := hP
  refine lv_iload_n hx hb dX8_shutsPage_12 rfl (lv_at hl 2 rfl) ?_
  refine lv_istore_n (lv' := [(3, .int v2), (0, .ref (a 0)), (1, .int v1), (2, .int v2)]) hx hb dX8_shutsPage_13 rfl hl (by decide) rfl (fun ls hl => ?_)
  refine t_M_shutsPage_L14 C hD hret ?_ FU _ _ _ _ _ hP hS (lv_sub hl [1, 2, 0] rfl) hm
  · intro m_s H locs ls hP hS hl hm
    try dsimp only at hm
    obtain rfl := Option.some.inj hm
    exact hret _ _ _ _ dX8_shutsPage_46 hP hS
theorem hdX8_opensLevel : yX8_opensLevel.cls = RX8 ∧ yX8_opensLevel.cls ≠ "java/lang/invoke/MethodHandle" ∧ yX8_opensLevel.cls ≠ "java/lang/invoke/VarHandle" ∧ (parseMethodDescriptor yX8_opensLevel.desc).map (fun d => d.parameters.length) = some 1 := by decide +kernel
theorem hiX8_opensLevel : ∀ w ∈ u_ws RX8 TX8 34, w ∈ wsX8_opensLevel := by decide +kernel
theorem flX8_opensLevel_7 : Cond.fieldLink RX8 7 "BlindPagesModel" "s" "[I" ∈ wsX8_opensLevel := by decide +kernel
def M_opensLevel (m_s : Nat → Int32) (v1 : Int32) : Option ((Nat → Int32)) := ga (3 + (m_s 2)) 1552 (bd1 (M_setSize (upd m_s (3 + (m_s 2)).toNatClampNeg 1) ((upd m_s (3 + (m_s 2)).toNatClampNeg 1) 2) 0 v1) fun m_s_23 => some (upd m_s_23 2 ((m_s_23 2) + 1)))
set_option maxRecDepth 100000 in
set_option maxHeartbeats 4000000 in
theorem c_X8_opensLevel {l : Launch} {D : va_G} {cI cJ cB cL cS cW : ClassId} {a : Nat → Nat} {m_s m_past m_kept m_refused m_text m_asked m_heads m_forkBit m_forkFrom m_forkTo m_wayPage m_wayKnown m_wayGuess m_wayDiff m_wayRead m_wayPlace m_treeBit m_treeLeft m_treeRight m_treeAbove m_pileFrom m_pileTo m_pileAbove : Nat → Int32} {m_known m_typed m_askedLength m_entries m_forks m_guess m_diff m_read m_placeOf m_treeForks m_treeDeep : Int32} {v1 : Int32} {o_s : Nat → Int32} (hm : M_opensLevel m_s v1 = some o_s) : k_MV l yX8_opensLevel wsX8_opensLevel { frames := 1, cells := 0, slots := 0, locals := 23 } D (kT cI cJ cB cL cS cW) [.ref (a 0), .int v1] (WM a cI m_s m_past m_kept m_refused m_text m_asked m_heads m_forkBit m_forkFrom m_forkTo m_wayPage m_wayKnown m_wayGuess m_wayDiff m_wayRead m_wayPlace m_treeBit m_treeLeft m_treeRight m_treeAbove m_pileFrom m_pileTo m_pileAbove m_known m_typed m_askedLength m_entries m_forks m_guess m_diff m_read m_placeOf m_treeForks m_treeDeep) (WM a cI o_s m_past m_kept m_refused m_text m_asked m_heads m_forkBit m_forkFrom m_forkTo m_wayPage m_wayKnown m_wayGuess m_wayDiff m_wayRead m_wayPlace m_treeBit m_treeLeft m_treeRight m_treeAbove m_pileFrom m_pileTo m_pileAbove m_known m_typed m_askedLength m_entries m_forks m_guess m_diff m_read m_placeOf m_treeForks m_treeDeep) := by
  refine k_ofV (cc := cX8_opensLevel) (maxL := 2) (own := RX8) (by decide) rfl rfl (Nat.le_of_ble_eq_true rfl) ?_
  intro p e s m args below meth c A Q ls C hP hD hl hret
  have hD : va_D A (WM0 a cI) := va_D_re hD rfl
  have hS : va_S A s.heap s.heap [] := va_S.rf
  have hl : lv_has ls 2 [(0, .ref (a 0)), (1, .int v1)] := hl
  obtain ⟨hx, hb, hml, hr, hown, hts, hlocks, hK, hA, hN⟩ := id C
  rw [M_opensLevel] at hm
  refine lv_aload_n hx hb dX8_opensLevel_0 rfl (lv_at hl 0 rfl) ?_
  refine kg (v := .ref (a 1)) hx hb hts hiX8_opensLevel hown hK hP 0 rfl rfl 0 (by decide) flX8_opensLevel_7 rfl rfl dX8_opensLevel_1 ?_
  refine lv_iconst (v := 3) hx hb dX8_opensLevel_4 (by decide) ?_
  refine lv_aload_n hx hb dX8_opensLevel_5 rfl (lv_at hl 0 rfl) ?_
  refine kg (v := .ref (a 1)) hx hb hts hiX8_opensLevel hown hK hP 0 rfl rfl 0 (by decide) flX8_opensLevel_7 rfl rfl dX8_opensLevel_6 ?_
  refine lv_iconst (v := 2) hx hb dX8_opensLevel_9 (by decide) ?_
  refine k_iald (j := 2) hx hb hK hP 1 0 rfl rfl rfl (vp_lit (by decide)) dX8_opensLevel_10 ?_
  refine lv_iadd hx hb dX8_opensLevel_11 ?_
  refine lv_iconst (v := 1) hx hb dX8_opensLevel_12 (by decide) ?_
  obtain ⟨hi, hm⟩ := ga_some hm
  refine k_iast hx hb hK hP (va_D_re hD rfl) hS 1 0 rfl rfl rfl hi dX8_opensLevel_13 (fun H locs hP hS => ?_)
  have hP : va_P D vwCl (WM a cI (upd m_s (3 + (m_s 2)).toNatClampNeg 1) m_past m_kept m_refused m_text m_asked m_heads m_forkBit m_forkFrom m_forkTo m_wayPage m_wayKnown m_wayGuess m_wayDiff m_wayRead m_wayPlace m_treeBit m_treeLeft m_treeRight m_treeAbove m_pileFrom m_pileTo m_pileAbove m_known m_typed m_askedLength m_entries m_forks m_guess m_diff m_read m_placeOf m_treeForks m_treeDeep) H := hP
  refine lv_aload_n hx hb dX8_opensLevel_14 rfl (lv_at hl 0 rfl) ?_
  refine lv_aload_n hx hb dX8_opensLevel_15 rfl (lv_at hl 0 rfl) ?_
  refine kg (v := .ref (a 1)) hx hb hts hiX8_opensLevel hown hK hP 0 rfl rfl 0 (by decide) flX8_opensLevel_7 rfl rfl dX8_opensLevel_16 ?_
  refine lv_iconst (v := 2) hx hb dX8_opensLevel_19 (by decide) ?_
  refine k_iald (j := 2) hx hb hK hP 1 0 rfl rfl rfl (vp_lit (by decide)) dX8_opensLevel_20 ?_
  refine lv_iconst (v := 0) hx hb dX8_opensLevel_21 (by decide) ?_
  refine lv_iload_n hx hb dX8_opensLevel_22 rfl (lv_at hl 1 rfl) ?_
  obtain ⟨m_s_23, hq, hm⟩ := bd1_some hm
  refine k_callVV (As := [.int ((upd m_s (3 + (m_s 2)).toNatClampNeg 1) 2), .int 0, .int v1]) (rest := []) ⟨hx, hb, hml, hown, hts⟩ hK hA hN (c_X8_setSize (a := a) hq) (cwV 3 hts gX8_opensLevel_X8_setSize rfl rfl rfl hdX8_setSize ⟨Nat.le_of_ble_eq_true rfl, Nat.le_of_ble_eq_true rfl⟩) hP (va_D_re hD rfl) hS 0 8 rfl rfl rfl hl.1 rfl rfl (Nat.le_of_ble_eq_true rfl) ⟨Nat.zero_le _, Nat.zero_le _⟩ dX8_opensLevel_23 (fun H locs hP hS => ?_)
  refine lv_aload_n hx hb dX8_opensLevel_26 rfl (lv_at hl 0 rfl) ?_
  refine kg (v := .ref (a 1)) hx hb hts hiX8_opensLevel hown hK hP 0 rfl rfl 0 (by decide) flX8_opensLevel_7 rfl rfl dX8_opensLevel_27 ?_
  refine lv_iconst (v := 2) hx hb dX8_opensLevel_30 (by decide) ?_
  refine lv_dup2_11 hx hb dX8_opensLevel_31 rfl rfl ?_
  refine k_iald (j := 2) hx hb hK hP 1 0 rfl rfl rfl (vp_lit (by decide)) dX8_opensLevel_32 ?_
  refine lv_iconst (v := 1) hx hb dX8_opensLevel_33 (by decide) ?_
  refine lv_iadd hx hb dX8_opensLevel_34 ?_
  refine k_iast (j := 2) hx hb hK hP (va_D_re hD rfl) hS 1 0 rfl rfl rfl (vp_lit (by decide)) dX8_opensLevel_35 (fun H locs hP hS => ?_)
  have hP : va_P D vwCl (WM a cI (upd m_s_23 2 ((m_s_23 2) + 1)) m_past m_kept m_refused m_text m_asked m_heads m_forkBit m_forkFrom m_forkTo m_wayPage m_wayKnown m_wayGuess m_wayDiff m_wayRead m_wayPlace m_treeBit m_treeLeft m_treeRight m_treeAbove m_pileFrom m_pileTo m_pileAbove m_known m_typed m_askedLength m_entries m_forks m_guess m_diff m_read m_placeOf m_treeForks m_treeDeep) H := hP
  obtain rfl := Option.some.inj hm
  exact hret _ _ _ _ dX8_opensLevel_36 hP hS
