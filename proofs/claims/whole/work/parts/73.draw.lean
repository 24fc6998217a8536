/-! words by lots -/
def drw (X : Nat) : Nat := (X * 1103515245 + 12345) % 2147483648
theorem drw_lt (X : Nat) : drw X < 2147483648 := Nat.mod_lt _ (by decide)
theorem drawn_l {X : Nat} (h : X < 2147483648) : ((lN X * 1103515245) + 12345) - ((lN X * 1103515245) + 12345) / 2147483648 * 2147483648 = lN (drw X) := by
  have e : lN X * 1103515245 + 12345 = lN (X * 1103515245 + 12345) := by
    rw [show (1103515245 : Int64) = lN 1103515245 from rfl, lN_mul, show (12345 : Int64) = lN 12345 from rfl, lN_add]
  rw [e, show (2147483648 : Int64) = lN 2147483648 from rfl, pk_lRem (by omega) (by decide) (by decide)]
  rfl
theorem drawn_c {X : Nat} (h : X < 2147483648) : C7_drawn (lN X) = some (lN (drw X)) := by
  unfold C7_drawn
  rw [drawn_l h]
theorem drawn_m {X : Nat} (h : X < 2147483648) : M_drawn (lN X) = some (lN (drw X)) := by
  unfold M_drawn
  rw [drawn_l h]
theorem rem_n {R l : Nat} (hR : R < 2147483648) (h1 : 1 ≤ l) (hl : l ≤ 1000) : ((lN R / 65536) - (lN R / 65536) / (nI l).toInt64 * (nI l).toInt64).toInt32 = nI (R / 65536 % l) := by
  rw [nI_l (by omega), show (65536 : Int64) = lN 65536 from rfl, pk_lDiv (by omega) (by decide) (by decide), pk_lRem (by omega) (by omega) (by omega), lN_i]
theorem gzl_n {α : Type} {l : Nat} {x : Option α} (h1 : 1 ≤ l) (hl : l ≤ 1000) : gzl (nI l).toInt64 x = x := by
  refine if_neg (fun q => ?_)
  rw [nI_l (by omega)] at q
  have := (lN_eq (a := l) (b := 0) (by omega) (by decide)).mp q
  omega
def dx (X : Nat) : Nat → Nat
  | 0 => X
  | i + 1 => drw (dx X i)
theorem dx_lt {X : Nat} (h : X < 2147483648) : ∀ i, dx X i < 2147483648
  | 0 => h
  | i + 1 => drw_lt _
def dlt (l X i : Nat) : Nat := 97 + dx X (i + 1) / 65536 % l
theorem dlt_lt {l X i : Nat} (h1 : 1 ≤ l) (hl : l ≤ 26) : 1 ≤ dlt l X i ∧ dlt l X i < 128 := by
  have := Nat.mod_lt (dx X (i + 1) / 65536) (show 0 < l by omega)
  unfold dlt
  omega
theorem vu_vu {α : Type} {f : Nat → α} {k : Nat} {x y : α} : va_up (va_up f k x) k y = va_up f k y := by
  funext j
  by_cases c : j = k
  · rw [c, vu_s, vu_s]
  · rw [vu_n c, vu_n c, vu_n c]
theorem un_self (s : Nat → Nat) (j : Nat) : un s j (s j) = s := by
  funext i
  by_cases c : i = j
  · rw [c, un_s]
  · rw [un_n c]
theorem dw_L {a : Nat → Nat} {cs : Nat → Int32} {cbits : Nat → Nat → Int64} {l X len : Nat} (hX : X < 2147483648) (h1 : 1 ≤ l) (hl : l ≤ 26) (hlen : len ≤ 24) (v1 : Int64) (v3 : Int32) (k : (Nat → Int32) → (Nat → Nat → Int64) → Int64 → Option (Int64 × (Nat → Int32) × (Nat → Nat → Int64))) : ∀ (d i n : Nat) (B : Nat → Int64), i + d = len → d < n → wbits B i (dlt l X) → ∃ B', C7_drawWord_L43 a v1 v3 (nI l) k n (va_up cs (a 13) (nI i)) (va_up cbits (a 13) B) (lN (dx X i)) (nI len) (nI i) = k (va_up cs (a 13) (nI len)) (va_up cbits (a 13) B') (lN (dx X len)) ∧ wbits B' len (dlt l X) := by
  intro d
  induction d with
  | zero =>
    intro i n B hi hn hB
    obtain ⟨n, rfl⟩ : ∃ m, n = m + 1 := ⟨n - 1, by omega⟩
    have e : i = len := by omega
    subst e
    refine ⟨B, ?_, hB⟩
    rw [C7_drawWord_L43, il (by omega) (by omega), if_pos (by omega)]
  | succ d ih =>
    intro i n B hi hn hB
    obtain ⟨n, rfl⟩ : ∃ m, n = m + 1 := ⟨n - 1, by omega⟩
    obtain ⟨B1, e1, e2⟩ := append_n (cs := va_up cs (a 13) (nI i)) (cbits := va_up cbits (a 13) B) (w := a 13) (j := i) (x := dlt l X i) (s := dlt l X) vu_s (by rw [vu_s]; exact hB) (by omega) (dlt_lt h1 hl).2 (fun i _ => (dlt_lt h1 hl).2)
    rw [vu_vu, vu_vu] at e1
    rw [un_self] at e2
    obtain ⟨B', r1, r2⟩ := ih (i + 1) n B1 (by omega) (by omega) e2
    refine ⟨B', ?_, r2⟩
    have el : (97 : Int32) + ((lN (drw (dx X i)) / 65536) - (lN (drw (dx X i)) / 65536) / (nI l).toInt64 * (nI l).toInt64).toInt32 = nI (dlt l X i) := by
      rw [rem_n (drw_lt _) h1 (by omega)]
      exact nI_add 97 _
    rw [C7_drawWord_L43, il (by omega) (by omega), if_neg (by omega), drawn_c (dx_lt hX i), bd1_in, gzl_n h1 (by omega), el, e1, bd2_in, nI_p1]
    exact r1
theorem dw_n {a : Nat → Nat} {l sg X : Nat} (hX : X < 2147483648) (h1 : 1 ≤ l) (hl : l ≤ 26) (hs1 : 1 ≤ sg) (hs : sg ≤ 24) (cs : Nat → Int32) (cbits : Nat → Nat → Int64) : ∃ B, C7_drawWord a cs cbits (lN X) (nI sg) (nI l) = some (lN (dx (drw X) (drw X / 65536 % sg + 1)), va_up cs (a 13) (nI (drw X / 65536 % sg + 1)), va_up cbits (a 13) B) ∧ wbits B (drw X / 65536 % sg + 1) (dlt l (drw X)) := by
  have hlen := Nat.mod_lt (drw X / 65536) (show 0 < sg by omega)
  obtain ⟨B0, e0, hB0⟩ := empty_n (cs := cs) (cbits := cbits) (w := a 13)
  obtain ⟨B, e1, hB⟩ := dw_L (a := a) (cs := cs) (cbits := cbits) (len := drw X / 65536 % sg + 1) (drw_lt X) h1 hl (by omega) (lN X) (nI sg) (fun c_signs c_bits v5 => some (v5, c_signs, c_bits)) (drw X / 65536 % sg + 1) 0 FU B0 (by omega) (by have : FU = 20000 := rfl; omega) (hB0 _)
  refine ⟨B, ?_, hB⟩
  unfold C7_drawWord
  rw [e0, bd2_in, if_neg (show ¬ nI sg < 1 from (show ¬ nI sg < nI 1 from nI_nlt (by omega) (by omega))), if_pos (show (1 : Int32) ≤ nI l from (show nI 1 ≤ nI l from nI_le (by omega) (by omega))), drawn_c hX, bd1_in, gzl_n hs1 (by omega), rem_n (drw_lt X) hs1 (by omega), nI_p1]
  exact e1
theorem dl_L {l X len : Nat} (hX : X < 2147483648) (h1 : 1 ≤ l) (hl : l ≤ 26) (hlen : len ≤ 24) (v1 v2 v3 : Int32) (k : (Nat → Int32) → (Nat → Int32) → (Nat → Int32) → (Nat → Int32) → (Nat → Int32) → (Nat → Int32) → (Nat → Int32) → (Nat → Int32) → (Nat → Int32) → (Nat → Int32) → (Nat → Int32) → (Nat → Int32) → (Nat → Int32) → (Nat → Int32) → (Nat → Int32) → Int32 → Int32 → Int32 → Int32 → Int32 → Int32 → Int32 → Int32 → Int64 → Int32 → Int32 → Option (Int32 × (Nat → Int32) × (Nat → Int32) × (Nat → Int32) × (Nat → Int32) × (Nat → Int32) × (Nat → Int32) × (Nat → Int32) × (Nat → Int32) × (Nat → Int32) × (Nat → Int32) × (Nat → Int32) × (Nat → Int32) × (Nat → Int32) × (Nat → Int32) × (Nat → Int32) × Int32 × Int32 × Int32 × Int32 × Int32 × Int32 × Int32 × Int32)) (m_s m_past m_kept m_refused m_heads m_forkBit m_forkFrom m_forkTo m_wayPage m_wayKnown m_wayGuess m_wayDiff m_wayRead m_wayPlace : Nat → Int32) (m_known m_entries m_forks m_guess m_diff m_read m_placeOf : Int32) (v7 v8 : Int32) : ∀ (d i n : Nat) (ak : Nat → Nat), i + d = len → d < n → (∀ j, ak j < 128) → (∀ j, j < i → ak j = dlt l X j) → ∃ ak', M_draw_L94 v1 v2 v3 (nI l) k n m_s m_past m_kept m_refused (nf ak) m_heads m_forkBit m_forkFrom m_forkTo m_wayPage m_wayKnown m_wayGuess m_wayDiff m_wayRead m_wayPlace m_known (nI len) m_entries m_forks m_guess m_diff m_read m_placeOf (lN (dx X i)) v7 v8 (nI i) = k m_s m_past m_kept m_refused (nf ak') m_heads m_forkBit m_forkFrom m_forkTo m_wayPage m_wayKnown m_wayGuess m_wayDiff m_wayRead m_wayPlace m_known (nI len) m_entries m_forks m_guess m_diff m_read m_placeOf (lN (dx X len)) v7 v8 ∧ (∀ j, ak' j < 128) ∧ ∀ j, j < len → ak' j = dlt l X j := by
  intro d
  induction d with
  | zero =>
    intro i n ak hi hn ha hj
    obtain ⟨n, rfl⟩ : ∃ m, n = m + 1 := ⟨n - 1, by omega⟩
    have e : i = len := by omega
    subst e
    refine ⟨ak, ?_, ha, hj⟩
    rw [M_draw_L94, il (by omega) (by omega), if_pos (by omega)]
  | succ d ih =>
    intro i n ak hi hn ha hj
    obtain ⟨n, rfl⟩ : ∃ m, n = m + 1 := ⟨n - 1, by omega⟩
    obtain ⟨ak', r1, r2, r3⟩ := ih (i + 1) n (un ak i (dlt l X i)) (by omega) (by omega) (un_lt ha (dlt_lt h1 hl).2) (fun j hj' => by
      by_cases c : j = i
      · rw [c, un_s]
      · rw [un_n c]; exact hj j (by omega))
    refine ⟨ak', ?_, r2, r3⟩
    have el : (97 : Int32) + ((lN (drw (dx X i)) / 65536) - (lN (drw (dx X i)) / 65536) / (nI l).toInt64 * (nI l).toInt64).toInt32 = nI (dlt l X i) := by
      rw [rem_n (drw_lt _) h1 (by omega)]
      exact nI_add 97 _
    rw [M_draw_L94, il (by omega) (by omega), if_neg (by omega), drawn_m (dx_lt hX i), bd1_in, gzl_n h1 (by omega), ga_j (by omega) (by decide), nI_clamp (by omega), el, nf_upd, nI_p1]
    exact r1
theorem draw_L {a : Nat → Nat} {LW LS LK : List Nat} (hA : Ax a LS LK) {kn nx : Nat} {mp : Nat → Int32} {l sg N : Nat} (h1 : 1 ≤ l) (hl : l ≤ 26) (hs1 : 1 ≤ sg) (hsg : sg ≤ 24) (hN : N ≤ 8) (v1 : Int32) (kC : (Nat → Int32) → (Nat → Int32) → (Nat → Int32) → (Nat → Int32) → (Nat → Int32) → (Nat → Int32) → (Nat → Int32) → (Nat → Int32) → (Nat → Int32) → (Nat → Int32) → (Nat → Int32) → (Nat → Int32) → (Nat → Int32) → (Nat → Int32) → (Nat → Int32) → (Nat → Int32) → (Nat → Nat → Int64) → (Nat → Nat → Nat) → (Nat → Nat → Int32) → Int32 → Int32 → Int32 → Int32 → Int32 → Int32 → Int32 → Int32 → Int32 → Int32 → Int32 → Int32 → Option (Int32 × (Nat → Int32) × (Nat → Int32) × (Nat → Int32) × (Nat → Int32) × (Nat → Int32) × (Nat → Int32) × (Nat → Int32) × (Nat → Int32) × (Nat → Int32) × (Nat → Int32) × (Nat → Int32) × (Nat → Int32) × (Nat → Int32) × (Nat → Int32) × (Nat → Int32) × (Nat → Int32) × (Nat → Nat → Int64) × (Nat → Nat → Nat) × (Nat → Nat → Int32) × Int32 × Int32 × Int32 × Int32 × Int32 × Int32 × Int32 × Int32 × Int32 × Int32 × Int32)) (kM : (Nat → Int32) → (Nat → Int32) → (Nat → Int32) → (Nat → Int32) → (Nat → Int32) → (Nat → Int32) → (Nat → Int32) → (Nat → Int32) → (Nat → Int32) → (Nat → Int32) → (Nat → Int32) → (Nat → Int32) → (Nat → Int32) → (Nat → Int32) → (Nat → Int32) → Int32 → Int32 → Int32 → Int32 → Int32 → Int32 → Int32 → Int32 → Int32 → Option (Int32 × (Nat → Int32) × (Nat → Int32) × (Nat → Int32) × (Nat → Int32) × (Nat → Int32) × (Nat → Int32) × (Nat → Int32) × (Nat → Int32) × (Nat → Int32) × (Nat → Int32) × (Nat → Int32) × (Nat → Int32) × (Nat → Int32) × (Nat → Int32) × (Nat → Int32) × Int32 × Int32 × Int32 × Int32 × Int32 × Int32 × Int32 × Int32)) (c_most : Nat → Int32) (c_bads c_noes c_fulls c_next c_kept : Int32) (m_past m_kept m_refused : Nat → Int32) (m_known : Int32) : ∀ (d i n1 n2 cnt X : Nat) (S : Nat → Nat) (c_heads : Nat → Int32) (c_firsts : Nat → Int32) (c_levelOf : Nat → Int32) (c_aboveOf : Nat → Int32) (c_partings : Nat → Int32) (c_signs : Nat → Int32) (c_count : Nat → Int32) (c_pages : Nat → Int32) (c_levels : Nat → Int32) (c_page : Nat → Int32) (c_known : Nat → Int32) (c_guess : Nat → Int32) (c_diff : Nat → Int32) (c_pieces : Nat → Int32) (c_place : Nat → Int32) (c_bits : Nat → Nat → Int64) (c_words : Nat → Nat → Nat) (c_entries : Nat → Nat → Int32) (c_base : Int32) (c_from : Int32) (c_to : Int32) (c_above : Int32) (c_bit : Int32) (c_lastLeft : Int32) (ak : Nat → Nat) (al : Nat) (m_heads m_forkBit m_forkFrom m_forkTo m_wayPage m_wayKnown m_wayGuess m_wayDiff m_wayRead m_wayPlace : Nat → Int32) (m_entries m_forks m_guess m_diff m_read m_placeOf : Int32), i + d = N → d < n1 → d < n2 → X < 2147483648 → GS S → Cpl LW S (a 14) c_count c_pages c_levels c_most c_signs c_bits c_words c_entries → Stl S c_heads c_firsts c_levelOf c_aboveOf c_partings → Wds a LW c_words → Rng a LW kn nx mp c_count c_pages c_levels c_most c_signs c_bits c_words c_entries → (∀ j, ak j < 128) → al ≤ 24 → ∃ (cnt' : Nat) (S2 : Nat → Nat) (c_heads2 : Nat → Int32) (c_firsts2 : Nat → Int32) (c_levelOf2 : Nat → Int32) (c_aboveOf2 : Nat → Int32) (c_partings2 : Nat → Int32) (c_signs2 : Nat → Int32) (c_count2 : Nat → Int32) (c_pages2 : Nat → Int32) (c_levels2 : Nat → Int32) (c_page2 : Nat → Int32) (c_known2 : Nat → Int32) (c_guess2 : Nat → Int32) (c_diff2 : Nat → Int32) (c_pieces2 : Nat → Int32) (c_place2 : Nat → Int32) (c_bits2 : Nat → Nat → Int64) (c_words2 : Nat → Nat → Nat) (c_entries2 : Nat → Nat → Int32) (c_base2 : Int32) (c_from2 : Int32) (c_to2 : Int32) (c_above2 : Int32) (c_bit2 : Int32) (c_lastLeft2 : Int32) (ak2 : Nat → Nat) (al2 : Nat) (m_heads2 m_forkBit2 m_forkFrom2 m_forkTo2 m_wayPage2 m_wayKnown2 m_wayGuess2 m_wayDiff2 m_wayRead2 m_wayPlace2 : Nat → Int32) (m_entries2 m_forks2 m_guess2 m_diff2 m_read2 m_placeOf2 : Int32), C7_draw_L83 a LW LS LK v1 (nI N) (nI sg) (nI l) kC n1 c_heads c_firsts c_levelOf c_aboveOf c_partings c_signs c_count c_pages c_levels c_most c_page c_known c_guess c_diff c_pieces c_place c_bits c_words c_entries c_bads c_noes c_fulls c_next c_kept c_base c_from c_to c_above c_bit c_lastLeft (nI cnt) (lN X) (nI i) = kC c_heads2 c_firsts2 c_levelOf2 c_aboveOf2 c_partings2 c_signs2 c_count2 c_pages2 c_levels2 c_most c_page2 c_known2 c_guess2 c_diff2 c_pieces2 c_place2 c_bits2 c_words2 c_entries2 c_bads c_noes c_fulls c_next c_kept c_base2 c_from2 c_to2 c_above2 c_bit2 c_lastLeft2 (nI cnt') ∧ M_draw_L62 v1 (nI N) (nI sg) (nI l) kM n2 (nf S) m_past m_kept m_refused (nf ak) m_heads m_forkBit m_forkFrom m_forkTo m_wayPage m_wayKnown m_wayGuess m_wayDiff m_wayRead m_wayPlace m_known (nI al) m_entries m_forks m_guess m_diff m_read m_placeOf (lN X) (nI cnt) (nI i) = kM (nf S2) m_past m_kept m_refused (nf ak2) m_heads2 m_forkBit2 m_forkFrom2 m_forkTo2 m_wayPage2 m_wayKnown2 m_wayGuess2 m_wayDiff2 m_wayRead2 m_wayPlace2 m_known (nI al2) m_entries2 m_forks2 m_guess2 m_diff2 m_read2 m_placeOf2 (nI cnt') ∧ GS S2 ∧ Cpl LW S2 (a 14) c_count2 c_pages2 c_levels2 c_most c_signs2 c_bits2 c_words2 c_entries2 ∧ Stl S2 c_heads2 c_firsts2 c_levelOf2 c_aboveOf2 c_partings2 ∧ Wds a LW c_words2 ∧ Rng a LW kn nx mp c_count2 c_pages2 c_levels2 c_most c_signs2 c_bits2 c_words2 c_entries2 ∧ (∀ j, ak2 j < 128) ∧ al2 ≤ 24 := by
  intro d
  induction d with
  | zero =>
    intro i n1 n2 cnt X S c_heads c_firsts c_levelOf c_aboveOf c_partings c_signs c_count c_pages c_levels c_page c_known c_guess c_diff c_pieces c_place c_bits c_words c_entries c_base c_from c_to c_above c_bit c_lastLeft ak al m_heads m_forkBit m_forkFrom m_forkTo m_wayPage m_wayKnown m_wayGuess m_wayDiff m_wayRead m_wayPlace m_entries m_forks m_guess m_diff m_read m_placeOf hi hn1 hn2 hX hg hc hs hW hr hak hal
    obtain ⟨n1, rfl⟩ : ∃ m, n1 = m + 1 := ⟨n1 - 1, by omega⟩
    obtain ⟨n2, rfl⟩ : ∃ m, n2 = m + 1 := ⟨n2 - 1, by omega⟩
    refine ⟨cnt, S, c_heads, c_firsts, c_levelOf, c_aboveOf, c_partings, c_signs, c_count, c_pages, c_levels, c_page, c_known, c_guess, c_diff, c_pieces, c_place, c_bits, c_words, c_entries, c_base, c_from, c_to, c_above, c_bit, c_lastLeft, ak, al, m_heads, m_forkBit, m_forkFrom, m_forkTo, m_wayPage, m_wayKnown, m_wayGuess, m_wayDiff, m_wayRead, m_wayPlace, m_entries, m_forks, m_guess, m_diff, m_read, m_placeOf, ?_, ?_, hg, hc, hs, hW, hr, hak, hal⟩
    · rw [C7_draw_L83, il (by omega) (by omega), if_pos (by omega)]
    · rw [M_draw_L62, il (by omega) (by omega), if_pos (by omega)]
  | succ d ih =>
    intro i n1 n2 cnt X S c_heads c_firsts c_levelOf c_aboveOf c_partings c_signs c_count c_pages c_levels c_page c_known c_guess c_diff c_pieces c_place c_bits c_words c_entries c_base c_from c_to c_above c_bit c_lastLeft ak al m_heads m_forkBit m_forkFrom m_forkTo m_wayPage m_wayKnown m_wayGuess m_wayDiff m_wayRead m_wayPlace m_entries m_forks m_guess m_diff m_read m_placeOf hi hn1 hn2 hX hg hc hs hW hr hak hal
    obtain ⟨n1, rfl⟩ : ∃ m, n1 = m + 1 := ⟨n1 - 1, by omega⟩
    obtain ⟨n2, rfl⟩ : ∃ m, n2 = m + 1 := ⟨n2 - 1, by omega⟩
    have hlen := Nat.mod_lt (drw X / 65536) (show 0 < sg by omega)
    have h48 := gs48 hg
    obtain ⟨B, e1, hB⟩ := dw_n (a := a) hX h1 hl hs1 hsg c_signs c_bits
    obtain ⟨hc1, hr1⟩ := up13 hW hg hc hr (nI (drw X / 65536 % sg + 1)) B
    generalize hlen2 : drw X / 65536 % sg + 1 = len at *
    obtain ⟨ak1, e2, hak1, hak2⟩ := dl_L (len := len) (drw_lt X) h1 hl (by omega) v1 (nI N) (nI sg) (fun m_s m_past m_kept m_refused m_asked m_heads m_forkBit m_forkFrom m_forkTo m_wayPage m_wayKnown m_wayGuess m_wayDiff m_wayRead m_wayPlace m_known m_askedLength m_entries m_forks m_guess m_diff m_read m_placeOf v5 v7 v8 => bd1 (M_isThere m_s m_asked m_askedLength) fun r138 => if r138 = 0 then (if 48 ≤ (m_s 0) then (M_draw_L62 v1 (nI N) (nI sg) (nI l) kM n2 m_s m_past m_kept m_refused m_asked m_heads m_forkBit m_forkFrom m_forkTo m_wayPage m_wayKnown m_wayGuess m_wayDiff m_wayRead m_wayPlace m_known m_askedLength m_entries m_forks m_guess m_diff m_read m_placeOf v5 v7 (v8 + 1)) else (bd17 (M_adds m_asked m_askedLength m_s m_heads m_forkBit m_forkFrom m_forkTo m_wayPage m_wayKnown m_wayGuess m_wayDiff m_wayRead m_wayPlace m_entries m_forks m_guess m_diff m_read m_placeOf) fun m_s_156 m_heads_156 m_forkBit_156 m_forkFrom_156 m_forkTo_156 m_wayPage_156 m_wayKnown_156 m_wayGuess_156 m_wayDiff_156 m_wayRead_156 m_wayPlace_156 m_entries_156 m_forks_156 m_guess_156 m_diff_156 m_read_156 m_placeOf_156 => M_draw_L62 v1 (nI N) (nI sg) (nI l) kM n2 m_s_156 m_past m_kept m_refused m_asked m_heads_156 m_forkBit_156 m_forkFrom_156 m_forkTo_156 m_wayPage_156 m_wayKnown_156 m_wayGuess_156 m_wayDiff_156 m_wayRead_156 m_wayPlace_156 m_known m_askedLength m_entries_156 m_forks_156 m_guess_156 m_diff_156 m_read_156 m_placeOf_156 v5 (v7 + 1) (v8 + 1))) else (M_draw_L62 v1 (nI N) (nI sg) (nI l) kM n2 m_s m_past m_kept m_refused m_asked m_heads m_forkBit m_forkFrom m_forkTo m_wayPage m_wayKnown m_wayGuess m_wayDiff m_wayRead m_wayPlace m_known m_askedLength m_entries m_forks m_guess m_diff m_read m_placeOf v5 v7 (v8 + 1))) (nf S) m_past m_kept m_refused m_heads m_forkBit m_forkFrom m_forkTo m_wayPage m_wayKnown m_wayGuess m_wayDiff m_wayRead m_wayPlace m_known m_entries m_forks m_guess m_diff m_read m_placeOf (nI cnt) (nI i) len 0 FU ak (by omega) (by have : FU = 20000 := rfl; omega) hak (fun j hj => absurd hj (by omega))
    have ha : aok ak1 len := ⟨by omega, fun j _ => hak1 j⟩
    have hwb : ∀ b, b < 192 → cb (va_up c_bits (a 13) B (a 13)) b = ab ak1 len b := fun b hb => by
      rw [vu_s]
      exact wbits_congr hB (fun i hi => (hak2 i hi).symm) b hb
    obtain ⟨S1, h1', f1', l1', a1', p1', s1', n1', g1', v1', d1, d2, d3, d4, d5, d6, b1', w1', e1', y1, y2, y3, y4, y5, y6, r, q1, q2, q3, q4, q5, q6, q7⟩ := insNew_n hA hg hc1 hs hW hr1 ha (by omega) vu_s hwb c_page c_known c_guess c_diff c_pieces c_place c_base c_from c_to c_above c_bit c_lastLeft m_heads m_forkBit m_forkFrom m_forkTo m_wayPage m_wayKnown m_wayGuess m_wayDiff m_wayRead m_wayPlace m_entries m_forks m_guess m_diff m_read m_placeOf
    have eT := there_n hg.1.1 ha
    have eL : M_draw_L62 v1 (nI N) (nI sg) (nI l) kM (n2 + 1) (nf S) m_past m_kept m_refused (nf ak) m_heads m_forkBit m_forkFrom m_forkTo m_wayPage m_wayKnown m_wayGuess m_wayDiff m_wayRead m_wayPlace m_known (nI al) m_entries m_forks m_guess m_diff m_read m_placeOf (lN X) (nI cnt) (nI i) = bd1 (M_isThere (nf S) (nf ak1) (nI len)) fun r138 => if r138 = 0 then (if 48 ≤ (nf S 0) then (M_draw_L62 v1 (nI N) (nI sg) (nI l) kM n2 (nf S) m_past m_kept m_refused (nf ak1) m_heads m_forkBit m_forkFrom m_forkTo m_wayPage m_wayKnown m_wayGuess m_wayDiff m_wayRead m_wayPlace m_known (nI len) m_entries m_forks m_guess m_diff m_read m_placeOf (lN (dx (drw X) len)) (nI cnt) (nI i + 1)) else (bd17 (M_adds (nf ak1) (nI len) (nf S) m_heads m_forkBit m_forkFrom m_forkTo m_wayPage m_wayKnown m_wayGuess m_wayDiff m_wayRead m_wayPlace m_entries m_forks m_guess m_diff m_read m_placeOf) fun m_s_156 m_heads_156 m_forkBit_156 m_forkFrom_156 m_forkTo_156 m_wayPage_156 m_wayKnown_156 m_wayGuess_156 m_wayDiff_156 m_wayRead_156 m_wayPlace_156 m_entries_156 m_forks_156 m_guess_156 m_diff_156 m_read_156 m_placeOf_156 => M_draw_L62 v1 (nI N) (nI sg) (nI l) kM n2 m_s_156 m_past m_kept m_refused (nf ak1) m_heads_156 m_forkBit_156 m_forkFrom_156 m_forkTo_156 m_wayPage_156 m_wayKnown_156 m_wayGuess_156 m_wayDiff_156 m_wayRead_156 m_wayPlace_156 m_known (nI len) m_entries_156 m_forks_156 m_guess_156 m_diff_156 m_read_156 m_placeOf_156 (lN (dx (drw X) len)) (nI cnt + 1) (nI i + 1))) else (M_draw_L62 v1 (nI N) (nI sg) (nI l) kM n2 (nf S) m_past m_kept m_refused (nf ak1) m_heads m_forkBit m_forkFrom m_forkTo m_wayPage m_wayKnown m_wayGuess m_wayDiff m_wayRead m_wayPlace m_known (nI len) m_entries m_forks m_guess m_diff m_read m_placeOf (lN (dx (drw X) len)) (nI cnt) (nI i + 1)) := by
      rw [M_draw_L62, il (by omega) (by omega), if_neg (by omega), drawn_m hX, bd1_in, gzl_n hs1 (by omega), rem_n (drw_lt X) hs1 (by omega), nI_p1, hlen2]
      exact e2
    have eC : C7_draw_L83 a LW LS LK v1 (nI N) (nI sg) (nI l) kC (n1 + 1) c_heads c_firsts c_levelOf c_aboveOf c_partings c_signs c_count c_pages c_levels c_most c_page c_known c_guess c_diff c_pieces c_place c_bits c_words c_entries c_bads c_noes c_fulls c_next c_kept c_base c_from c_to c_above c_bit c_lastLeft (nI cnt) (lN X) (nI i) = C7_draw_L83 a LW LS LK v1 (nI N) (nI sg) (nI l) kC n1 h1' f1' l1' a1' p1' s1' n1' g1' v1' c_most d1 d2 d3 d4 d5 d6 b1' w1' e1' c_bads c_noes c_fulls c_next c_kept y1 y2 y3 y4 y5 y6 (nI (cnt + r)) (lN (dx (drw X) len)) (nI (i + 1)) := by
      rw [C7_draw_L83, il (by omega) (by omega), if_neg (by omega), e1, bd3_in, q1, bd25_in, nI_p1, nI_p1]
      rcases q7 with ⟨z1, -, -⟩ | ⟨z1, -, -⟩
      · rw [z1, if_pos (by decide)]
        rfl
      · rw [z1, if_neg (by decide)]
    rw [eL, eC, eT, bd1_in, nf_a, nI_p1, nI_p1]
    rcases q7 with ⟨z1, z2, z3⟩ | ⟨z1, z2, z3, hs1, fb1, ff1, ft1, wp1, wk1, wg1, wd1, wr1, wl1, me1, mf1, mg1, md1, mr1, mp1, z4⟩
    · subst z2
      have eM : (if nI (thv S1 ak1 len) = 0 then (if 48 ≤ nI (S1 0) then (M_draw_L62 v1 (nI N) (nI sg) (nI l) kM n2 (nf S1) m_past m_kept m_refused (nf ak1) m_heads m_forkBit m_forkFrom m_forkTo m_wayPage m_wayKnown m_wayGuess m_wayDiff m_wayRead m_wayPlace m_known (nI len) m_entries m_forks m_guess m_diff m_read m_placeOf (lN (dx (drw X) len)) (nI cnt) (nI (i + 1))) else (bd17 (M_adds (nf ak1) (nI len) (nf S1) m_heads m_forkBit m_forkFrom m_forkTo m_wayPage m_wayKnown m_wayGuess m_wayDiff m_wayRead m_wayPlace m_entries m_forks m_guess m_diff m_read m_placeOf) fun m_s_156 m_heads_156 m_forkBit_156 m_forkFrom_156 m_forkTo_156 m_wayPage_156 m_wayKnown_156 m_wayGuess_156 m_wayDiff_156 m_wayRead_156 m_wayPlace_156 m_entries_156 m_forks_156 m_guess_156 m_diff_156 m_read_156 m_placeOf_156 => M_draw_L62 v1 (nI N) (nI sg) (nI l) kM n2 m_s_156 m_past m_kept m_refused (nf ak1) m_heads_156 m_forkBit_156 m_forkFrom_156 m_forkTo_156 m_wayPage_156 m_wayKnown_156 m_wayGuess_156 m_wayDiff_156 m_wayRead_156 m_wayPlace_156 m_known (nI len) m_entries_156 m_forks_156 m_guess_156 m_diff_156 m_read_156 m_placeOf_156 (lN (dx (drw X) len)) (nI (cnt + 1)) (nI (i + 1)))) else (M_draw_L62 v1 (nI N) (nI sg) (nI l) kM n2 (nf S1) m_past m_kept m_refused (nf ak1) m_heads m_forkBit m_forkFrom m_forkTo m_wayPage m_wayKnown m_wayGuess m_wayDiff m_wayRead m_wayPlace m_known (nI len) m_entries m_forks m_guess m_diff m_read m_placeOf (lN (dx (drw X) len)) (nI cnt) (nI (i + 1)))) = M_draw_L62 v1 (nI N) (nI sg) (nI l) kM n2 (nf S1) m_past m_kept m_refused (nf ak1) m_heads m_forkBit m_forkFrom m_forkTo m_wayPage m_wayKnown m_wayGuess m_wayDiff m_wayRead m_wayPlace m_known (nI len) m_entries m_forks m_guess m_diff m_read m_placeOf (lN (dx (drw X) len)) (nI cnt) (nI (i + 1)) := by
        rcases z3 with z3 | ⟨z3, z5⟩
        · rw [z3, if_neg (by decide)]
        · rw [z3, if_pos (by decide), z5, if_pos (by decide)]
      rw [eM, z1, Nat.add_zero]
      exact ih (i + 1) n1 n2 cnt (dx (drw X) len) S1 h1' f1' l1' a1' p1' s1' n1' g1' v1' d1 d2 d3 d4 d5 d6 b1' w1' e1' y1 y2 y3 y4 y5 y6 ak1 len m_heads m_forkBit m_forkFrom m_forkTo m_wayPage m_wayKnown m_wayGuess m_wayDiff m_wayRead m_wayPlace m_entries m_forks m_guess m_diff m_read m_placeOf (by omega) (by omega) (by omega) (dx_lt (drw_lt X) _) q2 q3 q4 q5 q6 hak1 (by omega)
    · rw [z2, if_pos (by decide), show (48 : Int32) = nI 48 from rfl, il (by decide) (by omega), if_neg (by omega), z4, bd17_in, z1]
      exact ih (i + 1) n1 n2 (cnt + 1) (dx (drw X) len) S1 h1' f1' l1' a1' p1' s1' n1' g1' v1' d1 d2 d3 d4 d5 d6 b1' w1' e1' y1 y2 y3 y4 y5 y6 ak1 len hs1 fb1 ff1 ft1 wp1 wk1 wg1 wd1 wr1 wl1 me1 mf1 mg1 md1 mr1 mp1 (by omega) (by omega) (by omega) (dx_lt (drw_lt X) _) q2 q3 q4 q5 q6 hak1 (by omega)
theorem rg_n (v : Int32) {l h : Nat} (hl : l < 2 ^ 30) (hh : h < 2 ^ 30) : (v < nI l ∧ M_in v (nI l) (nI h) = some 0) ∨ (¬ v < nI l ∧ nI h < v ∧ ¬ v ≤ nI h ∧ M_in v (nI l) (nI h) = some 0) ∨ ∃ c, v = nI c ∧ l ≤ c ∧ c ≤ h ∧ M_in v (nI l) (nI h) = some 1 := by
  by_cases c1 : v < nI l
  · exact Or.inl ⟨c1, by unfold M_in; rw [if_pos c1]⟩
  · by_cases c2 : nI h < v
    · exact Or.inr (Or.inl ⟨c1, c2, fun q => by rw [Int32.le_iff_toInt_le] at q; rw [Int32.lt_iff_toInt_lt] at c2; omega, in_hi c2⟩)
    · by_cases c3 : v < 0
      · exact absurd (lo3 (n := l) c3 (by omega)).1 c1
      · obtain ⟨c, hc, rfl⟩ := nI_of c3
        have h2 : c ≤ h := by
          rcases Nat.lt_or_ge h c with q | q
          · exact absurd (nI_lt q hc) c2
          · exact q
        have h1 : l ≤ c := by
          rcases Nat.lt_or_ge c l with q | q
          · exact absurd (nI_lt q (by omega)) c1
          · exact q
        exact Or.inr (Or.inr ⟨c, rfl, h1, h2, in_ok c1 c2⟩)
theorem stp_draw {a : Nat → Nat} {LW LS LK : List Nat} (hA : Ax a LS LK) : Stp_draw a LW LS LK (II a LW) := by
  intro c_bytes c_heads c_firsts c_levelOf c_aboveOf c_partings c_signs c_count c_pages c_levels c_most c_page c_known c_guess c_diff c_pieces c_place c_bits c_words c_entries c_bads c_noes c_fulls c_length c_next c_kept c_base c_from c_to c_above c_bit c_lastLeft m_s m_past m_kept m_refused m_text m_asked m_heads m_forkBit m_forkFrom m_forkTo m_wayPage m_wayKnown m_wayGuess m_wayDiff m_wayRead m_wayPlace m_treeBit m_treeLeft m_treeRight m_treeAbove m_pileFrom m_pileTo m_pileAbove m_known m_typed m_askedLength m_entries m_forks m_guess m_diff m_read m_placeOf m_treeForks m_treeDeep v1 v2 v3 v4 hI
  obtain ⟨S, T, ak, tl, al, kn, nx, ⟨rfl, hg, hc, hs⟩, ⟨rfl, rfl, rfl, rfl, ht, hT⟩, ⟨rfl, rfl, hal, hak⟩, hR, ⟨rfl, rfl, rfl, hW, hr⟩⟩ := hI
  have r1 := rg_n v1 (l := 0) (h := 999999) (by decide) (by decide)
  have r2 := rg_n v2 (l := 1) (h := 8) (by decide) (by decide)
  have r3 := rg_n v3 (l := 1) (h := 24) (by decide) (by decide)
  have r4 := rg_n v4 (l := 1) (h := 26) (by decide) (by decide)
  rcases r1 with ⟨q1, m1⟩ | ⟨q1, q1b, q1c, m1⟩ | ⟨sd, e1, l1, u1, m1⟩
  · refine ⟨-2, c_heads, c_firsts, c_levelOf, c_aboveOf, c_partings, c_signs, c_count, c_pages, c_levels, c_most, c_page, c_known, c_guess, c_diff, c_pieces, c_place, c_bits, c_words, c_entries, c_bads + 1, c_noes, c_fulls, nI nx, nI kn, c_base, c_from, c_to, c_above, c_bit, c_lastLeft, nf S, m_past, m_kept, upd m_refused 0 (m_refused 0 + 1), nf ak, m_heads, m_forkBit, m_forkFrom, m_forkTo, m_wayPage, m_wayKnown, m_wayGuess, m_wayDiff, m_wayRead, m_wayPlace, nI kn, nI al, m_entries, m_forks, m_guess, m_diff, m_read, m_placeOf, ?_, ?_, ?_⟩
    · unfold C7_draw C7_draw_J21 C7_draw_J52
      rw [if_pos (show v1 < 0 from q1), rf_bad, bd4_in]
    · unfold M_draw M_draw_J41
      rw [show M_in v1 0 999999 = some 0 from m1, bd1_in, if_pos rfl, mr_bad, bd2_in]
    · exact ⟨S, T, ak, tl, al, kn, nx, ⟨rfl, hg, hc, hs⟩, ⟨rfl, rfl, rfl, rfl, ht, hT⟩, ⟨rfl, rfl, hal, hak⟩, rx_bad hR, ⟨rfl, rfl, rfl, hW, hr⟩⟩
  · refine ⟨-2, c_heads, c_firsts, c_levelOf, c_aboveOf, c_partings, c_signs, c_count, c_pages, c_levels, c_most, c_page, c_known, c_guess, c_diff, c_pieces, c_place, c_bits, c_words, c_entries, c_bads + 1, c_noes, c_fulls, nI nx, nI kn, c_base, c_from, c_to, c_above, c_bit, c_lastLeft, nf S, m_past, m_kept, upd m_refused 0 (m_refused 0 + 1), nf ak, m_heads, m_forkBit, m_forkFrom, m_forkTo, m_wayPage, m_wayKnown, m_wayGuess, m_wayDiff, m_wayRead, m_wayPlace, nI kn, nI al, m_entries, m_forks, m_guess, m_diff, m_read, m_placeOf, ?_, ?_, ?_⟩
    · unfold C7_draw C7_draw_J21 C7_draw_J52
      rw [if_neg (show ¬ v1 < 0 from q1), if_pos (show (999999 : Int32) < v1 from q1b), rf_bad, bd4_in]
    · unfold M_draw M_draw_J41
      rw [show M_in v1 0 999999 = some 0 from m1, bd1_in, if_pos rfl, mr_bad, bd2_in]
    · exact ⟨S, T, ak, tl, al, kn, nx, ⟨rfl, hg, hc, hs⟩, ⟨rfl, rfl, rfl, rfl, ht, hT⟩, ⟨rfl, rfl, hal, hak⟩, rx_bad hR, ⟨rfl, rfl, rfl, hW, hr⟩⟩
  · rcases r2 with ⟨q2, m2⟩ | ⟨q2, q2b, q2c, m2⟩ | ⟨N, e2, l2, u2, m2⟩
    · refine ⟨-2, c_heads, c_firsts, c_levelOf, c_aboveOf, c_partings, c_signs, c_count, c_pages, c_levels, c_most, c_page, c_known, c_guess, c_diff, c_pieces, c_place, c_bits, c_words, c_entries, c_bads + 1, c_noes, c_fulls, nI nx, nI kn, c_base, c_from, c_to, c_above, c_bit, c_lastLeft, nf S, m_past, m_kept, upd m_refused 0 (m_refused 0 + 1), nf ak, m_heads, m_forkBit, m_forkFrom, m_forkTo, m_wayPage, m_wayKnown, m_wayGuess, m_wayDiff, m_wayRead, m_wayPlace, nI kn, nI al, m_entries, m_forks, m_guess, m_diff, m_read, m_placeOf, ?_, ?_, ?_⟩
      · unfold C7_draw C7_draw_J21 C7_draw_J52
        rw [if_neg (show ¬ v1 < 0 from (by rw [e1]; exact nI_pos (by omega))), if_neg (show ¬ (999999 : Int32) < v1 from (show ¬ nI 999999 < v1 by rw [e1]; exact nI_nlt (by omega) (by omega))), if_pos (show v2 < 1 from q2), rf_bad, bd4_in]
      · unfold M_draw M_draw_J41
        rw [show M_in v1 0 999999 = some 1 from m1, bd1_in, if_neg (by decide), show M_in v2 1 8 = some 0 from m2, bd1_in, if_pos rfl, mr_bad, bd2_in]
      · exact ⟨S, T, ak, tl, al, kn, nx, ⟨rfl, hg, hc, hs⟩, ⟨rfl, rfl, rfl, rfl, ht, hT⟩, ⟨rfl, rfl, hal, hak⟩, rx_bad hR, ⟨rfl, rfl, rfl, hW, hr⟩⟩
    · refine ⟨-2, c_heads, c_firsts, c_levelOf, c_aboveOf, c_partings, c_signs, c_count, c_pages, c_levels, c_most, c_page, c_known, c_guess, c_diff, c_pieces, c_place, c_bits, c_words, c_entries, c_bads + 1, c_noes, c_fulls, nI nx, nI kn, c_base, c_from, c_to, c_above, c_bit, c_lastLeft, nf S, m_past, m_kept, upd m_refused 0 (m_refused 0 + 1), nf ak, m_heads, m_forkBit, m_forkFrom, m_forkTo, m_wayPage, m_wayKnown, m_wayGuess, m_wayDiff, m_wayRead, m_wayPlace, nI kn, nI al, m_entries, m_forks, m_guess, m_diff, m_read, m_placeOf, ?_, ?_, ?_⟩
      · unfold C7_draw C7_draw_J21 C7_draw_J52
        rw [if_neg (show ¬ v1 < 0 from (by rw [e1]; exact nI_pos (by omega))), if_neg (show ¬ (999999 : Int32) < v1 from (show ¬ nI 999999 < v1 by rw [e1]; exact nI_nlt (by omega) (by omega))), if_neg (show ¬ v2 < 1 from q2), if_neg (show ¬ v2 ≤ 8 from q2c), rf_bad, bd4_in]
      · unfold M_draw M_draw_J41
        rw [show M_in v1 0 999999 = some 1 from m1, bd1_in, if_neg (by decide), show M_in v2 1 8 = some 0 from m2, bd1_in, if_pos rfl, mr_bad, bd2_in]
      · exact ⟨S, T, ak, tl, al, kn, nx, ⟨rfl, hg, hc, hs⟩, ⟨rfl, rfl, rfl, rfl, ht, hT⟩, ⟨rfl, rfl, hal, hak⟩, rx_bad hR, ⟨rfl, rfl, rfl, hW, hr⟩⟩
    · have w2 : ¬ v2 < 1 := (show ¬ v2 < nI 1 by rw [e2]; exact nI_nlt (by omega) (by omega))
      have w2b : v2 ≤ 8 := (show v2 ≤ nI 8 by rw [e2]; exact nI_le (by omega) (by decide))
      rcases r3 with ⟨q3, m3⟩ | ⟨q3, q3b, q3c, m3⟩ | ⟨sg, e3, l3, u3, m3⟩
      · refine ⟨-2, c_heads, c_firsts, c_levelOf, c_aboveOf, c_partings, c_signs, c_count, c_pages, c_levels, c_most, c_page, c_known, c_guess, c_diff, c_pieces, c_place, c_bits, c_words, c_entries, c_bads + 1, c_noes, c_fulls, nI nx, nI kn, c_base, c_from, c_to, c_above, c_bit, c_lastLeft, nf S, m_past, m_kept, upd m_refused 0 (m_refused 0 + 1), nf ak, m_heads, m_forkBit, m_forkFrom, m_forkTo, m_wayPage, m_wayKnown, m_wayGuess, m_wayDiff, m_wayRead, m_wayPlace, nI kn, nI al, m_entries, m_forks, m_guess, m_diff, m_read, m_placeOf, ?_, ?_, ?_⟩
        · unfold C7_draw C7_draw_J21 C7_draw_J52
          rw [if_neg (show ¬ v1 < 0 from (by rw [e1]; exact nI_pos (by omega))), if_neg (show ¬ (999999 : Int32) < v1 from (show ¬ nI 999999 < v1 by rw [e1]; exact nI_nlt (by omega) (by omega))), if_neg w2, if_pos w2b, if_pos (show v3 < 1 from q3), rf_bad, bd4_in]
        · unfold M_draw M_draw_J41
          rw [show M_in v1 0 999999 = some 1 from m1, bd1_in, if_neg (by decide), show M_in v2 1 8 = some 1 from m2, bd1_in, if_neg (by decide), show M_in v3 1 24 = some 0 from m3, bd1_in, if_pos rfl, mr_bad, bd2_in]
        · exact ⟨S, T, ak, tl, al, kn, nx, ⟨rfl, hg, hc, hs⟩, ⟨rfl, rfl, rfl, rfl, ht, hT⟩, ⟨rfl, rfl, hal, hak⟩, rx_bad hR, ⟨rfl, rfl, rfl, hW, hr⟩⟩
      · refine ⟨-2, c_heads, c_firsts, c_levelOf, c_aboveOf, c_partings, c_signs, c_count, c_pages, c_levels, c_most, c_page, c_known, c_guess, c_diff, c_pieces, c_place, c_bits, c_words, c_entries, c_bads + 1, c_noes, c_fulls, nI nx, nI kn, c_base, c_from, c_to, c_above, c_bit, c_lastLeft, nf S, m_past, m_kept, upd m_refused 0 (m_refused 0 + 1), nf ak, m_heads, m_forkBit, m_forkFrom, m_forkTo, m_wayPage, m_wayKnown, m_wayGuess, m_wayDiff, m_wayRead, m_wayPlace, nI kn, nI al, m_entries, m_forks, m_guess, m_diff, m_read, m_placeOf, ?_, ?_, ?_⟩
        · unfold C7_draw C7_draw_J21 C7_draw_J52
          rw [if_neg (show ¬ v1 < 0 from (by rw [e1]; exact nI_pos (by omega))), if_neg (show ¬ (999999 : Int32) < v1 from (show ¬ nI 999999 < v1 by rw [e1]; exact nI_nlt (by omega) (by omega))), if_neg w2, if_pos w2b, if_neg (show ¬ v3 < 1 from q3), if_pos (show (24 : Int32) < v3 from q3b), rf_bad, bd4_in]
        · unfold M_draw M_draw_J41
          rw [show M_in v1 0 999999 = some 1 from m1, bd1_in, if_neg (by decide), show M_in v2 1 8 = some 1 from m2, bd1_in, if_neg (by decide), show M_in v3 1 24 = some 0 from m3, bd1_in, if_pos rfl, mr_bad, bd2_in]
        · exact ⟨S, T, ak, tl, al, kn, nx, ⟨rfl, hg, hc, hs⟩, ⟨rfl, rfl, rfl, rfl, ht, hT⟩, ⟨rfl, rfl, hal, hak⟩, rx_bad hR, ⟨rfl, rfl, rfl, hW, hr⟩⟩
      · have w3 : ¬ v3 < 1 := (show ¬ v3 < nI 1 by rw [e3]; exact nI_nlt (by omega) (by omega))
        have w3b : ¬ (24 : Int32) < v3 := (show ¬ nI 24 < v3 by rw [e3]; exact nI_nlt (by omega) (by omega))
        rcases r4 with ⟨q4, m4⟩ | ⟨q4, q4b, q4c, m4⟩ | ⟨l, e4, l4, u4, m4⟩
        · refine ⟨-2, c_heads, c_firsts, c_levelOf, c_aboveOf, c_partings, c_signs, c_count, c_pages, c_levels, c_most, c_page, c_known, c_guess, c_diff, c_pieces, c_place, c_bits, c_words, c_entries, c_bads + 1, c_noes, c_fulls, nI nx, nI kn, c_base, c_from, c_to, c_above, c_bit, c_lastLeft, nf S, m_past, m_kept, upd m_refused 0 (m_refused 0 + 1), nf ak, m_heads, m_forkBit, m_forkFrom, m_forkTo, m_wayPage, m_wayKnown, m_wayGuess, m_wayDiff, m_wayRead, m_wayPlace, nI kn, nI al, m_entries, m_forks, m_guess, m_diff, m_read, m_placeOf, ?_, ?_, ?_⟩
          · unfold C7_draw C7_draw_J21 C7_draw_J52
            rw [if_neg (show ¬ v1 < 0 from (by rw [e1]; exact nI_pos (by omega))), if_neg (show ¬ (999999 : Int32) < v1 from (show ¬ nI 999999 < v1 by rw [e1]; exact nI_nlt (by omega) (by omega))), if_neg w2, if_pos w2b, if_neg w3, if_neg w3b, if_pos (show v4 < 1 from q4), rf_bad, bd4_in]
          · unfold M_draw M_draw_J41
            rw [show M_in v1 0 999999 = some 1 from m1, bd1_in, if_neg (by decide), show M_in v2 1 8 = some 1 from m2, bd1_in, if_neg (by decide), show M_in v3 1 24 = some 1 from m3, bd1_in, if_neg (by decide), show M_in v4 1 26 = some 0 from m4, bd1_in, if_pos rfl, mr_bad, bd2_in]
          · exact ⟨S, T, ak, tl, al, kn, nx, ⟨rfl, hg, hc, hs⟩, ⟨rfl, rfl, rfl, rfl, ht, hT⟩, ⟨rfl, rfl, hal, hak⟩, rx_bad hR, ⟨rfl, rfl, rfl, hW, hr⟩⟩
        · refine ⟨-2, c_heads, c_firsts, c_levelOf, c_aboveOf, c_partings, c_signs, c_count, c_pages, c_levels, c_most, c_page, c_known, c_guess, c_diff, c_pieces, c_place, c_bits, c_words, c_entries, c_bads + 1, c_noes, c_fulls, nI nx, nI kn, c_base, c_from, c_to, c_above, c_bit, c_lastLeft, nf S, m_past, m_kept, upd m_refused 0 (m_refused 0 + 1), nf ak, m_heads, m_forkBit, m_forkFrom, m_forkTo, m_wayPage, m_wayKnown, m_wayGuess, m_wayDiff, m_wayRead, m_wayPlace, nI kn, nI al, m_entries, m_forks, m_guess, m_diff, m_read, m_placeOf, ?_, ?_, ?_⟩
          · unfold C7_draw C7_draw_J21 C7_draw_J52
            rw [if_neg (show ¬ v1 < 0 from (by rw [e1]; exact nI_pos (by omega))), if_neg (show ¬ (999999 : Int32) < v1 from (show ¬ nI 999999 < v1 by rw [e1]; exact nI_nlt (by omega) (by omega))), if_neg w2, if_pos w2b, if_neg w3, if_neg w3b, if_neg (show ¬ v4 < 1 from q4), if_neg (show ¬ v4 ≤ 26 from q4c), rf_bad, bd4_in]
          · unfold M_draw M_draw_J41
            rw [show M_in v1 0 999999 = some 1 from m1, bd1_in, if_neg (by decide), show M_in v2 1 8 = some 1 from m2, bd1_in, if_neg (by decide), show M_in v3 1 24 = some 1 from m3, bd1_in, if_neg (by decide), show M_in v4 1 26 = some 0 from m4, bd1_in, if_pos rfl, mr_bad, bd2_in]
          · exact ⟨S, T, ak, tl, al, kn, nx, ⟨rfl, hg, hc, hs⟩, ⟨rfl, rfl, rfl, rfl, ht, hT⟩, ⟨rfl, rfl, hal, hak⟩, rx_bad hR, ⟨rfl, rfl, rfl, hW, hr⟩⟩
        · have w4 : ¬ v4 < 1 := (show ¬ v4 < nI 1 by rw [e4]; exact nI_nlt (by omega) (by omega))
          have w4b : v4 ≤ 26 := (show v4 ≤ nI 26 by rw [e4]; exact nI_le (by omega) (by decide))
          obtain ⟨mk, ek, hmk⟩ := aside_n (S := S) m_kept
          obtain ⟨kn', nx', mp', cs', cc', cpg', clv', cm', cbits', ce', k1, k2, g2, g3, g4, g5⟩ := keep_n hA hW hg hc hr hmk
          obtain ⟨cnt, S2, c_heads2, c_firsts2, c_levelOf2, c_aboveOf2, c_partings2, c_signs2, c_count2, c_pages2, c_levels2, c_page2, c_known2, c_guess2, c_diff2, c_pieces2, c_place2, c_bits2, c_words2, c_entries2, c_base2, c_from2, c_to2, c_above2, c_bit2, c_lastLeft2, ak2, al2, m_heads2, m_forkBit2, m_forkFrom2, m_forkTo2, m_wayPage2, m_wayKnown2, m_wayGuess2, m_wayDiff2, m_wayRead2, m_wayPlace2, m_entries2, m_forks2, m_guess2, m_diff2, m_read2, m_placeOf2, z1, z2, z3, z4, z5, z6, z7, z8, z9⟩ := draw_L hA (l := l) (sg := sg) (N := N) l4 u4 l3 u3 u2 v1 (fun c_heads c_firsts c_levelOf c_aboveOf c_partings c_signs c_count c_pages c_levels c_most c_page c_known c_guess c_diff c_pieces c_place c_bits c_words c_entries c_bads c_noes c_fulls c_next c_kept c_base c_from c_to c_above c_bit c_lastLeft v5 => some (v5, c_heads, c_firsts, c_levelOf, c_aboveOf, c_partings, c_signs, c_count, c_pages, c_levels, c_most, c_page, c_known, c_guess, c_diff, c_pieces, c_place, c_bits, c_words, c_entries, c_bads, c_noes, c_fulls, c_next, c_kept, c_base, c_from, c_to, c_above, c_bit, c_lastLeft)) (fun m_s m_past m_kept m_refused m_asked m_heads m_forkBit m_forkFrom m_forkTo m_wayPage m_wayKnown m_wayGuess m_wayDiff m_wayRead m_wayPlace m_known m_askedLength m_entries m_forks m_guess m_diff m_read m_placeOf v7 => bd2 (M_keeps m_kept m_past m_known) fun m_past_169 m_known_169 => some (v7, m_s, m_past_169, m_kept, m_refused, m_asked, m_heads, m_forkBit, m_forkFrom, m_forkTo, m_wayPage, m_wayKnown, m_wayGuess, m_wayDiff, m_wayRead, m_wayPlace, m_known_169, m_askedLength, m_entries, m_forks, m_guess, m_diff, m_read, m_placeOf)) cm' c_bads c_noes c_fulls (nI nx') (nI kn') m_past mk m_refused (nI kn) N 0 FU FU 0 sd S c_heads c_firsts c_levelOf c_aboveOf c_partings cs' cc' cpg' clv' c_page c_known c_guess c_diff c_pieces c_place cbits' c_words ce' c_base c_from c_to c_above c_bit c_lastLeft ak al m_heads m_forkBit m_forkFrom m_forkTo m_wayPage m_wayKnown m_wayGuess m_wayDiff m_wayRead m_wayPlace m_entries m_forks m_guess m_diff m_read m_placeOf (by omega) (by have : FU = 20000 := rfl; omega) (by have : FU = 20000 := rfl; omega) (by omega) hg g2 hs hW g3 hak hal
          refine ⟨nI cnt, c_heads2, c_firsts2, c_levelOf2, c_aboveOf2, c_partings2, c_signs2, c_count2, c_pages2, c_levels2, cm', c_page2, c_known2, c_guess2, c_diff2, c_pieces2, c_place2, c_bits2, c_words2, c_entries2, c_bads, c_noes, c_fulls, nI nx', nI kn', c_base2, c_from2, c_to2, c_above2, c_bit2, c_lastLeft2, nf S2, mp', mk, m_refused, nf ak2, m_heads2, m_forkBit2, m_forkFrom2, m_forkTo2, m_wayPage2, m_wayKnown2, m_wayGuess2, m_wayDiff2, m_wayRead2, m_wayPlace2, nI kn', nI al2, m_entries2, m_forks2, m_guess2, m_diff2, m_read2, m_placeOf2, ?_, ?_, ?_⟩
          · unfold C7_draw
            rw [if_neg (show ¬ v1 < 0 from (by rw [e1]; exact nI_pos (by omega))), if_neg (show ¬ (999999 : Int32) < v1 from (show ¬ nI 999999 < v1 by rw [e1]; exact nI_nlt (by omega) (by omega))), if_neg w2, if_pos w2b, if_neg w3, if_neg w3b, if_neg w4, if_pos w4b, k2, bd9_in, e1, nI_l (by omega), e2, e3, e4]
            rw [e1] at z1
            exact z1
          · unfold M_draw
            rw [show M_in v1 0 999999 = some 1 from m1, bd1_in, if_neg (by decide), show M_in v2 1 8 = some 1 from m2, bd1_in, if_neg (by decide), show M_in v3 1 24 = some 1 from m3, bd1_in, if_neg (by decide), show M_in v4 1 26 = some 1 from m4, bd1_in, if_neg (by decide), ek, bd1_in, e1, nI_l (by omega), e2, e3, e4]
            rw [e1] at z2
            refine z2.trans ?_
            show bd2 (M_keeps mk m_past (nI kn)) _ = _
            rw [k1, bd2_in]
          · exact ⟨S2, T, ak2, tl, al2, kn', nx', ⟨rfl, z3, z4, z5⟩, ⟨rfl, rfl, rfl, rfl, ht, hT⟩, ⟨rfl, rfl, z9, z8⟩, hR, ⟨rfl, rfl, rfl, z6, z7⟩⟩
