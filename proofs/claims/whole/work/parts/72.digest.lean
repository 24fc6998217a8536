/-! the digest -/
def dgf (f : Nat → Int32) : Nat → Int64 → Int64
  | 0, h => h
  | n + 1, h => 31 * dgf f n h + (f n).toInt64
def tdf (b n f tl kn : Int32) (c : Nat) : Int32 := if c = 0 then b else if c = 1 then n else if c = 2 then f else if c = 3 then tl else kn
theorem td_c (b n f tl kn : Int32) {c : Nat} (hc : c < 5) : C7_ownFact b n f tl kn (nI c) = some (tdf b n f tl kn c) := by
  unfold C7_ownFact tdf
  rcases (show c = 0 ∨ c = 1 ∨ c = 2 ∨ c = 3 ∨ c = 4 by omega) with rfl | rfl | rfl | rfl | rfl
  · rw [if_pos (by decide), if_pos rfl]
  · rw [if_neg (by decide), if_pos (by decide), if_neg (by decide), if_pos rfl]
  · rw [if_neg (by decide), if_neg (by decide), if_pos (by decide), if_neg (by decide), if_neg (by decide), if_pos rfl]
  · rw [if_neg (by decide), if_neg (by decide), if_neg (by decide), if_pos (by decide), if_neg (by decide), if_neg (by decide), if_neg (by decide), if_pos rfl]
  · rw [if_neg (by decide), if_neg (by decide), if_neg (by decide), if_neg (by decide), if_neg (by decide), if_neg (by decide), if_neg (by decide), if_neg (by decide)]
theorem td_m {mr : Nat → Int32} {b n f : Int32} (hR : RX mr b n f) (tl kn : Int32) {c : Nat} (hc : c < 5) : M_toldOf mr kn tl (nI c) = some (tdf b n f tl kn c) := by
  obtain ⟨x, e1, e2⟩ := told_n hR tl kn hc
  rw [td_c _ _ _ _ _ hc] at e1
  rw [e2, ← e1]
noncomputable def vpq (S : Nat → Nat) (P : Nat) : Nat × Nat := Classical.epsilon (fun x : Nat × Nat => x.1 < S 2 ∧ x.2 < S (3 + x.1) ∧ P = off S x.1 + x.2)
theorem vpq_s {S : Nat → Nat} (h : WF S) {P : Nat} (hP : P < tot S) : (vpq S P).1 < S 2 ∧ (vpq S P).2 < S (3 + (vpq S P).1) ∧ P = off S (vpq S P).1 + (vpq S P).2 := by
  obtain ⟨v, p, hv, hp, e⟩ := page_of h hP
  exact Classical.epsilon_spec (p := fun x : Nat × Nat => x.1 < S 2 ∧ x.2 < S (3 + x.1) ∧ P = off S x.1 + x.2) ⟨(v, p), hv, hp, e⟩
noncomputable def pgd (S : Nat → Nat) (P : Nat) (h : Int64) : Int64 := dgf (fun k => fkv S (vpq S P).1 (vpq S P).2 (k / 3) (k % 3)) (3 * (S (12 + 48 * (vpq S P).1 + (vpq S P).2) - 1)) (dgf (pgf S (vpq S P).1 (vpq S P).2) 7 h)
noncomputable def pgs (S : Nat → Nat) : Nat → Int64 → Int64
  | 0, h => h
  | P + 1, h => pgd S P (pgs S P h)
def wds (S : Nat → Nat) : Nat → Int64 → Int64
  | 0, h => h
  | w + 1, h => dgf (fun i => nI (S (400 + 24 * w + i))) (S (350 + w)) (wds S w h)
section
variable {a : Nat → Nat} {LW LK : List Nat} {S : Nat → Nat} {c_heads c_firsts c_levelOf c_aboveOf c_partings c_signs c_count c_pages c_levels c_most : Nat → Int32} {c_bits : Nat → Nat → Int64} {c_words : Nat → Nat → Nat} {c_entries : Nat → Nat → Int32} {c_bads c_noes c_fulls c_length c_kept : Int32}
theorem dgc_6 (k : (Nat → Int32) → (Nat → Int32) → (Nat → Int32) → (Nat → Int32) → (Nat → Int32) → (Nat → Int32) → Int32 → Int32 → Int32 → Int32 → Int32 → Int32 → Int64 → Option (Int64 × (Nat → Int32) × (Nat → Int32) × (Nat → Int32) × (Nat → Int32) × (Nat → Int32) × (Nat → Int32) × Int32 × Int32 × Int32 × Int32 × Int32 × Int32)) (h0 : Int64) (c_page c_known c_guess c_diff c_pieces c_place : Nat → Int32) (c_base c_from c_to c_above c_bit c_lastLeft : Int32) : ∀ (d c n : Nat), c + d = 5 → d < n → C7_digest_L6 a LW LK c_heads c_firsts c_levelOf c_aboveOf c_partings c_signs c_count c_pages c_levels c_most c_bits c_words c_entries c_bads c_noes c_fulls c_length c_kept k n c_page c_known c_guess c_diff c_pieces c_place c_base c_from c_to c_above c_bit c_lastLeft (dgf (tdf c_bads c_noes c_fulls c_length c_kept) c h0) (nI c) = k c_page c_known c_guess c_diff c_pieces c_place c_base c_from c_to c_above c_bit c_lastLeft (dgf (tdf c_bads c_noes c_fulls c_length c_kept) 5 h0) := by
  intro d
  induction d with
  | zero =>
    intro c n hc hn
    obtain ⟨n, rfl⟩ : ∃ m, n = m + 1 := ⟨n - 1, by omega⟩
    rw [C7_digest_L6, show (4 : Int32) = nI 4 from rfl, ilt (by decide) (by omega), if_pos (by omega), show c = 5 by omega]
  | succ d ih =>
    intro c n hc hn
    obtain ⟨n, rfl⟩ : ∃ m, n = m + 1 := ⟨n - 1, by omega⟩
    rw [C7_digest_L6, show (4 : Int32) = nI 4 from rfl, ilt (by decide) (by omega), if_neg (by omega), td_c _ _ _ _ _ (by omega), bd1_in, nI_p1]
    exact ih (c + 1) n (by omega) (by omega)
theorem dgc_32 {F : Nat → Int32} (hF : ∀ c, c < 7 → ∀ (c1 c2 c3 c4 c5 c6 : Nat → Int32) (x1 x2 x3 x4 x5 x6 : Int32), ∃ (d1 d2 d3 d4 d5 d6 : Nat → Int32) (y1 y2 y3 y4 y5 y6 : Int32), C0_wholeFact a LW LK c_heads c_firsts c_partings c_signs c_count c_pages c_levels c_most c_bits c_words c_entries c1 c2 c3 c4 c5 c6 x1 x2 x3 x4 x5 x6 (nI c) = some (F c, d1, d2, d3, d4, d5, d6, y1, y2, y3, y4, y5, y6)) (k : (Nat → Int32) → (Nat → Int32) → (Nat → Int32) → (Nat → Int32) → (Nat → Int32) → (Nat → Int32) → Int32 → Int32 → Int32 → Int32 → Int32 → Int32 → Int64 → Option (Int64 × (Nat → Int32) × (Nat → Int32) × (Nat → Int32) × (Nat → Int32) × (Nat → Int32) × (Nat → Int32) × Int32 × Int32 × Int32 × Int32 × Int32 × Int32)) (h0 : Int64) : ∀ (d c n : Nat) (c_page c_known c_guess c_diff c_pieces c_place : Nat → Int32) (c_base c_from c_to c_above c_bit c_lastLeft : Int32), c + d = 7 → d < n → ∃ (d1 d2 d3 d4 d5 d6 : Nat → Int32) (y1 y2 y3 y4 y5 y6 : Int32), C7_digest_L32 a LW LK c_heads c_firsts c_levelOf c_aboveOf c_partings c_signs c_count c_pages c_levels c_most c_bits c_words c_entries c_bads c_noes c_fulls c_length c_kept k n c_page c_known c_guess c_diff c_pieces c_place c_base c_from c_to c_above c_bit c_lastLeft (dgf F c h0) (nI c) = k d1 d2 d3 d4 d5 d6 y1 y2 y3 y4 y5 y6 (dgf F 7 h0) := by
  intro d
  induction d with
  | zero =>
    intro c n c_page c_known c_guess c_diff c_pieces c_place c_base c_from c_to c_above c_bit c_lastLeft hc hn
    obtain ⟨n, rfl⟩ : ∃ m, n = m + 1 := ⟨n - 1, by omega⟩
    refine ⟨c_page, c_known, c_guess, c_diff, c_pieces, c_place, c_base, c_from, c_to, c_above, c_bit, c_lastLeft, ?_⟩
    rw [C7_digest_L32, show (6 : Int32) = nI 6 from rfl, ilt (by decide) (by omega), if_pos (by omega), show c = 7 by omega]
  | succ d ih =>
    intro c n c_page c_known c_guess c_diff c_pieces c_place c_base c_from c_to c_above c_bit c_lastLeft hc hn
    obtain ⟨n, rfl⟩ : ∃ m, n = m + 1 := ⟨n - 1, by omega⟩
    obtain ⟨d1, d2, d3, d4, d5, d6, y1, y2, y3, y4, y5, y6, e⟩ := hF c (by omega) c_page c_known c_guess c_diff c_pieces c_place c_base c_from c_to c_above c_bit c_lastLeft
    rw [C7_digest_L32, show (6 : Int32) = nI 6 from rfl, ilt (by decide) (by omega), if_neg (by omega), e, bd13_in, nI_p1]
    exact ih (c + 1) n d1 d2 d3 d4 d5 d6 y1 y2 y3 y4 y5 y6 (by omega) (by omega)
theorem dgc_23 (h : WX S) (hc : Cpl LW S (a 14) c_count c_pages c_levels c_most c_signs c_bits c_words c_entries) (hs : Stl S c_heads c_firsts c_levelOf c_aboveOf c_partings) {v p : Nat} (hv : v < S 2) (hp : p < S (3 + v)) (w : Int64) (k : Int32 → Int32 → Int32 → Int32 → Int32 → Int32 → Int64 → Int32 → Option (Int64 × Int32 × Int32 × Int32 × Int32 × Int32 × Int32)) (h0 : Int64) : ∀ (d c n : Nat) (x1 x2 x3 x4 x5 x6 : Int32), c + d = 7 → d < n → ∃ (y1 y2 y3 y4 y5 y6 : Int32), C7_digestPages_L23 a LW c_heads c_firsts c_levelOf c_aboveOf c_partings c_signs c_count c_pages c_words c_entries w k n x1 x2 x3 x4 x5 x6 (dgf (pgf S v p) c h0) (nI (off S v + p)) (nI c) = k y1 y2 y3 y4 y5 y6 (dgf (pgf S v p) 7 h0) (nI (off S v + p)) := by
  intro d
  induction d with
  | zero =>
    intro c n x1 x2 x3 x4 x5 x6 hcd hn
    obtain ⟨n, rfl⟩ : ∃ m, n = m + 1 := ⟨n - 1, by omega⟩
    refine ⟨x1, x2, x3, x4, x5, x6, ?_⟩
    rw [C7_digestPages_L23, show (6 : Int32) = nI 6 from rfl, ilt (by decide) (by omega), if_pos (by omega), show c = 7 by omega]
  | succ d ih =>
    intro c n x1 x2 x3 x4 x5 x6 hcd hn
    obtain ⟨n, rfl⟩ : ∃ m, n = m + 1 := ⟨n - 1, by omega⟩
    obtain ⟨y1, y2, y3, y4, y5, y6, e⟩ := pageFact_c h hc hs hv hp (c := c) (by omega) x1 x2 x3 x4 x5 x6
    rw [C7_digestPages_L23, show (6 : Int32) = nI 6 from rfl, ilt (by decide) (by omega), if_neg (by omega), e, bd7_in, nI_p1]
    exact ih (c + 1) n y1 y2 y3 y4 y5 y6 (by omega) (by omega)
theorem dgc_80 (h : WX S) (hc : Cpl LW S (a 14) c_count c_pages c_levels c_most c_signs c_bits c_words c_entries) (hs : Stl S c_heads c_firsts c_levelOf c_aboveOf c_partings) {v p f : Nat} (hv : v < S 2) (hp : p < S (3 + v)) (hf : f < S (12 + 48 * v + p) - 1) (w : Int64) (k : Int32 → Int32 → Int32 → Int32 → Int32 → Int32 → Int64 → Int32 → Int32 → Option (Int64 × Int32 × Int32 × Int32 × Int32 × Int32 × Int32)) (h0 : Int64) : ∀ (d c n : Nat) (x1 x2 x3 x4 x5 x6 : Int32), c + d = 3 → d < n → ∃ (y1 y2 y3 y4 y5 y6 : Int32), C7_digestPages_L80 a LW c_heads c_firsts c_levelOf c_aboveOf c_partings c_signs c_count c_pages c_words c_entries w k n x1 x2 x3 x4 x5 x6 (dgf (fun k => fkv S v p (k / 3) (k % 3)) (3 * f + c) h0) (nI (off S v + p)) (nI f) (nI c) = k y1 y2 y3 y4 y5 y6 (dgf (fun k => fkv S v p (k / 3) (k % 3)) (3 * (f + 1)) h0) (nI (off S v + p)) (nI f) := by
  intro d
  induction d with
  | zero =>
    intro c n x1 x2 x3 x4 x5 x6 hcd hn
    obtain ⟨n, rfl⟩ : ∃ m, n = m + 1 := ⟨n - 1, by omega⟩
    refine ⟨x1, x2, x3, x4, x5, x6, ?_⟩
    rw [C7_digestPages_L80, show (2 : Int32) = nI 2 from rfl, ilt (by decide) (by omega), if_pos (by omega), show 3 * (f + 1) = 3 * f + c by omega]
  | succ d ih =>
    intro c n x1 x2 x3 x4 x5 x6 hcd hn
    obtain ⟨n, rfl⟩ : ∃ m, n = m + 1 := ⟨n - 1, by omega⟩
    obtain ⟨y1, y2, y3, y4, y5, y6, e⟩ := forkFact_c h hc hs hv hp hf (c := c) (by omega) x1 x2 x3 x4 x5 x6
    have ih := ih (c + 1) n y1 y2 y3 y4 y5 y6 (by omega) (by omega)
    rw [show 3 * f + (c + 1) = (3 * f + c) + 1 by omega, dgf] at ih
    rw [show (3 * f + c) / 3 = f by omega, show (3 * f + c) % 3 = c by omega] at ih
    rw [C7_digestPages_L80, show (2 : Int32) = nI 2 from rfl, ilt (by decide) (by omega), if_neg (by omega), e, bd7_in, nI_p1]
    exact ih
theorem dgc_58 (h : WX S) (hc : Cpl LW S (a 14) c_count c_pages c_levels c_most c_signs c_bits c_words c_entries) (hs : Stl S c_heads c_firsts c_levelOf c_aboveOf c_partings) {v p : Nat} (hv : v < S 2) (hp : p < S (3 + v)) (w : Int64) (k : Int32 → Int32 → Int32 → Int32 → Int32 → Int32 → Int64 → Int32 → Option (Int64 × Int32 × Int32 × Int32 × Int32 × Int32 × Int32)) (h0 : Int64) : ∀ (d f n : Nat) (x1 x2 x3 x4 x5 x6 : Int32), f + d = S (12 + 48 * v + p) - 1 → d < n → ∃ (y1 y2 y3 y4 y5 y6 : Int32), C7_digestPages_L58 a LW c_heads c_firsts c_levelOf c_aboveOf c_partings c_signs c_count c_pages c_words c_entries w k n x1 x2 x3 x4 x5 x6 (dgf (fun k => fkv S v p (k / 3) (k % 3)) (3 * f) h0) (nI (off S v + p)) (nI f) = k y1 y2 y3 y4 y5 y6 (dgf (fun k => fkv S v p (k / 3) (k % 3)) (3 * (S (12 + 48 * v + p) - 1)) h0) (nI (off S v + p)) := by
  have eE := (tree_c h hc hs hv hp).2.1
  have g := pgv h.1 hv hp
  have eN : nI (S (12 + 48 * v + p)) - 1 = nI (S (12 + 48 * v + p) - 1) := pk_sub (b := 1) (by omega)
  intro d
  induction d with
  | zero =>
    intro f n x1 x2 x3 x4 x5 x6 hcd hn
    obtain ⟨n, rfl⟩ : ∃ m, n = m + 1 := ⟨n - 1, by omega⟩
    refine ⟨x1, x2, x3, x4, x5, x6, ?_⟩
    rw [C7_digestPages_L58, eE, bd1_in, eN, il (by omega) (by omega), if_pos (by omega), show f = S (12 + 48 * v + p) - 1 by omega]
  | succ d ih =>
    intro f n x1 x2 x3 x4 x5 x6 hcd hn
    obtain ⟨n, rfl⟩ : ∃ m, n = m + 1 := ⟨n - 1, by omega⟩
    obtain ⟨y1, y2, y3, y4, y5, y6, e⟩ := dgc_80 h hc hs hv hp (f := f) (by omega) w (fun c_base c_from c_to c_above c_bit c_lastLeft v3 v5 v6 => C7_digestPages_L58 a LW c_heads c_firsts c_levelOf c_aboveOf c_partings c_signs c_count c_pages c_words c_entries w k n c_base c_from c_to c_above c_bit c_lastLeft v3 v5 (v6 + 1)) h0 3 0 FU x1 x2 x3 x4 x5 x6 (by omega) (by decide)
    obtain ⟨z1, z2, z3, z4, z5, z6, e2⟩ := ih (f + 1) n y1 y2 y3 y4 y5 y6 (by omega) (by omega)
    refine ⟨z1, z2, z3, z4, z5, z6, ?_⟩
    rw [C7_digestPages_L58, eE, bd1_in, eN, il (by omega) (by omega), if_neg (by omega)]
    refine e.trans ?_
    show C7_digestPages_L58 a LW c_heads c_firsts c_levelOf c_aboveOf c_partings c_signs c_count c_pages c_words c_entries w k n y1 y2 y3 y4 y5 y6 _ _ (nI f + 1) = _
    rw [nI_p1]
    exact e2
theorem dgc_5 (h : WX S) (hc : Cpl LW S (a 14) c_count c_pages c_levels c_most c_signs c_bits c_words c_entries) (hs : Stl S c_heads c_firsts c_levelOf c_aboveOf c_partings) (w : Int64) (k : Int32 → Int32 → Int32 → Int32 → Int32 → Int32 → Int64 → Option (Int64 × Int32 × Int32 × Int32 × Int32 × Int32 × Int32)) (h0 : Int64) : ∀ (d P n : Nat) (x1 x2 x3 x4 x5 x6 : Int32), P + d = tot S → d < n → ∃ (y1 y2 y3 y4 y5 y6 : Int32), C7_digestPages_L5 a LW c_heads c_firsts c_levelOf c_aboveOf c_partings c_signs c_count c_pages c_words c_entries w k n x1 x2 x3 x4 x5 x6 (pgs S P h0) (nI P) = k y1 y2 y3 y4 y5 y6 (pgs S (tot S) h0) := by
  have ht := (tot_le h).1
  intro d
  induction d with
  | zero =>
    intro P n x1 x2 x3 x4 x5 x6 hcd hn
    obtain ⟨n, rfl⟩ : ∃ m, n = m + 1 := ⟨n - 1, by omega⟩
    refine ⟨x1, x2, x3, x4, x5, x6, ?_⟩
    rw [C7_digestPages_L5, hc.2.1, il (by omega) (by omega), if_pos (by omega), show P = tot S by omega]
  | succ d ih =>
    intro P n x1 x2 x3 x4 x5 x6 hcd hn
    obtain ⟨n, rfl⟩ : ∃ m, n = m + 1 := ⟨n - 1, by omega⟩
    obtain ⟨hv, hp, eP⟩ := vpq_s h.1 (show P < tot S by omega)
    have g := pgv h.1 hv hp
    obtain ⟨y1, y2, y3, y4, y5, y6, e⟩ := dgc_23 h hc hs hv hp w (fun c_base c_from c_to c_above c_bit c_lastLeft v3 v5 => C7_digestPages_L58 a LW c_heads c_firsts c_levelOf c_aboveOf c_partings c_signs c_count c_pages c_words c_entries w (fun c_base c_from c_to c_above c_bit c_lastLeft v3 v5 => C7_digestPages_L5 a LW c_heads c_firsts c_levelOf c_aboveOf c_partings c_signs c_count c_pages c_words c_entries w k n c_base c_from c_to c_above c_bit c_lastLeft v3 (v5 + 1)) FU c_base c_from c_to c_above c_bit c_lastLeft v3 v5 0) (pgs S P h0) 7 0 FU x1 x2 x3 x4 x5 x6 (by omega) (by decide)
    obtain ⟨u1, u2, u3, u4, u5, u6, e2⟩ := dgc_58 h hc hs hv hp w (fun c_base c_from c_to c_above c_bit c_lastLeft v3 v5 => C7_digestPages_L5 a LW c_heads c_firsts c_levelOf c_aboveOf c_partings c_signs c_count c_pages c_words c_entries w k n c_base c_from c_to c_above c_bit c_lastLeft v3 (v5 + 1)) (dgf (pgf S (vpq S P).1 (vpq S P).2) 7 (pgs S P h0)) (S (12 + 48 * (vpq S P).1 + (vpq S P).2) - 1) 0 FU y1 y2 y3 y4 y5 y6 (by omega) (by have : FU = 20000 := rfl; omega)
    obtain ⟨z1, z2, z3, z4, z5, z6, e3⟩ := ih (P + 1) n u1 u2 u3 u4 u5 u6 (by omega) (by omega)
    refine ⟨z1, z2, z3, z4, z5, z6, ?_⟩
    rw [C7_digestPages_L5, hc.2.1, il (by omega) (by omega), if_neg (by omega)]
    rw [← eP] at e e2
    refine e.trans (e2.trans ?_)
    show C7_digestPages_L5 a LW c_heads c_firsts c_levelOf c_aboveOf c_partings c_signs c_count c_pages c_words c_entries w k n u1 u2 u3 u4 u5 u6 _ (nI P + 1) = _
    rw [nI_p1]
    exact e3
theorem dgc_98 (h : WF S) (hc : Cpl LW S (a 14) c_count c_pages c_levels c_most c_signs c_bits c_words c_entries) {w : Nat} (hw : w < S 0) (k : (Nat → Int32) → (Nat → Int32) → (Nat → Int32) → (Nat → Int32) → (Nat → Int32) → (Nat → Int32) → Int32 → Int32 → Int32 → Int32 → Int32 → Int32 → Int64 → Int32 → Option (Int64 × (Nat → Int32) × (Nat → Int32) × (Nat → Int32) × (Nat → Int32) × (Nat → Int32) × (Nat → Int32) × Int32 × Int32 × Int32 × Int32 × Int32 × Int32)) (h0 : Int64) (c_page c_known c_guess c_diff c_pieces c_place : Nat → Int32) (c_base c_from c_to c_above c_bit c_lastLeft : Int32) : ∀ (d i n : Nat), i + d = S (350 + w) → d < n → C7_digest_L98 a LW LK c_heads c_firsts c_levelOf c_aboveOf c_partings c_signs c_count c_pages c_levels c_most c_bits c_words c_entries c_bads c_noes c_fulls c_length c_kept k n c_page c_known c_guess c_diff c_pieces c_place c_base c_from c_to c_above c_bit c_lastLeft (dgf (fun i => nI (S (400 + 24 * w + i))) i h0) (nI w) (c_words (a 14) w) (nI i) = k c_page c_known c_guess c_diff c_pieces c_place c_base c_from c_to c_above c_bit c_lastLeft (dgf (fun i => nI (S (400 + 24 * w + i))) (S (350 + w)) h0) (nI w) := by
  have hl := h.2.2.2.2.1 w hw
  obtain ⟨w1, w2⟩ := hc.2.2.2.2.2.2.2 w hw
  intro d
  induction d with
  | zero =>
    intro i n hi hn
    obtain ⟨n, rfl⟩ : ∃ m, n = m + 1 := ⟨n - 1, by omega⟩
    rw [C7_digest_L98, w1, il (by omega) (by omega), if_pos (by omega), show i = S (350 + w) by omega]
  | succ d ih =>
    intro i n hi hn
    obtain ⟨n, rfl⟩ : ∃ m, n = m + 1 := ⟨n - 1, by omega⟩
    rw [C7_digest_L98, w1, il (by omega) (by omega), if_neg (by omega), signAt_n (len := S (350 + w)) (s := fun i => S (400 + 24 * w + i)) hl.2.1 (by omega) (hl.2.2 i (by omega)) w2, bd1_in, nI_p1]
    exact ih (i + 1) n (by omega) (by omega)
theorem dgc_68 (h : WF S) (hc : Cpl LW S (a 14) c_count c_pages c_levels c_most c_signs c_bits c_words c_entries) (k : (Nat → Int32) → (Nat → Int32) → (Nat → Int32) → (Nat → Int32) → (Nat → Int32) → (Nat → Int32) → Int32 → Int32 → Int32 → Int32 → Int32 → Int32 → Int64 → Option (Int64 × (Nat → Int32) × (Nat → Int32) × (Nat → Int32) × (Nat → Int32) × (Nat → Int32) × (Nat → Int32) × Int32 × Int32 × Int32 × Int32 × Int32 × Int32)) (h0 : Int64) (c_page c_known c_guess c_diff c_pieces c_place : Nat → Int32) (c_base c_from c_to c_above c_bit c_lastLeft : Int32) : ∀ (d w n : Nat), w + d = S 0 → d < n → C7_digest_L68 a LW LK c_heads c_firsts c_levelOf c_aboveOf c_partings c_signs c_count c_pages c_levels c_most c_bits c_words c_entries c_bads c_noes c_fulls c_length c_kept k n c_page c_known c_guess c_diff c_pieces c_place c_base c_from c_to c_above c_bit c_lastLeft (wds S w h0) (nI w) = k c_page c_known c_guess c_diff c_pieces c_place c_base c_from c_to c_above c_bit c_lastLeft (wds S (S 0) h0) := by
  have h48 := h.1.2.1
  intro d
  induction d with
  | zero =>
    intro w n hw hn
    obtain ⟨n, rfl⟩ : ∃ m, n = m + 1 := ⟨n - 1, by omega⟩
    rw [C7_digest_L68, hc.1, il (by omega) (by omega), if_pos (by omega), show w = S 0 by omega]
  | succ d ih =>
    intro w n hw hn
    obtain ⟨n, rfl⟩ : ∃ m, n = m + 1 := ⟨n - 1, by omega⟩
    have hm := hc.2.2.2.2.2.1 w (by omega)
    have hl := h.2.2.2.2.1 w (by omega)
    rw [C7_digest_L68, hc.1, il (by omega) (by omega), if_neg (by omega), wordAt_n (by omega) hm, bd1_in, gm_in hm]
    refine (dgc_98 h hc (w := w) (by omega) (fun c_page c_known c_guess c_diff c_pieces c_place c_base c_from c_to c_above c_bit c_lastLeft v1 v3 => C7_digest_L68 a LW LK c_heads c_firsts c_levelOf c_aboveOf c_partings c_signs c_count c_pages c_levels c_most c_bits c_words c_entries c_bads c_noes c_fulls c_length c_kept k n c_page c_known c_guess c_diff c_pieces c_place c_base c_from c_to c_above c_bit c_lastLeft v1 (v3 + 1)) (wds S w h0) c_page c_known c_guess c_diff c_pieces c_place c_base c_from c_to c_above c_bit c_lastLeft (S (350 + w)) 0 FU (by omega) (by have : FU = 20000 := rfl; omega)).trans ?_
    show C7_digest_L68 a LW LK c_heads c_firsts c_levelOf c_aboveOf c_partings c_signs c_count c_pages c_levels c_most c_bits c_words c_entries c_bads c_noes c_fulls c_length c_kept k n c_page c_known c_guess c_diff c_pieces c_place c_base c_from c_to c_above c_bit c_lastLeft _ (nI w + 1) = _
    rw [nI_p1]
    exact ih (w + 1) n (by omega) (by omega)
theorem digest_c (h : WX S) (hc : Cpl LW S (a 14) c_count c_pages c_levels c_most c_signs c_bits c_words c_entries) (hs : Stl S c_heads c_firsts c_levelOf c_aboveOf c_partings) {F : Nat → Int32} (hF : ∀ c, c < 7 → ∀ (c1 c2 c3 c4 c5 c6 : Nat → Int32) (x1 x2 x3 x4 x5 x6 : Int32), ∃ (d1 d2 d3 d4 d5 d6 : Nat → Int32) (y1 y2 y3 y4 y5 y6 : Int32), C0_wholeFact a LW LK c_heads c_firsts c_partings c_signs c_count c_pages c_levels c_most c_bits c_words c_entries c1 c2 c3 c4 c5 c6 x1 x2 x3 x4 x5 x6 (nI c) = some (F c, d1, d2, d3, d4, d5, d6, y1, y2, y3, y4, y5, y6)) (c_page c_known c_guess c_diff c_pieces c_place : Nat → Int32) (c_base c_from c_to c_above c_bit c_lastLeft : Int32) : ∃ (d1 d2 d3 d4 d5 d6 : Nat → Int32) (y1 y2 y3 y4 y5 y6 : Int32), C7_digest a LW LK c_heads c_firsts c_levelOf c_aboveOf c_partings c_signs c_count c_pages c_levels c_most c_bits c_words c_entries c_bads c_noes c_fulls c_length c_kept c_page c_known c_guess c_diff c_pieces c_place c_base c_from c_to c_above c_bit c_lastLeft = some (wds S (S 0) (pgs S (tot S) (dgf F 7 (dgf (tdf c_bads c_noes c_fulls c_length c_kept) 5 2243))), d1, d2, d3, d4, d5, d6, y1, y2, y3, y4, y5, y6) := by
  have ht := (tot_le h).1
  have h48 := h.1.1.2.1
  have hFU : FU = 20000 := rfl
  obtain ⟨d1, d2, d3, d4, d5, d6, y1, y2, y3, y4, y5, y6, e⟩ := dgc_32 (c_levelOf := c_levelOf) (c_aboveOf := c_aboveOf) (c_bads := c_bads) (c_noes := c_noes) (c_fulls := c_fulls) (c_length := c_length) (c_kept := c_kept) hF (fun c_page c_known c_guess c_diff c_pieces c_place c_base c_from c_to c_above c_bit c_lastLeft v1 => bd7 (C7_digestPages a LW c_heads c_firsts c_levelOf c_aboveOf c_partings c_signs c_count c_pages c_words c_entries c_base c_from c_to c_above c_bit c_lastLeft v1) fun r62 c_base_62 c_from_62 c_to_62 c_above_62 c_bit_62 c_lastLeft_62 => C7_digest_L68 a LW LK c_heads c_firsts c_levelOf c_aboveOf c_partings c_signs c_count c_pages c_levels c_most c_bits c_words c_entries c_bads c_noes c_fulls c_length c_kept (fun c_page c_known c_guess c_diff c_pieces c_place c_base c_from c_to c_above c_bit c_lastLeft v1 => some (v1, c_page, c_known, c_guess, c_diff, c_pieces, c_place, c_base, c_from, c_to, c_above, c_bit, c_lastLeft)) FU c_page c_known c_guess c_diff c_pieces c_place c_base_62 c_from_62 c_to_62 c_above_62 c_bit_62 c_lastLeft_62 r62 0) (dgf (tdf c_bads c_noes c_fulls c_length c_kept) 5 2243) 7 0 FU c_page c_known c_guess c_diff c_pieces c_place c_base c_from c_to c_above c_bit c_lastLeft (by omega) (by omega)
  obtain ⟨u1, u2, u3, u4, u5, u6, e2⟩ := dgc_5 h hc hs (dgf F 7 (dgf (tdf c_bads c_noes c_fulls c_length c_kept) 5 2243)) (fun c_base c_from c_to c_above c_bit c_lastLeft v3 => some (v3, c_base, c_from, c_to, c_above, c_bit, c_lastLeft)) (dgf F 7 (dgf (tdf c_bads c_noes c_fulls c_length c_kept) 5 2243)) (tot S) 0 FU y1 y2 y3 y4 y5 y6 (by omega) (by omega)
  refine ⟨d1, d2, d3, d4, d5, d6, u1, u2, u3, u4, u5, u6, ?_⟩
  unfold C7_digest
  refine (dgc_6 _ 2243 c_page c_known c_guess c_diff c_pieces c_place c_base c_from c_to c_above c_bit c_lastLeft 5 0 FU (by omega) (by omega)).trans ?_
  refine e.trans ?_
  show bd7 (C7_digestPages_L5 a LW c_heads c_firsts c_levelOf c_aboveOf c_partings c_signs c_count c_pages c_words c_entries _ _ FU y1 y2 y3 y4 y5 y6 _ 0) _ = _
  refine Eq.trans (congrArg (fun z => bd7 z _) e2) ?_
  rw [bd7_in]
  exact dgc_68 h.1 hc _ _ d1 d2 d3 d4 d5 d6 u1 u2 u3 u4 u5 u6 (S 0) 0 FU (by omega) (by omega)
end
section
variable {S : Nat → Nat} {m_refused : Nat → Int32} {m_known m_typed : Int32}
theorem dgm_6 {b nn f : Int32} (hR : RX m_refused b nn f) (k : (Nat → Int32) → (Nat → Int32) → (Nat → Int32) → (Nat → Int32) → (Nat → Int32) → (Nat → Int32) → (Nat → Int32) → (Nat → Int32) → (Nat → Int32) → (Nat → Int32) → (Nat → Int32) → (Nat → Int32) → (Nat → Int32) → (Nat → Int32) → (Nat → Int32) → (Nat → Int32) → (Nat → Int32) → (Nat → Int32) → Int32 → Int32 → Int32 → Int32 → Int32 → Int32 → Int32 → Int32 → Int32 → Int64 → Option (Int64 × (Nat → Int32) × (Nat → Int32) × (Nat → Int32) × (Nat → Int32) × (Nat → Int32) × (Nat → Int32) × (Nat → Int32) × (Nat → Int32) × (Nat → Int32) × (Nat → Int32) × (Nat → Int32) × (Nat → Int32) × (Nat → Int32) × (Nat → Int32) × (Nat → Int32) × (Nat → Int32) × (Nat → Int32) × (Nat → Int32) × Int32 × Int32 × Int32 × Int32 × Int32 × Int32 × Int32 × Int32 × Int32)) (h0 : Int64) (ak : Nat → Nat) (al : Nat) (m_heads m_forkBit m_forkFrom m_forkTo m_wayPage m_wayKnown m_wayGuess m_wayDiff m_wayRead m_wayPlace m_treeBit m_treeLeft m_treeRight m_treeAbove m_pileFrom m_pileTo m_pileAbove : Nat → Int32) (m_entries m_forks m_guess m_diff m_read m_placeOf m_treeForks m_treeDeep : Int32) : ∀ (d c n : Nat), c + d = 5 → d < n → M_digest_L6 (nf S) m_refused m_known m_typed k n (nf ak) m_heads m_forkBit m_forkFrom m_forkTo m_wayPage m_wayKnown m_wayGuess m_wayDiff m_wayRead m_wayPlace m_treeBit m_treeLeft m_treeRight m_treeAbove m_pileFrom m_pileTo m_pileAbove (nI al) m_entries m_forks m_guess m_diff m_read m_placeOf m_treeForks m_treeDeep (dgf (tdf b nn f m_typed m_known) c h0) (nI c) = k (nf ak) m_heads m_forkBit m_forkFrom m_forkTo m_wayPage m_wayKnown m_wayGuess m_wayDiff m_wayRead m_wayPlace m_treeBit m_treeLeft m_treeRight m_treeAbove m_pileFrom m_pileTo m_pileAbove (nI al) m_entries m_forks m_guess m_diff m_read m_placeOf m_treeForks m_treeDeep (dgf (tdf b nn f m_typed m_known) 5 h0) := by
  intro d
  induction d with
  | zero =>
    intro c n hc hn
    obtain ⟨n, rfl⟩ : ∃ m, n = m + 1 := ⟨n - 1, by omega⟩
    rw [M_digest_L6, show (5 : Int32) = nI 5 from rfl, il (by decide) (by omega), if_pos (by omega), show c = 5 by omega]
  | succ d ih =>
    intro c n hc hn
    obtain ⟨n, rfl⟩ : ∃ m, n = m + 1 := ⟨n - 1, by omega⟩
    rw [M_digest_L6, show (5 : Int32) = nI 5 from rfl, il (by decide) (by omega), if_neg (by omega), td_m hR _ _ (by omega), bd1_in, nI_p1]
    exact ih (c + 1) n (by omega) (by omega)
theorem dgm_32 {F : Nat → Int32} (hF : ∀ c, c < 7 → ∀ (ak : Nat → Nat) (al : Nat) (hs0 fb0 ff0 ft0 wp wk wg wd wr wl : Nat → Int32) (me mf mg md mr mp : Int32), (∀ j, ak j < 128) → al ≤ 24 → ∃ (ak2 : Nat → Nat) (al2 : Nat) (hs1 fb1 ff1 ft1 wp1 wk1 wg1 wd1 wr1 wl1 : Nat → Int32) (me1 mf1 mg1 md1 mr1 mp1 : Int32), M_allOf (nf S) (nf ak) hs0 fb0 ff0 ft0 wp wk wg wd wr wl (nI al) me mf mg md mr mp (nI c) = some (F c, nf ak2, hs1, fb1, ff1, ft1, wp1, wk1, wg1, wd1, wr1, wl1, nI al2, me1, mf1, mg1, md1, mr1, mp1) ∧ (∀ j, ak2 j < 128) ∧ al2 ≤ 24) (k : (Nat → Int32) → (Nat → Int32) → (Nat → Int32) → (Nat → Int32) → (Nat → Int32) → (Nat → Int32) → (Nat → Int32) → (Nat → Int32) → (Nat → Int32) → (Nat → Int32) → (Nat → Int32) → (Nat → Int32) → (Nat → Int32) → (Nat → Int32) → (Nat → Int32) → (Nat → Int32) → (Nat → Int32) → (Nat → Int32) → Int32 → Int32 → Int32 → Int32 → Int32 → Int32 → Int32 → Int32 → Int32 → Int64 → Option (Int64 × (Nat → Int32) × (Nat → Int32) × (Nat → Int32) × (Nat → Int32) × (Nat → Int32) × (Nat → Int32) × (Nat → Int32) × (Nat → Int32) × (Nat → Int32) × (Nat → Int32) × (Nat → Int32) × (Nat → Int32) × (Nat → Int32) × (Nat → Int32) × (Nat → Int32) × (Nat → Int32) × (Nat → Int32) × (Nat → Int32) × Int32 × Int32 × Int32 × Int32 × Int32 × Int32 × Int32 × Int32 × Int32)) (h0 : Int64) (m_treeBit m_treeLeft m_treeRight m_treeAbove m_pileFrom m_pileTo m_pileAbove : Nat → Int32) (m_treeForks m_treeDeep : Int32) : ∀ (d c n : Nat) (ak : Nat → Nat) (al : Nat) (m_heads m_forkBit m_forkFrom m_forkTo m_wayPage m_wayKnown m_wayGuess m_wayDiff m_wayRead m_wayPlace : Nat → Int32) (m_entries m_forks m_guess m_diff m_read m_placeOf : Int32), c + d = 7 → d < n → (∀ j, ak j < 128) → al ≤ 24 → ∃ (ak2 : Nat → Nat) (al2 : Nat) (hs1 fb1 ff1 ft1 wp1 wk1 wg1 wd1 wr1 wl1 : Nat → Int32) (me1 mf1 mg1 md1 mr1 mp1 : Int32), M_digest_L32 (nf S) m_refused m_known m_typed k n (nf ak) m_heads m_forkBit m_forkFrom m_forkTo m_wayPage m_wayKnown m_wayGuess m_wayDiff m_wayRead m_wayPlace m_treeBit m_treeLeft m_treeRight m_treeAbove m_pileFrom m_pileTo m_pileAbove (nI al) m_entries m_forks m_guess m_diff m_read m_placeOf m_treeForks m_treeDeep (dgf F c h0) (nI c) = k (nf ak2) hs1 fb1 ff1 ft1 wp1 wk1 wg1 wd1 wr1 wl1 m_treeBit m_treeLeft m_treeRight m_treeAbove m_pileFrom m_pileTo m_pileAbove (nI al2) me1 mf1 mg1 md1 mr1 mp1 m_treeForks m_treeDeep (dgf F 7 h0) ∧ (∀ j, ak2 j < 128) ∧ al2 ≤ 24 := by
  intro d
  induction d with
  | zero =>
    intro c n ak al m_heads m_forkBit m_forkFrom m_forkTo m_wayPage m_wayKnown m_wayGuess m_wayDiff m_wayRead m_wayPlace m_entries m_forks m_guess m_diff m_read m_placeOf hc hn ha hal
    obtain ⟨n, rfl⟩ : ∃ m, n = m + 1 := ⟨n - 1, by omega⟩
    refine ⟨ak, al, m_heads, m_forkBit, m_forkFrom, m_forkTo, m_wayPage, m_wayKnown, m_wayGuess, m_wayDiff, m_wayRead, m_wayPlace, m_entries, m_forks, m_guess, m_diff, m_read, m_placeOf, ?_, ha, hal⟩
    rw [M_digest_L32, show (7 : Int32) = nI 7 from rfl, il (by decide) (by omega), if_pos (by omega), show c = 7 by omega]
  | succ d ih =>
    intro c n ak al m_heads m_forkBit m_forkFrom m_forkTo m_wayPage m_wayKnown m_wayGuess m_wayDiff m_wayRead m_wayPlace m_entries m_forks m_guess m_diff m_read m_placeOf hc hn ha hal
    obtain ⟨n, rfl⟩ : ∃ m, n = m + 1 := ⟨n - 1, by omega⟩
    obtain ⟨ak2, al2, hs1, fb1, ff1, ft1, wp1, wk1, wg1, wd1, wr1, wl1, me1, mf1, mg1, md1, mr1, mp1, e, z1, z2⟩ := hF c (by omega) ak al m_heads m_forkBit m_forkFrom m_forkTo m_wayPage m_wayKnown m_wayGuess m_wayDiff m_wayRead m_wayPlace m_entries m_forks m_guess m_diff m_read m_placeOf ha hal
    rw [M_digest_L32, show (7 : Int32) = nI 7 from rfl, il (by decide) (by omega), if_neg (by omega), e, bd19_in, nI_p1]
    exact ih (c + 1) n ak2 al2 hs1 fb1 ff1 ft1 wp1 wk1 wg1 wd1 wr1 wl1 me1 mf1 mg1 md1 mr1 mp1 (by omega) (by omega) z1 z2
theorem dgm_70 (h : WF S) {v p : Nat} (hv : v < S 2) (hp : p < S (3 + v)) (k : (Nat → Int32) → (Nat → Int32) → (Nat → Int32) → (Nat → Int32) → (Nat → Int32) → (Nat → Int32) → (Nat → Int32) → (Nat → Int32) → (Nat → Int32) → (Nat → Int32) → (Nat → Int32) → (Nat → Int32) → (Nat → Int32) → (Nat → Int32) → (Nat → Int32) → (Nat → Int32) → (Nat → Int32) → (Nat → Int32) → Int32 → Int32 → Int32 → Int32 → Int32 → Int32 → Int32 → Int32 → Int32 → Int64 → Int32 → Option (Int64 × (Nat → Int32) × (Nat → Int32) × (Nat → Int32) × (Nat → Int32) × (Nat → Int32) × (Nat → Int32) × (Nat → Int32) × (Nat → Int32) × (Nat → Int32) × (Nat → Int32) × (Nat → Int32) × (Nat → Int32) × (Nat → Int32) × (Nat → Int32) × (Nat → Int32) × (Nat → Int32) × (Nat → Int32) × (Nat → Int32) × Int32 × Int32 × Int32 × Int32 × Int32 × Int32 × Int32 × Int32 × Int32)) (h0 : Int64) (ak : Nat → Nat) (al : Nat) (m_forkBit m_forkFrom m_forkTo m_wayPage m_wayKnown m_wayGuess m_wayDiff m_wayRead m_wayPlace : Nat → Int32) (m_forks m_guess m_diff m_read m_placeOf : Int32) : ∀ (d c n : Nat) (m_heads m_treeBit m_treeLeft m_treeRight m_treeAbove m_pileFrom m_pileTo m_pileAbove : Nat → Int32) (m_entries m_treeForks m_treeDeep : Int32), c + d = 7 → d < n → ∃ (hs' tb' tlf' tr' ta' pf' pt' pa' : Nat → Int32) (me' tf' td' : Int32), M_digest_L70 (nf S) m_refused m_known m_typed k n (nf ak) m_heads m_forkBit m_forkFrom m_forkTo m_wayPage m_wayKnown m_wayGuess m_wayDiff m_wayRead m_wayPlace m_treeBit m_treeLeft m_treeRight m_treeAbove m_pileFrom m_pileTo m_pileAbove (nI al) m_entries m_forks m_guess m_diff m_read m_placeOf m_treeForks m_treeDeep (dgf (pgf S v p) c h0) (nI (off S v + p)) (nI c) = k (nf ak) hs' m_forkBit m_forkFrom m_forkTo m_wayPage m_wayKnown m_wayGuess m_wayDiff m_wayRead m_wayPlace tb' tlf' tr' ta' pf' pt' pa' (nI al) me' m_forks m_guess m_diff m_read m_placeOf tf' td' (dgf (pgf S v p) 7 h0) (nI (off S v + p)) := by
  intro d
  induction d with
  | zero =>
    intro c n m_heads m_treeBit m_treeLeft m_treeRight m_treeAbove m_pileFrom m_pileTo m_pileAbove m_entries m_treeForks m_treeDeep hc hn
    obtain ⟨n, rfl⟩ : ∃ m, n = m + 1 := ⟨n - 1, by omega⟩
    refine ⟨m_heads, m_treeBit, m_treeLeft, m_treeRight, m_treeAbove, m_pileFrom, m_pileTo, m_pileAbove, m_entries, m_treeForks, m_treeDeep, ?_⟩
    rw [M_digest_L70, show (7 : Int32) = nI 7 from rfl, il (by decide) (by omega), if_pos (by omega), show c = 7 by omega]
  | succ d ih =>
    intro c n m_heads m_treeBit m_treeLeft m_treeRight m_treeAbove m_pileFrom m_pileTo m_pileAbove m_entries m_treeForks m_treeDeep hc hn
    obtain ⟨n, rfl⟩ : ∃ m, n = m + 1 := ⟨n - 1, by omega⟩
    obtain ⟨hs', tb', tlf', tr', ta', pf', pt', pa', me', tf', td', e⟩ := pageFact_m (ak := ak) (al := al) h hv hp (c := c) (by omega) m_heads m_treeBit m_treeLeft m_treeRight m_treeAbove m_pileFrom m_pileTo m_pileAbove m_entries m_treeForks m_treeDeep
    rw [M_digest_L70, show (7 : Int32) = nI 7 from rfl, il (by decide) (by omega), if_neg (by omega), levelOf_n h.1 hv hp, bd1_in, pageOf_n h.1 hv hp, bd1_in, e, bd12_in, nI_p1]
    exact ih (c + 1) n hs' tb' tlf' tr' ta' pf' pt' pa' me' tf' td' (by omega) (by omega)
theorem dgm_124 {v p : Nat} (h8 : S (12 + 48 * v + p) ≤ 8) (k : (Nat → Int32) → (Nat → Int32) → (Nat → Int32) → (Nat → Int32) → (Nat → Int32) → (Nat → Int32) → (Nat → Int32) → (Nat → Int32) → (Nat → Int32) → (Nat → Int32) → (Nat → Int32) → (Nat → Int32) → (Nat → Int32) → (Nat → Int32) → (Nat → Int32) → (Nat → Int32) → (Nat → Int32) → (Nat → Int32) → Int32 → Int32 → Int32 → Int32 → Int32 → Int32 → Int32 → Int32 → Int32 → Int64 → Int32 → Option (Int64 × (Nat → Int32) × (Nat → Int32) × (Nat → Int32) × (Nat → Int32) × (Nat → Int32) × (Nat → Int32) × (Nat → Int32) × (Nat → Int32) × (Nat → Int32) × (Nat → Int32) × (Nat → Int32) × (Nat → Int32) × (Nat → Int32) × (Nat → Int32) × (Nat → Int32) × (Nat → Int32) × (Nat → Int32) × (Nat → Int32) × Int32 × Int32 × Int32 × Int32 × Int32 × Int32 × Int32 × Int32 × Int32)) (h0 : Int64) (w3 : Int32) (ak : Nat → Nat) (al : Nat) (m_forkBit m_forkFrom m_forkTo m_wayPage m_wayKnown m_wayGuess m_wayDiff m_wayRead m_wayPlace : Nat → Int32) (m_forks m_guess m_diff m_read m_placeOf : Int32) (m_heads m_treeBit m_treeLeft m_treeRight m_treeAbove m_pileFrom m_pileTo m_pileAbove : Nat → Int32) (m_entries m_treeDeep : Int32) (hT : ∀ f, f < S (12 + 48 * v + p) - 1 → ∀ c, c < 4 → M_forkFact m_treeBit m_treeLeft m_treeRight m_treeAbove (nI f) (nI c) = some (fkv S v p f c)) : ∀ (d c n : Nat), c + d = 3 * (S (12 + 48 * v + p) - 1) → d < n → M_digest_L124 (nf S) m_refused m_known m_typed k n (nf ak) m_heads m_forkBit m_forkFrom m_forkTo m_wayPage m_wayKnown m_wayGuess m_wayDiff m_wayRead m_wayPlace m_treeBit m_treeLeft m_treeRight m_treeAbove m_pileFrom m_pileTo m_pileAbove (nI al) m_entries m_forks m_guess m_diff m_read m_placeOf (nI (S (12 + 48 * v + p) - 1)) m_treeDeep (dgf (fun k => fkv S v p (k / 3) (k % 3)) c h0) w3 (nI c) = k (nf ak) m_heads m_forkBit m_forkFrom m_forkTo m_wayPage m_wayKnown m_wayGuess m_wayDiff m_wayRead m_wayPlace m_treeBit m_treeLeft m_treeRight m_treeAbove m_pileFrom m_pileTo m_pileAbove (nI al) m_entries m_forks m_guess m_diff m_read m_placeOf (nI (S (12 + 48 * v + p) - 1)) m_treeDeep (dgf (fun k => fkv S v p (k / 3) (k % 3)) (3 * (S (12 + 48 * v + p) - 1)) h0) w3 := by
  have e3 : (3 : Int32) * nI (S (12 + 48 * v + p) - 1) = nI (3 * (S (12 + 48 * v + p) - 1)) := pk_mul 3 _
  intro d
  induction d with
  | zero =>
    intro c n hc hn
    obtain ⟨n, rfl⟩ : ∃ m, n = m + 1 := ⟨n - 1, by omega⟩
    rw [M_digest_L124, e3, il (by omega) (by omega), if_pos (by omega), show c = 3 * (S (12 + 48 * v + p) - 1) by omega]
  | succ d ih =>
    intro c n hc hn
    obtain ⟨n, rfl⟩ : ∃ m, n = m + 1 := ⟨n - 1, by omega⟩
    have ed : nI c / 3 = nI (c / 3) := pk_div (d := 3) (by omega) (by decide) (by decide)
    have er : nI c - nI c / 3 * 3 = nI (c % 3) := pk_rem (d := 3) (by omega) (by decide) (by decide)
    rw [M_digest_L124, e3, il (by omega) (by omega), if_neg (by omega), er, ed, hT (c / 3) (by omega) (c % 3) (by omega), bd1_in, nI_p1]
    exact ih (c + 1) n (by omega) (by omega)
theorem dgm_59 (h : WX S) (k : (Nat → Int32) → (Nat → Int32) → (Nat → Int32) → (Nat → Int32) → (Nat → Int32) → (Nat → Int32) → (Nat → Int32) → (Nat → Int32) → (Nat → Int32) → (Nat → Int32) → (Nat → Int32) → (Nat → Int32) → (Nat → Int32) → (Nat → Int32) → (Nat → Int32) → (Nat → Int32) → (Nat → Int32) → (Nat → Int32) → Int32 → Int32 → Int32 → Int32 → Int32 → Int32 → Int32 → Int32 → Int32 → Int64 → Option (Int64 × (Nat → Int32) × (Nat → Int32) × (Nat → Int32) × (Nat → Int32) × (Nat → Int32) × (Nat → Int32) × (Nat → Int32) × (Nat → Int32) × (Nat → Int32) × (Nat → Int32) × (Nat → Int32) × (Nat → Int32) × (Nat → Int32) × (Nat → Int32) × (Nat → Int32) × (Nat → Int32) × (Nat → Int32) × (Nat → Int32) × Int32 × Int32 × Int32 × Int32 × Int32 × Int32 × Int32 × Int32 × Int32)) (h0 : Int64) (ak : Nat → Nat) (al : Nat) (m_forkBit m_forkFrom m_forkTo m_wayPage m_wayKnown m_wayGuess m_wayDiff m_wayRead m_wayPlace : Nat → Int32) (m_forks m_guess m_diff m_read m_placeOf : Int32) : ∀ (d P n : Nat) (m_heads m_treeBit m_treeLeft m_treeRight m_treeAbove m_pileFrom m_pileTo m_pileAbove : Nat → Int32) (m_entries m_treeForks m_treeDeep : Int32), P + d = tot S → d < n → ∃ (hs' tb' tlf' tr' ta' pf' pt' pa' : Nat → Int32) (me' tf' td' : Int32), M_digest_L59 (nf S) m_refused m_known m_typed k n (nf ak) m_heads m_forkBit m_forkFrom m_forkTo m_wayPage m_wayKnown m_wayGuess m_wayDiff m_wayRead m_wayPlace m_treeBit m_treeLeft m_treeRight m_treeAbove m_pileFrom m_pileTo m_pileAbove (nI al) m_entries m_forks m_guess m_diff m_read m_placeOf m_treeForks m_treeDeep (pgs S P h0) (nI P) = k (nf ak) hs' m_forkBit m_forkFrom m_forkTo m_wayPage m_wayKnown m_wayGuess m_wayDiff m_wayRead m_wayPlace tb' tlf' tr' ta' pf' pt' pa' (nI al) me' m_forks m_guess m_diff m_read m_placeOf tf' td' (pgs S (tot S) h0) := by
  have ht := (tot_le h).1
  intro d
  induction d with
  | zero =>
    intro P n m_heads m_treeBit m_treeLeft m_treeRight m_treeAbove m_pileFrom m_pileTo m_pileAbove m_entries m_treeForks m_treeDeep hc hn
    obtain ⟨n, rfl⟩ : ∃ m, n = m + 1 := ⟨n - 1, by omega⟩
    refine ⟨m_heads, m_treeBit, m_treeLeft, m_treeRight, m_treeAbove, m_pileFrom, m_pileTo, m_pileAbove, m_entries, m_treeForks, m_treeDeep, ?_⟩
    rw [M_digest_L59, manyPages_n h.1.1.1, bd1_in, il (by omega) (by omega), if_pos (by omega), show P = tot S by omega]
  | succ d ih =>
    intro P n m_heads m_treeBit m_treeLeft m_treeRight m_treeAbove m_pileFrom m_pileTo m_pileAbove m_entries m_treeForks m_treeDeep hc hn
    obtain ⟨n, rfl⟩ : ∃ m, n = m + 1 := ⟨n - 1, by omega⟩
    obtain ⟨hv, hp, eP⟩ := vpq_s h.1 (show P < tot S by omega)
    have g := pgv h.1 hv hp
    have hFU : FU = 20000 := rfl
    rw [M_digest_L59, manyPages_n h.1.1.1, bd1_in, il (by omega) (by omega), if_neg (by omega)]
    obtain ⟨hs', tb', tlf', tr', ta', pf', pt', pa', me', tf', td', e⟩ := dgm_70 (m_refused := m_refused) (m_known := m_known) (m_typed := m_typed) h.1 hv hp (fun m_asked m_heads m_forkBit m_forkFrom m_forkTo m_wayPage m_wayKnown m_wayGuess m_wayDiff m_wayRead m_wayPlace m_treeBit m_treeLeft m_treeRight m_treeAbove m_pileFrom m_pileTo m_pileAbove m_askedLength m_entries m_forks m_guess m_diff m_read m_placeOf m_treeForks m_treeDeep v1 v3 => bd1 (M_levelOf (nf S) v3) fun r110 => bd1 (M_pageOf (nf S) v3) fun r115 => bd11 (M_laysTree (nf S) m_asked m_askedLength m_heads m_treeBit m_treeLeft m_treeRight m_treeAbove m_pileFrom m_pileTo m_pileAbove m_entries m_treeForks m_treeDeep r110 r115) fun m_heads_118 m_treeBit_118 m_treeLeft_118 m_treeRight_118 m_treeAbove_118 m_pileFrom_118 m_pileTo_118 m_pileAbove_118 m_entries_118 m_treeForks_118 m_treeDeep_118 => M_digest_L124 (nf S) m_refused m_known m_typed (fun m_asked m_heads m_forkBit m_forkFrom m_forkTo m_wayPage m_wayKnown m_wayGuess m_wayDiff m_wayRead m_wayPlace m_treeBit m_treeLeft m_treeRight m_treeAbove m_pileFrom m_pileTo m_pileAbove m_askedLength m_entries m_forks m_guess m_diff m_read m_placeOf m_treeForks m_treeDeep v1 v3 => M_digest_L59 (nf S) m_refused m_known m_typed k n m_asked m_heads m_forkBit m_forkFrom m_forkTo m_wayPage m_wayKnown m_wayGuess m_wayDiff m_wayRead m_wayPlace m_treeBit m_treeLeft m_treeRight m_treeAbove m_pileFrom m_pileTo m_pileAbove m_askedLength m_entries m_forks m_guess m_diff m_read m_placeOf m_treeForks m_treeDeep v1 (v3 + 1)) FU m_asked m_heads_118 m_forkBit m_forkFrom m_forkTo m_wayPage m_wayKnown m_wayGuess m_wayDiff m_wayRead m_wayPlace m_treeBit_118 m_treeLeft_118 m_treeRight_118 m_treeAbove_118 m_pileFrom_118 m_pileTo_118 m_pileAbove_118 m_askedLength m_entries_118 m_forks m_guess m_diff m_read m_placeOf m_treeForks_118 m_treeDeep_118 v1 v3 0) (pgs S P h0) ak al m_forkBit m_forkFrom m_forkTo m_wayPage m_wayKnown m_wayGuess m_wayDiff m_wayRead m_wayPlace m_forks m_guess m_diff m_read m_placeOf 7 0 FU m_heads m_treeBit m_treeLeft m_treeRight m_treeAbove m_pileFrom m_pileTo m_pileAbove m_entries m_treeForks m_treeDeep (by omega) (by omega)
    obtain ⟨hs2, tb2, tl2, tr2, ta2, pf2, pt2, pa2, me2, e2, hT⟩ := laysTree_n (ak := ak) (al := al) h.1 hv hp hs' tb' tlf' tr' ta' pf' pt' pa' me' tf' td'
    have e4 := dgm_124 (m_refused := m_refused) (m_known := m_known) (m_typed := m_typed) (v := (vpq S P).1) (p := (vpq S P).2) g.2.2 (fun m_asked m_heads m_forkBit m_forkFrom m_forkTo m_wayPage m_wayKnown m_wayGuess m_wayDiff m_wayRead m_wayPlace m_treeBit m_treeLeft m_treeRight m_treeAbove m_pileFrom m_pileTo m_pileAbove m_askedLength m_entries m_forks m_guess m_diff m_read m_placeOf m_treeForks m_treeDeep v1 v3 => M_digest_L59 (nf S) m_refused m_known m_typed k n m_asked m_heads m_forkBit m_forkFrom m_forkTo m_wayPage m_wayKnown m_wayGuess m_wayDiff m_wayRead m_wayPlace m_treeBit m_treeLeft m_treeRight m_treeAbove m_pileFrom m_pileTo m_pileAbove m_askedLength m_entries m_forks m_guess m_diff m_read m_placeOf m_treeForks m_treeDeep v1 (v3 + 1)) (dgf (pgf S (vpq S P).1 (vpq S P).2) 7 (pgs S P h0)) (nI P) ak al m_forkBit m_forkFrom m_forkTo m_wayPage m_wayKnown m_wayGuess m_wayDiff m_wayRead m_wayPlace m_forks m_guess m_diff m_read m_placeOf hs2 tb2 tl2 tr2 ta2 pf2 pt2 pa2 me2 (nI (hgt S (vpq S P).1 (vpq S P).2)) hT (3 * (S (12 + 48 * (vpq S P).1 + (vpq S P).2) - 1)) 0 FU (by omega) (by omega)
    obtain ⟨hs3, tb3, tl3, tr3, ta3, pf3, pt3, pa3, me3, tf3, td3, e5⟩ := ih (P + 1) n hs2 tb2 tl2 tr2 ta2 pf2 pt2 pa2 me2 (nI (S (12 + 48 * (vpq S P).1 + (vpq S P).2) - 1)) (nI (hgt S (vpq S P).1 (vpq S P).2)) (by omega) (by omega)
    refine ⟨hs3, tb3, tl3, tr3, ta3, pf3, pt3, pa3, me3, tf3, td3, ?_⟩
    have eL := levelOf_n h.1.1 hv hp
    have eG := pageOf_n h.1.1 hv hp
    rw [← eP] at e eL eG
    refine e.trans ?_
    show bd1 (M_levelOf (nf S) (nI P)) _ = _
    rw [eL, bd1_in, eG, bd1_in, e2, bd11_in]
    refine e4.trans ?_
    show M_digest_L59 (nf S) m_refused m_known m_typed k n (nf ak) hs2 m_forkBit m_forkFrom m_forkTo m_wayPage m_wayKnown m_wayGuess m_wayDiff m_wayRead m_wayPlace tb2 tl2 tr2 ta2 pf2 pt2 pa2 (nI al) me2 m_forks m_guess m_diff m_read m_placeOf _ _ _ (nI P + 1) = _
    rw [nI_p1]
    exact e5
theorem dgm_182 (h : WF S) {w : Nat} (hw : w < S 0) (k : (Nat → Int32) → (Nat → Int32) → (Nat → Int32) → (Nat → Int32) → (Nat → Int32) → (Nat → Int32) → (Nat → Int32) → (Nat → Int32) → (Nat → Int32) → (Nat → Int32) → (Nat → Int32) → (Nat → Int32) → (Nat → Int32) → (Nat → Int32) → (Nat → Int32) → (Nat → Int32) → (Nat → Int32) → (Nat → Int32) → Int32 → Int32 → Int32 → Int32 → Int32 → Int32 → Int32 → Int32 → Int32 → Int64 → Int32 → Option (Int64 × (Nat → Int32) × (Nat → Int32) × (Nat → Int32) × (Nat → Int32) × (Nat → Int32) × (Nat → Int32) × (Nat → Int32) × (Nat → Int32) × (Nat → Int32) × (Nat → Int32) × (Nat → Int32) × (Nat → Int32) × (Nat → Int32) × (Nat → Int32) × (Nat → Int32) × (Nat → Int32) × (Nat → Int32) × (Nat → Int32) × Int32 × Int32 × Int32 × Int32 × Int32 × Int32 × Int32 × Int32 × Int32)) (h0 : Int64) (ak : Nat → Nat) (al : Nat) (m_heads m_forkBit m_forkFrom m_forkTo m_wayPage m_wayKnown m_wayGuess m_wayDiff m_wayRead m_wayPlace m_treeBit m_treeLeft m_treeRight m_treeAbove m_pileFrom m_pileTo m_pileAbove : Nat → Int32) (m_entries m_forks m_guess m_diff m_read m_placeOf m_treeForks m_treeDeep : Int32) : ∀ (d i n : Nat), i + d = S (350 + w) → d < n → M_digest_L182 (nf S) m_refused m_known m_typed k n (nf ak) m_heads m_forkBit m_forkFrom m_forkTo m_wayPage m_wayKnown m_wayGuess m_wayDiff m_wayRead m_wayPlace m_treeBit m_treeLeft m_treeRight m_treeAbove m_pileFrom m_pileTo m_pileAbove (nI al) m_entries m_forks m_guess m_diff m_read m_placeOf m_treeForks m_treeDeep (dgf (fun i => nI (S (400 + 24 * w + i))) i h0) (nI w) (nI i) = k (nf ak) m_heads m_forkBit m_forkFrom m_forkTo m_wayPage m_wayKnown m_wayGuess m_wayDiff m_wayRead m_wayPlace m_treeBit m_treeLeft m_treeRight m_treeAbove m_pileFrom m_pileTo m_pileAbove (nI al) m_entries m_forks m_guess m_diff m_read m_placeOf m_treeForks m_treeDeep (dgf (fun i => nI (S (400 + 24 * w + i))) (S (350 + w)) h0) (nI w) := by
  have hl := h.2.2.2.2.1 w hw
  have h48 := h.1.2.1
  intro d
  induction d with
  | zero =>
    intro i n hi hn
    obtain ⟨n, rfl⟩ : ∃ m, n = m + 1 := ⟨n - 1, by omega⟩
    rw [M_digest_L182, len_n (by omega), bd1_in, il (by omega) (by omega), if_pos (by omega), show i = S (350 + w) by omega]
  | succ d ih =>
    intro i n hi hn
    obtain ⟨n, rfl⟩ : ∃ m, n = m + 1 := ⟨n - 1, by omega⟩
    have eS : M_signOf (nf S) (nf ak) (nI w) (nI i) = some (nI (S (400 + 24 * w + i))) := by rw [signOf_n (by omega) (by omega)]; unfold msg; rw [if_neg (by omega)]
    rw [M_digest_L182, len_n (by omega), bd1_in, il (by omega) (by omega), if_neg (by omega), eS, bd1_in, nI_p1]
    exact ih (i + 1) n (by omega) (by omega)
theorem dgm_169 (h : WF S) (k : (Nat → Int32) → (Nat → Int32) → (Nat → Int32) → (Nat → Int32) → (Nat → Int32) → (Nat → Int32) → (Nat → Int32) → (Nat → Int32) → (Nat → Int32) → (Nat → Int32) → (Nat → Int32) → (Nat → Int32) → (Nat → Int32) → (Nat → Int32) → (Nat → Int32) → (Nat → Int32) → (Nat → Int32) → (Nat → Int32) → Int32 → Int32 → Int32 → Int32 → Int32 → Int32 → Int32 → Int32 → Int32 → Int64 → Option (Int64 × (Nat → Int32) × (Nat → Int32) × (Nat → Int32) × (Nat → Int32) × (Nat → Int32) × (Nat → Int32) × (Nat → Int32) × (Nat → Int32) × (Nat → Int32) × (Nat → Int32) × (Nat → Int32) × (Nat → Int32) × (Nat → Int32) × (Nat → Int32) × (Nat → Int32) × (Nat → Int32) × (Nat → Int32) × (Nat → Int32) × Int32 × Int32 × Int32 × Int32 × Int32 × Int32 × Int32 × Int32 × Int32)) (h0 : Int64) (ak : Nat → Nat) (al : Nat) (m_heads m_forkBit m_forkFrom m_forkTo m_wayPage m_wayKnown m_wayGuess m_wayDiff m_wayRead m_wayPlace m_treeBit m_treeLeft m_treeRight m_treeAbove m_pileFrom m_pileTo m_pileAbove : Nat → Int32) (m_entries m_forks m_guess m_diff m_read m_placeOf m_treeForks m_treeDeep : Int32) : ∀ (d w n : Nat), w + d = S 0 → d < n → M_digest_L169 (nf S) m_refused m_known m_typed k n (nf ak) m_heads m_forkBit m_forkFrom m_forkTo m_wayPage m_wayKnown m_wayGuess m_wayDiff m_wayRead m_wayPlace m_treeBit m_treeLeft m_treeRight m_treeAbove m_pileFrom m_pileTo m_pileAbove (nI al) m_entries m_forks m_guess m_diff m_read m_placeOf m_treeForks m_treeDeep (wds S w h0) (nI w) = k (nf ak) m_heads m_forkBit m_forkFrom m_forkTo m_wayPage m_wayKnown m_wayGuess m_wayDiff m_wayRead m_wayPlace m_treeBit m_treeLeft m_treeRight m_treeAbove m_pileFrom m_pileTo m_pileAbove (nI al) m_entries m_forks m_guess m_diff m_read m_placeOf m_treeForks m_treeDeep (wds S (S 0) h0) := by
  have h48 := h.1.2.1
  intro d
  induction d with
  | zero =>
    intro w n hw hn
    obtain ⟨n, rfl⟩ : ∃ m, n = m + 1 := ⟨n - 1, by omega⟩
    rw [M_digest_L169, nf_a, il (by omega) (by omega), if_pos (by omega), show w = S 0 by omega]
  | succ d ih =>
    intro w n hw hn
    obtain ⟨n, rfl⟩ : ∃ m, n = m + 1 := ⟨n - 1, by omega⟩
    have hl := h.2.2.2.2.1 w (by omega)
    have hFU : FU = 20000 := rfl
    rw [M_digest_L169, nf_a, il (by omega) (by omega), if_neg (by omega)]
    refine (dgm_182 h (w := w) (by omega) (fun m_asked m_heads m_forkBit m_forkFrom m_forkTo m_wayPage m_wayKnown m_wayGuess m_wayDiff m_wayRead m_wayPlace m_treeBit m_treeLeft m_treeRight m_treeAbove m_pileFrom m_pileTo m_pileAbove m_askedLength m_entries m_forks m_guess m_diff m_read m_placeOf m_treeForks m_treeDeep v1 v3 => M_digest_L169 (nf S) m_refused m_known m_typed k n m_asked m_heads m_forkBit m_forkFrom m_forkTo m_wayPage m_wayKnown m_wayGuess m_wayDiff m_wayRead m_wayPlace m_treeBit m_treeLeft m_treeRight m_treeAbove m_pileFrom m_pileTo m_pileAbove m_askedLength m_entries m_forks m_guess m_diff m_read m_placeOf m_treeForks m_treeDeep v1 (v3 + 1)) (wds S w h0) ak al m_heads m_forkBit m_forkFrom m_forkTo m_wayPage m_wayKnown m_wayGuess m_wayDiff m_wayRead m_wayPlace m_treeBit m_treeLeft m_treeRight m_treeAbove m_pileFrom m_pileTo m_pileAbove m_entries m_forks m_guess m_diff m_read m_placeOf m_treeForks m_treeDeep (S (350 + w)) 0 FU (by omega) (by omega)).trans ?_
    show M_digest_L169 (nf S) m_refused m_known m_typed k n (nf ak) m_heads m_forkBit m_forkFrom m_forkTo m_wayPage m_wayKnown m_wayGuess m_wayDiff m_wayRead m_wayPlace m_treeBit m_treeLeft m_treeRight m_treeAbove m_pileFrom m_pileTo m_pileAbove (nI al) m_entries m_forks m_guess m_diff m_read m_placeOf m_treeForks m_treeDeep _ (nI w + 1) = _
    rw [nI_p1]
    exact ih (w + 1) n (by omega) (by omega)
theorem digest_m (h : WX S) {b nn f : Int32} (hR : RX m_refused b nn f) {F : Nat → Int32} (hF : ∀ c, c < 7 → ∀ (ak : Nat → Nat) (al : Nat) (hs0 fb0 ff0 ft0 wp wk wg wd wr wl : Nat → Int32) (me mf mg md mr mp : Int32), (∀ j, ak j < 128) → al ≤ 24 → ∃ (ak2 : Nat → Nat) (al2 : Nat) (hs1 fb1 ff1 ft1 wp1 wk1 wg1 wd1 wr1 wl1 : Nat → Int32) (me1 mf1 mg1 md1 mr1 mp1 : Int32), M_allOf (nf S) (nf ak) hs0 fb0 ff0 ft0 wp wk wg wd wr wl (nI al) me mf mg md mr mp (nI c) = some (F c, nf ak2, hs1, fb1, ff1, ft1, wp1, wk1, wg1, wd1, wr1, wl1, nI al2, me1, mf1, mg1, md1, mr1, mp1) ∧ (∀ j, ak2 j < 128) ∧ al2 ≤ 24) (ak : Nat → Nat) (al : Nat) (m_heads m_forkBit m_forkFrom m_forkTo m_wayPage m_wayKnown m_wayGuess m_wayDiff m_wayRead m_wayPlace m_treeBit m_treeLeft m_treeRight m_treeAbove m_pileFrom m_pileTo m_pileAbove : Nat → Int32) (m_entries m_forks m_guess m_diff m_read m_placeOf m_treeForks m_treeDeep : Int32) (ha : ∀ j, ak j < 128) (hal : al ≤ 24) : ∃ (ak2 : Nat → Nat) (al2 : Nat) (m_heads2 m_forkBit2 m_forkFrom2 m_forkTo2 m_wayPage2 m_wayKnown2 m_wayGuess2 m_wayDiff2 m_wayRead2 m_wayPlace2 m_treeBit2 m_treeLeft2 m_treeRight2 m_treeAbove2 m_pileFrom2 m_pileTo2 m_pileAbove2 : Nat → Int32) (m_entries2 m_forks2 m_guess2 m_diff2 m_read2 m_placeOf2 m_treeForks2 m_treeDeep2 : Int32), M_digest (nf S) m_refused m_known m_typed (nf ak) m_heads m_forkBit m_forkFrom m_forkTo m_wayPage m_wayKnown m_wayGuess m_wayDiff m_wayRead m_wayPlace m_treeBit m_treeLeft m_treeRight m_treeAbove m_pileFrom m_pileTo m_pileAbove (nI al) m_entries m_forks m_guess m_diff m_read m_placeOf m_treeForks m_treeDeep = some (wds S (S 0) (pgs S (tot S) (dgf F 7 (dgf (tdf b nn f m_typed m_known) 5 2243))), nf ak2, m_heads2, m_forkBit2, m_forkFrom2, m_forkTo2, m_wayPage2, m_wayKnown2, m_wayGuess2, m_wayDiff2, m_wayRead2, m_wayPlace2, m_treeBit2, m_treeLeft2, m_treeRight2, m_treeAbove2, m_pileFrom2, m_pileTo2, m_pileAbove2, nI al2, m_entries2, m_forks2, m_guess2, m_diff2, m_read2, m_placeOf2, m_treeForks2, m_treeDeep2) ∧ (∀ j, ak2 j < 128) ∧ al2 ≤ 24 := by
  have ht := (tot_le h).1
  have h48 := h.1.1.2.1
  have hFU : FU = 20000 := rfl
  obtain ⟨ak2, al2, hs1, fb1, ff1, ft1, wp1, wk1, wg1, wd1, wr1, wl1, me1, mf1, mg1, md1, mr1, mp1, e, z1, z2⟩ := dgm_32 (m_refused := m_refused) (m_known := m_known) (m_typed := m_typed) hF (fun m_asked m_heads m_forkBit m_forkFrom m_forkTo m_wayPage m_wayKnown m_wayGuess m_wayDiff m_wayRead m_wayPlace m_treeBit m_treeLeft m_treeRight m_treeAbove m_pileFrom m_pileTo m_pileAbove m_askedLength m_entries m_forks m_guess m_diff m_read m_placeOf m_treeForks m_treeDeep v1 => M_digest_L59 (nf S) m_refused m_known m_typed (fun m_asked m_heads m_forkBit m_forkFrom m_forkTo m_wayPage m_wayKnown m_wayGuess m_wayDiff m_wayRead m_wayPlace m_treeBit m_treeLeft m_treeRight m_treeAbove m_pileFrom m_pileTo m_pileAbove m_askedLength m_entries m_forks m_guess m_diff m_read m_placeOf m_treeForks m_treeDeep v1 => M_digest_L169 (nf S) m_refused m_known m_typed (fun m_asked m_heads m_forkBit m_forkFrom m_forkTo m_wayPage m_wayKnown m_wayGuess m_wayDiff m_wayRead m_wayPlace m_treeBit m_treeLeft m_treeRight m_treeAbove m_pileFrom m_pileTo m_pileAbove m_askedLength m_entries m_forks m_guess m_diff m_read m_placeOf m_treeForks m_treeDeep v1 => some (v1, m_asked, m_heads, m_forkBit, m_forkFrom, m_forkTo, m_wayPage, m_wayKnown, m_wayGuess, m_wayDiff, m_wayRead, m_wayPlace, m_treeBit, m_treeLeft, m_treeRight, m_treeAbove, m_pileFrom, m_pileTo, m_pileAbove, m_askedLength, m_entries, m_forks, m_guess, m_diff, m_read, m_placeOf, m_treeForks, m_treeDeep)) FU m_asked m_heads m_forkBit m_forkFrom m_forkTo m_wayPage m_wayKnown m_wayGuess m_wayDiff m_wayRead m_wayPlace m_treeBit m_treeLeft m_treeRight m_treeAbove m_pileFrom m_pileTo m_pileAbove m_askedLength m_entries m_forks m_guess m_diff m_read m_placeOf m_treeForks m_treeDeep v1 0) FU m_asked m_heads m_forkBit m_forkFrom m_forkTo m_wayPage m_wayKnown m_wayGuess m_wayDiff m_wayRead m_wayPlace m_treeBit m_treeLeft m_treeRight m_treeAbove m_pileFrom m_pileTo m_pileAbove m_askedLength m_entries m_forks m_guess m_diff m_read m_placeOf m_treeForks m_treeDeep v1 0) (dgf (tdf b nn f m_typed m_known) 5 2243) m_treeBit m_treeLeft m_treeRight m_treeAbove m_pileFrom m_pileTo m_pileAbove m_treeForks m_treeDeep 7 0 FU ak al m_heads m_forkBit m_forkFrom m_forkTo m_wayPage m_wayKnown m_wayGuess m_wayDiff m_wayRead m_wayPlace m_entries m_forks m_guess m_diff m_read m_placeOf (by omega) (by omega) ha hal
  obtain ⟨hs', tb', tlf', tr', ta', pf', pt', pa', me', tf', td', e2⟩ := dgm_59 (m_refused := m_refused) (m_known := m_known) (m_typed := m_typed) h (fun m_asked m_heads m_forkBit m_forkFrom m_forkTo m_wayPage m_wayKnown m_wayGuess m_wayDiff m_wayRead m_wayPlace m_treeBit m_treeLeft m_treeRight m_treeAbove m_pileFrom m_pileTo m_pileAbove m_askedLength m_entries m_forks m_guess m_diff m_read m_placeOf m_treeForks m_treeDeep v1 => M_digest_L169 (nf S) m_refused m_known m_typed (fun m_asked m_heads m_forkBit m_forkFrom m_forkTo m_wayPage m_wayKnown m_wayGuess m_wayDiff m_wayRead m_wayPlace m_treeBit m_treeLeft m_treeRight m_treeAbove m_pileFrom m_pileTo m_pileAbove m_askedLength m_entries m_forks m_guess m_diff m_read m_placeOf m_treeForks m_treeDeep v1 => some (v1, m_asked, m_heads, m_forkBit, m_forkFrom, m_forkTo, m_wayPage, m_wayKnown, m_wayGuess, m_wayDiff, m_wayRead, m_wayPlace, m_treeBit, m_treeLeft, m_treeRight, m_treeAbove, m_pileFrom, m_pileTo, m_pileAbove, m_askedLength, m_entries, m_forks, m_guess, m_diff, m_read, m_placeOf, m_treeForks, m_treeDeep)) FU m_asked m_heads m_forkBit m_forkFrom m_forkTo m_wayPage m_wayKnown m_wayGuess m_wayDiff m_wayRead m_wayPlace m_treeBit m_treeLeft m_treeRight m_treeAbove m_pileFrom m_pileTo m_pileAbove m_askedLength m_entries m_forks m_guess m_diff m_read m_placeOf m_treeForks m_treeDeep v1 0) (dgf F 7 (dgf (tdf b nn f m_typed m_known) 5 2243)) ak2 al2 fb1 ff1 ft1 wp1 wk1 wg1 wd1 wr1 wl1 mf1 mg1 md1 mr1 mp1 (tot S) 0 FU hs1 m_treeBit m_treeLeft m_treeRight m_treeAbove m_pileFrom m_pileTo m_pileAbove me1 m_treeForks m_treeDeep (by omega) (by omega)
  have e3 := dgm_169 (m_refused := m_refused) (m_known := m_known) (m_typed := m_typed) h.1 (fun m_asked m_heads m_forkBit m_forkFrom m_forkTo m_wayPage m_wayKnown m_wayGuess m_wayDiff m_wayRead m_wayPlace m_treeBit m_treeLeft m_treeRight m_treeAbove m_pileFrom m_pileTo m_pileAbove m_askedLength m_entries m_forks m_guess m_diff m_read m_placeOf m_treeForks m_treeDeep v1 => some (v1, m_asked, m_heads, m_forkBit, m_forkFrom, m_forkTo, m_wayPage, m_wayKnown, m_wayGuess, m_wayDiff, m_wayRead, m_wayPlace, m_treeBit, m_treeLeft, m_treeRight, m_treeAbove, m_pileFrom, m_pileTo, m_pileAbove, m_askedLength, m_entries, m_forks, m_guess, m_diff, m_read, m_placeOf, m_treeForks, m_treeDeep)) (pgs S (tot S) (dgf F 7 (dgf (tdf b nn f m_typed m_known) 5 2243))) ak2 al2 hs' fb1 ff1 ft1 wp1 wk1 wg1 wd1 wr1 wl1 tb' tlf' tr' ta' pf' pt' pa' me' mf1 mg1 md1 mr1 mp1 tf' td' (S 0) 0 FU (by omega) (by omega)
  refine ⟨ak2, al2, hs', fb1, ff1, ft1, wp1, wk1, wg1, wd1, wr1, wl1, tb', tlf', tr', ta', pf', pt', pa', me', mf1, mg1, md1, mr1, mp1, tf', td', ?_, z1, z2⟩
  unfold M_digest
  refine (dgm_6 hR _ 2243 ak al m_heads m_forkBit m_forkFrom m_forkTo m_wayPage m_wayKnown m_wayGuess m_wayDiff m_wayRead m_wayPlace m_treeBit m_treeLeft m_treeRight m_treeAbove m_pileFrom m_pileTo m_pileAbove m_entries m_forks m_guess m_diff m_read m_placeOf m_treeForks m_treeDeep 5 0 FU (by omega) (by omega)).trans ?_
  exact e.trans (e2.trans e3)
end
theorem stp_digest {a : Nat → Nat} {LW LS LK : List Nat} (hA : Ax a LS LK) : Stp_digest a LW LS LK (II a LW) := by
  intro c_bytes c_heads c_firsts c_levelOf c_aboveOf c_partings c_signs c_count c_pages c_levels c_most c_page c_known c_guess c_diff c_pieces c_place c_bits c_words c_entries c_bads c_noes c_fulls c_length c_next c_kept c_base c_from c_to c_above c_bit c_lastLeft m_s m_past m_kept m_refused m_text m_asked m_heads m_forkBit m_forkFrom m_forkTo m_wayPage m_wayKnown m_wayGuess m_wayDiff m_wayRead m_wayPlace m_treeBit m_treeLeft m_treeRight m_treeAbove m_pileFrom m_pileTo m_pileAbove m_known m_typed m_askedLength m_entries m_forks m_guess m_diff m_read m_placeOf m_treeForks m_treeDeep hI
  obtain ⟨S, T, ak, tl, al, kn, nx, ⟨rfl, hg, hc, hs⟩, ⟨rfl, rfl, rfl, rfl, ht, hT⟩, ⟨rfl, rfl, hal, hak⟩, hR, ⟨rfl, rfl, rfl, hW, hr⟩⟩ := hI
  have hF : ∃ F : Nat → Int32, ∀ c, c < 7 → (∀ (c1 c2 c3 c4 c5 c6 : Nat → Int32) (x1 x2 x3 x4 x5 x6 : Int32), ∃ (d1 d2 d3 d4 d5 d6 : Nat → Int32) (y1 y2 y3 y4 y5 y6 : Int32), C0_wholeFact a LW LK c_heads c_firsts c_partings c_signs c_count c_pages c_levels c_most c_bits c_words c_entries c1 c2 c3 c4 c5 c6 x1 x2 x3 x4 x5 x6 (nI c) = some (F c, d1, d2, d3, d4, d5, d6, y1, y2, y3, y4, y5, y6)) ∧ ∀ (ak : Nat → Nat) (al : Nat) (hs0 fb0 ff0 ft0 wp wk wg wd wr wl : Nat → Int32) (me mf mg md mr mp : Int32), (∀ j, ak j < 128) → al ≤ 24 → ∃ (ak' : Nat → Nat) (al' : Nat) (hs1 fb1 ff1 ft1 wp1 wk1 wg1 wd1 wr1 wl1 : Nat → Int32) (me1 mf1 mg1 md1 mr1 mp1 : Int32), M_allOf (nf S) (nf ak) hs0 fb0 ff0 ft0 wp wk wg wd wr wl (nI al) me mf mg md mr mp (nI c) = some (F c, nf ak', hs1, fb1, ff1, ft1, wp1, wk1, wg1, wd1, wr1, wl1, nI al', me1, mf1, mg1, md1, mr1, mp1) ∧ (∀ j, ak' j < 128) ∧ al' ≤ 24 :=
    ⟨fun c => if h : c < 7 then Classical.choose (all_n hg.1 hc hs hA.2.2.2 h) else 0, fun c h => by simp only [dif_pos h]; exact Classical.choose_spec (all_n hg.1 hc hs hA.2.2.2 h)⟩
  obtain ⟨F, hF⟩ := hF
  obtain ⟨d1, d2, d3, d4, d5, d6, y1, y2, y3, y4, y5, y6, e1⟩ := digest_c (LK := LK) (c_bads := c_bads) (c_noes := c_noes) (c_fulls := c_fulls) (c_length := nI tl) (c_kept := nI kn) hg.1 hc hs (fun c h => (hF c h).1) c_page c_known c_guess c_diff c_pieces c_place c_base c_from c_to c_above c_bit c_lastLeft
  obtain ⟨ak2, al2, m_heads2, m_forkBit2, m_forkFrom2, m_forkTo2, m_wayPage2, m_wayKnown2, m_wayGuess2, m_wayDiff2, m_wayRead2, m_wayPlace2, m_treeBit2, m_treeLeft2, m_treeRight2, m_treeAbove2, m_pileFrom2, m_pileTo2, m_pileAbove2, m_entries2, m_forks2, m_guess2, m_diff2, m_read2, m_placeOf2, m_treeForks2, m_treeDeep2, e2, z1, z2⟩ := digest_m (m_known := nI kn) (m_typed := nI tl) hg.1 hR (fun c h => (hF c h).2) ak al m_heads m_forkBit m_forkFrom m_forkTo m_wayPage m_wayKnown m_wayGuess m_wayDiff m_wayRead m_wayPlace m_treeBit m_treeLeft m_treeRight m_treeAbove m_pileFrom m_pileTo m_pileAbove m_entries m_forks m_guess m_diff m_read m_placeOf m_treeForks m_treeDeep hak hal
  exact ⟨_, d1, d2, d3, d4, d5, d6, y1, y2, y3, y4, y5, y6, nf ak2, m_heads2, m_forkBit2, m_forkFrom2, m_forkTo2, m_wayPage2, m_wayKnown2, m_wayGuess2, m_wayDiff2, m_wayRead2, m_wayPlace2, m_treeBit2, m_treeLeft2, m_treeRight2, m_treeAbove2, m_pileFrom2, m_pileTo2, m_pileAbove2, nI al2, m_entries2, m_forks2, m_guess2, m_diff2, m_read2, m_placeOf2, m_treeForks2, m_treeDeep2, e1, e2, S, T, ak2, tl, al2, kn, nx, ⟨rfl, hg, hc, hs⟩, ⟨rfl, rfl, rfl, rfl, ht, hT⟩, ⟨rfl, rfl, z2, z1⟩, hR, ⟨rfl, rfl, rfl, hW, hr⟩⟩
