/-! the facts of a page, of all -/
def upq (S : Nat → Nat) (u p : Nat) : Nat → Nat
  | 0 => 0
  | n + 1 => if ent S u n ≤ p then n else upq S u p n
theorem upq_s {S : Nat → Nat} {u p : Nat} : ∀ n, p < ent S u n → upq S u p n < n ∧ ent S u (upq S u p n) ≤ p ∧ p < ent S u (upq S u p n + 1)
  | 0, h => absurd h (Nat.not_lt_zero p)
  | n + 1, h => by
    rw [upq]
    by_cases c : ent S u n ≤ p
    · rw [if_pos c]
      exact ⟨by omega, c, h⟩
    · rw [if_neg c]
      obtain ⟨h1, h2⟩ := upq_s (S := S) (u := u) (p := p) n (by omega)
      exact ⟨by omega, h2⟩
def pgf (S : Nat → Nat) (v p c : Nat) : Int32 := if c = 0 then nI v else if c = 1 then nI (S (12 + 48 * v + p)) else if c = 2 then nI (hd S v (p + 1) - hd S v p) else if c = 3 then nI (hd S v p) else if c = 4 then (if v + 1 = S 2 then -1 else nI (off S (v + 1) + upq S (v + 1) p (S (3 + (v + 1))))) else if c = 5 then nI (hgt S v p) else nI (wgt S v p)
theorem up_s {S : Nat → Nat} (h : WF S) {v p : Nat} (hv : v + 1 < S 2) (hp : p < S (3 + v)) : upq S (v + 1) p (S (3 + (v + 1))) < S (3 + (v + 1)) ∧ ent S (v + 1) (upq S (v + 1) p (S (3 + (v + 1)))) ≤ p ∧ p < ent S (v + 1) (upq S (v + 1) p (S (3 + (v + 1))) + 1) := by
  have e := (h.1.2.2 (v + 1) hv).2
  unfold bel at e
  rw [if_neg (by omega), show v + 1 - 1 = v by omega] at e
  exact upq_s _ (by omega)
theorem pageFact_m {S ak : Nat → Nat} {al : Nat} (h : WF S) {v p c : Nat} (hv : v < S 2) (hp : p < S (3 + v)) (hc7 : c < 7) (hs tb tlf tr ta pf pt pa : Nat → Int32) (me tf td : Int32) : ∃ (hs' tb' tlf' tr' ta' pf' pt' pa' : Nat → Int32) (me' tf' td' : Int32), M_pageFact (nf S) (nf ak) (nI al) hs tb tlf tr ta pf pt pa me tf td (nI v) (nI p) (nI c) = some (pgf S v p c, hs', tb', tlf', tr', ta', pf', pt', pa', me', tf', td') := by
  have h6 := h.1.1
  have hpg := (h.1.2.2 v hv).1
  unfold M_pageFact pgf
  rcases (show c = 0 ∨ c = 1 ∨ c = 2 ∨ c = 3 ∨ c = 4 ∨ c = 5 ∨ c = 6 by omega) with rfl | rfl | rfl | rfl | rfl | rfl | rfl
  · exact ⟨hs, tb, tlf, tr, ta, pf, pt, pa, me, tf, td, by rw [if_pos (by decide), if_pos rfl]⟩
  · exact ⟨hs, tb, tlf, tr, ta, pf, pt, pa, me, tf, td, by rw [if_neg (by decide), if_pos (by decide), if_neg (by decide), if_pos rfl, sizeOf_n (by omega), bd1_in]⟩
  · exact ⟨hs, tb, tlf, tr, ta, pf, pt, pa, me, tf, td, by rw [if_neg (by decide), if_neg (by decide), if_pos (by decide), if_neg (by decide), if_neg (by decide), if_pos rfl, beneath_n h hv hp, bd1_in]⟩
  · exact ⟨hs, tb, tlf, tr, ta, pf, pt, pa, me, tf, td, by rw [if_neg (by decide), if_neg (by decide), if_neg (by decide), if_pos (by decide), if_neg (by decide), if_neg (by decide), if_neg (by decide), if_pos rfl, headOf_n h.1 hv (by omega), bd1_in]⟩
  · refine ⟨hs, tb, tlf, tr, ta, pf, pt, pa, me, tf, td, ?_⟩
    rw [if_neg (by decide), if_neg (by decide), if_neg (by decide), if_neg (by decide), if_pos (by decide), if_neg (by decide), if_neg (by decide), if_neg (by decide), if_neg (by decide), if_pos rfl, topLevel_n (by omega), bd1_in, ie (by omega) (by omega)]
    by_cases cv : v + 1 = S 2
    · rw [if_pos (by omega), if_pos cv]
    · obtain ⟨u1, u2, u3⟩ := up_s h (show v + 1 < S 2 by omega) hp
      have hpg2 := (h.1.2.2 (v + 1) (by omega)).1
      have hbl := bel_le h.1 (show v + 1 < S 2 by omega)
      have hel := ent_le h.1 (show v + 1 < S 2 by omega) (show upq S (v + 1) p (S (3 + (v + 1))) + 1 ≤ S (3 + (v + 1)) by omega)
      rw [if_neg (by omega), if_neg cv, over_n (by omega) (by omega) u2 u3 (by omega), bd1_in, nI_p1, numberOf_n h6 (by omega), bd1_in, Nat.add_comm]
  · obtain ⟨hs', tb', tlf', tr', ta', pf', pt', pa', me', e, -⟩ := laysTree_n (ak := ak) (al := al) h hv hp hs tb tlf tr ta pf pt pa me tf td
    refine ⟨hs', tb', tlf', tr', ta', pf', pt', pa', me', nI (S (12 + 48 * v + p) - 1), nI (hgt S v p), ?_⟩
    rw [if_neg (by decide), if_neg (by decide), if_neg (by decide), if_neg (by decide), if_neg (by decide), if_pos (by decide), if_neg (by decide), if_neg (by decide), if_neg (by decide), if_neg (by decide), if_neg (by decide), if_pos rfl, e, bd11_in]
  · exact ⟨hs, tb, tlf, tr, ta, pf, pt, pa, me, tf, td, by rw [if_neg (by decide), if_neg (by decide), if_neg (by decide), if_neg (by decide), if_neg (by decide), if_neg (by decide), if_neg (by decide), if_neg (by decide), if_neg (by decide), if_neg (by decide), if_neg (by decide), if_neg (by decide), weight_n h _ hv hp, bd1_in]⟩
section
variable {a : Nat → Nat} {LW LK : List Nat} {S : Nat → Nat} {ch cf cl ca cp cc cpg clv cm cs : Nat → Int32} {cbits : Nat → Nat → Int64} {cw : Nat → Nat → Nat} {ce : Nat → Nat → Int32}
theorem pageFact_c (h : WX S) (hc : Cpl LW S (a 14) cc cpg clv cm cs cbits cw ce) (hs : Stl S ch cf cl ca cp) {v p c : Nat} (hv : v < S 2) (hp : p < S (3 + v)) (hc7 : c < 7) (x1 x2 x3 x4 x5 x6 : Int32) : ∃ y1 y2 y3 y4 y5 y6 : Int32, C0_pageFact a LW ch cf cl ca cp cs cc cpg cw ce x1 x2 x3 x4 x5 x6 (nI (off S v + p)) (nI c) = some (pgf S v p c, y1, y2, y3, y4, y5, y6) := by
  have hpn := pageno h hv hp
  obtain ⟨e1, e2, -, -⟩ := tree_c h hc hs hv hp
  obtain ⟨s1, s2, s3, s4⟩ := hs.1 v hv p hp
  unfold C0_pageFact pgf
  rcases (show c = 0 ∨ c = 1 ∨ c = 2 ∨ c = 3 ∨ c = 4 ∨ c = 5 ∨ c = 6 by omega) with rfl | rfl | rfl | rfl | rfl | rfl | rfl
  · exact ⟨x1, x2, x3, x4, x5, x6, by rw [if_pos (by decide), if_pos rfl, levelAt_any hpn, bd1_in, s3]⟩
  · exact ⟨x1, x2, x3, x4, x5, x6, by rw [if_neg (by decide), if_pos (by decide), if_neg (by decide), if_pos rfl, e2, bd1_in]⟩
  · exact ⟨x1, x2, x3, x4, x5, x6, by rw [if_neg (by decide), if_neg (by decide), if_pos (by decide), if_neg (by decide), if_neg (by decide), if_pos rfl, endOf_c h hc hs hv hp, bd1_in, headOf_c (by omega) s2, bd1_in, pk_sub (hd_le h.1 hv (by omega) (by omega))]⟩
  · exact ⟨x1, x2, x3, x4, x5, x6, by rw [if_neg (by decide), if_neg (by decide), if_neg (by decide), if_pos (by decide), if_neg (by decide), if_neg (by decide), if_neg (by decide), if_pos rfl, headOf_c (by omega) s2, bd1_in]⟩
  · refine ⟨x1, x2, x3, x4, x5, x6, ?_⟩
    rw [if_neg (by decide), if_neg (by decide), if_neg (by decide), if_neg (by decide), if_pos (by decide), ineg (by omega), show (48 : Int32) = nI 48 from rfl, il (by decide) (by omega), if_neg (by omega), ga_j hpn (by decide), nI_clamp (by omega), if_neg (by decide), if_neg (by decide), if_neg (by decide), if_neg (by decide), if_pos rfl]
    by_cases cv : v + 1 = S 2
    · have h1 := h.1.2.2.2.1 (by omega)
      rw [show S 2 - 1 = v by omega] at h1
      have e0 : off S v + p = 0 := by rw [off_top cv]; omega
      rw [if_pos cv, e0, hs.2.1 (by omega)]
    · obtain ⟨u1, u2, u3⟩ := up_s h.1 (show v + 1 < S 2 by omega) hp
      rw [if_neg cv, s4 (by omega) _ u1 u2 u3]
  · obtain ⟨y1, y2, y3, y4, y5, y6, e⟩ := heightOf_c h hc hs hv hp x1 x2 x3 x4 x5 x6
    refine ⟨y1, y2, y3, y4, y5, y6, ?_⟩
    rw [if_neg (by decide), if_neg (by decide), if_neg (by decide), if_neg (by decide), if_neg (by decide), if_pos (by decide), if_neg (by decide), if_neg (by decide), if_neg (by decide), if_neg (by decide), if_neg (by decide), if_pos rfl, e, bd7_in]
  · exact ⟨x1, x2, x3, x4, x5, x6, by rw [if_neg (by decide), if_neg (by decide), if_neg (by decide), if_neg (by decide), if_neg (by decide), if_neg (by decide), if_neg (by decide), if_neg (by decide), if_neg (by decide), if_neg (by decide), if_neg (by decide), if_neg (by decide), weightOf_c h hc hs hv hp, bd1_in]⟩
/-- the costs of all words -/
def mxI (f : Nat → Int32) : Nat → Int32
  | 0 => 0
  | n + 1 => if mxI f n < f n then f n else mxI f n
def smI (f : Nat → Int32) : Nat → Int32
  | 0 => 0
  | n + 1 => smI f n + f n
def cow (S : Nat → Nat) (k : Nat) : Int32 := nI (cst S (wb S k) (S (350 + k)))
theorem costs_c (h : WX S) (hc : Cpl LW S (a 14) cc cpg clv cm cs cbits cw ce) (hs : Stl S ch cf cl ca cp) (hk : LKok a LK) (tg : Nat) (htg : tg ≤ 1) (c1 c2 c3 c4 c5 c6 : Nat → Int32) (x1 x2 x3 x4 x5 x6 : Int32) : ∃ (d1 d2 d3 d4 d5 d6 : Nat → Int32) (y1 y2 y3 y4 y5 y6 : Int32), C0_costOfWords a LW LK ch cf cp cs cc cpg clv cbits cw ce c1 c2 c3 c4 c5 c6 x1 x2 x3 x4 x5 x6 (nI tg) = some (if tg = 0 then mxI (cow S) (S 0) else smI (cow S) (S 0), d1, d2, d3, d4, d5, d6, y1, y2, y3, y4, y5, y6) := by
  have h48 := h.1.1.2.1
  have key : ∀ (d k n : Nat) (c1 c2 c3 c4 c5 c6 : Nat → Int32) (x1 x2 x3 x4 x5 x6 : Int32), k + d = S 0 → d < n → ∃ (d1 d2 d3 d4 d5 d6 : Nat → Int32) (y1 y2 y3 y4 y5 y6 : Int32), C0_costOfWords_L4 a LW LK ch cf cp cs cc cpg clv cbits cw ce (nI tg) (fun c_page c_known c_guess c_diff c_pieces c_place c_base c_from c_to c_above c_bit c_lastLeft v2 => some (v2, c_page, c_known, c_guess, c_diff, c_pieces, c_place, c_base, c_from, c_to, c_above, c_bit, c_lastLeft)) n c1 c2 c3 c4 c5 c6 x1 x2 x3 x4 x5 x6 (if tg = 0 then mxI (cow S) k else smI (cow S) k) (nI k) = some (if tg = 0 then mxI (cow S) (S 0) else smI (cow S) (S 0), d1, d2, d3, d4, d5, d6, y1, y2, y3, y4, y5, y6) := by
    intro d
    induction d with
    | zero =>
      intro k n c1 c2 c3 c4 c5 c6 x1 x2 x3 x4 x5 x6 hd hn
      obtain ⟨n, rfl⟩ : ∃ m, n = m + 1 := ⟨n - 1, by omega⟩
      refine ⟨c1, c2, c3, c4, c5, c6, x1, x2, x3, x4, x5, x6, ?_⟩
      rw [C0_costOfWords_L4, hc.1, il (by omega) (by omega), if_pos (by omega), show k = S 0 by omega]
    | succ d ih =>
      intro k n c1 c2 c3 c4 c5 c6 x1 x2 x3 x4 x5 x6 hd hn
      obtain ⟨n, rfl⟩ : ∃ m, n = m + 1 := ⟨n - 1, by omega⟩
      have hm := hc.2.2.2.2.2.1 k (by omega)
      obtain ⟨w1, w2⟩ := hc.2.2.2.2.2.2.2 k (by omega)
      have hl := h.1.2.2.2.2.1 k (by omega)
      obtain ⟨d1, d2, d3, d4, d5, d6, y1, y2, y3, y4, y5, y6, e, hw⟩ := walk_n h hc hs hk (w := cw (a 14) k) hl.2.1 w1 c1 c2 c3 c4 c5 c6 x1 x2 x3 x4 x5 x6
      have eC := cost_c h hc hk hw
      rw [cst_W h.1 (cb_bits _) w2] at eC
      obtain ⟨f1, f2, f3, f4, f5, f6, z1, z2, z3, z4, z5, z6, r⟩ := ih (k + 1) n d1 d2 d3 d4 d5 d6 y1 y2 y3 y4 y5 y6 (by omega) (by omega)
      refine ⟨f1, f2, f3, f4, f5, f6, z1, z2, z3, z4, z5, z6, ?_⟩
      rw [C0_costOfWords_L4, hc.1, il (by omega) (by omega), if_neg (by omega), wordAt_n (by omega) hm, bd1_in, gm_in hm, e, bd12_in, eC, bd1_in, bd1_in, nI_p1]
      rcases (show tg = 0 ∨ tg = 1 by omega) with rfl | rfl
      · rw [if_pos (by decide)]
        exact r
      · rw [if_neg (by decide)]
        exact r
  obtain ⟨d1, d2, d3, d4, d5, d6, y1, y2, y3, y4, y5, y6, r⟩ := key (S 0) 0 FU c1 c2 c3 c4 c5 c6 x1 x2 x3 x4 x5 x6 (by omega) (by have : FU = 20000 := rfl; omega)
  refine ⟨d1, d2, d3, d4, d5, d6, y1, y2, y3, y4, y5, y6, ?_⟩
  unfold C0_costOfWords
  refine Eq.trans ?_ r
  rcases (show tg = 0 ∨ tg = 1 by omega) with rfl | rfl <;> rfl
end
theorem mxI_m (f : Nat → Int32) (n : Nat) : mxI f (n + 1) = if f n ≤ mxI f n then mxI f n else f n := by
  show (if mxI f n < f n then f n else mxI f n) = _
  by_cases c : f n ≤ mxI f n
  · rw [if_pos c, if_neg (fun q => by rw [Int32.lt_iff_toInt_lt] at q; rw [Int32.le_iff_toInt_le] at c; omega)]
  · rw [if_neg c, if_pos (by rw [Int32.lt_iff_toInt_lt]; rw [Int32.le_iff_toInt_le] at c; omega)]
theorem costs_L31 {S : Nat → Nat} (h : WF S) {w : Nat} (hw : w < S 0) (v1 : Int32) (h1 f1 f2 f3 w1 w2 w3 w4 w5 w6 : Nat → Int32) (e1 e2 e3 e4 e5 e6 v2 v3 : Int32) (k : (Nat → Int32) → (Nat → Int32) → (Nat → Int32) → (Nat → Int32) → (Nat → Int32) → (Nat → Int32) → (Nat → Int32) → (Nat → Int32) → (Nat → Int32) → (Nat → Int32) → (Nat → Int32) → Int32 → Int32 → Int32 → Int32 → Int32 → Int32 → Int32 → Int32 → Int32 → Int32 → Option (Int32 × (Nat → Int32) × (Nat → Int32) × (Nat → Int32) × (Nat → Int32) × (Nat → Int32) × (Nat → Int32) × (Nat → Int32) × (Nat → Int32) × (Nat → Int32) × (Nat → Int32) × (Nat → Int32) × Int32 × Int32 × Int32 × Int32 × Int32 × Int32 × Int32)) : ∀ (d i n : Nat) (ak : Nat → Nat), i + d = S (350 + w) → d < n → (∀ j, ak j < 128) → (∀ j, j < i → ak j = S (400 + 24 * w + j)) → ∃ ak', M_costs_L31 (nf S) v1 k n (nf ak) h1 f1 f2 f3 w1 w2 w3 w4 w5 w6 (nI (S (350 + w))) e1 e2 e3 e4 e5 e6 v2 v3 (nI w) (nI i) = k (nf ak') h1 f1 f2 f3 w1 w2 w3 w4 w5 w6 (nI (S (350 + w))) e1 e2 e3 e4 e5 e6 v2 v3 (nI w) ∧ (∀ j, ak' j < 128) ∧ ∀ j, j < S (350 + w) → ak' j = S (400 + 24 * w + j) := by
  have h48 := h.1.2.1
  have hl := h.2.2.2.2.1 w hw
  intro d
  induction d with
  | zero =>
    intro i n ak hd hn ha hi
    obtain ⟨n, rfl⟩ : ∃ m, n = m + 1 := ⟨n - 1, by omega⟩
    refine ⟨ak, ?_, ha, fun j hj => hi j (by omega)⟩
    rw [M_costs_L31, il (by omega) (by omega), if_pos (by omega)]
  | succ d ih =>
    intro i n ak hd hn ha hi
    obtain ⟨n, rfl⟩ : ∃ m, n = m + 1 := ⟨n - 1, by omega⟩
    obtain ⟨ak', r1, r2, r3⟩ := ih (i + 1) n (un ak i (S (400 + 24 * w + i))) (by omega) (by omega) (un_lt ha (hl.2.2 i (by omega))) (fun j hj => by
      by_cases c : j = i
      · rw [c, un_s]
      · rw [un_n c]; exact hi j (by omega))
    refine ⟨ak', ?_, r2, r3⟩
    have eS : M_signOf (nf S) (nf ak) (nI w) (nI i) = some (nI (S (400 + 24 * w + i))) := by rw [signOf_n (by omega) (by omega)]; unfold msg; rw [if_neg (by omega)]
    rw [M_costs_L31, il (by omega) (by omega), if_neg (by omega), eS, bd1_in, ga_j (by omega) (by decide), nI_clamp (by omega), nf_upd, nI_p1]
    exact r1
theorem costs_m {S ak : Nat → Nat} {al : Nat} (h : WF S) (ha : ∀ j, ak j < 128) (hal : al ≤ 24) (tg : Nat) (htg : tg ≤ 1) (hs0 fb0 ff0 ft0 wp wk wg wd wr wl : Nat → Int32) (me mf mg md mr mp : Int32) : ∃ (ak' : Nat → Nat) (al' : Nat) (hs1 fb1 ff1 ft1 wp1 wk1 wg1 wd1 wr1 wl1 : Nat → Int32) (me1 mf1 mg1 md1 mr1 mp1 : Int32), M_costs (nf S) (nf ak) hs0 fb0 ff0 ft0 wp wk wg wd wr wl (nI al) me mf mg md mr mp (nI tg) = some (if tg = 0 then mxI (cow S) (S 0) else smI (cow S) (S 0), nf ak', hs1, fb1, ff1, ft1, wp1, wk1, wg1, wd1, wr1, wl1, nI al', me1, mf1, mg1, md1, mr1, mp1) ∧ (∀ j, ak' j < 128) ∧ al' ≤ 24 := by
  have h48 := h.1.2.1
  have key : ∀ (d w n : Nat) (ak : Nat → Nat) (al : Nat) (hs0 fb0 ff0 ft0 wp wk wg wd wr wl : Nat → Int32) (me mf mg md mr mp : Int32), w + d = S 0 → d < n → (∀ j, ak j < 128) → al ≤ 24 → ∃ (ak' : Nat → Nat) (al' : Nat) (hs1 fb1 ff1 ft1 wp1 wk1 wg1 wd1 wr1 wl1 : Nat → Int32) (me1 mf1 mg1 md1 mr1 mp1 : Int32), M_costs_L7 (nf S) (nI tg) (fun m_asked m_heads m_forkBit m_forkFrom m_forkTo m_wayPage m_wayKnown m_wayGuess m_wayDiff m_wayRead m_wayPlace m_askedLength m_entries m_forks m_guess m_diff m_read m_placeOf v2 v3 => if nI tg = 0 then (some (v2, m_asked, m_heads, m_forkBit, m_forkFrom, m_forkTo, m_wayPage, m_wayKnown, m_wayGuess, m_wayDiff, m_wayRead, m_wayPlace, m_askedLength, m_entries, m_forks, m_guess, m_diff, m_read, m_placeOf)) else (some (v3, m_asked, m_heads, m_forkBit, m_forkFrom, m_forkTo, m_wayPage, m_wayKnown, m_wayGuess, m_wayDiff, m_wayRead, m_wayPlace, m_askedLength, m_entries, m_forks, m_guess, m_diff, m_read, m_placeOf))) n (nf ak) hs0 fb0 ff0 ft0 wp wk wg wd wr wl (nI al) me mf mg md mr mp (mxI (cow S) w) (smI (cow S) w) (nI w) = some (if tg = 0 then mxI (cow S) (S 0) else smI (cow S) (S 0), nf ak', hs1, fb1, ff1, ft1, wp1, wk1, wg1, wd1, wr1, wl1, nI al', me1, mf1, mg1, md1, mr1, mp1) ∧ (∀ j, ak' j < 128) ∧ al' ≤ 24 := by
    intro d
    induction d with
    | zero =>
      intro w n ak al hs0 fb0 ff0 ft0 wp wk wg wd wr wl me mf mg md mr mp hd hn ha hal
      obtain ⟨n, rfl⟩ : ∃ m, n = m + 1 := ⟨n - 1, by omega⟩
      refine ⟨ak, al, hs0, fb0, ff0, ft0, wp, wk, wg, wd, wr, wl, me, mf, mg, md, mr, mp, ?_, ha, hal⟩
      rw [M_costs_L7, nf_a, il (by omega) (by omega), if_pos (by omega), show w = S 0 by omega]
      rcases (show tg = 0 ∨ tg = 1 by omega) with rfl | rfl
      · rw [if_pos (by decide), if_pos rfl]
      · rw [if_neg (by decide), if_neg (by decide)]
    | succ d ih =>
      intro w n ak al hs0 fb0 ff0 ft0 wp wk wg wd wr wl me mf mg md mr mp hd hn ha hal
      obtain ⟨n, rfl⟩ : ∃ m, n = m + 1 := ⟨n - 1, by omega⟩
      have hl := h.2.2.2.2.1 w (by omega)
      rw [M_costs_L7, nf_a, il (by omega) (by omega), if_neg (by omega), len_n (by omega), bd1_in]
      obtain ⟨ak', r1, r2, r3⟩ := costs_L31 h (w := w) (by omega) (nI tg) hs0 fb0 ff0 ft0 wp wk wg wd wr wl me mf mg md mr mp (mxI (cow S) w) (smI (cow S) w) (fun m_asked m_heads m_forkBit m_forkFrom m_forkTo m_wayPage m_wayKnown m_wayGuess m_wayDiff m_wayRead m_wayPlace m_askedLength m_entries m_forks m_guess m_diff m_read m_placeOf v2 v3 v4 => bd17 (M_cost (nf S) m_asked m_askedLength m_heads m_forkBit m_forkFrom m_forkTo m_wayPage m_wayKnown m_wayGuess m_wayDiff m_wayRead m_wayPlace m_entries m_forks m_guess m_diff m_read m_placeOf) fun r62 m_heads_62 m_forkBit_62 m_forkFrom_62 m_forkTo_62 m_wayPage_62 m_wayKnown_62 m_wayGuess_62 m_wayDiff_62 m_wayRead_62 m_wayPlace_62 m_entries_62 m_forks_62 m_guess_62 m_diff_62 m_read_62 m_placeOf_62 => if r62 ≤ v2 then (M_costs_L7 (nf S) (nI tg) (fun m_asked m_heads m_forkBit m_forkFrom m_forkTo m_wayPage m_wayKnown m_wayGuess m_wayDiff m_wayRead m_wayPlace m_askedLength m_entries m_forks m_guess m_diff m_read m_placeOf v2 v3 => if nI tg = 0 then (some (v2, m_asked, m_heads, m_forkBit, m_forkFrom, m_forkTo, m_wayPage, m_wayKnown, m_wayGuess, m_wayDiff, m_wayRead, m_wayPlace, m_askedLength, m_entries, m_forks, m_guess, m_diff, m_read, m_placeOf)) else (some (v3, m_asked, m_heads, m_forkBit, m_forkFrom, m_forkTo, m_wayPage, m_wayKnown, m_wayGuess, m_wayDiff, m_wayRead, m_wayPlace, m_askedLength, m_entries, m_forks, m_guess, m_diff, m_read, m_placeOf))) n m_asked m_heads_62 m_forkBit_62 m_forkFrom_62 m_forkTo_62 m_wayPage_62 m_wayKnown_62 m_wayGuess_62 m_wayDiff_62 m_wayRead_62 m_wayPlace_62 m_askedLength m_entries_62 m_forks_62 m_guess_62 m_diff_62 m_read_62 m_placeOf_62 v2 (v3 + r62) (v4 + 1)) else (M_costs_L7 (nf S) (nI tg) (fun m_asked m_heads m_forkBit m_forkFrom m_forkTo m_wayPage m_wayKnown m_wayGuess m_wayDiff m_wayRead m_wayPlace m_askedLength m_entries m_forks m_guess m_diff m_read m_placeOf v2 v3 => if nI tg = 0 then (some (v2, m_asked, m_heads, m_forkBit, m_forkFrom, m_forkTo, m_wayPage, m_wayKnown, m_wayGuess, m_wayDiff, m_wayRead, m_wayPlace, m_askedLength, m_entries, m_forks, m_guess, m_diff, m_read, m_placeOf)) else (some (v3, m_asked, m_heads, m_forkBit, m_forkFrom, m_forkTo, m_wayPage, m_wayKnown, m_wayGuess, m_wayDiff, m_wayRead, m_wayPlace, m_askedLength, m_entries, m_forks, m_guess, m_diff, m_read, m_placeOf))) n m_asked m_heads_62 m_forkBit_62 m_forkFrom_62 m_forkTo_62 m_wayPage_62 m_wayKnown_62 m_wayGuess_62 m_wayDiff_62 m_wayRead_62 m_wayPlace_62 m_askedLength m_entries_62 m_forks_62 m_guess_62 m_diff_62 m_read_62 m_placeOf_62 r62 (v3 + r62) (v4 + 1))) (S (350 + w)) 0 FU ak (by omega) (by have : FU = 20000 := rfl; omega) ha (fun j hj => absurd hj (by omega))
      obtain ⟨hs1, fb1, ff1, ft1, wp1, wk1, wg1, wd1, wr1, wl1, me1, mf1, mg1, md1, mr1, mp1, q1⟩ := cost_n h (ak := ak') (al := S (350 + w)) ⟨hl.2.1, fun i _ => r2 i⟩ hs0 fb0 ff0 ft0 wp wk wg wd wr wl me mf mg md mr mp
      have ecw : cst S (ab ak' (S (350 + w))) (S (350 + w)) = cst S (wb S w) (S (350 + w)) := cst_W h (ab_bits _ _) (fun b hb => bt8_congr rfl (fun i _ hi => r3 i hi) b hb) _
      rw [ecw] at q1
      obtain ⟨ak2, al2, hs2, fb2, ff2, ft2, wp2, wk2, wg2, wd2, wr2, wl2, me2, mf2, mg2, md2, mr2, mp2, z1, z2, z3⟩ := ih (w + 1) n ak' (S (350 + w)) hs1 fb1 ff1 ft1 wp1 wk1 wg1 wd1 wr1 wl1 me1 mf1 mg1 md1 mr1 mp1 (by omega) (by omega) r2 hl.2.1
      refine ⟨ak2, al2, hs2, fb2, ff2, ft2, wp2, wk2, wg2, wd2, wr2, wl2, me2, mf2, mg2, md2, mr2, mp2, ?_, z2, z3⟩
      refine r1.trans ?_
      show bd17 (M_cost (nf S) (nf ak') (nI (S (350 + w))) hs0 fb0 ff0 ft0 wp wk wg wd wr wl me mf mg md mr mp) _ = _
      rw [q1, bd17_in, nI_p1]
      rw [mxI_m] at z1
      by_cases c : nI (cst S (wb S w) (S (350 + w))) ≤ mxI (cow S) w
      · rw [if_pos c]
        rw [if_pos (show cow S w ≤ mxI (cow S) w from c)] at z1
        exact z1
      · rw [if_neg c]
        rw [if_neg (show ¬ cow S w ≤ mxI (cow S) w from c)] at z1
        exact z1
  unfold M_costs
  exact key (S 0) 0 FU ak al hs0 fb0 ff0 ft0 wp wk wg wd wr wl me mf mg md mr mp (by omega) (by have : FU = 20000 := rfl; omega) ha hal
