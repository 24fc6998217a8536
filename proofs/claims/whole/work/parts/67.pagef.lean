/-! the facts of a page: its tree -/
def skp (S : Nat → Nat) (v p f : Nat) : Nat × Nat × Nat := sk (nb (hbs S v p)) 8 0 (S (12 + 48 * v + p) - 1) 0 f
def fkv (S : Nat → Nat) (v p f c : Nat) : Int32 := if c = 0 then nI (fb (nb (hbs S v p)) ((skp S v p f).1, (skp S v p f).2.1)) else if c = 1 then nI (fl (nb (hbs S v p)) ((skp S v p f).1, (skp S v p f).2.1) - (skp S v p f).1 + 1) else if c = 2 then nI ((skp S v p f).2.1 - fl (nb (hbs S v p)) ((skp S v p f).1, (skp S v p f).2.1)) else nI (skp S v p f).2.2
def hgt (S : Nat → Nat) (v p : Nat) : Nat := mxs (fun g => (skp S v p g).2.2 + 1) (S (12 + 48 * v + p) - 1)
theorem laysTree_n {S ak : Nat → Nat} {al : Nat} (h : WF S) {v p : Nat} (hv : v < S 2) (hp : p < S (3 + v)) (hs tb tlf tr ta pf pt pa : Nat → Int32) (me tf td : Int32) : ∃ (hs' tb' tlf' tr' ta' pf' pt' pa' : Nat → Int32) (me' : Int32), M_laysTree (nf S) (nf ak) (nI al) hs tb tlf tr ta pf pt pa me tf td (nI v) (nI p) = some (hs', tb', tlf', tr', ta', pf', pt', pa', me', nI (S (12 + 48 * v + p) - 1), nI (hgt S v p)) ∧ ∀ f, f < S (12 + 48 * v + p) - 1 → ∀ c, c < 4 → M_forkFact tb' tlf' tr' ta' (nI f) (nI c) = some (fkv S v p f c) := by
  obtain ⟨g1, g2, g3⟩ := pgv h hv hp
  have h48 := h.1.2.1
  have hlt : ∀ e, e < S (12 + 48 * v + p) → eh S v (ent S v p + e) < S 0 := fun e he => eh_lt0 h hv (by omega)
  have hcg : ∀ e, e < S (12 + 48 * v + p) → ∀ b, b < 192 → hbs S v p e b = mbit S ak al (eh S v (ent S v p + e)) b := fun e he b _ => by
    rw [mbit_wb (by have := hlt e he; omega)]
    rfl
  have hsr2 := srt_congr (hbs_srt h hv hp) hcg
  have hD : ∀ k, k + 1 < S (12 + 48 * v + p) → nb (fun e => mbit S ak al (eh S v (ent S v p + e))) k = nb (hbs S v p) k := fun k hk => fd_congr (fun b hb => (hcg k (by omega) b hb).symm) (fun b hb => (hcg (k + 1) hk b hb).symm)
  obtain ⟨f0, hf0⟩ : ∃ f0, FU = f0 + 1 + (2 * (S (12 + 48 * v + p) - 1 - 0) + 1) := ⟨FU - (2 * (S (12 + 48 * v + p) - 1 - 0) + 1) - 1, by unfold FU; omega⟩
  obtain ⟨tb', tlf', tr', ta', pf', pt', pa', r1, r2, r3, r4⟩ := lays_L (S := S) (ak := ak) (al := al) (h := fun e => eh S v (ent S v p + e)) (hs := hs) g3 (fun e he => (wok_w h (hlt e he)).1) hsr2 (nI v) (nI p) (fun m_heads m_treeBit m_treeLeft m_treeRight m_treeAbove m_pileFrom m_pileTo m_pileAbove m_entries m_treeForks m_treeDeep => some (m_heads, m_treeBit, m_treeLeft, m_treeRight, m_treeAbove, m_pileFrom, m_pileTo, m_pileAbove, m_entries, m_treeForks, m_treeDeep)) 8 0 (S (12 + 48 * v + p) - 1) 0 0 0 0 (f0 + 1) tb tlf tr ta (upd pf 0 (nI 0)) (upd pt 0 (nI (S (12 + 48 * v + p)))) (upd pa 0 (nI 0)) (nI (S (12 + 48 * v + p))) (by omega) (by omega) (by omega) (by omega) (by omega) (by decide) (by decide) (by omega) upd_s (by rw [upd_s, show S (12 + 48 * v + p) - 1 + 1 = S (12 + 48 * v + p) by omega]) upd_s
  have hsk : ∀ g, sk (nb (fun e => mbit S ak al (eh S v (ent S v p + e)))) 8 0 (S (12 + 48 * v + p) - 1) 0 g = skp S v p g := fun g => sk_congr hD 8 _ _ _ _ (by omega)
  refine ⟨ov hs (S (12 + 48 * v + p)) (fun e => eh S v (ent S v p + e)), tb', tlf', tr', ta', pf', pt', pa', nI (S (12 + 48 * v + p)), ?_, fun f hf c hc => ?_⟩
  · unfold M_laysTree
    rw [laysHeads_n h.1 hv hp (by omega), bd2_in]
    show bd3 (M_piles pf pt pa (nI 0) (nI 0) (nI (S (12 + 48 * v + p))) (nI 0)) _ = _
    rw [piles_n (by decide), bd3_in]
    show M_laysTree_L29 (nf S) (nf ak) (nI al) (nI v) (nI p) _ FU _ tb tlf tr ta (upd pf 0 (nI 0)) (upd pt 0 (nI (S (12 + 48 * v + p)))) (upd pa 0 (nI 0)) (nI (S (12 + 48 * v + p))) (nI 0) (nI 0) (nI (0 + 1)) = _
    rw [hf0, r1, M_laysTree_L29, if_pos (by decide)]
    have e1 : max (max 0 0) (mxs (fun g => (sk (nb (fun e => mbit S ak al (eh S v (ent S v p + e)))) 8 0 (S (12 + 48 * v + p) - 1) 0 g).2.2 + 1) (S (12 + 48 * v + p) - 1 - 0)) = hgt S v p := by
      unfold hgt
      rw [Nat.sub_zero]
      have : mxs (fun g => (sk (nb (fun e => mbit S ak al (eh S v (ent S v p + e)))) 8 0 (S (12 + 48 * v + p) - 1) 0 g).2.2 + 1) (S (12 + 48 * v + p) - 1) = mxs (fun g => (skp S v p g).2.2 + 1) (S (12 + 48 * v + p) - 1) := mxs_congr (fun g _ => by
        show (sk _ 8 0 _ 0 g).2.2 + 1 = _
        rw [hsk g])
      omega
    rw [e1, Nat.sub_zero, Nat.zero_add]
  · have hin := sk_in (nb (hbs S v p)) 8 0 (S (12 + 48 * v + p) - 1) 0 f (by omega) (by omega) (by omega)
    have hcs := st_congr hD (s := ((skp S v p f).1, (skp S v p f).2.1)) (show (skp S v p f).2.1 < _ by have := hin.2.2.1; unfold skp; omega)
    obtain ⟨x1, x2, x3, x4⟩ := r4 f (by omega)
    rw [hsk f, Nat.zero_add] at x1 x2 x3 x4
    rw [hcs.1] at x1
    rw [hcs.2] at x2 x3
    unfold M_forkFact fkv
    rcases (show c = 0 ∨ c = 1 ∨ c = 2 ∨ c = 3 by omega) with rfl | rfl | rfl | rfl
    · rw [if_pos (by decide), if_pos rfl, ga_j (by omega) (by decide), nI_clamp (by omega), x1]
    · rw [if_neg (by decide), if_pos (by decide), if_neg (by decide), if_pos rfl, ga_j (by omega) (by decide), nI_clamp (by omega), x2]
    · rw [if_neg (by decide), if_neg (by decide), if_pos (by decide), if_neg (by decide), if_neg (by decide), if_pos rfl, ga_j (by omega) (by decide), nI_clamp (by omega), x3]
    · rw [if_neg (by decide), if_neg (by decide), if_neg (by decide), if_neg (by decide), if_neg (by decide), if_neg (by decide), ga_j (by omega) (by decide), nI_clamp (by omega), x4]
section
variable {a : Nat → Nat} {LW : List Nat} {S : Nat → Nat} {ch cf cl ca cp cc cpg clv cm cs : Nat → Int32} {cbits : Nat → Nat → Int64} {cw : Nat → Nat → Nat} {ce : Nat → Nat → Int32}
theorem tree_c (h : WX S) (hc : Cpl LW S (a 14) cc cpg clv cm cs cbits cw ce) (hs : Stl S ch cf cl ca cp) {v p : Nat} (hv : v < S 2) (hp : p < S (3 + v)) : C0_firstOf cf (nI (off S v + p)) = some (nI (nd S v (ent S v p))) ∧ C3_entriesOf cpg ce (a 14) (nI (off S v + p)) = some (nI (S (12 + 48 * v + p))) ∧ (∀ k, k + 1 < S (12 + 48 * v + p) → cp (nd S v (ent S v p) + k) = nI (nb (hbs S v p) k)) ∧ nd S v (ent S v p) + S (12 + 48 * v + p) ≤ 96 := by
  obtain ⟨t1, t2⟩ := tot_le h
  obtain ⟨g1, g2, g3⟩ := pgv h.1 hv hp
  have h1 := pageno h hv hp
  have h2 := off_tot (S := S) hv
  have hnd := (nd_le h hv (e := ent S v p + S (12 + 48 * v + p)) g1).1
  rw [nd_add] at hnd
  refine ⟨firstOf_n h1 (hs.1 v hv p hp).1, entriesOf_n hc.2.1 (by omega) t1 (hc.2.2.2.2.1 v hv p hp), fun k hk => ?_, hnd⟩
  rw [← nd_add, hs.2.2.2 v hv (ent S v p + k) (by omega)]
  rfl
theorem forkFact_c (h : WX S) (hc : Cpl LW S (a 14) cc cpg clv cm cs cbits cw ce) (hs : Stl S ch cf cl ca cp) {v p f c : Nat} (hv : v < S 2) (hp : p < S (3 + v)) (hf : f < S (12 + 48 * v + p) - 1) (hc4 : c < 4) (x1 x2 x3 x4 x5 x6 : Int32) : ∃ y1 y2 y3 y4 y5 y6 : Int32, C0_forkFact a cf cp cpg ce x1 x2 x3 x4 x5 x6 (nI (off S v + p)) (nI f) (nI c) = some (fkv S v p f c, y1, y2, y3, y4, y5, y6) := by
  obtain ⟨e1, e2, e3, e4⟩ := tree_c h hc hs hv hp
  obtain ⟨g1, g2, g3⟩ := pgv h.1 hv hp
  have hsr := hbs_srt h.1 hv hp
  have eo := open_n hsr (by omega) g3 e3 e4 x1 x2 x3 x4 x5 x6
  have es := seek_n hsr (by omega) g3 e3 e4 (f := f) (by omega)
  have hin := sk_in (nb (hbs S v p)) 8 0 (S (12 + 48 * v + p) - 1) 0 f (by omega) (by omega) (by omega)
  obtain ⟨q1, q2⟩ := fl_in (nb (hbs S v p)) hin.2.1
  unfold C0_forkFact
  rw [e1, bd1_in, e2, bd1_in, eo, bd6_in, es, bd5_in]
  unfold fkv skp
  rcases (show c = 0 ∨ c = 1 ∨ c = 2 ∨ c = 3 by omega) with rfl | rfl | rfl | rfl
  · refine ⟨nI (nd S v (ent S v p)), nI (sk (nb (hbs S v p)) 8 0 (S (12 + 48 * v + p) - 1) 0 f).1, nI (sk (nb (hbs S v p)) 8 0 (S (12 + 48 * v + p) - 1) 0 f).2.1, nI (sk (nb (hbs S v p)) 8 0 (S (12 + 48 * v + p) - 1) 0 f).2.2, nI (fb (nb (hbs S v p)) ((sk (nb (hbs S v p)) 8 0 (S (12 + 48 * v + p) - 1) 0 f).1, (sk (nb (hbs S v p)) 8 0 (S (12 + 48 * v + p) - 1) 0 f).2.1)), nI (fl (nb (hbs S v p)) ((sk (nb (hbs S v p)) 8 0 (S (12 + 48 * v + p) - 1) 0 f).1, (sk (nb (hbs S v p)) 8 0 (S (12 + 48 * v + p) - 1) 0 f).2.1)), ?_⟩
    rw [if_pos (by decide), if_pos rfl]
  · refine ⟨nI (nd S v (ent S v p)), nI (sk (nb (hbs S v p)) 8 0 (S (12 + 48 * v + p) - 1) 0 f).1, nI (sk (nb (hbs S v p)) 8 0 (S (12 + 48 * v + p) - 1) 0 f).2.1, nI (sk (nb (hbs S v p)) 8 0 (S (12 + 48 * v + p) - 1) 0 f).2.2, nI (fb (nb (hbs S v p)) ((sk (nb (hbs S v p)) 8 0 (S (12 + 48 * v + p) - 1) 0 f).1, (sk (nb (hbs S v p)) 8 0 (S (12 + 48 * v + p) - 1) 0 f).2.1)), nI (fl (nb (hbs S v p)) ((sk (nb (hbs S v p)) 8 0 (S (12 + 48 * v + p) - 1) 0 f).1, (sk (nb (hbs S v p)) 8 0 (S (12 + 48 * v + p) - 1) 0 f).2.1)), ?_⟩
    rw [if_neg (by decide), if_pos (by decide), if_neg (by decide), if_pos rfl, pk_sub q1, nI_p1]
  · refine ⟨nI (nd S v (ent S v p)), nI (sk (nb (hbs S v p)) 8 0 (S (12 + 48 * v + p) - 1) 0 f).1, nI (sk (nb (hbs S v p)) 8 0 (S (12 + 48 * v + p) - 1) 0 f).2.1, nI (sk (nb (hbs S v p)) 8 0 (S (12 + 48 * v + p) - 1) 0 f).2.2, nI (fb (nb (hbs S v p)) ((sk (nb (hbs S v p)) 8 0 (S (12 + 48 * v + p) - 1) 0 f).1, (sk (nb (hbs S v p)) 8 0 (S (12 + 48 * v + p) - 1) 0 f).2.1)), nI (fl (nb (hbs S v p)) ((sk (nb (hbs S v p)) 8 0 (S (12 + 48 * v + p) - 1) 0 f).1, (sk (nb (hbs S v p)) 8 0 (S (12 + 48 * v + p) - 1) 0 f).2.1)), ?_⟩
    rw [if_neg (by decide), if_neg (by decide), if_pos (by decide), if_neg (by decide), if_neg (by decide), if_pos rfl, pk_sub (by omega)]
  · refine ⟨nI (nd S v (ent S v p)), nI (sk (nb (hbs S v p)) 8 0 (S (12 + 48 * v + p) - 1) 0 f).1, nI (sk (nb (hbs S v p)) 8 0 (S (12 + 48 * v + p) - 1) 0 f).2.1, nI (sk (nb (hbs S v p)) 8 0 (S (12 + 48 * v + p) - 1) 0 f).2.2, nI (fb (nb (hbs S v p)) ((sk (nb (hbs S v p)) 8 0 (S (12 + 48 * v + p) - 1) 0 f).1, (sk (nb (hbs S v p)) 8 0 (S (12 + 48 * v + p) - 1) 0 f).2.1)), nI (fl (nb (hbs S v p)) ((sk (nb (hbs S v p)) 8 0 (S (12 + 48 * v + p) - 1) 0 f).1, (sk (nb (hbs S v p)) 8 0 (S (12 + 48 * v + p) - 1) 0 f).2.1)), ?_⟩
    rw [if_neg (by decide), if_neg (by decide), if_neg (by decide), if_neg (by decide), if_neg (by decide), if_neg (by decide)]
theorem heightOf_c (h : WX S) (hc : Cpl LW S (a 14) cc cpg clv cm cs cbits cw ce) (hs : Stl S ch cf cl ca cp) {v p : Nat} (hv : v < S 2) (hp : p < S (3 + v)) (x1 x2 x3 x4 x5 x6 : Int32) : ∃ y1 y2 y3 y4 y5 y6 : Int32, C0_heightOf a cf cp cpg ce x1 x2 x3 x4 x5 x6 (nI (off S v + p)) = some (nI (hgt S v p), y1, y2, y3, y4, y5, y6) := by
  obtain ⟨e1, e2, e3, e4⟩ := tree_c h hc hs hv hp
  obtain ⟨g1, g2, g3⟩ := pgv h.1 hv hp
  have hsr := hbs_srt h.1 hv hp
  have key : ∀ (d f n : Nat) (x1 x2 x3 x4 x5 x6 : Int32), f + d = S (12 + 48 * v + p) - 1 → d < n → ∃ y1 y2 y3 y4 y5 y6 : Int32, C0_heightOf_L4 a cf cp cpg ce (nI (off S v + p)) (fun c_base c_from c_to c_above c_bit c_lastLeft v2 => some (v2, c_base, c_from, c_to, c_above, c_bit, c_lastLeft)) n x1 x2 x3 x4 x5 x6 (nI (mxs (fun g => (skp S v p g).2.2 + 1) f)) (nI f) = some (nI (hgt S v p), y1, y2, y3, y4, y5, y6) := by
    intro d
    induction d with
    | zero =>
      intro f n x1 x2 x3 x4 x5 x6 hf hn
      obtain ⟨n, rfl⟩ : ∃ m, n = m + 1 := ⟨n - 1, by omega⟩
      refine ⟨x1, x2, x3, x4, x5, x6, ?_⟩
      rw [C0_heightOf_L4, e2, bd1_in, show nI (S (12 + 48 * v + p)) - 1 = nI (S (12 + 48 * v + p) - 1) from pk_sub (b := 1) (by omega), il (by omega) (by omega), if_pos (by omega)]
      unfold hgt
      rw [show f = S (12 + 48 * v + p) - 1 by omega]
    | succ d ih =>
      intro f n x1 x2 x3 x4 x5 x6 hf hn
      obtain ⟨n, rfl⟩ : ∃ m, n = m + 1 := ⟨n - 1, by omega⟩
      have eo := open_n hsr (by omega) g3 e3 e4 x1 x2 x3 x4 x5 x6
      have es := seek_n hsr (by omega) g3 e3 e4 (f := f) (by omega)
      have hin := sk_in (nb (hbs S v p)) 8 0 (S (12 + 48 * v + p) - 1) 0 f (by omega) (by omega) (by omega)
      have hmx : mxs (fun g => (skp S v p g).2.2 + 1) f ≤ 9 := mxs_le (fun g hg => by
        have := (sk_in (nb (hbs S v p)) 8 0 (S (12 + 48 * v + p) - 1) 0 g (by omega) (by omega) (by omega)).2.2.2
        unfold skp
        omega)
      obtain ⟨y1, y2, y3, y4, y5, y6, r⟩ := ih (f + 1) n (nI (nd S v (ent S v p))) (nI (skp S v p f).1) (nI (skp S v p f).2.1) (nI (skp S v p f).2.2) (nI (fb (nb (hbs S v p)) ((skp S v p f).1, (skp S v p f).2.1))) (nI (fl (nb (hbs S v p)) ((skp S v p f).1, (skp S v p f).2.1))) (by omega) (by omega)
      refine ⟨y1, y2, y3, y4, y5, y6, ?_⟩
      rw [C0_heightOf_L4, e2, bd1_in, show nI (S (12 + 48 * v + p)) - 1 = nI (S (12 + 48 * v + p) - 1) from pk_sub (b := 1) (by omega), il (by omega) (by omega), if_neg (by omega), e1, bd1_in, bd1_in, eo, bd6_in, es, bd5_in]
      have ev : (if nI (mxs (fun g => (skp S v p g).2.2 + 1) f) < nI (sk (nb (hbs S v p)) 8 0 (S (12 + 48 * v + p) - 1) 0 f).2.2 + 1 then nI (sk (nb (hbs S v p)) 8 0 (S (12 + 48 * v + p) - 1) 0 f).2.2 + 1 else nI (mxs (fun g => (skp S v p g).2.2 + 1) f)) = nI (mxs (fun g => (skp S v p g).2.2 + 1) (f + 1)) := by
        rw [nI_p1, ilt (by omega) (by omega)]
        show _ = nI (max (mxs (fun g => (skp S v p g).2.2 + 1) f) ((skp S v p f).2.2 + 1))
        by_cases c : mxs (fun g => (skp S v p g).2.2 + 1) f < (sk (nb (hbs S v p)) 8 0 (S (12 + 48 * v + p) - 1) 0 f).2.2 + 1
        · rw [if_pos c]
          congr 1
          unfold skp at *
          omega
        · rw [if_neg c]
          congr 1
          unfold skp at *
          omega
      rw [ev, nI_p1]
      exact r
  exact key (S (12 + 48 * v + p) - 1) 0 FU x1 x2 x3 x4 x5 x6 (by omega) (by have : FU = 20000 := rfl; omega)
end
