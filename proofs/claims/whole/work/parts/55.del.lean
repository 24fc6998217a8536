/-! a word goes: the row of words -/
def wdl (S : Nat → Nat) (at0 w : Nat) : Nat → Nat := fun j => if j = 0 then S 0 - 1 else if 350 + at0 ≤ j ∧ j < 350 + w then S (j + 1) else if 400 + 24 * at0 ≤ j ∧ j < 400 + 24 * w then S (j + 24) else S j
def wdl1 (S : Nat → Nat) (at0 w i : Nat) : Nat → Nat := fun j => if 400 + 24 * w ≤ j ∧ j < 400 + 24 * w + i then S (j + 24) else if j = 350 + w then S (350 + w + 1) else wdl S at0 w j
theorem wdl1_end {S : Nat → Nat} {at0 w : Nat} (h : at0 ≤ w) (hw : w ≤ 47) : wdl1 S at0 w 24 = wdl S at0 (w + 1) := by
  funext j
  unfold wdl1 wdl
  by_cases h0 : j = 0
  · rw [if_neg (by omega), if_neg (by omega), if_pos h0, if_pos h0]
  · rw [if_neg h0, if_neg h0]
    by_cases h1 : 400 + 24 * w ≤ j ∧ j < 400 + 24 * w + 24
    · rw [if_pos h1, if_neg (by omega), if_pos (by omega)]
    · rw [if_neg h1]
      by_cases h2 : j = 350 + w
      · rw [if_pos h2, if_pos (by omega), h2]
      · rw [if_neg h2]
        by_cases h3 : 350 + at0 ≤ j ∧ j < 350 + w
        · rw [if_pos h3, if_pos (by omega)]
        · rw [if_neg h3, if_neg (show ¬ (350 + at0 ≤ j ∧ j < 350 + (w + 1)) by omega)]
          by_cases h4 : 400 + 24 * at0 ≤ j ∧ j < 400 + 24 * w
          · rw [if_pos h4, if_pos (by omega)]
          · rw [if_neg h4, if_neg (by omega)]
section
variable (ma : Nat → Int32) (mal : Int32) (h1 f1 f2 f3 w1 w2 w3 w4 w5 w6 : Nat → Int32) (e1 e2 e3 e4 e5 e6 : Int32)
theorem takes_L74 {S : Nat → Nat} {at0 w : Nat} (h : at0 ≤ w) (hw : w ≤ 46) (v1 : Int32) (k : (Nat → Int32) → (Nat → Int32) → (Nat → Int32) → (Nat → Int32) → (Nat → Int32) → (Nat → Int32) → (Nat → Int32) → (Nat → Int32) → (Nat → Int32) → (Nat → Int32) → (Nat → Int32) → Int32 → Int32 → Int32 → Int32 → Int32 → Int32 → Int32 → Int32 → Option ((Nat → Int32) × (Nat → Int32) × (Nat → Int32) × (Nat → Int32) × (Nat → Int32) × (Nat → Int32) × (Nat → Int32) × (Nat → Int32) × (Nat → Int32) × (Nat → Int32) × (Nat → Int32) × Int32 × Int32 × Int32 × Int32 × Int32 × Int32)) : ∀ (d i m : Nat), i + d = 24 → d < m → M_takes_L74 ma mal k m (nf (wdl1 S at0 w i)) h1 f1 f2 f3 w1 w2 w3 w4 w5 w6 e1 e2 e3 e4 e5 e6 v1 (nI w) (nI i) = k (nf (wdl S at0 (w + 1))) h1 f1 f2 f3 w1 w2 w3 w4 w5 w6 e1 e2 e3 e4 e5 e6 v1 (nI w) := by
  intro d
  induction d with
  | zero =>
    intro i m hi hm
    obtain ⟨m, rfl⟩ : ∃ t, m = t + 1 := ⟨m - 1, by omega⟩
    rw [M_takes_L74, show (24 : Int32) = nI 24 from rfl, il (by decide) (by omega), if_pos (by omega), show i = 24 by omega, wdl1_end h (by omega)]
  | succ d ih =>
    intro i m hi hm
    obtain ⟨m, rfl⟩ : ∃ t, m = t + 1 := ⟨m - 1, by omega⟩
    have g1 : (400 : Int32) + 24 * nI w + 24 + nI i = nI (400 + 24 * w + 24 + i) := by
      show nI 400 + nI 24 * nI w + nI 24 + nI i = _
      rw [pk_mul, nI_add, nI_add, nI_add]
    have g2 : (400 : Int32) + 24 * nI w + nI i = nI (400 + 24 * w + i) := by
      show nI 400 + nI 24 * nI w + nI i = _
      rw [pk_mul, nI_add, nI_add]
    rw [M_takes_L74, g1, g2, show (24 : Int32) = nI 24 from rfl, il (by decide) (by omega), if_neg (by omega), ga_n (by omega) (by decide), ga_n (by omega) (by decide), nI_clamp (by omega), nI_clamp (by omega), nf_a, nf_upd, nI_p1]
    have e : un (wdl1 S at0 w i) (400 + 24 * w + i) (wdl1 S at0 w i (400 + 24 * w + 24 + i)) = wdl1 S at0 w (i + 1) := by
      have e1 : wdl1 S at0 w i (400 + 24 * w + 24 + i) = S (400 + 24 * w + i + 24) := by
        unfold wdl1 wdl
        rw [if_neg (by omega), if_neg (by omega), if_neg (by omega), if_neg (by omega), if_neg (by omega), show 400 + 24 * w + 24 + i = 400 + 24 * w + i + 24 by omega]
      rw [e1]
      funext j
      unfold un wdl1
      by_cases q : j = 400 + 24 * w + i
      · rw [if_pos q, if_pos (by omega), q]
      · rw [if_neg q]
        by_cases q2 : 400 + 24 * w ≤ j ∧ j < 400 + 24 * w + i
        · rw [if_pos q2, if_pos (by omega)]
        · rw [if_neg q2, if_neg (show ¬ (400 + 24 * w ≤ j ∧ j < 400 + 24 * w + (i + 1)) by omega)]
    rw [e]
    exact ih (i + 1) m (by omega) (by omega)
theorem takes_L39 {S : Nat → Nat} {at0 : Nat} (hn : S 0 ≤ 48) (h0 : 1 ≤ S 0) (v1 : Int32) (k : (Nat → Int32) → (Nat → Int32) → (Nat → Int32) → (Nat → Int32) → (Nat → Int32) → (Nat → Int32) → (Nat → Int32) → (Nat → Int32) → (Nat → Int32) → (Nat → Int32) → (Nat → Int32) → Int32 → Int32 → Int32 → Int32 → Int32 → Int32 → Int32 → Option ((Nat → Int32) × (Nat → Int32) × (Nat → Int32) × (Nat → Int32) × (Nat → Int32) × (Nat → Int32) × (Nat → Int32) × (Nat → Int32) × (Nat → Int32) × (Nat → Int32) × (Nat → Int32) × Int32 × Int32 × Int32 × Int32 × Int32 × Int32)) : ∀ (d w m : Nat), w + d = S 0 - 1 → at0 ≤ w → d < m → M_takes_L39 ma mal k m (nf (wdl S at0 w)) h1 f1 f2 f3 w1 w2 w3 w4 w5 w6 e1 e2 e3 e4 e5 e6 v1 (nI w) = k (nf (wdl S at0 (S 0 - 1))) h1 f1 f2 f3 w1 w2 w3 w4 w5 w6 e1 e2 e3 e4 e5 e6 v1 := by
  intro d
  induction d with
  | zero =>
    intro w m hw hat hm
    obtain ⟨m, rfl⟩ : ∃ t, m = t + 1 := ⟨m - 1, by omega⟩
    have e0 : wdl S at0 w 0 = S 0 - 1 := if_pos rfl
    rw [M_takes_L39, nf_a, e0, il (by omega) (by omega), if_pos (by omega), show w = S 0 - 1 by omega]
  | succ d ih =>
    intro w m hw hat hm
    obtain ⟨m, rfl⟩ : ∃ t, m = t + 1 := ⟨m - 1, by omega⟩
    have e0 : wdl S at0 w 0 = S 0 - 1 := if_pos rfl
    have g1 : (350 : Int32) + nI w = nI (350 + w) := by
      show nI 350 + nI w = _
      rw [nI_add]
    rw [M_takes_L39, nf_a, e0, il (by omega) (by omega), if_neg (by omega), g1, nI_p1, ga_n (by omega) (by decide), ga_n (by omega) (by decide), nI_clamp (by omega), nI_clamp (by omega), nf_a, nf_upd]
    have e : un (wdl S at0 w) (350 + w) (wdl S at0 w (350 + w + 1)) = wdl1 S at0 w 0 := by
      have e1 : wdl S at0 w (350 + w + 1) = S (350 + w + 1) := by
        unfold wdl
        rw [if_neg (by omega), if_neg (by omega), if_neg (by omega)]
      rw [e1]
      funext j
      unfold un wdl1
      rw [if_neg (show ¬ (400 + 24 * w ≤ j ∧ j < 400 + 24 * w + 0) by omega)]
    rw [e]
    refine (takes_L74 ma mal h1 f1 f2 f3 w1 w2 w3 w4 w5 w6 e1 e2 e3 e4 e5 e6 hat (by omega) v1 _ 24 0 FU (by omega) (by decide)).trans ?_
    show M_takes_L39 ma mal k m (nf (wdl S at0 (w + 1))) h1 f1 f2 f3 w1 w2 w3 w4 w5 w6 e1 e2 e3 e4 e5 e6 v1 (nI w + 1) = _
    rw [nI_p1]
    exact ih (w + 1) m (by omega) (by omega) (by omega)
end
/-- the row with the word gone -/
def del (S : Nat → Nat) (at0 : Nat) : Nat → Nat := wdl S at0 (S 0 - 1)
theorem del_start {S : Nat → Nat} {at0 : Nat} : wdl S at0 at0 = un S 0 (S 0 - 1) := by
  funext j
  unfold wdl un
  by_cases h0 : j = 0
  · rw [if_pos h0, if_pos h0]
  · rw [if_neg h0, if_neg h0, if_neg (by omega), if_neg (by omega)]
section
variable {S : Nat → Nat} {at0 : Nat}
theorem del_0 : del S at0 0 = S 0 - 1 := by unfold del wdl; exact if_pos rfl
theorem del_lo {j : Nat} (h0 : j ≠ 0) (h : j < 350) : del S at0 j = S j := by
  unfold del wdl
  rw [if_neg h0, if_neg (by omega), if_neg (by omega)]
theorem del_len (hn : S 0 ≤ 48) {w : Nat} (hw : w + 1 < S 0) : del S at0 (350 + w) = if w < at0 then S (350 + w) else S (350 + (w + 1)) := by
  unfold del wdl
  rw [if_neg (by omega)]
  by_cases h1 : w < at0
  · rw [if_pos h1, if_neg (by omega), if_neg (by omega)]
  · rw [if_neg h1, if_pos (by omega)]
    rfl
theorem del_sg (hn : S 0 ≤ 48) {w i : Nat} (hw : w + 1 < S 0) (hi : i < 24) : del S at0 (400 + 24 * w + i) = if w < at0 then S (400 + 24 * w + i) else S (400 + 24 * (w + 1) + i) := by
  unfold del wdl
  rw [if_neg (by omega), if_neg (by omega)]
  by_cases h1 : w < at0
  · rw [if_pos h1, if_neg (by omega)]
  · rw [if_neg h1, if_pos (by omega), show 400 + 24 * w + i + 24 = 400 + 24 * (w + 1) + i by omega]
theorem del_sm (hB : ∀ j, 348 ≤ j → S j < 128) {j : Nat} (hj : 348 ≤ j) : del S at0 j < 128 := by
  unfold del wdl
  rw [if_neg (by omega)]
  by_cases h1 : 350 + at0 ≤ j ∧ j < 350 + (S 0 - 1)
  · rw [if_pos h1]; exact hB _ (by omega)
  · rw [if_neg h1]
    by_cases h2 : 400 + 24 * at0 ≤ j ∧ j < 400 + 24 * (S 0 - 1)
    · rw [if_pos h2]; exact hB _ (by omega)
    · rw [if_neg h2]; exact hB _ hj
theorem wb_del {S' : Nat → Nat} (hS : ∀ j, 348 ≤ j → S' j = del S at0 j) (hn : S 0 ≤ 48) {w : Nat} (hw : w + 1 < S 0) : ∀ b, b < 192 → wb S' w b = if w < at0 then wb S w b else wb S (w + 1) b := by
  intro b hb
  have hl := hS (350 + w) (by omega)
  rw [del_len hn hw] at hl
  have hs : ∀ i, i < 24 → _ := fun i hi => (hS (400 + 24 * w + i) (by omega)).trans (del_sg hn hw hi)
  by_cases h1 : w < at0
  · rw [if_pos h1]
    rw [if_pos h1] at hl
    exact bt8_congr hl (fun i hi _ => by show S' (400 + 24 * w + i) = _; rw [hs i hi, if_pos h1]) b hb
  · rw [if_neg h1]
    rw [if_neg h1] at hl
    exact bt8_congr hl (fun i hi _ => by show S' (400 + 24 * w + i) = _; rw [hs i hi, if_neg h1]) b hb
theorem srt_del {S' : Nat → Nat} (hS : ∀ j, 348 ≤ j → S' j = del S at0 j) (hn : S 0 ≤ 48) (hso : ∀ i j, i < j → j < S 0 → lt (wb S i) (wb S j)) : ∀ i j, i < j → j < S 0 - 1 → lt (wb S' i) (wb S' j) := by
  intro i j hij hj
  have ei := wb_del hS hn (w := i) (by omega)
  have ej := wb_del hS hn (w := j) (by omega)
  by_cases h1 : j < at0
  · simp only [if_pos h1] at ej
    simp only [if_pos (show i < at0 by omega)] at ei
    exact lt_congr (fun b hb => (ei b hb).symm) (fun b hb => (ej b hb).symm) (hso i j hij (by omega))
  · simp only [if_neg h1] at ej
    by_cases h3 : i < at0
    · simp only [if_pos h3] at ei
      exact lt_congr (fun b hb => (ei b hb).symm) (fun b hb => (ej b hb).symm) (hso i (j + 1) (by omega) (by omega))
    · simp only [if_neg h3] at ei
      exact lt_congr (fun b hb => (ei b hb).symm) (fun b hb => (ej b hb).symm) (hso (i + 1) (j + 1) (by omega) (by omega))
theorem words_del {S' : Nat → Nat} (h0 : S' 0 = S 0 - 1) (hS : ∀ j, 348 ≤ j → S' j = del S at0 j) (hn : S 0 ≤ 48) (hB : ∀ j, 348 ≤ j → S j < 128) (hw : ∀ w, w < S 0 → 1 ≤ S (350 + w) ∧ S (350 + w) ≤ 24 ∧ ∀ i, i < 24 → S (400 + 24 * w + i) < 128) : ∀ w, w < S' 0 → 1 ≤ S' (350 + w) ∧ S' (350 + w) ≤ 24 ∧ ∀ i, i < 24 → S' (400 + 24 * w + i) < 128 := by
  intro w hw0
  rw [h0] at hw0
  have hl := hS (350 + w) (by omega)
  rw [del_len hn (by omega)] at hl
  rw [hl]
  refine ⟨?_, ?_, fun i hi => ?_⟩
  · by_cases h1 : w < at0
    · rw [if_pos h1]; exact (hw w (by omega)).1
    · rw [if_neg h1]; exact (hw (w + 1) (by omega)).1
  · by_cases h1 : w < at0
    · rw [if_pos h1]; exact (hw w (by omega)).2.1
    · rw [if_neg h1]; exact (hw (w + 1) (by omega)).2.1
  · rw [hS _ (by omega)]
    exact del_sm hB (by omega)
end
section
variable {S : Nat → Nat} {LW : List Nat} {a : Nat → Nat} {cc cpg clv cm cs : Nat → Int32} {cbits : Nat → Nat → Int64} {cw : Nat → Nat → Nat} {ce : Nat → Nat → Int32}
theorem del_cpl {S' : Nat → Nat} {at0 : Nat} {cpg' clv' : Nat → Int32} {ce' : Nat → Nat → Int32} (hc : Cpl LW S (a 14) cc cpg clv cm cs cbits cw ce) (h0 : S' 0 = S 0 - 1) (h1 : S' 1 = S 1) (hS : ∀ j, 348 ≤ j → S' j = del S at0 j) (hn : S 0 ≤ 48) (hat : at0 < S 0) (hp : cpg' (a 14) = nI (tot S')) (hv : clv' (a 14) = nI (S' 2)) (he : ∀ v, v < S' 2 → ∀ p, p < S' (3 + v) → ce' (a 14) (off S' v + p) = nI (S' (12 + 48 * v + p))) : Cpl LW S' (a 14) (va_up cc (a 14) (nI (S 0 - 1))) cpg' clv' cm cs cbits (va_up cw (a 14) (un (shl (cw (a 14)) at0 (S 0 - 1)) (S 0 - 1) (cw (a 14) at0))) ce' ∧ ∀ k, k < 48 → ∃ j, j < 48 ∧ va_up cw (a 14) (un (shl (cw (a 14)) at0 (S 0 - 1)) (S 0 - 1) (cw (a 14) at0)) (a 14) k = cw (a 14) j := by
  obtain ⟨k1, k2, k3, k4, k5, k6, k7, k8⟩ := hc
  have val : ∀ k, k < 48 → va_up cw (a 14) (un (shl (cw (a 14)) at0 (S 0 - 1)) (S 0 - 1) (cw (a 14) at0)) (a 14) k = cw (a 14) (if k = S 0 - 1 then at0 else if at0 ≤ k ∧ k < S 0 - 1 then k + 1 else k) := by
    intro k hk
    rw [vu_s]
    unfold un shl
    by_cases z : k = S 0 - 1
    · rw [if_pos z, if_pos z]
    · rw [if_neg z, if_neg z]
      by_cases z2 : at0 ≤ k ∧ k < S 0 - 1
      · rw [if_pos z2, if_pos z2]
      · rw [if_neg z2, if_neg z2]
  have val2 : ∀ k, k < 48 → (if k = S 0 - 1 then at0 else if at0 ≤ k ∧ k < S 0 - 1 then k + 1 else k) < 48 := by
    intro k hk
    by_cases z : k = S 0 - 1
    · rw [if_pos z]; omega
    · rw [if_neg z]
      by_cases z2 : at0 ≤ k ∧ k < S 0 - 1
      · rw [if_pos z2]; omega
      · rw [if_neg z2]; omega
  refine ⟨⟨by rw [vu_s, h0], hp, hv, by rw [h1]; exact k4, he, fun k hk => by rw [val k hk]; exact k6 _ (val2 k hk), fun j k hj hk e => ?_, fun k hk => ?_⟩, fun k hk => ⟨_, val2 k hk, val k hk⟩⟩
  · rw [val j hj, val k hk] at e
    have e := k7 _ _ (val2 j hj) (val2 k hk) e
    by_cases z : j = S 0 - 1
    · rw [if_pos z] at e
      by_cases y : k = S 0 - 1
      · omega
      · rw [if_neg y] at e
        by_cases y2 : at0 ≤ k ∧ k < S 0 - 1
        · rw [if_pos y2] at e; omega
        · rw [if_neg y2] at e; omega
    · rw [if_neg z] at e
      by_cases y : k = S 0 - 1
      · rw [if_pos y] at e
        by_cases z2 : at0 ≤ j ∧ j < S 0 - 1
        · rw [if_pos z2] at e; omega
        · rw [if_neg z2] at e; omega
      · rw [if_neg y] at e
        by_cases z2 : at0 ≤ j ∧ j < S 0 - 1
        · rw [if_pos z2] at e
          by_cases y2 : at0 ≤ k ∧ k < S 0 - 1
          · rw [if_pos y2] at e; omega
          · rw [if_neg y2] at e; omega
        · rw [if_neg z2] at e
          by_cases y2 : at0 ≤ k ∧ k < S 0 - 1
          · rw [if_pos y2] at e; omega
          · rw [if_neg y2] at e; omega
  · rw [h0] at hk
    have hwi := wb_del hS hn (w := k) (by omega)
    have hli := hS (350 + k) (by omega)
    rw [del_len hn (by omega)] at hli
    rw [val k (by omega), hli, if_neg (by omega)]
    by_cases z2 : k < at0
    · simp only [if_pos z2, if_neg (show ¬ (at0 ≤ k ∧ k < S 0 - 1) by omega)] at hwi ⊢
      refine ⟨(k8 k (by omega)).1, fun b hb => ?_⟩
      rw [hwi b hb]
      exact (k8 k (by omega)).2 b hb
    · simp only [if_neg z2, if_pos (show at0 ≤ k ∧ k < S 0 - 1 by omega)] at hwi ⊢
      refine ⟨(k8 (k + 1) (by omega)).1, fun b hb => ?_⟩
      rw [hwi b hb]
      exact (k8 (k + 1) (by omega)).2 b hb
end
