/-! the row with a word put in: its words -/
theorem bt8_congr {l l' : Nat} {s s' : Nat → Nat} (hl : l = l') (hs : ∀ i, i < 24 → i < l → s i = s' i) : ∀ b, b < 192 → bt8 l s b = bt8 l' s' b := by
  intro b hb
  unfold bt8
  rw [← hl]
  by_cases h : b / 8 < l
  · rw [if_pos h, if_pos h, hs (b / 8) (by omega) h]
  · rw [if_neg h, if_neg h]
theorem lt_congr {f f' g g' : Nat → Nat} (h1 : ∀ b, b < 192 → f b = f' b) (h2 : ∀ b, b < 192 → g b = g' b) (h : lt f g) : lt f' g' := by
  unfold lt at h ⊢
  rw [← fd_congr h1 h2, ← h1 _ h.1, ← h2 _ h.1]
  exact h
section
variable {S ak : Nat → Nat} {al at0 : Nat}
theorem ins_0 : ins S ak al at0 0 = S 0 + 1 := if_pos rfl
theorem ins_lo {j : Nat} (h0 : j ≠ 0) (h : j < 350) : ins S ak al at0 j = S j := by
  unfold ins wsh
  rw [if_neg h0, if_neg (by omega), if_neg (by omega), if_neg (by omega), if_neg (by omega)]
theorem ins_len (hn : S 0 ≤ 47) (hat : at0 ≤ S 0) {w : Nat} (hw : w ≤ S 0) : ins S ak al at0 (350 + w) = if w < at0 then S (350 + w) else if w = at0 then al else S (350 + (w - 1)) := by
  unfold ins wsh
  rw [if_neg (by omega)]
  by_cases h1 : w < at0
  · rw [if_pos h1, if_neg (by omega), if_neg (by omega), if_neg (by omega), if_neg (by omega)]
  · rw [if_neg h1]
    by_cases h2 : w = at0
    · rw [if_pos h2, if_pos (by omega)]
    · rw [if_neg h2, if_neg (by omega), if_neg (by omega), if_pos (by omega), show 350 + w - 1 = 350 + (w - 1) by omega]
theorem ins_sg (hn : S 0 ≤ 47) (hat : at0 ≤ S 0) (hal : al ≤ 24) {w i : Nat} (hw : w ≤ S 0) (hi : i < 24) : ins S ak al at0 (400 + 24 * w + i) = if w < at0 then S (400 + 24 * w + i) else if w = at0 then (if i < al then ak i else S (400 + 24 * w + i)) else S (400 + 24 * (w - 1) + i) := by
  unfold ins wsh
  rw [if_neg (by omega), if_neg (by omega)]
  by_cases h1 : w < at0
  · rw [if_pos h1, if_neg (by omega), if_neg (by omega), if_neg (by omega)]
  · rw [if_neg h1]
    by_cases h2 : w = at0
    · rw [if_pos h2]
      by_cases h3 : i < al
      · rw [if_pos h3, if_pos (by omega), show 400 + 24 * w + i - (400 + 24 * at0) = i by omega]
      · rw [if_neg h3, if_neg (by omega), if_neg (by omega), if_neg (by omega)]
    · rw [if_neg h2, if_neg (by omega), if_neg (by omega), if_pos (by omega), show 400 + 24 * w + i - 24 = 400 + 24 * (w - 1) + i by omega]
theorem ins_sm (hB : ∀ j, 348 ≤ j → S j < 128) (ha : aok ak al) {j : Nat} (hj : 348 ≤ j) : ins S ak al at0 j < 128 := by
  have hal := ha.1
  unfold ins wsh
  rw [if_neg (by omega)]
  by_cases h1 : j = 350 + at0
  · rw [if_pos h1]; omega
  · rw [if_neg h1]
    by_cases h2 : 400 + 24 * at0 ≤ j ∧ j < 400 + 24 * at0 + al
    · rw [if_pos h2]; exact ha.2 _ (by omega)
    · rw [if_neg h2]
      by_cases h3 : 350 + at0 < j ∧ j ≤ 350 + S 0
      · rw [if_pos h3]; exact hB _ (by omega)
      · rw [if_neg h3]
        by_cases h4 : 400 + 24 * (at0 + 1) ≤ j ∧ j < 400 + 24 * (S 0 + 1)
        · rw [if_pos h4]; exact hB _ (by omega)
        · rw [if_neg h4]; exact hB _ hj
/-- the words of a row that is the old one with a word put in, wherever words are told -/
theorem wb_ins {S' : Nat → Nat} (hS : ∀ j, 348 ≤ j → S' j = ins S ak al at0 j) (hn : S 0 ≤ 47) (hat : at0 ≤ S 0) (hal : al ≤ 24) {w : Nat} (hw : w ≤ S 0) : ∀ b, b < 192 → wb S' w b = if w < at0 then wb S w b else if w = at0 then ab ak al b else wb S (w - 1) b := by
  intro b hb
  have hl := hS (350 + w) (by omega)
  rw [ins_len hn hat hw] at hl
  have hs : ∀ i, i < 24 → _ := fun i hi => (hS (400 + 24 * w + i) (by omega)).trans (ins_sg hn hat hal hw hi)
  by_cases h1 : w < at0
  · rw [if_pos h1]
    rw [if_pos h1] at hl
    exact bt8_congr hl (fun i hi _ => by show S' (400 + 24 * w + i) = _; rw [hs i hi, if_pos h1]) b hb
  · rw [if_neg h1]
    rw [if_neg h1] at hl
    by_cases h2 : w = at0
    · rw [if_pos h2]
      rw [if_pos h2] at hl
      exact bt8_congr hl (fun i hi hil => by show S' (400 + 24 * w + i) = _; rw [hs i hi, if_neg h1, if_pos h2, if_pos (by rw [hl] at hil; exact hil)]) b hb
    · rw [if_neg h2]
      rw [if_neg h2] at hl
      exact bt8_congr hl (fun i hi _ => by show S' (400 + 24 * w + i) = _; rw [hs i hi, if_neg h1, if_neg h2]) b hb
theorem srt_ins {S' : Nat → Nat} (hS : ∀ j, 348 ≤ j → S' j = ins S ak al at0 j) (hn : S 0 ≤ 47) (hat : at0 ≤ S 0) (hal : al ≤ 24) (hso : ∀ i j, i < j → j < S 0 → lt (wb S i) (wb S j)) (hlo : ∀ w, w < at0 → lt (wb S w) (ab ak al)) (hhi : ∀ w, at0 ≤ w → w < S 0 → lt (ab ak al) (wb S w)) : ∀ i j, i < j → j < S 0 + 1 → lt (wb S' i) (wb S' j) := by
  intro i j hij hj
  have ei := wb_ins hS hn hat hal (w := i) (by omega)
  have ej := wb_ins hS hn hat hal (w := j) (by omega)
  by_cases h1 : j < at0
  · simp only [if_pos h1] at ej
    simp only [if_pos (show i < at0 by omega)] at ei
    exact lt_congr (fun b hb => (ei b hb).symm) (fun b hb => (ej b hb).symm) (hso i j hij (by omega))
  · simp only [if_neg h1] at ej
    by_cases h2 : j = at0
    · simp only [if_pos h2] at ej
      simp only [if_pos (show i < at0 by omega)] at ei
      exact lt_congr (fun b hb => (ei b hb).symm) (fun b hb => (ej b hb).symm) (hlo i (by omega))
    · simp only [if_neg h2] at ej
      by_cases h3 : i < at0
      · simp only [if_pos h3] at ei
        exact lt_congr (fun b hb => (ei b hb).symm) (fun b hb => (ej b hb).symm) (hso i (j - 1) (by omega) (by omega))
      · simp only [if_neg h3] at ei
        by_cases h4 : i = at0
        · simp only [if_pos h4] at ei
          exact lt_congr (fun b hb => (ei b hb).symm) (fun b hb => (ej b hb).symm) (hhi (j - 1) (by omega) (by omega))
        · simp only [if_neg h4] at ei
          exact lt_congr (fun b hb => (ei b hb).symm) (fun b hb => (ej b hb).symm) (hso (i - 1) (j - 1) (by omega) (by omega))
/-- the row of words alone, once a word is put in -/
theorem words_ins {S' : Nat → Nat} (h0 : S' 0 = S 0 + 1) (hS : ∀ j, 348 ≤ j → S' j = ins S ak al at0 j) (hn : S 0 ≤ 47) (hat : at0 ≤ S 0) (ha : aok ak al) (hal1 : 1 ≤ al) (hB : ∀ j, 348 ≤ j → S j < 128) (hw : ∀ w, w < S 0 → 1 ≤ S (350 + w) ∧ S (350 + w) ≤ 24 ∧ ∀ i, i < 24 → S (400 + 24 * w + i) < 128) : ∀ w, w < S' 0 → 1 ≤ S' (350 + w) ∧ S' (350 + w) ≤ 24 ∧ ∀ i, i < 24 → S' (400 + 24 * w + i) < 128 := by
  intro w hw0
  rw [h0] at hw0
  have hal := ha.1
  have hl := hS (350 + w) (by omega)
  rw [ins_len hn hat (by omega)] at hl
  rw [hl]
  refine ⟨?_, ?_, fun i hi => ?_⟩
  · by_cases h1 : w < at0
    · rw [if_pos h1]; exact (hw w (by omega)).1
    · rw [if_neg h1]
      by_cases h2 : w = at0
      · rw [if_pos h2]; exact hal1
      · rw [if_neg h2]; exact (hw (w - 1) (by omega)).1
  · by_cases h1 : w < at0
    · rw [if_pos h1]; exact (hw w (by omega)).2.1
    · rw [if_neg h1]
      by_cases h2 : w = at0
      · rw [if_pos h2]; exact hal
      · rw [if_neg h2]; exact (hw (w - 1) (by omega)).2.1
  · rw [hS _ (by omega)]
    exact ins_sm hB ha (by omega)
end
/-- each row of ints is a row of numbers -/
def unf (f : Nat → Int32) : Nat → Nat := fun j => (f j).toBitVec.toNat
theorem nf_unf (f : Nat → Int32) : nf (unf f) = f := by
  funext j
  refine Int32.toBitVec_inj.mp (BitVec.eq_of_toNat_eq ?_)
  show (BitVec.ofNat 32 (f j).toBitVec.toNat).toNat = (f j).toBitVec.toNat
  rw [BitVec.toNat_ofNat, Nat.mod_eq_of_lt (f j).toBitVec.isLt]
theorem unf_n {f : Nat → Int32} {j x : Nat} (h : f j = nI x) (hx : x < 2 ^ 31) : unf f j = x := by
  unfold unf
  rw [h]
  show (BitVec.ofNat 32 x).toNat = x
  rw [BitVec.toNat_ofNat]
  omega
