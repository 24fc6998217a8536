/-! a word is added: class and reference -/
def GS (S : Nat → Nat) : Prop := WX S ∧ ∀ j, 348 ≤ j → S j < 128
/-- what a change of one state leaves as it was -/
def Frm (st : Nat) (cs cc cpg clv : Nat → Int32) (cbits : Nat → Nat → Int64) (cw : Nat → Nat → Nat) (ce : Nat → Nat → Int32) (cs' cc' cpg' clv' : Nat → Int32) (cbits' : Nat → Nat → Int64) (cw' : Nat → Nat → Nat) (ce' : Nat → Nat → Int32) : Prop :=
  (∀ z, z ≠ st → cc' z = cc z ∧ cpg' z = cpg z ∧ clv' z = clv z ∧ cw' z = cw z ∧ ce' z = ce z) ∧ (∀ x, (∀ k, k < 48 → x ≠ cw st k) → cs' x = cs x ∧ cbits' x = cbits x) ∧ ∀ k, k < 48 → ∃ j, j < 48 ∧ cw' st k = cw st j
theorem cb_congr {B C : Nat → Int64} (h : ∀ i, i < 3 → B i = C i) : ∀ b, b < 192 → cb B b = cb C b := by
  intro b hb
  unfold cb
  rw [h (b / 64) (by omega)]
theorem lookok_W {S W W' : Nat → Nat} {al : Nat} {a : Nat → Nat} {d1 d2 d3 d4 d5 d6 : Nat → Int32} (h : WF S) (hb : bits W) (hW : ∀ b, b < 192 → W b = W' b) {u : Nat} (hu : u < S 2) (hl : lookok S W al a d1 d2 d3 d4 d5 d6 u) : lookok S W' al a d1 d2 d3 d4 d5 d6 u := by
  obtain ⟨e1, e2, e3, e4, e5, e6⟩ := way_all h hb hW al hu
  unfold lookok at hl ⊢
  rw [← e1, ← e2, ← e3, ← e4, ← e5, ← e6] at *
  rw [e1, e2] at hl
  exact hl
section
variable {S ak : Nat → Nat} {al : Nat} {LW LK : List Nat} {a : Nat → Nat} {cc cpg clv cm cs ch cf cl ca cp : Nat → Int32} {cbits : Nat → Nat → Int64} {cw : Nat → Nat → Nat} {ce : Nat → Nat → Int32}
theorem ins_cpl {S' : Nat → Nat} {at0 w : Nat} {cpg' clv' : Nat → Int32} {ce' : Nat → Nat → Int32} {B : Nat → Int64} (hc : Cpl LW S (a 14) cc cpg clv cm cs cbits cw ce) (h0 : S' 0 = S 0 + 1) (h1 : S' 1 = S 1) (hS : ∀ j, 348 ≤ j → S' j = ins S ak al at0 j) (hn : S 0 ≤ 47) (hat : at0 ≤ S 0) (hal : al ≤ 24) (hw : cs w = nI al) (hwb : ∀ b, b < 192 → cb (cbits w) b = ab ak al b) (hB : ∀ i, i < 3 → B i = cbits w i) (hp : cpg' (a 14) = nI (tot S')) (hv : clv' (a 14) = nI (S' 2)) (he : ∀ v, v < S' 2 → ∀ p, p < S' (3 + v) → ce' (a 14) (off S' v + p) = nI (S' (12 + 48 * v + p))) : Cpl LW S' (a 14) (va_up cc (a 14) (nI (S 0 + 1))) cpg' clv' cm (va_up cs (cw (a 14) (S 0)) (cs w)) (va_up cbits (cw (a 14) (S 0)) B) (va_up cw (a 14) (un (shr (cw (a 14)) at0 (S 0)) at0 (cw (a 14) (S 0)))) ce' ∧ ∀ k, k < 48 → ∃ j, j < 48 ∧ va_up cw (a 14) (un (shr (cw (a 14)) at0 (S 0)) at0 (cw (a 14) (S 0))) (a 14) k = cw (a 14) j := by
  obtain ⟨k1, k2, k3, k4, k5, k6, k7, k8⟩ := hc
  have val : ∀ k, k < 48 → va_up cw (a 14) (un (shr (cw (a 14)) at0 (S 0)) at0 (cw (a 14) (S 0))) (a 14) k = cw (a 14) (if k = at0 then S 0 else if at0 < k ∧ k ≤ S 0 then k - 1 else k) := by
    intro k hk
    rw [vu_s]
    unfold un shr
    by_cases z : k = at0
    · rw [if_pos z, if_pos z]
    · rw [if_neg z, if_neg z]
      by_cases z2 : at0 < k ∧ k ≤ S 0
      · rw [if_pos z2, if_pos z2]
      · rw [if_neg z2, if_neg z2]
  have val2 : ∀ k, k < 48 → (if k = at0 then S 0 else if at0 < k ∧ k ≤ S 0 then k - 1 else k) < 48 := by
    intro k hk
    by_cases z : k = at0
    · rw [if_pos z]; omega
    · rw [if_neg z]
      by_cases z2 : at0 < k ∧ k ≤ S 0
      · rw [if_pos z2]; omega
      · rw [if_neg z2]; omega
  refine ⟨⟨by rw [vu_s, h0], hp, hv, by rw [h1]; exact k4, he, fun k hk => by rw [val k hk]; exact k6 _ (val2 k hk), fun j k hj hk e => ?_, fun k hk => ?_⟩, fun k hk => ⟨_, val2 k hk, val k hk⟩⟩
  · rw [val j hj, val k hk] at e
    have e := k7 _ _ (val2 j hj) (val2 k hk) e
    by_cases z : j = at0
    · rw [if_pos z] at e
      by_cases y : k = at0
      · omega
      · rw [if_neg y] at e
        by_cases y2 : at0 < k ∧ k ≤ S 0
        · rw [if_pos y2] at e; omega
        · rw [if_neg y2] at e; omega
    · rw [if_neg z] at e
      by_cases y : k = at0
      · rw [if_pos y] at e
        by_cases z2 : at0 < j ∧ j ≤ S 0
        · rw [if_pos z2] at e; omega
        · rw [if_neg z2] at e; omega
      · rw [if_neg y] at e
        by_cases z2 : at0 < j ∧ j ≤ S 0
        · rw [if_pos z2] at e
          by_cases y2 : at0 < k ∧ k ≤ S 0
          · rw [if_pos y2] at e; omega
          · rw [if_neg y2] at e; omega
        · rw [if_neg z2] at e
          by_cases y2 : at0 < k ∧ k ≤ S 0
          · rw [if_pos y2] at e; omega
          · rw [if_neg y2] at e; omega
  · rw [h0] at hk
    have hwi := wb_ins hS hn hat hal (w := k) (by omega)
    have hli := hS (350 + k) (by omega)
    rw [ins_len hn hat (by omega)] at hli
    rw [val k (by omega), hli]
    by_cases z : k = at0
    · simp only [if_pos z, if_neg (show ¬ k < at0 by omega)] at hwi ⊢
      rw [vu_s, vu_s]
      refine ⟨hw, fun b hb => ?_⟩
      rw [hwi b hb, cb_congr hB b hb, hwb b hb]
    · simp only [if_neg z] at hwi ⊢
      by_cases z2 : k < at0
      · simp only [if_pos z2, if_neg (show ¬ (at0 < k ∧ k ≤ S 0) by omega)] at hwi ⊢
        have hne : cw (a 14) k ≠ cw (a 14) (S 0) := fun e => absurd (k7 _ _ (by omega) (by omega) e) (by omega)
        rw [vu_n hne, vu_n hne]
        refine ⟨(k8 k (by omega)).1, fun b hb => ?_⟩
        rw [hwi b hb]
        exact (k8 k (by omega)).2 b hb
      · simp only [if_neg z2, if_pos (show at0 < k ∧ k ≤ S 0 by omega)] at hwi ⊢
        have hne : cw (a 14) (k - 1) ≠ cw (a 14) (S 0) := fun e => absurd (k7 _ _ (by omega) (by omega) e) (by omega)
        rw [vu_n hne, vu_n hne]
        refine ⟨(k8 (k - 1) (by omega)).1, fun b hb => ?_⟩
        rw [hwi b hb]
        exact (k8 (k - 1) (by omega)).2 b hb
end
