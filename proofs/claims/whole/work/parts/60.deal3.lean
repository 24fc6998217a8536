section
variable {S : Nat → Nat} {LW : List Nat} {a : Nat → Nat} {cc cpg clv cm cs : Nat → Int32} {cbits : Nat → Nat → Int64} {cw : Nat → Nat → Nat} {ce : Nat → Nat → Int32}
theorem wb_eq {S S' : Nat → Nat} (hS : ∀ j, 348 ≤ j → S' j = S j) (w : Nat) : wb S' w = wb S w := by
  unfold wb
  rw [hS (350 + w) (by omega)]
  congr 1
  funext i
  exact hS _ (by omega)
theorem deal_n (hg : GS S) (hc : Cpl LW S (a 14) cc cpg clv cm cs cbits cw ce) {m : Nat} (hm : 4 ≤ m) (hm8 : m ≤ 8) (mp mk mr : Nat → Int32) (mn v1 : Int32) (k : (Nat → Int32) → (Nat → Int32) → (Nat → Int32) → (Nat → Int32) → Int32 → Option (Int32 × (Nat → Int32) × (Nat → Int32) × (Nat → Int32) × (Nat → Int32) × Int32)) :
    ∃ (S' : Nat → Nat) (cpg' clv' cm' : Nat → Int32) (ce' : Nat → Nat → Int32), GS S' ∧ S' 0 = S 0 ∧ M_deals_L52 v1 k FU (upd (upd (nf S) 1 (nI m)) 2 0) mp mk mr mn (nI (S 0)) (nI (if 0 < S 0 then 1 else 0)) = k (nf S') mp mk mr mn ∧ C3_deal cc cpg clv cm ce (a 14) (nI m) = some (cpg', clv', cm', ce') ∧ Cpl LW S' (a 14) cc cpg' clv' cm' cs cbits cw ce' ∧ ∀ z, z ≠ a 14 → cpg' z = cpg z ∧ clv' z = clv z ∧ cm' z = cm z ∧ ce' z = ce z := by
  obtain ⟨h, hB⟩ := hg
  obtain ⟨k1, k2, k3, k4, k5, k6, k7, k8⟩ := hc
  have h48 := h.1.1.2.1
  have s2 : un (un S 1 m) 2 0 2 = 0 := un_s
  have s1 : un (un S 1 m) 2 0 1 = m := by rw [un_n (by decide), un_s]
  have sn : ∀ j, j ≠ 1 → j ≠ 2 → un (un S 1 m) 2 0 j = S j := fun j h1 h2 => by rw [un_n h2, un_n h1]
  have e0 : upd (upd (nf S) 1 (nI m)) 2 0 = nf (un (un S 1 m) 2 0) := by rw [nI_z0, nf_upd, nf_upd]
  rw [e0]
  generalize un (un S 1 m) 2 0 = S1 at *
  have hbel : bel S1 (S1 2) = S 0 := by rw [s2]; show (if 0 = 0 then S1 0 else _) = _; rw [if_pos rfl, sn 0 (by decide) (by decide)]
  have ht0 : tot S1 = 0 := by unfold tot; rw [s2]; rfl
  obtain ⟨S', E', cpg', clv', ce', r1, r2, r3, r4, r5, r6, r7, r8, r9, r10, r11, r12, r13, r14⟩ := deal_L (a := a) (cc := cc) (S0 := S) hm hm8 h48 mp mk mr mn v1 k 6 FU FU S1 (unf (ce (a 14))) (va_up cpg (a 14) 0) (va_up clv (a 14) 0) (va_up cm (a 14) (nI m)) ce (by omega) (by decide) (by decide) s1 (fun j hj => sn j (by omega) (by omega)) ⟨by omega, by rw [sn 0 (by decide) (by decide)]; exact h48, fun v hv => absurd hv (by omega)⟩ (fun v hv => absurd hv (by omega)) (fun v hv => absurd hv (by omega)) (fun v hv => absurd hv (by omega)) (by rw [hbel]; exact Nat.le_trans h48 (by decide)) (by rw [hbel, ht0]; omega) (by rw [vu_s, ht0]; rfl) (by rw [vu_s, s2]; rfl) (nf_unf _).symm (fun v hv => absurd hv (by omega))
  rw [hbel] at r1 r2
  rw [s2] at r2
  have hflag : (if (S1 2 = 0 ∧ 0 < S 0) ∨ 1 < S 0 then 1 else 0) = if 0 < S 0 then 1 else 0 := by
    by_cases c : 0 < S 0
    · rw [if_pos c, if_pos (Or.inl ⟨s2, c⟩)]
    · rw [if_neg c, if_neg (by omega)]
  rw [hflag] at r1
  have s0' : S' 0 = S 0 := r4 0 (Or.inl rfl)
  have eS : ∀ j, 348 ≤ j → S' j = S j := fun j hj => r4 j (Or.inr hj)
  have hst : ST S' := by
    refine ⟨r5, fun v hv p hp => ((r6 v hv).2 p hp).1, fun q => ?_, fun v hv p hp => r7 v (by omega) (r8 v hv) p hp, fun q => ?_⟩
    · rcases r9 with z | z
      · omega
      · exact z.2
    · rcases r9 with z | z
      · omega
      · have e := (r5.2.2 (S' 2 - 1) (by omega)).2
        rw [z.2] at e
        have e1 : ent S' (S' 2 - 1) 1 = 0 + S' (12 + 48 * (S' 2 - 1) + 0) := rfl
        unfold bel at e
        rw [if_neg (by omega)] at e
        have := r8 (S' 2 - 1 - 1) (by omega)
        rw [Nat.add_zero] at e1
        omega
  have hwx : WX S' := wx_of hst hm hm8 r3 (fun u q hu hq => ((r6 u hu).2 q hq).2) (by
    constructor
    · intro q
      rcases r9 with z | z
      · exact z.2
      · omega
    · intro q
      rcases r9 with z | z
      · exact z.1
      · -- a level has entries, hence words
        exfalso
        have g1 := (r6 0 (by omega)).1
        have g2 := ((r6 0 (by omega)).2 0 (by omega)).1
        have e := (r5.2.2 0 (by omega)).2
        have mo : ent S' 0 1 ≤ ent S' 0 (S' (3 + 0)) := sumN_mono (by omega)
        have e1 : ent S' 0 1 = 0 + S' (12 + 48 * 0 + 0) := rfl
        have e2 : bel S' 0 = S' 0 := if_pos rfl
        omega) (fun v hv => (r6 v hv).1) (fun w hw => by
    rw [eS _ (by omega)]
    have hw2 := h.1.2.2.2.2.1 w (by omega)
    exact ⟨hw2.1, hw2.2.1, fun i hi => by rw [eS _ (by omega)]; exact hw2.2.2 i hi⟩) (fun i j hij hj => by
    rw [wb_eq eS i, wb_eq eS j]
    exact h.1.2.2.2.2.2 i j hij (by omega))
  refine ⟨S', cpg', clv', va_up cm (a 14) (nI m), ce', ⟨hwx, fun j hj => by rw [eS j hj]; exact hB j hj⟩, s0', r1, ?_, ⟨by rw [s0']; exact k1, r10, r11, by rw [vu_s, r3], fun v hv p hp => by rw [r12, nf_a, r13 v hv p hp], k6, k7, fun kk hk => ?_⟩, fun z hz => ?_⟩
  · unfold C3_deal
    rw [show (1 : Int32) = nI 1 from rfl, il (by decide) (by omega), if_pos (by omega), k1]
    exact r2
  · have := k8 kk (by omega)
    rw [eS _ (by omega), wb_eq eS kk]
    exact this
  · obtain ⟨x1, x2, x3⟩ := r14 z hz
    exact ⟨x1.trans (vu_n hz), x2.trans (vu_n hz), vu_n hz, x3⟩
/-- nothing is left -/
theorem anew_n (hg : GS S) (hc : Cpl LW S (a 14) cc cpg clv cm cs cbits cw ce) : ∃ S', GS S' ∧ upd (upd (upd (nf S) 0 0) 2 0) 1 4 = nf S' ∧ Cpl LW S' (a 14) (va_up cc (a 14) 0) (va_up cpg (a 14) 0) (va_up clv (a 14) 0) (va_up cm (a 14) 4) cs cbits cw ce := by
  obtain ⟨k1, k2, k3, k4, k5, k6, k7, k8⟩ := hc
  have e0 : upd (upd (upd (nf S) 0 0) 2 0) 1 4 = nf (un (un (un S 0 0) 2 0) 1 4) := by rw [nI_z0, nf_upd, nf_upd, show (4 : Int32) = nI 4 from rfl, nf_upd]
  refine ⟨un (un (un S 0 0) 2 0) 1 4, ⟨?_, fun j hj => ?_⟩, e0, ?_⟩
  · have s0 : un (un (un S 0 0) 2 0) 1 4 0 = 0 := by rw [un_n (by decide), un_n (by decide), un_s]
    have s1 : un (un (un S 0 0) 2 0) 1 4 1 = 4 := un_s
    have s2 : un (un (un S 0 0) 2 0) 1 4 2 = 0 := by rw [un_n (by decide), un_s]
    generalize un (un (un S 0 0) 2 0) 1 4 = S1 at *
    refine wx_of (M := 4) ⟨⟨by omega, by omega, fun v hv => absurd hv (by omega)⟩, fun v hv => absurd hv (by omega), fun q => absurd q (by omega), fun v hv => absurd hv (by omega), fun q => absurd q (by omega)⟩ (by decide) (by decide) s1 (fun u q hu => absurd hu (by omega)) (by omega) (fun v hv => absurd hv (by omega)) (fun w hw => absurd hw (by omega)) (fun i j hij hj => absurd hj (by omega))
  · rw [un_n (by omega), un_n (by omega), un_n (by omega)]
    exact hg.2 j hj
  · have s0 : un (un (un S 0 0) 2 0) 1 4 0 = 0 := by rw [un_n (by decide), un_n (by decide), un_s]
    have s1 : un (un (un S 0 0) 2 0) 1 4 1 = 4 := un_s
    have s2 : un (un (un S 0 0) 2 0) 1 4 2 = 0 := by rw [un_n (by decide), un_s]
    have ht : tot (un (un (un S 0 0) 2 0) 1 4) = 0 := by unfold tot; rw [s2]; rfl
    exact ⟨by rw [vu_s, s0]; rfl, by rw [vu_s, ht]; rfl, by rw [vu_s, s2]; rfl, by rw [vu_s, s1]; rfl, fun v hv => absurd hv (by omega), k6, k7, fun k hk => absurd hk (by omega)⟩
end
