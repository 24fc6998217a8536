/-! orders in a text -/
def OKo (T : Nat → Nat) (tl : Nat) : Nat → Nat → Prop
  | 0, at0 => at0 = tl
  | d + 1, at0 => at0 = tl ∨ (at0 < tl ∧ (T at0 = 43 ∨ T at0 = 45) ∧ 1 ≤ srn T tl (at0 + 1) 24 ∧ at0 + 1 + srn T tl (at0 + 1) 24 < tl ∧ T (at0 + 1 + srn T tl (at0 + 1) 24) = 59 ∧ OKo T tl d (at0 + 1 + srn T tl (at0 + 1) 24 + 1))
theorem sg59 : sg 59 = 0 := by decide
theorem sg43 : sg 43 = 0 := by decide
theorem sg45 : sg 45 = 0 := by decide
section
variable {T : Nat → Nat} {tl : Nat}
theorem fl_c (ht : tl ≤ 120) (hT : ∀ i, T i < 128) {fr : Nat} (hfr : fr ≤ 120) (k39 k84 k92 : Int32 → Option Int32) : ∀ (d j n : Nat), j + d = srn T tl fr 24 → C4_fault_L6 (nf T) (nI tl) k39 k84 k92 (n + d) 1 (nI j) (nI (fr + j)) = C4_fault_L6 (nf T) (nI tl) k39 k84 k92 n 1 (nI (srn T tl fr 24)) (nI (fr + srn T tl fr 24)) := by
  obtain ⟨s1, s2, s3⟩ := srn_s (T := T) (tl := tl) 24 fr
  intro d
  induction d with
  | zero =>
    intro j n hj
    rw [Nat.add_zero, show j = srn T tl fr 24 by omega]
  | succ d ih =>
    intro j n hj
    obtain ⟨q1, q2⟩ := s2 j (by omega)
    have hc := hT (fr + j)
    have h59 : ¬ T (fr + j) = 59 := fun q => by rw [q, sg59] at q2; cases q2
    rw [show n + (d + 1) = (n + d) + 1 by omega, C4_fault_L6, il (by omega) (by omega), if_neg (by omega), byteAt_in ht q1, bd1_in, if_neg (by decide), show (59 : Int32) = nI 59 from rfl, ie (by omega) (by decide), if_neg h59]
    unfold C4_fault_J64
    rw [isSign_c _ hc, bd1_in, q2, if_neg (by decide), show (24 : Int32) = nI 24 from rfl, il (by decide) (by omega), if_neg (by omega), nI_p1, nI_p1, ← ih (j + 1) n (by omega), show fr + (j + 1) = fr + j + 1 by omega]
theorem fl_m (ht : tl ≤ 120) (hT : ∀ i, T i < 128) {fr : Nat} (hfr : fr ≤ tl) (k86 : Int32 → Int32 → Option Int32) : M_faultOf_L52 (nf T) (nI tl) k86 FU (nI fr) (nI fr) = k86 (nI fr) (nI (fr + srn T tl fr 24)) := by
  obtain ⟨s1, s2, s3⟩ := srn_s (T := T) (tl := tl) 24 fr
  have key : ∀ (d j n : Nat), j + d = srn T tl fr 24 → d < n → M_faultOf_L52 (nf T) (nI tl) k86 n (nI fr) (nI (fr + j)) = k86 (nI fr) (nI (fr + srn T tl fr 24)) := by
    intro d
    induction d with
    | zero =>
      intro j n hj hn
      obtain ⟨n, rfl⟩ : ∃ m, n = m + 1 := ⟨n - 1, by omega⟩
      have e : j = srn T tl fr 24 := by omega
      rw [M_faultOf_L52, il (by omega) (by omega)]
      by_cases c1 : tl ≤ fr + j
      · rw [if_pos c1, e]
      · rw [if_neg c1, pk_sub (by omega), show (24 : Int32) = nI 24 from rfl, il (by decide) (by omega)]
        by_cases c2 : 24 ≤ fr + j - fr
        · rw [if_pos c2, e]
        · have h0 : sg (T (fr + j)) = 0 := by
            have := sg_le (T (fr + j))
            have h3 := s3 (by omega)
            rw [← e] at h3
            rcases Nat.eq_zero_or_pos (sg (T (fr + j))) with q | q
            · exact q
            · exact absurd ⟨by omega, by omega⟩ h3
          rw [if_neg c2, ga_j (by omega) (by decide), nI_clamp (by omega), nf_a, isSign_m (hT _), bd1_in, h0, if_pos (by decide), e]
    | succ d ih =>
      intro j n hj hn
      obtain ⟨n, rfl⟩ : ∃ m, n = m + 1 := ⟨n - 1, by omega⟩
      obtain ⟨q1, q2⟩ := s2 j (by omega)
      rw [M_faultOf_L52, il (by omega) (by omega), if_neg (by omega), pk_sub (by omega), show (24 : Int32) = nI 24 from rfl, il (by decide) (by omega), if_neg (by omega), ga_j (by omega) (by decide), nI_clamp (by omega), nf_a, isSign_m (hT _), bd1_in, q2, if_neg (by decide), nI_p1]
      exact ih (j + 1) n (by omega) (by omega)
  exact key (srn T tl fr 24) 0 FU (by omega) (by have : FU = 20000 := rfl; omega)
theorem fault_end (ht : tl ≤ 120) (n1 n2 s : Nat) : ∃ x : Int32, C4_fault_L6 (nf T) (nI tl) (fun v3 => some v3) (fun v3 => some v3) (fun v1 => if v1 = 0 then (if nI tl = 0 then (some (nI tl)) else (some (-1))) else (some (nI tl))) (n1 + 1) 0 (nI s) (nI tl) = some x ∧ M_faultOf_L2 (nf T) (nI tl) (fun v1 => some v1) (fun v3 => some v3) (some (-1)) (n2 + 1) (nI tl) = some x ∧ (x = -1 ∨ ∃ y, y ≤ 120 ∧ x = nI y) := by
  have eC : C4_fault_L6 (nf T) (nI tl) (fun v3 => some v3) (fun v3 => some v3) (fun v1 => if v1 = 0 then (if nI tl = 0 then (some (nI tl)) else (some (-1))) else (some (nI tl))) (n1 + 1) 0 (nI s) (nI tl) = if nI tl = 0 then (some (nI tl)) else (some (-1)) := by
    rw [C4_fault_L6, il (by omega) (by omega), if_pos (Nat.le_refl _)]
    exact if_pos rfl
  rw [eC, M_faultOf_L2, ilt (by omega) (by omega), if_neg (Nat.lt_irrefl _)]
  by_cases c : tl = 0
  · refine ⟨nI tl, ?_, ?_, Or.inr ⟨tl, ht, rfl⟩⟩
    · rw [if_pos (show nI tl = 0 by rw [c]; rfl)]
    · rw [if_pos (show nI tl = 0 by rw [c]; rfl)]
      unfold M_faultOf_J14
      rw [if_pos rfl]
  · refine ⟨-1, ?_, ?_, Or.inl rfl⟩
    · rw [if_neg (nI_ne0 (by omega) (by omega))]
    · rw [if_neg (nI_ne0 (by omega) (by omega))]
theorem fault_n (ht : tl ≤ 120) (hT : ∀ i, T i < 128) : ∀ (d at0 n1 n2 s : Nat), tl - at0 ≤ d → at0 ≤ tl → tl - at0 < n1 → tl - at0 < n2 → ∃ x : Int32, C4_fault_L6 (nf T) (nI tl) (fun v3 => some v3) (fun v3 => some v3) (fun v1 => if v1 = 0 then (if nI tl = 0 then (some (nI tl)) else (some (-1))) else (some (nI tl))) n1 0 (nI s) (nI at0) = some x ∧ M_faultOf_L2 (nf T) (nI tl) (fun v1 => some v1) (fun v3 => some v3) (some (-1)) n2 (nI at0) = some x ∧ ((x = -1 ∧ OKo T tl d at0) ∨ ∃ y, y ≤ 120 ∧ x = nI y) := by
  intro d
  induction d with
  | zero =>
    intro at0 n1 n2 s hd ha hn1 hn2
    obtain ⟨n1, rfl⟩ : ∃ m, n1 = m + 1 := ⟨n1 - 1, by omega⟩
    obtain ⟨n2, rfl⟩ : ∃ m, n2 = m + 1 := ⟨n2 - 1, by omega⟩
    have e : at0 = tl := by omega
    rw [e]
    obtain ⟨x, r1, r2, r3⟩ := fault_end (T := T) ht n1 n2 s
    refine ⟨x, r1, r2, ?_⟩
    rcases r3 with r3 | r3
    · exact Or.inl ⟨r3, rfl⟩
    · exact Or.inr r3
  | succ d ih =>
    intro at0 n1 n2 s hd ha hn1 hn2
    by_cases ct : at0 = tl
    · obtain ⟨n1, rfl⟩ : ∃ m, n1 = m + 1 := ⟨n1 - 1, by omega⟩
      obtain ⟨n2, rfl⟩ : ∃ m, n2 = m + 1 := ⟨n2 - 1, by omega⟩
      rw [ct]
      obtain ⟨x, r1, r2, r3⟩ := fault_end (T := T) ht n1 n2 s
      refine ⟨x, r1, r2, ?_⟩
      rcases r3 with r3 | r3
      · exact Or.inl ⟨r3, Or.inl rfl⟩
      · exact Or.inr r3
    · have hlt : at0 < tl := by omega
      obtain ⟨n2, rfl⟩ : ∃ m, n2 = m + 1 := ⟨n2 - 1, by omega⟩
      obtain ⟨s1, s2, s3⟩ := srn_s (T := T) (tl := tl) 24 (at0 + 1)
      have hen : at0 + 1 + srn T tl (at0 + 1) 24 ≤ tl := by
        rcases Nat.eq_zero_or_pos (srn T tl (at0 + 1) 24) with q | q
        · omega
        · have := (s2 (srn T tl (at0 + 1) 24 - 1) (by omega)).1
          omega
      have hc := hT at0
      -- where an order begins
      have eC : ∀ n1, C4_fault_L6 (nf T) (nI tl) (fun v3 => some v3) (fun v3 => some v3) (fun v1 => if v1 = 0 then (if nI tl = 0 then (some (nI tl)) else (some (-1))) else (some (nI tl))) (n1 + 1) 0 (nI s) (nI at0) = if T at0 = 43 ∨ T at0 = 45 then C4_fault_L6 (nf T) (nI tl) (fun v3 => some v3) (fun v3 => some v3) (fun v1 => if v1 = 0 then (if nI tl = 0 then (some (nI tl)) else (some (-1))) else (some (nI tl))) n1 1 (nI 0) (nI (at0 + 1)) else some (nI at0) := fun n1 => by
        rw [C4_fault_L6, il (by omega) (by omega), if_neg (by omega), byteAt_in ht hlt, bd1_in, if_pos rfl, show (43 : Int32) = nI 43 from rfl, show (45 : Int32) = nI 45 from rfl, ie (by omega) (by decide), ie (by omega) (by decide), nI_p1]
        by_cases c1 : T at0 = 43
        · rw [if_pos c1, if_pos (Or.inl c1)]
          rfl
        · by_cases c2 : T at0 = 45
          · rw [if_neg c1, if_pos c2, if_pos (Or.inr c2)]
            rfl
          · rw [if_neg c1, if_neg c2, if_neg (by omega)]
      have eM : M_faultOf_L2 (nf T) (nI tl) (fun v1 => some v1) (fun v3 => some v3) (some (-1)) (n2 + 1) (nI at0) = if T at0 = 43 ∨ T at0 = 45 then M_faultOf_J86 (nf T) (nI tl) (M_faultOf_L2 (nf T) (nI tl) (fun v1 => some v1) (fun v3 => some v3) (some (-1)) n2) (fun v1 => some v1) (fun v3 => some v3) (some (-1)) (nI (at0 + 1)) (nI (at0 + 1 + srn T tl (at0 + 1) 24)) else some (nI at0) := by
        rw [M_faultOf_L2, ilt (by omega) (by omega), if_pos hlt]
        unfold M_faultOf_J14
        rw [ie (by omega) (by omega), if_neg ct, ga_j (by omega) (by decide), ga_j (by omega) (by decide), nI_clamp (by omega), nf_a, show (43 : Int32) = nI 43 from rfl, show (45 : Int32) = nI 45 from rfl, ie (by omega) (by decide), ie (by omega) (by decide), nI_p1, fl_m ht hT (by omega)]
        by_cases c1 : T at0 = 43
        · rw [if_pos c1, if_pos (Or.inl c1)]
        · by_cases c2 : T at0 = 45
          · rw [if_neg c1, if_pos c2, if_pos (Or.inr c2)]
          · rw [if_neg c1, if_neg c2, if_neg (by omega)]
      obtain ⟨n3, rfl⟩ : ∃ n3, n1 = n3 + 1 + srn T tl (at0 + 1) 24 + 1 := ⟨n1 - (srn T tl (at0 + 1) 24 + 1) - 1, by omega⟩
      rw [eC, eM]
      by_cases co : T at0 = 43 ∨ T at0 = 45
      · rw [if_pos co, if_pos co]
        have eC2 := fl_c ht hT (fr := at0 + 1) (by omega) (fun v3 => some v3) (fun v3 => some v3) (fun v1 => if v1 = 0 then (if nI tl = 0 then (some (nI tl)) else (some (-1))) else (some (nI tl))) (srn T tl (at0 + 1) 24) 0 (n3 + 1) (by omega)
        rw [show at0 + 1 + 0 = at0 + 1 from rfl] at eC2
        rw [eC2]
        unfold M_faultOf_J86
        rw [ie (by omega) (by omega), ie (by omega) (by omega), C4_fault_L6, il (by omega) (by omega)]
        by_cases ce : at0 + 1 + srn T tl (at0 + 1) 24 = tl
        · refine ⟨nI tl, ?_, ?_, Or.inr ⟨tl, ht, rfl⟩⟩
          · rw [if_pos (by omega), if_neg (by decide)]
          · rw [ce]
            by_cases c0 : tl = at0 + 1
            · rw [if_pos c0]
            · rw [if_neg c0, if_pos rfl]
        · have hlt2 : at0 + 1 + srn T tl (at0 + 1) 24 < tl := by omega
          have hc2 := hT (at0 + 1 + srn T tl (at0 + 1) 24)
          rw [if_neg (by omega), byteAt_in ht hlt2, bd1_in, if_neg (by decide), if_neg ce, ga_j (by omega) (by decide), nI_clamp (by omega), nf_a, show (59 : Int32) = nI 59 from rfl, ie (by omega) (by decide), ie (by omega) (by decide), nI_p1]
          by_cases c9 : T (at0 + 1 + srn T tl (at0 + 1) 24) = 59
          · rw [if_pos c9, if_pos c9]
            by_cases cm : srn T tl (at0 + 1) 24 = 0
            · refine ⟨nI (at0 + 1 + srn T tl (at0 + 1) 24), ?_, ?_, Or.inr ⟨_, by omega, rfl⟩⟩
              · rw [if_pos (show nI (srn T tl (at0 + 1) 24) ≤ 0 by rw [cm]; decide)]
                unfold C4_fault_J64
                rw [isSign_c _ hc2, bd1_in, c9, sg59, if_pos (by decide)]
              · rw [if_pos (by omega)]
            · rw [if_neg (nI_nle (by omega) (by omega)), if_neg (show ¬ at0 + 1 + srn T tl (at0 + 1) 24 = at0 + 1 by omega)]
              obtain ⟨x, r1, r2, r3⟩ := ih (at0 + 1 + srn T tl (at0 + 1) 24 + 1) n3 n2 (srn T tl (at0 + 1) 24) (by omega) (by omega) (by omega) (by omega)
              refine ⟨x, r1, r2, ?_⟩
              rcases r3 with ⟨r3, r4⟩ | r3
              · exact Or.inl ⟨r3, Or.inr ⟨hlt, co, by omega, hlt2, c9, r4⟩⟩
              · exact Or.inr r3
          · refine ⟨nI (at0 + 1 + srn T tl (at0 + 1) 24), ?_, ?_, Or.inr ⟨_, by omega, rfl⟩⟩
            · rw [if_neg c9]
              unfold C4_fault_J64
              rw [isSign_c _ hc2, bd1_in]
              have hle := sg_le (T (at0 + 1 + srn T tl (at0 + 1) 24))
              rcases Nat.eq_zero_or_pos (sg (T (at0 + 1 + srn T tl (at0 + 1) 24))) with q | q
              · rw [q, if_pos (by decide)]
              · have h24 : srn T tl (at0 + 1) 24 = 24 := by
                  rcases Nat.lt_or_ge (srn T tl (at0 + 1) 24) 24 with z | z
                  · exact absurd ⟨hlt2, by omega⟩ (s3 z)
                  · omega
                rw [show sg (T (at0 + 1 + srn T tl (at0 + 1) 24)) = 1 by omega, if_neg (by decide), h24, if_pos (by decide)]
            · rw [if_neg c9]
              by_cases c0 : at0 + 1 + srn T tl (at0 + 1) 24 = at0 + 1
              · rw [if_pos c0]
              · rw [if_neg c0]
      · rw [if_neg co, if_neg co]
        exact ⟨nI at0, rfl, rfl, Or.inr ⟨at0, by omega, rfl⟩⟩
end
theorem rd_L {T : Nat → Nat} (hT : ∀ i, T i < 128) {fr m : Nat} (hm : m ≤ 24) (hfm : fr + 1 + m < 120) (hsg : ∀ j, j < m → sg (T (fr + 1 + j)) = 1) (hend : sg (T (fr + 1 + m)) = 0) (k : (Nat → Int32) → (Nat → Int32) → (Nat → Int32) → (Nat → Int32) → (Nat → Int32) → (Nat → Int32) → (Nat → Int32) → (Nat → Int32) → (Nat → Int32) → (Nat → Int32) → (Nat → Int32) → (Nat → Int32) → Int32 → Int32 → Int32 → Int32 → Int32 → Int32 → Int32 → Option (Int32 × (Nat → Int32) × (Nat → Int32) × (Nat → Int32) × (Nat → Int32) × (Nat → Int32) × (Nat → Int32) × (Nat → Int32) × (Nat → Int32) × (Nat → Int32) × (Nat → Int32) × (Nat → Int32) × (Nat → Int32) × Int32 × Int32 × Int32 × Int32 × Int32 × Int32 × Int32)) (m_s m_heads m_forkBit m_forkFrom m_forkTo m_wayPage m_wayKnown m_wayGuess m_wayDiff m_wayRead m_wayPlace : Nat → Int32) (m_entries m_forks m_guess m_diff m_read m_placeOf : Int32) : ∀ (d j n : Nat) (ak : Nat → Nat), j + d = m → d < n → (∀ i, ak i < 128) → (∀ i, i < j → ak i = T (fr + 1 + i)) → ∃ ak', M_isDone_L5 (nf T) (nI fr) k n m_s (nf ak) m_heads m_forkBit m_forkFrom m_forkTo m_wayPage m_wayKnown m_wayGuess m_wayDiff m_wayRead m_wayPlace (nI j) m_entries m_forks m_guess m_diff m_read m_placeOf = k m_s (nf ak') m_heads m_forkBit m_forkFrom m_forkTo m_wayPage m_wayKnown m_wayGuess m_wayDiff m_wayRead m_wayPlace (nI m) m_entries m_forks m_guess m_diff m_read m_placeOf ∧ (∀ i, ak' i < 128) ∧ ∀ i, i < m → ak' i = T (fr + 1 + i) := by
  intro d
  induction d with
  | zero =>
    intro j n ak hj hn ha hi
    obtain ⟨n, rfl⟩ : ∃ m, n = m + 1 := ⟨n - 1, by omega⟩
    have e : j = m := by omega
    subst e
    refine ⟨ak, ?_, ha, hi⟩
    rw [M_isDone_L5, nI_p1, nI_add, ga_j (by omega) (by decide), nI_clamp (by omega), nf_a, isSign_m (hT _), bd1_in, hend, if_pos (by decide)]
  | succ d ih =>
    intro j n ak hj hn ha hi
    obtain ⟨n, rfl⟩ : ∃ m, n = m + 1 := ⟨n - 1, by omega⟩
    obtain ⟨ak', r1, r2, r3⟩ := ih (j + 1) n (un ak j (T (fr + 1 + j))) (by omega) (by omega) (un_lt ha (hT _)) (fun i hi' => by
      by_cases c : i = j
      · rw [c, un_s]
      · rw [un_n c]; exact hi i (by omega))
    refine ⟨ak', ?_, r2, r3⟩
    rw [M_isDone_L5, nI_p1, nI_add, ga_j (by omega) (by decide), nI_clamp (by omega), nf_a, isSign_m (hT _), bd1_in, hsg j (by omega), if_neg (by decide), ga_j (by omega) (by decide), ga_j (by omega) (by decide), nI_clamp (by omega), nf_upd, nI_p1]
    exact r1
theorem skip_m {T : Nat → Nat} {tl : Nat} (ht : tl ≤ 120) (hT : ∀ i, T i < 128) (k : (Nat → Int32) → (Nat → Int32) → (Nat → Int32) → (Nat → Int32) → (Nat → Int32) → (Nat → Int32) → (Nat → Int32) → (Nat → Int32) → (Nat → Int32) → (Nat → Int32) → (Nat → Int32) → (Nat → Int32) → (Nat → Int32) → (Nat → Int32) → Int32 → Int32 → Int32 → Int32 → Int32 → Int32 → Int32 → Int32 → Int32 → Option (Int32 × (Nat → Int32) × (Nat → Int32) × (Nat → Int32) × (Nat → Int32) × (Nat → Int32) × (Nat → Int32) × (Nat → Int32) × (Nat → Int32) × (Nat → Int32) × (Nat → Int32) × (Nat → Int32) × (Nat → Int32) × (Nat → Int32) × (Nat → Int32) × Int32 × Int32 × Int32 × Int32 × Int32 × Int32 × Int32 × Int32)) (m_s m_past m_kept m_asked m_heads m_forkBit m_forkFrom m_forkTo m_wayPage m_wayKnown m_wayGuess m_wayDiff m_wayRead m_wayPlace : Nat → Int32) (m_known m_askedLength m_entries m_forks m_guess m_diff m_read m_placeOf : Int32) (v2 : Int32) {e : Nat} (he : e ≤ tl) : ∀ (d i n : Nat), i + d = e → (∀ j, i ≤ j → j < e → ¬ T j = 43 ∧ ¬ T j = 45) → M_does_L23 (nf T) (nI tl) k (n + d) m_s m_past m_kept m_asked m_heads m_forkBit m_forkFrom m_forkTo m_wayPage m_wayKnown m_wayGuess m_wayDiff m_wayRead m_wayPlace m_known m_askedLength m_entries m_forks m_guess m_diff m_read m_placeOf v2 (nI i) = M_does_L23 (nf T) (nI tl) k n m_s m_past m_kept m_asked m_heads m_forkBit m_forkFrom m_forkTo m_wayPage m_wayKnown m_wayGuess m_wayDiff m_wayRead m_wayPlace m_known m_askedLength m_entries m_forks m_guess m_diff m_read m_placeOf v2 (nI e) := by
  intro d
  induction d with
  | zero =>
    intro i n hi _
    rw [Nat.add_zero, show i = e by omega]
  | succ d ih =>
    intro i n hi hj
    obtain ⟨q1, q2⟩ := hj i (by omega) (by omega)
    have hc := hT i
    rw [show n + (d + 1) = (n + d) + 1 by omega, M_does_L23, il (by omega) (by omega), if_neg (by omega), ga_j (by omega) (by decide), ga_j (by omega) (by decide), nI_clamp (by omega), nf_a, show (43 : Int32) = nI 43 from rfl, show (45 : Int32) = nI 45 from rfl, ie (by omega) (by decide), ie (by omega) (by decide), if_neg q1, if_neg q2, nI_p1]
    exact ih (i + 1) n (by omega) (fun j h1 h2 => hj j (by omega) h2)
theorem does_L {a : Nat → Nat} {LW LS LK : List Nat} (hA : Ax a LS LK) {T : Nat → Nat} {tl : Nat} (ht : tl ≤ 120) (hT : ∀ i, T i < 128) {kn nx : Nat} {mp : Nat → Int32} (kC : (Nat → Int32) → (Nat → Int32) → (Nat → Int32) → (Nat → Int32) → (Nat → Int32) → (Nat → Int32) → (Nat → Int32) → (Nat → Int32) → (Nat → Int32) → (Nat → Int32) → (Nat → Int32) → (Nat → Int32) → (Nat → Int32) → (Nat → Int32) → (Nat → Int32) → (Nat → Int32) → (Nat → Nat → Int64) → (Nat → Nat → Nat) → (Nat → Nat → Int32) → Int32 → Int32 → Int32 → Int32 → Int32 → Int32 → Int32 → Int32 → Int32 → Option (Int32 × (Nat → Int32) × (Nat → Int32) × (Nat → Int32) × (Nat → Int32) × (Nat → Int32) × (Nat → Int32) × (Nat → Int32) × (Nat → Int32) × (Nat → Int32) × (Nat → Int32) × (Nat → Int32) × (Nat → Int32) × (Nat → Int32) × (Nat → Int32) × (Nat → Int32) × (Nat → Int32) × (Nat → Nat → Int64) × (Nat → Nat → Nat) × (Nat → Nat → Int32) × Int32 × Int32 × Int32 × Int32 × Int32 × Int32 × Int32 × Int32)) (kM : (Nat → Int32) → (Nat → Int32) → (Nat → Int32) → (Nat → Int32) → (Nat → Int32) → (Nat → Int32) → (Nat → Int32) → (Nat → Int32) → (Nat → Int32) → (Nat → Int32) → (Nat → Int32) → (Nat → Int32) → (Nat → Int32) → (Nat → Int32) → Int32 → Int32 → Int32 → Int32 → Int32 → Int32 → Int32 → Int32 → Int32 → Option (Int32 × (Nat → Int32) × (Nat → Int32) × (Nat → Int32) × (Nat → Int32) × (Nat → Int32) × (Nat → Int32) × (Nat → Int32) × (Nat → Int32) × (Nat → Int32) × (Nat → Int32) × (Nat → Int32) × (Nat → Int32) × (Nat → Int32) × (Nat → Int32) × Int32 × Int32 × Int32 × Int32 × Int32 × Int32 × Int32 × Int32)) (c_most : Nat → Int32) (c_next c_kept : Int32) (m_past m_kept : Nat → Int32) (m_known : Int32) : ∀ (d at0 n1 n2 cnt od : Nat) (S : Nat → Nat) (c_heads : Nat → Int32) (c_firsts : Nat → Int32) (c_levelOf : Nat → Int32) (c_aboveOf : Nat → Int32) (c_partings : Nat → Int32) (c_signs : Nat → Int32) (c_count : Nat → Int32) (c_pages : Nat → Int32) (c_levels : Nat → Int32) (c_page : Nat → Int32) (c_known : Nat → Int32) (c_guess : Nat → Int32) (c_diff : Nat → Int32) (c_pieces : Nat → Int32) (c_place : Nat → Int32) (c_bits : Nat → Nat → Int64) (c_words : Nat → Nat → Nat) (c_entries : Nat → Nat → Int32) (c_base : Int32) (c_from : Int32) (c_to : Int32) (c_above : Int32) (c_bit : Int32) (c_lastLeft : Int32) (ak : Nat → Nat) (al : Nat) (m_heads m_forkBit m_forkFrom m_forkTo m_wayPage m_wayKnown m_wayGuess m_wayDiff m_wayRead m_wayPlace : Nat → Int32) (m_entries m_forks m_guess m_diff m_read m_placeOf : Int32), OKo T tl d at0 → od ≤ at0 → tl - at0 < n1 → tl - at0 < n2 → GS S → Cpl LW S (a 14) c_count c_pages c_levels c_most c_signs c_bits c_words c_entries → Stl S c_heads c_firsts c_levelOf c_aboveOf c_partings → Wds a LW c_words → Rng a LW kn nx mp c_count c_pages c_levels c_most c_signs c_bits c_words c_entries → (∀ j, ak j < 128) → al ≤ 24 → ∃ (cnt' : Nat) (S2 : Nat → Nat) (c_heads2 : Nat → Int32) (c_firsts2 : Nat → Int32) (c_levelOf2 : Nat → Int32) (c_aboveOf2 : Nat → Int32) (c_partings2 : Nat → Int32) (c_signs2 : Nat → Int32) (c_count2 : Nat → Int32) (c_pages2 : Nat → Int32) (c_levels2 : Nat → Int32) (c_page2 : Nat → Int32) (c_known2 : Nat → Int32) (c_guess2 : Nat → Int32) (c_diff2 : Nat → Int32) (c_pieces2 : Nat → Int32) (c_place2 : Nat → Int32) (c_bits2 : Nat → Nat → Int64) (c_words2 : Nat → Nat → Nat) (c_entries2 : Nat → Nat → Int32) (c_base2 : Int32) (c_from2 : Int32) (c_to2 : Int32) (c_above2 : Int32) (c_bit2 : Int32) (c_lastLeft2 : Int32) (ak2 : Nat → Nat) (al2 : Nat) (m_heads2 m_forkBit2 m_forkFrom2 m_forkTo2 m_wayPage2 m_wayKnown2 m_wayGuess2 m_wayDiff2 m_wayRead2 m_wayPlace2 : Nat → Int32) (m_entries2 m_forks2 m_guess2 m_diff2 m_read2 m_placeOf2 : Int32), C7_does_L39 a LW LS LK (nf T) (nI tl) kC n1 c_heads c_firsts c_levelOf c_aboveOf c_partings c_signs c_count c_pages c_levels c_most c_page c_known c_guess c_diff c_pieces c_place c_bits c_words c_entries c_next c_kept c_base c_from c_to c_above c_bit c_lastLeft (nI cnt) (nI at0) (nI od) = kC c_heads2 c_firsts2 c_levelOf2 c_aboveOf2 c_partings2 c_signs2 c_count2 c_pages2 c_levels2 c_most c_page2 c_known2 c_guess2 c_diff2 c_pieces2 c_place2 c_bits2 c_words2 c_entries2 c_next c_kept c_base2 c_from2 c_to2 c_above2 c_bit2 c_lastLeft2 (nI cnt') ∧ M_does_L23 (nf T) (nI tl) kM n2 (nf S) m_past m_kept (nf ak) m_heads m_forkBit m_forkFrom m_forkTo m_wayPage m_wayKnown m_wayGuess m_wayDiff m_wayRead m_wayPlace m_known (nI al) m_entries m_forks m_guess m_diff m_read m_placeOf (nI cnt) (nI at0) = kM (nf S2) m_past m_kept (nf ak2) m_heads2 m_forkBit2 m_forkFrom2 m_forkTo2 m_wayPage2 m_wayKnown2 m_wayGuess2 m_wayDiff2 m_wayRead2 m_wayPlace2 m_known (nI al2) m_entries2 m_forks2 m_guess2 m_diff2 m_read2 m_placeOf2 (nI cnt') ∧ GS S2 ∧ Cpl LW S2 (a 14) c_count2 c_pages2 c_levels2 c_most c_signs2 c_bits2 c_words2 c_entries2 ∧ Stl S2 c_heads2 c_firsts2 c_levelOf2 c_aboveOf2 c_partings2 ∧ Wds a LW c_words2 ∧ Rng a LW kn nx mp c_count2 c_pages2 c_levels2 c_most c_signs2 c_bits2 c_words2 c_entries2 ∧ (∀ j, ak2 j < 128) ∧ al2 ≤ 24 := by
  have hend : ∀ (at0 n1 n2 cnt od : Nat) (S : Nat → Nat) (c_heads : Nat → Int32) (c_firsts : Nat → Int32) (c_levelOf : Nat → Int32) (c_aboveOf : Nat → Int32) (c_partings : Nat → Int32) (c_signs : Nat → Int32) (c_count : Nat → Int32) (c_pages : Nat → Int32) (c_levels : Nat → Int32) (c_page : Nat → Int32) (c_known : Nat → Int32) (c_guess : Nat → Int32) (c_diff : Nat → Int32) (c_pieces : Nat → Int32) (c_place : Nat → Int32) (c_bits : Nat → Nat → Int64) (c_words : Nat → Nat → Nat) (c_entries : Nat → Nat → Int32) (c_base : Int32) (c_from : Int32) (c_to : Int32) (c_above : Int32) (c_bit : Int32) (c_lastLeft : Int32) (ak : Nat → Nat) (al : Nat) (m_heads m_forkBit m_forkFrom m_forkTo m_wayPage m_wayKnown m_wayGuess m_wayDiff m_wayRead m_wayPlace : Nat → Int32) (m_entries m_forks m_guess m_diff m_read m_placeOf : Int32), at0 = tl → od ≤ at0 → tl - at0 < n1 → tl - at0 < n2 → GS S → Cpl LW S (a 14) c_count c_pages c_levels c_most c_signs c_bits c_words c_entries → Stl S c_heads c_firsts c_levelOf c_aboveOf c_partings → Wds a LW c_words → Rng a LW kn nx mp c_count c_pages c_levels c_most c_signs c_bits c_words c_entries → (∀ j, ak j < 128) → al ≤ 24 → ∃ (cnt' : Nat) (S2 : Nat → Nat) (c_heads2 : Nat → Int32) (c_firsts2 : Nat → Int32) (c_levelOf2 : Nat → Int32) (c_aboveOf2 : Nat → Int32) (c_partings2 : Nat → Int32) (c_signs2 : Nat → Int32) (c_count2 : Nat → Int32) (c_pages2 : Nat → Int32) (c_levels2 : Nat → Int32) (c_page2 : Nat → Int32) (c_known2 : Nat → Int32) (c_guess2 : Nat → Int32) (c_diff2 : Nat → Int32) (c_pieces2 : Nat → Int32) (c_place2 : Nat → Int32) (c_bits2 : Nat → Nat → Int64) (c_words2 : Nat → Nat → Nat) (c_entries2 : Nat → Nat → Int32) (c_base2 : Int32) (c_from2 : Int32) (c_to2 : Int32) (c_above2 : Int32) (c_bit2 : Int32) (c_lastLeft2 : Int32) (ak2 : Nat → Nat) (al2 : Nat) (m_heads2 m_forkBit2 m_forkFrom2 m_forkTo2 m_wayPage2 m_wayKnown2 m_wayGuess2 m_wayDiff2 m_wayRead2 m_wayPlace2 : Nat → Int32) (m_entries2 m_forks2 m_guess2 m_diff2 m_read2 m_placeOf2 : Int32), C7_does_L39 a LW LS LK (nf T) (nI tl) kC n1 c_heads c_firsts c_levelOf c_aboveOf c_partings c_signs c_count c_pages c_levels c_most c_page c_known c_guess c_diff c_pieces c_place c_bits c_words c_entries c_next c_kept c_base c_from c_to c_above c_bit c_lastLeft (nI cnt) (nI at0) (nI od) = kC c_heads2 c_firsts2 c_levelOf2 c_aboveOf2 c_partings2 c_signs2 c_count2 c_pages2 c_levels2 c_most c_page2 c_known2 c_guess2 c_diff2 c_pieces2 c_place2 c_bits2 c_words2 c_entries2 c_next c_kept c_base2 c_from2 c_to2 c_above2 c_bit2 c_lastLeft2 (nI cnt') ∧ M_does_L23 (nf T) (nI tl) kM n2 (nf S) m_past m_kept (nf ak) m_heads m_forkBit m_forkFrom m_forkTo m_wayPage m_wayKnown m_wayGuess m_wayDiff m_wayRead m_wayPlace m_known (nI al) m_entries m_forks m_guess m_diff m_read m_placeOf (nI cnt) (nI at0) = kM (nf S2) m_past m_kept (nf ak2) m_heads2 m_forkBit2 m_forkFrom2 m_forkTo2 m_wayPage2 m_wayKnown2 m_wayGuess2 m_wayDiff2 m_wayRead2 m_wayPlace2 m_known (nI al2) m_entries2 m_forks2 m_guess2 m_diff2 m_read2 m_placeOf2 (nI cnt') ∧ GS S2 ∧ Cpl LW S2 (a 14) c_count2 c_pages2 c_levels2 c_most c_signs2 c_bits2 c_words2 c_entries2 ∧ Stl S2 c_heads2 c_firsts2 c_levelOf2 c_aboveOf2 c_partings2 ∧ Wds a LW c_words2 ∧ Rng a LW kn nx mp c_count2 c_pages2 c_levels2 c_most c_signs2 c_bits2 c_words2 c_entries2 ∧ (∀ j, ak2 j < 128) ∧ al2 ≤ 24 := by
    intro at0 n1 n2 cnt od S c_heads c_firsts c_levelOf c_aboveOf c_partings c_signs c_count c_pages c_levels c_page c_known c_guess c_diff c_pieces c_place c_bits c_words c_entries c_base c_from c_to c_above c_bit c_lastLeft ak al m_heads m_forkBit m_forkFrom m_forkTo m_wayPage m_wayKnown m_wayGuess m_wayDiff m_wayRead m_wayPlace m_entries m_forks m_guess m_diff m_read m_placeOf hat hod hn1 hn2 hg hc hs hW hr hak hal
    obtain ⟨n1, rfl⟩ : ∃ m, n1 = m + 1 := ⟨n1 - 1, by omega⟩
    obtain ⟨n2, rfl⟩ : ∃ m, n2 = m + 1 := ⟨n2 - 1, by omega⟩
    refine ⟨cnt, S, c_heads, c_firsts, c_levelOf, c_aboveOf, c_partings, c_signs, c_count, c_pages, c_levels, c_page, c_known, c_guess, c_diff, c_pieces, c_place, c_bits, c_words, c_entries, c_base, c_from, c_to, c_above, c_bit, c_lastLeft, ak, al, m_heads, m_forkBit, m_forkFrom, m_forkTo, m_wayPage, m_wayKnown, m_wayGuess, m_wayDiff, m_wayRead, m_wayPlace, m_entries, m_forks, m_guess, m_diff, m_read, m_placeOf, ?_, ?_, hg, hc, hs, hW, hr, hak, hal⟩
    · rw [C7_does_L39, show (120 : Int32) = nI 120 from rfl, il (by decide) (by omega), il (by omega) (by omega), if_pos (show tl ≤ at0 by omega)]
      by_cases c : 120 ≤ od
      · rw [if_pos c]
      · rw [if_neg c]
    · rw [M_does_L23, il (by omega) (by omega), if_pos (by omega)]
  intro d
  induction d with
  | zero =>
    intro at0 n1 n2 cnt od S c_heads c_firsts c_levelOf c_aboveOf c_partings c_signs c_count c_pages c_levels c_page c_known c_guess c_diff c_pieces c_place c_bits c_words c_entries c_base c_from c_to c_above c_bit c_lastLeft ak al m_heads m_forkBit m_forkFrom m_forkTo m_wayPage m_wayKnown m_wayGuess m_wayDiff m_wayRead m_wayPlace m_entries m_forks m_guess m_diff m_read m_placeOf hok
    exact hend at0 n1 n2 cnt od S c_heads c_firsts c_levelOf c_aboveOf c_partings c_signs c_count c_pages c_levels c_page c_known c_guess c_diff c_pieces c_place c_bits c_words c_entries c_base c_from c_to c_above c_bit c_lastLeft ak al m_heads m_forkBit m_forkFrom m_forkTo m_wayPage m_wayKnown m_wayGuess m_wayDiff m_wayRead m_wayPlace m_entries m_forks m_guess m_diff m_read m_placeOf hok
  | succ d ih =>
    intro at0 n1 n2 cnt od S c_heads c_firsts c_levelOf c_aboveOf c_partings c_signs c_count c_pages c_levels c_page c_known c_guess c_diff c_pieces c_place c_bits c_words c_entries c_base c_from c_to c_above c_bit c_lastLeft ak al m_heads m_forkBit m_forkFrom m_forkTo m_wayPage m_wayKnown m_wayGuess m_wayDiff m_wayRead m_wayPlace m_entries m_forks m_guess m_diff m_read m_placeOf hok hod hn1 hn2 hg hc hs hW hr hak hal
    rcases hok with hok | ⟨hlt, hpm, hm1, hlt2, h59, hok⟩
    · exact hend at0 n1 n2 cnt od S c_heads c_firsts c_levelOf c_aboveOf c_partings c_signs c_count c_pages c_levels c_page c_known c_guess c_diff c_pieces c_place c_bits c_words c_entries c_base c_from c_to c_above c_bit c_lastLeft ak al m_heads m_forkBit m_forkFrom m_forkTo m_wayPage m_wayKnown m_wayGuess m_wayDiff m_wayRead m_wayPlace m_entries m_forks m_guess m_diff m_read m_placeOf hok hod hn1 hn2 hg hc hs hW hr hak hal
    obtain ⟨n1, rfl⟩ : ∃ m, n1 = m + 1 := ⟨n1 - 1, by omega⟩
    obtain ⟨n2, rfl⟩ : ∃ n3, n2 = n3 + (srn T tl (at0 + 1) 24 + 1) + 1 := ⟨n2 - (srn T tl (at0 + 1) 24 + 1) - 1, by omega⟩
    obtain ⟨s1, s2, s3⟩ := srn_s (T := T) (tl := tl) 24 (at0 + 1)
    have h48 := gs48 hg
    have hc0 := hT at0
    obtain ⟨B, eR, hB⟩ := readSigns_n (T := T) (tl := tl) (fr := at0 + 1) (w := a 13) ht hT (by omega) c_signs c_bits
    generalize hm : srn T tl (at0 + 1) 24 = m at *
    obtain ⟨hc1, hr1⟩ := up13 hW hg hc hr (nI m) B
    have hskip : ∀ j, at0 + 1 ≤ j → j < at0 + 1 + m + 1 → ¬ T j = 43 ∧ ¬ T j = 45 := fun j h1 h2 => by
      by_cases cj : j < at0 + 1 + m
      · have h3 := (s2 (j - (at0 + 1)) (by omega)).2
        rw [show at0 + 1 + (j - (at0 + 1)) = j by omega] at h3
        exact ⟨fun q => (by rw [q, sg43] at h3; cases h3), fun q => (by rw [q, sg45] at h3; cases h3)⟩
      · rw [show j = at0 + 1 + m by omega, h59]
        exact ⟨by decide, by decide⟩
    obtain ⟨ak1, eI, hak1, hak2⟩ := rd_L hT (fr := at0) (m := m) (by omega) (by omega) (fun j hj => (s2 j hj).2) (by rw [h59]; exact sg59) (fun m_s m_asked m_heads m_forkBit m_forkFrom m_forkTo m_wayPage m_wayKnown m_wayGuess m_wayDiff m_wayRead m_wayPlace m_askedLength m_entries m_forks m_guess m_diff m_read m_placeOf => ga (nI at0) 120 (if (nf T (nI at0).toNatClampNeg) = 43 then (M_isDone_J75 (nf T) (nI at0) m_s m_asked m_heads m_forkBit m_forkFrom m_forkTo m_wayPage m_wayKnown m_wayGuess m_wayDiff m_wayRead m_wayPlace m_askedLength m_entries m_forks m_guess m_diff m_read m_placeOf 1) else (M_isDone_J75 (nf T) (nI at0) m_s m_asked m_heads m_forkBit m_forkFrom m_forkTo m_wayPage m_wayKnown m_wayGuess m_wayDiff m_wayRead m_wayPlace m_askedLength m_entries m_forks m_guess m_diff m_read m_placeOf 0))) (nf S) m_heads m_forkBit m_forkFrom m_forkTo m_wayPage m_wayKnown m_wayGuess m_wayDiff m_wayRead m_wayPlace m_entries m_forks m_guess m_diff m_read m_placeOf m 0 FU ak (by omega) (by have : FU = 20000 := rfl; omega) hak (fun i hi => absurd hi (by omega))
    have ha : aok ak1 m := ⟨by omega, fun j _ => hak1 j⟩
    have hwb : ∀ b, b < 192 → cb (va_up c_bits (a 13) B (a 13)) b = ab ak1 m b := fun b hb => by
      rw [vu_s]
      exact wbits_congr hB (fun i hi => (hak2 i hi).symm) b hb
    have eT := there_n hg.1.1 ha
    have eL : M_does_L23 (nf T) (nI tl) kM (n2 + (m + 1) + 1) (nf S) m_past m_kept (nf ak) m_heads m_forkBit m_forkFrom m_forkTo m_wayPage m_wayKnown m_wayGuess m_wayDiff m_wayRead m_wayPlace m_known (nI al) m_entries m_forks m_guess m_diff m_read m_placeOf (nI cnt) (nI at0) = bd20 (M_isDone (nf T) (nf S) (nf ak) m_heads m_forkBit m_forkFrom m_forkTo m_wayPage m_wayKnown m_wayGuess m_wayDiff m_wayRead m_wayPlace (nI al) m_entries m_forks m_guess m_diff m_read m_placeOf (nI at0)) fun r56 m_s_56 m_asked_56 m_heads_56 m_forkBit_56 m_forkFrom_56 m_forkTo_56 m_wayPage_56 m_wayKnown_56 m_wayGuess_56 m_wayDiff_56 m_wayRead_56 m_wayPlace_56 m_askedLength_56 m_entries_56 m_forks_56 m_guess_56 m_diff_56 m_read_56 m_placeOf_56 => if r56 = 0 then (M_does_L23 (nf T) (nI tl) kM (n2 + (m + 1)) m_s_56 m_past m_kept m_asked_56 m_heads_56 m_forkBit_56 m_forkFrom_56 m_forkTo_56 m_wayPage_56 m_wayKnown_56 m_wayGuess_56 m_wayDiff_56 m_wayRead_56 m_wayPlace_56 m_known m_askedLength_56 m_entries_56 m_forks_56 m_guess_56 m_diff_56 m_read_56 m_placeOf_56 (nI cnt + 0) (nI at0 + 1)) else (M_does_L23 (nf T) (nI tl) kM (n2 + (m + 1)) m_s_56 m_past m_kept m_asked_56 m_heads_56 m_forkBit_56 m_forkFrom_56 m_forkTo_56 m_wayPage_56 m_wayKnown_56 m_wayGuess_56 m_wayDiff_56 m_wayRead_56 m_wayPlace_56 m_known m_askedLength_56 m_entries_56 m_forks_56 m_guess_56 m_diff_56 m_read_56 m_placeOf_56 (nI cnt + 1) (nI at0 + 1)) := by
      rw [M_does_L23, il (by omega) (by omega), if_neg (by omega), ga_j (by omega) (by decide), ga_j (by omega) (by decide), nI_clamp (by omega), nf_a, show (43 : Int32) = nI 43 from rfl, show (45 : Int32) = nI 45 from rfl, ie (by omega) (by decide), ie (by omega) (by decide)]
      rcases hpm with q | q
      · rw [if_pos q]
        rfl
      · rw [if_neg (by omega), if_pos q]
        rfl
    by_cases co : T at0 = 43
    · skip
      obtain ⟨S1, h1', f1', l1', a1', p1', s1', n1', g1', v1', d1, d2, d3, d4, d5, d6, b1', w1', e1', y1, y2, y3, y4, y5, y6, r, q1, q2, q3, q4, q5, q6, q7⟩ := insNew_n hA hg hc1 hs hW hr1 ha hm1 vu_s hwb c_page c_known c_guess c_diff c_pieces c_place c_base c_from c_to c_above c_bit c_lastLeft m_heads m_forkBit m_forkFrom m_forkTo m_wayPage m_wayKnown m_wayGuess m_wayDiff m_wayRead m_wayPlace m_entries m_forks m_guess m_diff m_read m_placeOf
      have eC : C7_does_L39 a LW LS LK (nf T) (nI tl) kC (n1 + 1) c_heads c_firsts c_levelOf c_aboveOf c_partings c_signs c_count c_pages c_levels c_most c_page c_known c_guess c_diff c_pieces c_place c_bits c_words c_entries c_next c_kept c_base c_from c_to c_above c_bit c_lastLeft (nI cnt) (nI at0) (nI od) = C7_does_L39 a LW LS LK (nf T) (nI tl) kC n1 h1' f1' l1' a1' p1' s1' n1' g1' v1' c_most d1 d2 d3 d4 d5 d6 b1' w1' e1' c_next c_kept y1 y2 y3 y4 y5 y6 (nI (cnt + r)) (nI (at0 + 1 + m + 1)) (nI (od + 1)) := by
        rw [C7_does_L39, show (120 : Int32) = nI 120 from rfl, il (by decide) (by omega), if_neg (by omega), il (by omega) (by omega), if_neg (by omega), byteAt_in ht hlt, bd1_in, show (43 : Int32) = nI 43 from rfl, ie (by omega) (by decide), if_pos co]
        unfold C7_does_J75
        rw [nI_p1, eR, bd3_in, if_neg (by decide), q1, bd25_in, nI_p1, nI_p1, nI_p1]
        rcases q7 with ⟨z1, -, -⟩ | ⟨z1, -, -⟩
        · rw [z1, if_pos (by decide)]
          rfl
        · rw [z1, if_neg (by decide)]
      rcases q7 with ⟨z1, z2, z3⟩ | ⟨z1, z2, z3, hs1, fb1, ff1, ft1, wp1, wk1, wg1, wd1, wr1, wl1, me1, mf1, mg1, md1, mr1, mp1, z4⟩
      · subst z2
        have eD : M_isDone (nf T) (nf S1) (nf ak) m_heads m_forkBit m_forkFrom m_forkTo m_wayPage m_wayKnown m_wayGuess m_wayDiff m_wayRead m_wayPlace (nI al) m_entries m_forks m_guess m_diff m_read m_placeOf (nI at0) = some (0, nf S1, nf ak1, m_heads, m_forkBit, m_forkFrom, m_forkTo, m_wayPage, m_wayKnown, m_wayGuess, m_wayDiff, m_wayRead, m_wayPlace, nI m, m_entries, m_forks, m_guess, m_diff, m_read, m_placeOf) := by
          unfold M_isDone
          refine eI.trans ?_
          show ga (nI at0) 120 (if nf T (nI at0).toNatClampNeg = 43 then _ else _) = _
          rw [ga_j (by omega) (by decide), nI_clamp (by omega), nf_a, show (43 : Int32) = nI 43 from rfl, ie (by omega) (by decide), if_pos co]
          unfold M_isDone_J75
          rw [if_neg (by decide), eT, bd1_in]
          have e0 : M_isDone_J110 (nf T) (nI at0) (nf S1) (nf ak1) m_heads m_forkBit m_forkFrom m_forkTo m_wayPage m_wayKnown m_wayGuess m_wayDiff m_wayRead m_wayPlace (nI m) m_entries m_forks m_guess m_diff m_read m_placeOf 1 0 = some (0, nf S1, nf ak1, m_heads, m_forkBit, m_forkFrom, m_forkTo, m_wayPage, m_wayKnown, m_wayGuess, m_wayDiff, m_wayRead, m_wayPlace, nI m, m_entries, m_forks, m_guess, m_diff, m_read, m_placeOf) := by
            unfold M_isDone_J110 M_isDone_J126
            rw [if_pos rfl, if_pos rfl, gb_in (Or.inl rfl)]
          rcases z3 with z3 | ⟨z3, z5⟩
          · rw [z3, if_neg (by decide)]
            exact e0
          · rw [z3, if_pos (by decide), nf_a, z5, if_pos (by decide)]
            exact e0
        have eM := skip_m ht hT kM (nf S1) m_past m_kept (nf ak1) m_heads m_forkBit m_forkFrom m_forkTo m_wayPage m_wayKnown m_wayGuess m_wayDiff m_wayRead m_wayPlace m_known (nI m) m_entries m_forks m_guess m_diff m_read m_placeOf (nI (cnt)) (e := at0 + 1 + m + 1) (by omega) (m + 1) (at0 + 1) n2 (by omega) hskip
        rw [eC, eL , eD, bd20_in, if_pos (by decide), nI_p1, show nI cnt + 0 = nI cnt from nI_add cnt 0, eM, z1, Nat.add_zero]
        exact ih (at0 + 1 + m + 1) n1 n2 (cnt) (od + 1) S1 h1' f1' l1' a1' p1' s1' n1' g1' v1' d1 d2 d3 d4 d5 d6 b1' w1' e1' y1 y2 y3 y4 y5 y6 ak1 m m_heads m_forkBit m_forkFrom m_forkTo m_wayPage m_wayKnown m_wayGuess m_wayDiff m_wayRead m_wayPlace m_entries m_forks m_guess m_diff m_read m_placeOf hok (by omega) (by omega) (by omega) q2 q3 q4 q5 q6 hak1 (by omega)
      · have eD : M_isDone (nf T) (nf S) (nf ak) m_heads m_forkBit m_forkFrom m_forkTo m_wayPage m_wayKnown m_wayGuess m_wayDiff m_wayRead m_wayPlace (nI al) m_entries m_forks m_guess m_diff m_read m_placeOf (nI at0) = some (1, nf S1, nf ak1, hs1, fb1, ff1, ft1, wp1, wk1, wg1, wd1, wr1, wl1, nI m, me1, mf1, mg1, md1, mr1, mp1) := by
          unfold M_isDone
          refine eI.trans ?_
          show ga (nI at0) 120 (if nf T (nI at0).toNatClampNeg = 43 then _ else _) = _
          rw [ga_j (by omega) (by decide), nI_clamp (by omega), nf_a, show (43 : Int32) = nI 43 from rfl, ie (by omega) (by decide), if_pos co]
          unfold M_isDone_J75
          rw [if_neg (by decide), eT, bd1_in]
          rw [z2, if_pos (by decide), nf_a, show (48 : Int32) = nI 48 from rfl, il (by decide) (by omega), if_neg (by omega)]
          unfold M_isDone_J110
          rw [if_neg (by decide), if_neg (by decide), z4, bd17_in, gb_in (Or.inr rfl)]
        have eM := skip_m ht hT kM (nf S1) m_past m_kept (nf ak1) hs1 fb1 ff1 ft1 wp1 wk1 wg1 wd1 wr1 wl1 m_known (nI m) me1 mf1 mg1 md1 mr1 mp1 (nI (cnt + 1)) (e := at0 + 1 + m + 1) (by omega) (m + 1) (at0 + 1) n2 (by omega) hskip
        rw [eC, eL , eD, bd20_in, if_neg (by decide), nI_p1, nI_p1, eM, z1]
        exact ih (at0 + 1 + m + 1) n1 n2 (cnt + 1) (od + 1) S1 h1' f1' l1' a1' p1' s1' n1' g1' v1' d1 d2 d3 d4 d5 d6 b1' w1' e1' y1 y2 y3 y4 y5 y6 ak1 m hs1 fb1 ff1 ft1 wp1 wk1 wg1 wd1 wr1 wl1 me1 mf1 mg1 md1 mr1 mp1 hok (by omega) (by omega) (by omega) q2 q3 q4 q5 q6 hak1 (by omega)
    · skip
      obtain ⟨S1, h1', f1', l1', a1', p1', n1', g1', v1', d1, d2, d3, d4, d5, d6, w1', e1', y1, y2, y3, y4, y5, y6, r, q1, q2, q3, q4, q5, q6, q7⟩ := remThere_n hA hg hc1 hs hW hr1 ha vu_s hwb c_page c_known c_guess c_diff c_pieces c_place c_base c_from c_to c_above c_bit c_lastLeft m_heads m_forkBit m_forkFrom m_forkTo m_wayPage m_wayKnown m_wayGuess m_wayDiff m_wayRead m_wayPlace m_entries m_forks m_guess m_diff m_read m_placeOf
      have eC : C7_does_L39 a LW LS LK (nf T) (nI tl) kC (n1 + 1) c_heads c_firsts c_levelOf c_aboveOf c_partings c_signs c_count c_pages c_levels c_most c_page c_known c_guess c_diff c_pieces c_place c_bits c_words c_entries c_next c_kept c_base c_from c_to c_above c_bit c_lastLeft (nI cnt) (nI at0) (nI od) = C7_does_L39 a LW LS LK (nf T) (nI tl) kC n1 h1' f1' l1' a1' p1' (va_up c_signs (a 13) (nI m)) n1' g1' v1' c_most d1 d2 d3 d4 d5 d6 (va_up c_bits (a 13) B) w1' e1' c_next c_kept y1 y2 y3 y4 y5 y6 (nI (cnt + r)) (nI (at0 + 1 + m + 1)) (nI (od + 1)) := by
        rw [C7_does_L39, show (120 : Int32) = nI 120 from rfl, il (by decide) (by omega), if_neg (by omega), il (by omega) (by omega), if_neg (by omega), byteAt_in ht hlt, bd1_in, show (43 : Int32) = nI 43 from rfl, ie (by omega) (by decide), if_neg co]
        unfold C7_does_J75
        rw [nI_p1, eR, bd3_in, if_pos rfl, q1, bd23_in, nI_p1, nI_p1, nI_p1]
        rcases q7 with ⟨z1, -, -⟩ | ⟨z1, -, -⟩
        · rw [z1, if_pos (by decide)]
          rfl
        · rw [z1, if_neg (by decide)]
      rcases q7 with ⟨z1, z2, z3⟩ | ⟨z1, z2, hs1, fb1, ff1, ft1, wp1, wk1, wg1, wd1, wr1, wl1, me1, mf1, mg1, md1, mr1, mp1, z4⟩
      · subst z2
        have eD : M_isDone (nf T) (nf S1) (nf ak) m_heads m_forkBit m_forkFrom m_forkTo m_wayPage m_wayKnown m_wayGuess m_wayDiff m_wayRead m_wayPlace (nI al) m_entries m_forks m_guess m_diff m_read m_placeOf (nI at0) = some (0, nf S1, nf ak1, m_heads, m_forkBit, m_forkFrom, m_forkTo, m_wayPage, m_wayKnown, m_wayGuess, m_wayDiff, m_wayRead, m_wayPlace, nI m, m_entries, m_forks, m_guess, m_diff, m_read, m_placeOf) := by
          unfold M_isDone
          refine eI.trans ?_
          show ga (nI at0) 120 (if nf T (nI at0).toNatClampNeg = 43 then _ else _) = _
          rw [ga_j (by omega) (by decide), nI_clamp (by omega), nf_a, show (43 : Int32) = nI 43 from rfl, ie (by omega) (by decide), if_neg co]
          unfold M_isDone_J75
          rw [if_pos rfl, eT, bd1_in]
          unfold M_isDone_J110 M_isDone_J126
          rw [z3, if_pos (by decide), if_pos (by decide), gb_in (Or.inl (by decide))]
          rfl
        have eM := skip_m ht hT kM (nf S1) m_past m_kept (nf ak1) m_heads m_forkBit m_forkFrom m_forkTo m_wayPage m_wayKnown m_wayGuess m_wayDiff m_wayRead m_wayPlace m_known (nI m) m_entries m_forks m_guess m_diff m_read m_placeOf (nI (cnt)) (e := at0 + 1 + m + 1) (by omega) (m + 1) (at0 + 1) n2 (by omega) hskip
        rw [eC, eL , eD, bd20_in, if_pos (by decide), nI_p1, show nI cnt + 0 = nI cnt from nI_add cnt 0, eM, z1, Nat.add_zero]
        exact ih (at0 + 1 + m + 1) n1 n2 (cnt) (od + 1) S1 h1' f1' l1' a1' p1' (va_up c_signs (a 13) (nI m)) n1' g1' v1' d1 d2 d3 d4 d5 d6 (va_up c_bits (a 13) B) w1' e1' y1 y2 y3 y4 y5 y6 ak1 m m_heads m_forkBit m_forkFrom m_forkTo m_wayPage m_wayKnown m_wayGuess m_wayDiff m_wayRead m_wayPlace m_entries m_forks m_guess m_diff m_read m_placeOf hok (by omega) (by omega) (by omega) q2 q3 q4 q5 q6 hak1 (by omega)
      · have eD : M_isDone (nf T) (nf S) (nf ak) m_heads m_forkBit m_forkFrom m_forkTo m_wayPage m_wayKnown m_wayGuess m_wayDiff m_wayRead m_wayPlace (nI al) m_entries m_forks m_guess m_diff m_read m_placeOf (nI at0) = some (1, nf S1, nf ak1, hs1, fb1, ff1, ft1, wp1, wk1, wg1, wd1, wr1, wl1, nI m, me1, mf1, mg1, md1, mr1, mp1) := by
          unfold M_isDone
          refine eI.trans ?_
          show ga (nI at0) 120 (if nf T (nI at0).toNatClampNeg = 43 then _ else _) = _
          rw [ga_j (by omega) (by decide), nI_clamp (by omega), nf_a, show (43 : Int32) = nI 43 from rfl, ie (by omega) (by decide), if_neg co]
          unfold M_isDone_J75
          rw [if_pos rfl, eT, bd1_in]
          unfold M_isDone_J110 M_isDone_J126
          rw [z2, if_neg (by decide), if_pos rfl, if_neg (by decide), z4, bd17_in, gb_in (Or.inr (by decide))]
          rfl
        have eM := skip_m ht hT kM (nf S1) m_past m_kept (nf ak1) hs1 fb1 ff1 ft1 wp1 wk1 wg1 wd1 wr1 wl1 m_known (nI m) me1 mf1 mg1 md1 mr1 mp1 (nI (cnt + 1)) (e := at0 + 1 + m + 1) (by omega) (m + 1) (at0 + 1) n2 (by omega) hskip
        rw [eC, eL , eD, bd20_in, if_neg (by decide), nI_p1, nI_p1, eM, z1]
        exact ih (at0 + 1 + m + 1) n1 n2 (cnt + 1) (od + 1) S1 h1' f1' l1' a1' p1' (va_up c_signs (a 13) (nI m)) n1' g1' v1' d1 d2 d3 d4 d5 d6 (va_up c_bits (a 13) B) w1' e1' y1 y2 y3 y4 y5 y6 ak1 m hs1 fb1 ff1 ft1 wp1 wk1 wg1 wd1 wr1 wl1 me1 mf1 mg1 md1 mr1 mp1 hok (by omega) (by omega) (by omega) q2 q3 q4 q5 q6 hak1 (by omega)
theorem stp_does {a : Nat → Nat} {LW LS LK : List Nat} (hA : Ax a LS LK) : Stp_does a LW LS LK (II a LW) := by
  intro c_bytes c_heads c_firsts c_levelOf c_aboveOf c_partings c_signs c_count c_pages c_levels c_most c_page c_known c_guess c_diff c_pieces c_place c_bits c_words c_entries c_bads c_noes c_fulls c_length c_next c_kept c_base c_from c_to c_above c_bit c_lastLeft m_s m_past m_kept m_refused m_text m_asked m_heads m_forkBit m_forkFrom m_forkTo m_wayPage m_wayKnown m_wayGuess m_wayDiff m_wayRead m_wayPlace m_treeBit m_treeLeft m_treeRight m_treeAbove m_pileFrom m_pileTo m_pileAbove m_known m_typed m_askedLength m_entries m_forks m_guess m_diff m_read m_placeOf m_treeForks m_treeDeep hI
  obtain ⟨S, T, ak, tl, al, kn, nx, ⟨rfl, hg, hc, hs⟩, ⟨rfl, rfl, rfl, rfl, ht, hT⟩, ⟨rfl, rfl, hal, hak⟩, hR, ⟨rfl, rfl, rfl, hW, hr⟩⟩ := hI
  have hFU : FU = 20000 := rfl
  obtain ⟨x, e1, e2, e3⟩ := fault_n ht hT tl 0 FU FU 0 (by omega) (by omega) (by omega) (by omega)
  have eC : C4_fault (nf T) (nI tl) = some x := e1
  have eM : M_faultOf (nf T) (nI tl) = some x := e2
  rcases e3 with ⟨rfl, hok⟩ | ⟨y, hy, rfl⟩
  · skip
    obtain ⟨mk, ek, hmk⟩ := aside_n (S := S) m_kept
    obtain ⟨kn', nx', mp', cs', cc', cpg', clv', cm', cbits', ce', k1, k2, g2, g3, g4, g5⟩ := keep_n hA hW hg hc hr hmk
    obtain ⟨cnt, S2, c_heads2, c_firsts2, c_levelOf2, c_aboveOf2, c_partings2, c_signs2, c_count2, c_pages2, c_levels2, c_page2, c_known2, c_guess2, c_diff2, c_pieces2, c_place2, c_bits2, c_words2, c_entries2, c_base2, c_from2, c_to2, c_above2, c_bit2, c_lastLeft2, ak2, al2, m_heads2, m_forkBit2, m_forkFrom2, m_forkTo2, m_wayPage2, m_wayKnown2, m_wayGuess2, m_wayDiff2, m_wayRead2, m_wayPlace2, m_entries2, m_forks2, m_guess2, m_diff2, m_read2, m_placeOf2, z1, z2, z3, z4, z5, z6, z7, z8, z9⟩ := does_L hA ht hT (fun c_heads c_firsts c_levelOf c_aboveOf c_partings c_signs c_count c_pages c_levels c_most c_page c_known c_guess c_diff c_pieces c_place c_bits c_words c_entries c_next c_kept c_base c_from c_to c_above c_bit c_lastLeft v2 => some (v2, c_heads, c_firsts, c_levelOf, c_aboveOf, c_partings, c_signs, c_count, c_pages, c_levels, c_most, c_page, c_known, c_guess, c_diff, c_pieces, c_place, c_bits, c_words, c_entries, c_next, c_kept, c_base, c_from, c_to, c_above, c_bit, c_lastLeft)) (fun m_s m_past m_kept m_asked m_heads m_forkBit m_forkFrom m_forkTo m_wayPage m_wayKnown m_wayGuess m_wayDiff m_wayRead m_wayPlace m_known m_askedLength m_entries m_forks m_guess m_diff m_read m_placeOf v2 => bd2 (M_keeps m_kept m_past m_known) fun m_past_76 m_known_76 => some (v2, m_s, m_past_76, m_kept, m_asked, m_heads, m_forkBit, m_forkFrom, m_forkTo, m_wayPage, m_wayKnown, m_wayGuess, m_wayDiff, m_wayRead, m_wayPlace, m_known_76, m_askedLength, m_entries, m_forks, m_guess, m_diff, m_read, m_placeOf)) cm' (nI nx') (nI kn') m_past mk (nI kn) tl 0 FU FU 0 0 S c_heads c_firsts c_levelOf c_aboveOf c_partings cs' cc' cpg' clv' c_page c_known c_guess c_diff c_pieces c_place cbits' c_words ce' c_base c_from c_to c_above c_bit c_lastLeft ak al m_heads m_forkBit m_forkFrom m_forkTo m_wayPage m_wayKnown m_wayGuess m_wayDiff m_wayRead m_wayPlace m_entries m_forks m_guess m_diff m_read m_placeOf hok (by omega) (by omega) (by omega) hg g2 hs hW g3 hak hal
    refine ⟨nI cnt, c_heads2, c_firsts2, c_levelOf2, c_aboveOf2, c_partings2, c_signs2, c_count2, c_pages2, c_levels2, cm', c_page2, c_known2, c_guess2, c_diff2, c_pieces2, c_place2, c_bits2, c_words2, c_entries2, nI nx', nI kn', c_base2, c_from2, c_to2, c_above2, c_bit2, c_lastLeft2, nf S2, mp', mk, nf ak2, m_heads2, m_forkBit2, m_forkFrom2, m_forkTo2, m_wayPage2, m_wayKnown2, m_wayGuess2, m_wayDiff2, m_wayRead2, m_wayPlace2, nI kn', nI al2, m_entries2, m_forks2, m_guess2, m_diff2, m_read2, m_placeOf2, ?_, ?_, ?_⟩
    · unfold C7_does
      rw [eC, bd1_in, if_pos rfl, k2, bd9_in]
      exact z1
    · unfold M_does
      rw [eM, bd1_in, if_pos rfl, ek, bd1_in]
      refine z2.trans ?_
      show bd2 (M_keeps mk m_past (nI kn)) _ = _
      rw [k1, bd2_in]
    · exact ⟨S2, T, ak2, tl, al2, kn', nx', ⟨rfl, z3, z4, z5⟩, ⟨rfl, rfl, rfl, rfl, ht, hT⟩, ⟨rfl, rfl, z9, z8⟩, hR, ⟨rfl, rfl, rfl, z6, z7⟩⟩
  · refine ⟨-10 - nI y, c_heads, c_firsts, c_levelOf, c_aboveOf, c_partings, c_signs, c_count, c_pages, c_levels, c_most, c_page, c_known, c_guess, c_diff, c_pieces, c_place, c_bits, c_words, c_entries, nI nx, nI kn, c_base, c_from, c_to, c_above, c_bit, c_lastLeft, nf S, m_past, m_kept, nf ak, m_heads, m_forkBit, m_forkFrom, m_forkTo, m_wayPage, m_wayKnown, m_wayGuess, m_wayDiff, m_wayRead, m_wayPlace, nI kn, nI al, m_entries, m_forks, m_guess, m_diff, m_read, m_placeOf, ?_, ?_, ?_⟩
    · unfold C7_does
      rw [eC, bd1_in, in1 (by omega)]
    · unfold M_does
      rw [eM, bd1_in, in1 (by omega)]
    · exact ⟨S, T, ak, tl, al, kn, nx, ⟨rfl, hg, hc, hs⟩, ⟨rfl, rfl, rfl, rfl, ht, hT⟩, ⟨rfl, rfl, hal, hak⟩, hR, ⟨rfl, rfl, rfl, hW, hr⟩⟩
