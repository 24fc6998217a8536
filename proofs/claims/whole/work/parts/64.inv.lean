/-! the invariant; the steps that touch little -/
def RX (mr : Nat → Int32) (b n f : Int32) : Prop := mr 0 = b ∧ mr 1 = n ∧ mr 2 = f
def IV (a : Nat → Nat) (LW : List Nat) (S T ak : Nat → Nat) (tl al kn nx : Nat) (c_bytes : Nat → Int32) (c_heads : Nat → Int32) (c_firsts : Nat → Int32) (c_levelOf : Nat → Int32) (c_aboveOf : Nat → Int32) (c_partings : Nat → Int32) (c_signs : Nat → Int32) (c_count : Nat → Int32) (c_pages : Nat → Int32) (c_levels : Nat → Int32) (c_most : Nat → Int32) (c_bits : Nat → Nat → Int64) (c_words : Nat → Nat → Nat) (c_entries : Nat → Nat → Int32) (c_bads : Int32) (c_noes : Int32) (c_fulls : Int32) (c_length : Int32) (c_next : Int32) (c_kept : Int32) (m_s : Nat → Int32) (m_past : Nat → Int32) (m_refused : Nat → Int32) (m_text : Nat → Int32) (m_asked : Nat → Int32) (m_known : Int32) (m_typed : Int32) (m_askedLength : Int32) : Prop :=
  (m_s = nf S ∧ GS S ∧ Cpl LW S (a 14) c_count c_pages c_levels c_most c_signs c_bits c_words c_entries ∧ Stl S c_heads c_firsts c_levelOf c_aboveOf c_partings) ∧ (c_bytes = nf T ∧ m_text = nf T ∧ c_length = nI tl ∧ m_typed = nI tl ∧ tl ≤ 120 ∧ ∀ i, T i < 128) ∧ (m_asked = nf ak ∧ m_askedLength = nI al ∧ al ≤ 24 ∧ ∀ i, ak i < 128) ∧ RX m_refused c_bads c_noes c_fulls ∧ (c_next = nI nx ∧ c_kept = nI kn ∧ m_known = nI kn ∧ Wds a LW c_words ∧ Rng a LW kn nx m_past c_count c_pages c_levels c_most c_signs c_bits c_words c_entries)
def II (a : Nat → Nat) (LW : List Nat) (c_bytes : Nat → Int32) (c_heads : Nat → Int32) (c_firsts : Nat → Int32) (c_levelOf : Nat → Int32) (c_aboveOf : Nat → Int32) (c_partings : Nat → Int32) (c_signs : Nat → Int32) (c_count : Nat → Int32) (c_pages : Nat → Int32) (c_levels : Nat → Int32) (c_most : Nat → Int32) (c_page : Nat → Int32) (c_known : Nat → Int32) (c_guess : Nat → Int32) (c_diff : Nat → Int32) (c_pieces : Nat → Int32) (c_place : Nat → Int32) (c_bits : Nat → Nat → Int64) (c_words : Nat → Nat → Nat) (c_entries : Nat → Nat → Int32) (c_bads : Int32) (c_noes : Int32) (c_fulls : Int32) (c_length : Int32) (c_next : Int32) (c_kept : Int32) (c_base : Int32) (c_from : Int32) (c_to : Int32) (c_above : Int32) (c_bit : Int32) (c_lastLeft : Int32) (m_s : Nat → Int32) (m_past : Nat → Int32) (m_kept : Nat → Int32) (m_refused : Nat → Int32) (m_text : Nat → Int32) (m_asked : Nat → Int32) (m_heads : Nat → Int32) (m_forkBit : Nat → Int32) (m_forkFrom : Nat → Int32) (m_forkTo : Nat → Int32) (m_wayPage : Nat → Int32) (m_wayKnown : Nat → Int32) (m_wayGuess : Nat → Int32) (m_wayDiff : Nat → Int32) (m_wayRead : Nat → Int32) (m_wayPlace : Nat → Int32) (m_treeBit : Nat → Int32) (m_treeLeft : Nat → Int32) (m_treeRight : Nat → Int32) (m_treeAbove : Nat → Int32) (m_pileFrom : Nat → Int32) (m_pileTo : Nat → Int32) (m_pileAbove : Nat → Int32) (m_known : Int32) (m_typed : Int32) (m_askedLength : Int32) (m_entries : Int32) (m_forks : Int32) (m_guess : Int32) (m_diff : Int32) (m_read : Int32) (m_placeOf : Int32) (m_treeForks : Int32) (m_treeDeep : Int32) : Prop := ∃ (S T ak : Nat → Nat) (tl al kn nx : Nat), IV a LW S T ak tl al kn nx c_bytes c_heads c_firsts c_levelOf c_aboveOf c_partings c_signs c_count c_pages c_levels c_most c_bits c_words c_entries c_bads c_noes c_fulls c_length c_next c_kept m_s m_past m_refused m_text m_asked m_known m_typed m_askedLength
theorem rf_bad (b n f : Int32) : C7_refuse b n f (-2) = some (-2, b + 1, n, f) := by
  unfold C7_refuse
  rw [if_pos (by decide)]
theorem rf_no (b n f : Int32) : C7_refuse b n f (-3) = some (-3, b, n + 1, f) := by
  unfold C7_refuse
  rw [if_neg (by decide), if_pos (by decide)]
theorem rf_full (b n f : Int32) : C7_refuse b n f (-4) = some (-4, b, n, f + 1) := by
  unfold C7_refuse
  rw [if_neg (by decide), if_neg (by decide), if_pos (by decide)]
theorem mr_bad (mr : Nat → Int32) : M_refuses mr (-2) = some (-2, upd mr 0 (mr 0 + 1)) := by
  unfold M_refuses
  rw [show ((-2 : Int32) - (-2)) = nI 0 by decide, ga_j (by decide) (by decide), ga_j (by decide) (by decide), nI_clamp (by decide)]
theorem mr_no (mr : Nat → Int32) : M_refuses mr (-3) = some (-3, upd mr 1 (mr 1 + 1)) := by
  unfold M_refuses
  rw [show ((-2 : Int32) - (-3)) = nI 1 by decide, ga_j (by decide) (by decide), ga_j (by decide) (by decide), nI_clamp (by decide)]
theorem mr_full (mr : Nat → Int32) : M_refuses mr (-4) = some (-4, upd mr 2 (mr 2 + 1)) := by
  unfold M_refuses
  rw [show ((-2 : Int32) - (-4)) = nI 2 by decide, ga_j (by decide) (by decide), ga_j (by decide) (by decide), nI_clamp (by decide)]
section
variable {mr : Nat → Int32} {b n f : Int32}
theorem rx_bad (h : RX mr b n f) : RX (upd mr 0 (mr 0 + 1)) (b + 1) n f := ⟨by rw [upd_s, h.1], by rw [upd_n (by decide)]; exact h.2.1, by rw [upd_n (by decide)]; exact h.2.2⟩
theorem rx_no (h : RX mr b n f) : RX (upd mr 1 (mr 1 + 1)) b (n + 1) f := ⟨by rw [upd_n (by decide)]; exact h.1, by rw [upd_s, h.2.1], by rw [upd_n (by decide)]; exact h.2.2⟩
theorem rx_full (h : RX mr b n f) : RX (upd mr 2 (mr 2 + 1)) b n (f + 1) := ⟨by rw [upd_n (by decide)]; exact h.1, by rw [upd_n (by decide)]; exact h.2.1, by rw [upd_s, h.2.2]⟩
end
theorem in_lo {v l m : Int32} (h : v < 0) (hl : ¬ l < 0) : M_in v l m = some 0 := by
  unfold M_in
  rw [if_pos]
  rw [Int32.lt_iff_toInt_lt] at *
  have : (0 : Int32).toInt = 0 := by decide
  omega
theorem in_hi {v l m : Int32} (h : m < v) : M_in v l m = some 0 := by
  unfold M_in
  by_cases c : v < l
  · rw [if_pos c]
  · rw [if_neg c, if_pos h]
theorem in_ok {v l m : Int32} (h1 : ¬ v < l) (h2 : ¬ m < v) : M_in v l m = some 1 := by
  unfold M_in
  rw [if_neg h1, if_neg h2]
theorem hi3 {v : Int32} {n : Nat} (h : nI (n + 1) ≤ v) (hn : n + 1 < 2 ^ 31) : ¬ v < 0 ∧ ¬ v ≤ nI n ∧ nI n < v := by
  have e1 := nI_toInt hn
  have e2 := nI_toInt (n := n) (by omega)
  have e0 : (0 : Int32).toInt = 0 := by decide
  simp only [Int32.lt_iff_toInt_lt, Int32.le_iff_toInt_le] at *
  omega
theorem lo3 {v : Int32} {n : Nat} (h : v < 0) (hn : n < 2 ^ 31) : v < nI n ∧ ¬ nI n ≤ v ∧ v ≤ nI n ∧ ¬ nI n < v ∧ ¬ v = nI n := by
  have e1 := nI_toInt hn
  have e0 : (0 : Int32).toInt = 0 := by decide
  rw [fa_eq]
  simp only [Int32.lt_iff_toInt_lt, Int32.le_iff_toInt_le] at *
  omega
theorem hi5 {v : Int32} {n m : Nat} (h : nI n ≤ v) (hm : m < n) (hn : n < 2 ^ 31) : ¬ v < 0 ∧ ¬ v ≤ nI m ∧ nI m < v ∧ ¬ v < nI m ∧ ¬ v = nI m := by
  have e1 := nI_toInt hn
  have e2 := nI_toInt (n := m) (by omega)
  have e0 : (0 : Int32).toInt = 0 := by decide
  rw [fa_eq]
  simp only [Int32.lt_iff_toInt_lt, Int32.le_iff_toInt_le] at *
  omega
theorem append_t {T : Nat → Nat} {tl c : Nat} (ht : tl < 120) (hc : c < 128) : C4_append (nf T) (nI tl) (nI c) = some (nf (un T tl c), nI (tl + 1)) := by
  unfold C4_append
  rw [ineg (by omega), show (120 : Int32) = nI 120 from rfl, il (by decide) (by omega), if_neg (by omega), ga_j (by omega) (by decide), nI_clamp (by omega), byte_c c hc, nf_upd, nI_p1]
theorem un_lt {T : Nat → Nat} {k c : Nat} (hT : ∀ i, T i < 128) (hc : c < 128) : ∀ i, un T k c i < 128 := fun i => by
  unfold un
  split
  · exact hc
  · exact hT i
theorem told_n {mr : Nat → Int32} {b n f : Int32} (hR : RX mr b n f) (tl kn : Int32) {c : Nat} (hc : c < 5) : ∃ x, C7_ownFact b n f tl kn (nI c) = some x ∧ M_toldOf mr kn tl (nI c) = some x := by
  obtain ⟨h1, h2, h3⟩ := hR
  unfold C7_ownFact M_toldOf
  rcases (show c = 0 ∨ c = 1 ∨ c = 2 ∨ c = 3 ∨ c = 4 by omega) with rfl | rfl | rfl | rfl | rfl
  · exact ⟨b, by rw [if_pos (by decide)], by rw [if_neg (by decide), ga_j (by decide) (by decide), nI_clamp (by decide), h1]⟩
  · exact ⟨n, by rw [if_neg (by decide), if_pos (by decide)], by rw [if_neg (by decide), ga_j (by decide) (by decide), nI_clamp (by decide), h2]⟩
  · exact ⟨f, by rw [if_neg (by decide), if_neg (by decide), if_pos (by decide)], by rw [if_neg (by decide), ga_j (by decide) (by decide), nI_clamp (by decide), h3]⟩
  · exact ⟨tl, by rw [if_neg (by decide), if_neg (by decide), if_neg (by decide), if_pos (by decide)], by rw [if_pos (by decide), if_pos (by decide)]⟩
  · exact ⟨kn, by rw [if_neg (by decide), if_neg (by decide), if_neg (by decide), if_neg (by decide)], by rw [if_pos (by decide), if_neg (by decide)]⟩
theorem idx_no {S : Nat → Nat} {v : Int32} (h48 : S 0 ≤ 48) (h : v < 0 ∨ nI (S 0) ≤ v) : M_isIndexed (nf S) v = some 0 := by
  have e : M_in v 0 (nI (S 0) - 1) = some 0 := by
    rcases h with h | h
    · exact in_lo h (by decide)
    · refine in_hi ?_
      have e1 : (nI (S 0) - nI 1).toInt = ((S 0 : Nat) : Int) - (1 : Nat) := pk_sub_toInt (by omega) (by decide)
      have e2 := nI_toInt (n := S 0) (by omega)
      rw [Int32.le_iff_toInt_le] at h
      rw [Int32.lt_iff_toInt_lt]
      show (nI (S 0) - nI 1).toInt < _
      omega
  unfold M_isIndexed
  show bd1 (M_in v 0 (nI (S 0) - 1)) _ = _
  rw [e, bd1_in, gb_in (Or.inl rfl)]
theorem idx_yes {S : Nat → Nat} {k : Nat} (h48 : S 0 ≤ 48) (h : k < S 0) : M_isIndexed (nf S) (nI k) = some 1 := by
  have e : M_in (nI k) 0 (nI (S 0) - 1) = some 1 := by
    refine in_ok (nI_pos (by omega)) ?_
    rw [show nI (S 0) - 1 = nI (S 0 - 1) from pk_sub (b := 1) (by omega)]
    exact nI_nlt (by omega) (by omega)
  unfold M_isIndexed
  show bd1 (M_in (nI k) 0 (nI (S 0) - 1)) _ = _
  rw [e, bd1_in, gb_in (Or.inr rfl)]
theorem sign_s {X s : Nat} (hs : s < 128) (h : ∀ t, t < 7 → X / 2 ^ t % 2 = s / 2 ^ t % 2) : X % 128 = s := by
  have h0 := h 0 (by decide)
  have h1 := h 1 (by decide)
  have h2 := h 2 (by decide)
  have h3 := h 3 (by decide)
  have h4 := h 4 (by decide)
  have h5 := h 5 (by decide)
  have h6 := h 6 (by decide)
  simp only [show 2 ^ 0 = 1 from rfl, show 2 ^ 1 = 2 from rfl, show 2 ^ 2 = 4 from rfl, show 2 ^ 3 = 8 from rfl, show 2 ^ 4 = 16 from rfl, show 2 ^ 5 = 32 from rfl, show 2 ^ 6 = 64 from rfl] at *
  omega
theorem signAt_n {cbits : Nat → Nat → Int64} {w i len : Nat} {s : Nat → Nat} (hl : len ≤ 24) (hi : i < len) (hs : s i < 128) (hB : ∀ b, b < 192 → cb (cbits w) b = bt8 len s b) : C6_signAt cbits w (nI i) = some (nI (s i)) := by
  have e1 : nI i >>> ((3 : Int32) &&& 31) = nI (i / 8) := pk_shrN (by omega) _ 3 (by decide)
  have e2 : nI i &&& 7 = nI (i % 8) := pk_andN (by omega) 3 (by decide)
  have e3 : (56 : Int32) - 8 * nI (i % 8) = nI (56 - 8 * (i % 8)) := by
    rw [show (8 : Int32) = nI 8 from rfl, pk_mul, show (56 : Int32) = nI 56 from rfl, pk_sub (by omega)]
  unfold C6_signAt
  rw [e1, e2, e3, ineg (by omega), show (3 : Int32) = nI 3 from rfl, il (by decide) (by omega), if_neg (by omega), ga_j (by omega) (by decide), nI_clamp (by omega)]
  have e4 : ∀ y : Int64, y.toInt32 &&& 127 = nI (uN y % 128) := fun y => by
    rw [pk_and _ 7 (by decide), uN_i]
    congr 1
    have := Nat.mod_mod_of_dvd (uN y) (show 2 ^ 7 ∣ 2 ^ 32 by decide)
    omega
  rw [e4, uN_sk _ (by omega)]
  congr 2
  refine sign_s hs (fun t ht => ?_)
  have h1 := hB (8 * i + (7 - t)) (by omega)
  unfold cb bt8 at h1
  rw [if_pos (by omega), show (8 * i + (7 - t)) / 8 = i by omega, show (8 * i + (7 - t)) % 8 = 7 - t by omega, show (8 * i + (7 - t)) / 64 = i / 8 by omega, show 63 - (8 * i + (7 - t)) % 64 = (56 - 8 * (i % 8)) + t by omega, show 7 - (7 - t) = t by omega, pw_add, ← Nat.div_div_eq_div_mul] at h1
  exact h1
theorem stp_type {a : Nat → Nat} {LW LS LK : List Nat} (hA : Ax a LS LK) : Stp_type a LW LS LK (II a LW) := by
  intro c_bytes c_heads c_firsts c_levelOf c_aboveOf c_partings c_signs c_count c_pages c_levels c_most c_page c_known c_guess c_diff c_pieces c_place c_bits c_words c_entries c_bads c_noes c_fulls c_length c_next c_kept c_base c_from c_to c_above c_bit c_lastLeft m_s m_past m_kept m_refused m_text m_asked m_heads m_forkBit m_forkFrom m_forkTo m_wayPage m_wayKnown m_wayGuess m_wayDiff m_wayRead m_wayPlace m_treeBit m_treeLeft m_treeRight m_treeAbove m_pileFrom m_pileTo m_pileAbove m_known m_typed m_askedLength m_entries m_forks m_guess m_diff m_read m_placeOf m_treeForks m_treeDeep v1 hI
  obtain ⟨S, T, ak, tl, al, kn, nx, ⟨rfl, hg, hc, hs⟩, ⟨rfl, rfl, rfl, rfl, ht, hT⟩, ⟨rfl, rfl, hal, hak⟩, hR, ⟨rfl, rfl, rfl, hW, hr⟩⟩ := hI
  rcases pk_ix v1 (n := 128) (by decide) with h | h | ⟨c, hc8, rfl⟩
  · refine ⟨-2, nf T, c_bads + 1, c_noes, c_fulls, nI tl, upd m_refused 0 (m_refused 0 + 1), nf T, nI tl, ?_, ?_, ?_⟩
    · unfold C7_type C7_type_J10
      rw [if_pos h, rf_bad, bd4_in]
    · unfold M_type
      rw [in_lo h (by decide), bd1_in, if_pos rfl, mr_bad, bd2_in]
    · exact ⟨S, T, ak, tl, al, kn, nx, ⟨rfl, hg, hc, hs⟩, ⟨rfl, rfl, rfl, rfl, ht, hT⟩, ⟨rfl, rfl, hal, hak⟩, rx_bad hR, ⟨rfl, rfl, rfl, hW, hr⟩⟩
  · obtain ⟨q1, q2, q3⟩ := hi3 h (by decide)
    refine ⟨-2, nf T, c_bads + 1, c_noes, c_fulls, nI tl, upd m_refused 0 (m_refused 0 + 1), nf T, nI tl, ?_, ?_, ?_⟩
    · unfold C7_type C7_type_J10
      rw [if_neg q1, if_neg (show ¬ v1 ≤ 127 from q2), rf_bad, bd4_in]
    · unfold M_type
      rw [in_hi (show (127 : Int32) < v1 from q3), bd1_in, if_pos rfl, mr_bad, bd2_in]
    · exact ⟨S, T, ak, tl, al, kn, nx, ⟨rfl, hg, hc, hs⟩, ⟨rfl, rfl, rfl, rfl, ht, hT⟩, ⟨rfl, rfl, hal, hak⟩, rx_bad hR, ⟨rfl, rfl, rfl, hW, hr⟩⟩
  · have eM : M_in (nI c) 0 127 = some 1 := in_ok (nI_pos (by omega)) (show ¬ nI 127 < nI c from nI_nlt (by omega) (by omega))
    by_cases c2 : tl = 120
    · refine ⟨-4, nf T, c_bads, c_noes, c_fulls + 1, nI tl, upd m_refused 2 (m_refused 2 + 1), nf T, nI tl, ?_, ?_, ?_⟩
      · unfold C7_type
        rw [ineg (by omega), show (127 : Int32) = nI 127 from rfl, il (by omega) (by decide), if_pos (by omega), show (120 : Int32) = nI 120 from rfl, ilt (by omega) (by decide), if_neg (by omega), rf_full, bd4_in]
      · unfold M_type
        rw [eM, bd1_in, if_neg (by decide), show (120 : Int32) = nI 120 from rfl, ie (by omega) (by decide), if_pos c2, mr_full, bd2_in]
      · exact ⟨S, T, ak, tl, al, kn, nx, ⟨rfl, hg, hc, hs⟩, ⟨rfl, rfl, rfl, rfl, ht, hT⟩, ⟨rfl, rfl, hal, hak⟩, rx_full hR, ⟨rfl, rfl, rfl, hW, hr⟩⟩
    · refine ⟨nI (tl + 1), nf (un T tl c), c_bads, c_noes, c_fulls, nI (tl + 1), m_refused, nf (un T tl c), nI (tl + 1), ?_, ?_, ?_⟩
      · unfold C7_type
        rw [ineg (by omega), show (127 : Int32) = nI 127 from rfl, il (by omega) (by decide), if_pos (by omega), show (120 : Int32) = nI 120 from rfl, ilt (by omega) (by decide), if_pos (by omega), append_t (by omega) hc8, bd2_in]
      · unfold M_type
        rw [eM, bd1_in, if_neg (by decide), show (120 : Int32) = nI 120 from rfl, ie (by omega) (by decide), if_neg c2, ga_j (by omega) (by decide), nI_clamp (by omega), nf_upd, nI_p1]
      · exact ⟨S, un T tl c, ak, tl + 1, al, kn, nx, ⟨rfl, hg, hc, hs⟩, ⟨rfl, rfl, rfl, rfl, (by omega), (un_lt hT hc8)⟩, ⟨rfl, rfl, hal, hak⟩, hR, ⟨rfl, rfl, rfl, hW, hr⟩⟩
theorem stp_clear {a : Nat → Nat} {LW LS LK : List Nat} (hA : Ax a LS LK) : Stp_clear a LW LS LK (II a LW) := by
  intro c_bytes c_heads c_firsts c_levelOf c_aboveOf c_partings c_signs c_count c_pages c_levels c_most c_page c_known c_guess c_diff c_pieces c_place c_bits c_words c_entries c_bads c_noes c_fulls c_length c_next c_kept c_base c_from c_to c_above c_bit c_lastLeft m_s m_past m_kept m_refused m_text m_asked m_heads m_forkBit m_forkFrom m_forkTo m_wayPage m_wayKnown m_wayGuess m_wayDiff m_wayRead m_wayPlace m_treeBit m_treeLeft m_treeRight m_treeAbove m_pileFrom m_pileTo m_pileAbove m_known m_typed m_askedLength m_entries m_forks m_guess m_diff m_read m_placeOf m_treeForks m_treeDeep hI
  obtain ⟨S, T, ak, tl, al, kn, nx, ⟨rfl, hg, hc, hs⟩, ⟨rfl, rfl, rfl, rfl, ht, hT⟩, ⟨rfl, rfl, hal, hak⟩, hR, ⟨rfl, rfl, rfl, hW, hr⟩⟩ := hI
  exact ⟨nI tl, nI 0, nI 0, rfl, rfl, S, T, ak, 0, al, kn, nx, ⟨rfl, hg, hc, hs⟩, ⟨rfl, rfl, rfl, rfl, (by omega), hT⟩, ⟨rfl, rfl, hal, hak⟩, hR, ⟨rfl, rfl, rfl, hW, hr⟩⟩
theorem stp_told {a : Nat → Nat} {LW LS LK : List Nat} (hA : Ax a LS LK) : Stp_told a LW LS LK (II a LW) := by
  intro c_bytes c_heads c_firsts c_levelOf c_aboveOf c_partings c_signs c_count c_pages c_levels c_most c_page c_known c_guess c_diff c_pieces c_place c_bits c_words c_entries c_bads c_noes c_fulls c_length c_next c_kept c_base c_from c_to c_above c_bit c_lastLeft m_s m_past m_kept m_refused m_text m_asked m_heads m_forkBit m_forkFrom m_forkTo m_wayPage m_wayKnown m_wayGuess m_wayDiff m_wayRead m_wayPlace m_treeBit m_treeLeft m_treeRight m_treeAbove m_pileFrom m_pileTo m_pileAbove m_known m_typed m_askedLength m_entries m_forks m_guess m_diff m_read m_placeOf m_treeForks m_treeDeep v1 hI
  obtain ⟨S, T, ak, tl, al, kn, nx, ⟨rfl, hg, hc, hs⟩, ⟨rfl, rfl, rfl, rfl, ht, hT⟩, ⟨rfl, rfl, hal, hak⟩, hR, ⟨rfl, rfl, rfl, hW, hr⟩⟩ := hI
  rcases pk_ix v1 (n := 5) (by decide) with h | h | ⟨c, hc8, rfl⟩
  · refine ⟨-2, c_bads + 1, c_noes, c_fulls, upd m_refused 0 (m_refused 0 + 1), ?_, ?_, ?_⟩
    · unfold C7_told C7_told_J9
      rw [if_pos h, rf_bad, bd4_in]
    · unfold M_told
      rw [in_lo h (by decide), bd1_in, if_pos rfl, mr_bad, bd2_in]
    · exact ⟨S, T, ak, tl, al, kn, nx, ⟨rfl, hg, hc, hs⟩, ⟨rfl, rfl, rfl, rfl, ht, hT⟩, ⟨rfl, rfl, hal, hak⟩, rx_bad hR, ⟨rfl, rfl, rfl, hW, hr⟩⟩
  · obtain ⟨q1, q2, q3⟩ := hi3 h (by decide)
    refine ⟨-2, c_bads + 1, c_noes, c_fulls, upd m_refused 0 (m_refused 0 + 1), ?_, ?_, ?_⟩
    · unfold C7_told C7_told_J9
      rw [if_neg q1, if_neg (show ¬ v1 ≤ 4 from q2), rf_bad, bd4_in]
    · unfold M_told
      rw [in_hi (show (4 : Int32) < v1 from q3), bd1_in, if_pos rfl, mr_bad, bd2_in]
    · exact ⟨S, T, ak, tl, al, kn, nx, ⟨rfl, hg, hc, hs⟩, ⟨rfl, rfl, rfl, rfl, ht, hT⟩, ⟨rfl, rfl, hal, hak⟩, rx_bad hR, ⟨rfl, rfl, rfl, hW, hr⟩⟩
  · have eM : M_in (nI c) 0 4 = some 1 := in_ok (nI_pos (by omega)) (show ¬ nI 4 < nI c from nI_nlt (by omega) (by omega))
    obtain ⟨x, e1, e2⟩ := told_n hR (nI tl) (nI kn) hc8
    refine ⟨x, c_bads, c_noes, c_fulls, m_refused, ?_, ?_, ?_⟩
    · unfold C7_told
      rw [ineg (by omega), show (4 : Int32) = nI 4 from rfl, il (by omega) (by decide), if_pos (by omega), e1, bd1_in]
    · unfold M_told
      rw [eM, bd1_in, if_neg (by decide), e2, bd1_in]
    · exact ⟨S, T, ak, tl, al, kn, nx, ⟨rfl, hg, hc, hs⟩, ⟨rfl, rfl, rfl, rfl, ht, hT⟩, ⟨rfl, rfl, hal, hak⟩, hR, ⟨rfl, rfl, rfl, hW, hr⟩⟩
theorem stp_back {a : Nat → Nat} {LW LS LK : List Nat} (hA : Ax a LS LK) : Stp_back a LW LS LK (II a LW) := by
  intro c_bytes c_heads c_firsts c_levelOf c_aboveOf c_partings c_signs c_count c_pages c_levels c_most c_page c_known c_guess c_diff c_pieces c_place c_bits c_words c_entries c_bads c_noes c_fulls c_length c_next c_kept c_base c_from c_to c_above c_bit c_lastLeft m_s m_past m_kept m_refused m_text m_asked m_heads m_forkBit m_forkFrom m_forkTo m_wayPage m_wayKnown m_wayGuess m_wayDiff m_wayRead m_wayPlace m_treeBit m_treeLeft m_treeRight m_treeAbove m_pileFrom m_pileTo m_pileAbove m_known m_typed m_askedLength m_entries m_forks m_guess m_diff m_read m_placeOf m_treeForks m_treeDeep hI
  obtain ⟨S, T, ak, tl, al, kn, nx, ⟨rfl, hg, hc, hs⟩, ⟨rfl, rfl, rfl, rfl, ht, hT⟩, ⟨rfl, rfl, hal, hak⟩, hR, ⟨rfl, rfl, rfl, hW, hr⟩⟩ := hI
  by_cases c : kn = 0
  · refine ⟨-3, c_heads, c_firsts, c_levelOf, c_aboveOf, c_partings, c_signs, c_count, c_pages, c_levels, c_most, c_bits, c_entries, c_bads, c_noes + 1, c_fulls, nI nx, nI kn, nf S, upd m_refused 1 (m_refused 1 + 1), nI kn, ?_, ?_, ?_⟩
    · unfold C7_back
      rw [c, if_pos (by decide), rf_no, bd4_in]
    · unfold M_back
      rw [c, if_pos (by decide), mr_no, bd2_in]
    · exact ⟨S, T, ak, tl, al, kn, nx, ⟨rfl, hg, hc, hs⟩, ⟨rfl, rfl, rfl, rfl, ht, hT⟩, ⟨rfl, rfl, hal, hak⟩, rx_no hR, ⟨rfl, rfl, rfl, hW, hr⟩⟩
  · obtain ⟨k, rfl⟩ : ∃ k, kn = k + 1 := ⟨kn - 1, by omega⟩
    have hk6 := hr.1
    obtain ⟨S', nx', cs', cc', cpg', clv', cm', cbits', ce', e1, e2, g1, g2, g3⟩ := restore_n hA hW hg hr m_refused
    obtain ⟨ch', cf', cl', ca', cp', e3, g4⟩ := settle_n g1.1 g2 c_heads c_firsts c_levelOf c_aboveOf c_partings
    refine ⟨nI k, ch', cf', cl', ca', cp', cs', cc', cpg', clv', cm', cbits', ce', c_bads, c_noes, c_fulls, nI nx', nI k, nf S', m_refused, nI k, ?_, ?_, ?_⟩
    · unfold C7_back
      rw [if_neg (nI_ne0 (by omega) (by omega)), e2, bd9_in, e3, bd5_in]
    · exact e1
    · exact ⟨S', T, ak, tl, al, k, nx', ⟨rfl, g1, g2, g4⟩, ⟨rfl, rfl, rfl, rfl, ht, hT⟩, ⟨rfl, rfl, hal, hak⟩, hR, ⟨rfl, rfl, rfl, hW, g3⟩⟩
theorem stp_anew {a : Nat → Nat} {LW LS LK : List Nat} (hA : Ax a LS LK) : Stp_anew a LW LS LK (II a LW) := by
  intro c_bytes c_heads c_firsts c_levelOf c_aboveOf c_partings c_signs c_count c_pages c_levels c_most c_page c_known c_guess c_diff c_pieces c_place c_bits c_words c_entries c_bads c_noes c_fulls c_length c_next c_kept c_base c_from c_to c_above c_bit c_lastLeft m_s m_past m_kept m_refused m_text m_asked m_heads m_forkBit m_forkFrom m_forkTo m_wayPage m_wayKnown m_wayGuess m_wayDiff m_wayRead m_wayPlace m_treeBit m_treeLeft m_treeRight m_treeAbove m_pileFrom m_pileTo m_pileAbove m_known m_typed m_askedLength m_entries m_forks m_guess m_diff m_read m_placeOf m_treeForks m_treeDeep hI
  obtain ⟨S, T, ak, tl, al, kn, nx, ⟨rfl, hg, hc, hs⟩, ⟨rfl, rfl, rfl, rfl, ht, hT⟩, ⟨rfl, rfl, hal, hak⟩, hR, ⟨rfl, rfl, rfl, hW, hr⟩⟩ := hI
  obtain ⟨mk, ek, hmk⟩ := aside_n (S := S) m_kept
  obtain ⟨kn', nx', mp', cs', cc', cpg', clv', cm', cbits', ce', e1, e2, g2, g3, g4, g5⟩ := keep_n hA hW hg hc hr hmk
  obtain ⟨S', q1, q2, q3⟩ := anew_n hg g2
  obtain ⟨ch', cf', cl', ca', cp', e3, q4⟩ := settle_n q1.1 q3 c_heads c_firsts c_levelOf c_aboveOf c_partings
  refine ⟨nI (S 0), ch', cf', cl', ca', cp', cs', va_up cc' (a 14) 0, va_up cpg' (a 14) 0, va_up clv' (a 14) 0, va_up cm' (a 14) 4, cbits', ce', nI nx', nI kn', nf S', mp', mk, nI kn', ?_, ?_, ?_⟩
  · unfold C7_anew C3_empty
    rw [e2, bd9_in, bd4_in, e3, bd5_in, hc.1]
  · unfold M_anew
    rw [ek, bd1_in, e1, bd2_in, q2]
    rfl
  · exact ⟨S', T, ak, tl, al, kn', nx', ⟨rfl, q1, q3, q4⟩, ⟨rfl, rfl, rfl, rfl, ht, hT⟩, ⟨rfl, rfl, hal, hak⟩, hR, ⟨rfl, rfl, rfl, hW, frm_p hA g3 (fun z hz => ⟨vu_n hz, vu_n hz, vu_n hz, vu_n hz, rfl⟩)⟩⟩
theorem stp_deals {a : Nat → Nat} {LW LS LK : List Nat} (hA : Ax a LS LK) : Stp_deals a LW LS LK (II a LW) := by
  intro c_bytes c_heads c_firsts c_levelOf c_aboveOf c_partings c_signs c_count c_pages c_levels c_most c_page c_known c_guess c_diff c_pieces c_place c_bits c_words c_entries c_bads c_noes c_fulls c_length c_next c_kept c_base c_from c_to c_above c_bit c_lastLeft m_s m_past m_kept m_refused m_text m_asked m_heads m_forkBit m_forkFrom m_forkTo m_wayPage m_wayKnown m_wayGuess m_wayDiff m_wayRead m_wayPlace m_treeBit m_treeLeft m_treeRight m_treeAbove m_pileFrom m_pileTo m_pileAbove m_known m_typed m_askedLength m_entries m_forks m_guess m_diff m_read m_placeOf m_treeForks m_treeDeep v1 hI
  obtain ⟨S, T, ak, tl, al, kn, nx, ⟨rfl, hg, hc, hs⟩, ⟨rfl, rfl, rfl, rfl, ht, hT⟩, ⟨rfl, rfl, hal, hak⟩, hR, ⟨rfl, rfl, rfl, hW, hr⟩⟩ := hI
  have h48 := gs48 hg
  rcases pk_ix v1 (n := 9) (by decide) with h | h | ⟨c, hc8, rfl⟩
  · refine ⟨-2, c_heads, c_firsts, c_levelOf, c_aboveOf, c_partings, c_signs, c_count, c_pages, c_levels, c_most, c_bits, c_entries, c_bads + 1, c_noes, c_fulls, nI nx, nI kn, nf S, m_past, m_kept, upd m_refused 0 (m_refused 0 + 1), nI kn, ?_, ?_, ?_⟩
    · unfold C7_deals C7_deals_J11
      rw [if_pos (show v1 < 4 from (lo3 (n := 4) h (by decide)).1), rf_bad, bd4_in]
    · unfold M_deals
      rw [in_lo h (by decide), bd1_in, if_pos rfl, mr_bad, bd2_in]
    · exact ⟨S, T, ak, tl, al, kn, nx, ⟨rfl, hg, hc, hs⟩, ⟨rfl, rfl, rfl, rfl, ht, hT⟩, ⟨rfl, rfl, hal, hak⟩, rx_bad hR, ⟨rfl, rfl, rfl, hW, hr⟩⟩
  · obtain ⟨q1, q2, q3⟩ := hi3 h (by decide)
    refine ⟨-2, c_heads, c_firsts, c_levelOf, c_aboveOf, c_partings, c_signs, c_count, c_pages, c_levels, c_most, c_bits, c_entries, c_bads + 1, c_noes, c_fulls, nI nx, nI kn, nf S, m_past, m_kept, upd m_refused 0 (m_refused 0 + 1), nI kn, ?_, ?_, ?_⟩
    · unfold C7_deals C7_deals_J11
      rw [if_neg (show ¬ v1 < 4 from (hi5 (m := 4) h (by decide) (by decide)).2.2.2.1), if_neg (show ¬ v1 ≤ 8 from q2), rf_bad, bd4_in]
    · unfold M_deals
      rw [in_hi (show (8 : Int32) < v1 from q3), bd1_in, if_pos rfl, mr_bad, bd2_in]
    · exact ⟨S, T, ak, tl, al, kn, nx, ⟨rfl, hg, hc, hs⟩, ⟨rfl, rfl, rfl, rfl, ht, hT⟩, ⟨rfl, rfl, hal, hak⟩, rx_bad hR, ⟨rfl, rfl, rfl, hW, hr⟩⟩
  · by_cases c4 : c < 4
    · refine ⟨-2, c_heads, c_firsts, c_levelOf, c_aboveOf, c_partings, c_signs, c_count, c_pages, c_levels, c_most, c_bits, c_entries, c_bads + 1, c_noes, c_fulls, nI nx, nI kn, nf S, m_past, m_kept, upd m_refused 0 (m_refused 0 + 1), nI kn, ?_, ?_, ?_⟩
      · unfold C7_deals C7_deals_J11
        rw [if_pos (show nI c < 4 from (show nI c < nI 4 from nI_lt c4 (by decide))), rf_bad, bd4_in]
      · unfold M_deals
        rw [show M_in (nI c) 4 8 = some 0 by unfold M_in; rw [if_pos (show nI c < 4 from (show nI c < nI 4 from nI_lt c4 (by decide)))], bd1_in, if_pos rfl, mr_bad, bd2_in]
      · exact ⟨S, T, ak, tl, al, kn, nx, ⟨rfl, hg, hc, hs⟩, ⟨rfl, rfl, rfl, rfl, ht, hT⟩, ⟨rfl, rfl, hal, hak⟩, rx_bad hR, ⟨rfl, rfl, rfl, hW, hr⟩⟩
    · have eM : M_in (nI c) 4 8 = some 1 := in_ok (show ¬ nI c < nI 4 from nI_nlt (by omega) (by omega)) (show ¬ nI 8 < nI c from nI_nlt (by omega) (by omega))
      obtain ⟨mk, ek, hmk⟩ := aside_n (S := S) m_kept
      obtain ⟨kn', nx', mp', cs', cc', cpg', clv', cm', cbits', ce', e1, e2, g2, g3, g4, g5⟩ := keep_n hA hW hg hc hr hmk
      obtain ⟨S', cpg2, clv2, cm2, ce2, q1, q2, q3, q4, q5, q6⟩ := deal_n hg g2 (m := c) (by omega) (by omega) m_past mk m_refused (nI kn) (nI c) (fun m_s m_past m_kept m_refused m_known => bd2 (M_keeps m_kept m_past m_known) fun m_past_93 m_known_93 => bd1 (M_manyPages m_s) fun r97 => some (r97, m_s, m_past_93, m_kept, m_refused, m_known_93))
      obtain ⟨ch', cf', cl', ca', cp', e3, q7⟩ := settle_n q1.1 q5 c_heads c_firsts c_levelOf c_aboveOf c_partings
      refine ⟨nI (tot S'), ch', cf', cl', ca', cp', cs', cc', cpg2, clv2, cm2, cbits', ce2, c_bads, c_noes, c_fulls, nI nx', nI kn', nf S', mp', mk, m_refused, nI kn', ?_, ?_, ?_⟩
      · unfold C7_deals
        rw [if_neg (show ¬ nI c < 4 from (show ¬ nI c < nI 4 from nI_nlt (by omega) (by omega))), if_pos (show nI c ≤ 8 from (show nI c ≤ nI 8 from nI_le (by omega) (by decide))), e2, bd9_in, q4, bd4_in, e3, bd5_in, q5.2.1]
      · have ez : (upd (upd (nf S) 1 (nI c)) 2 0) 0 = nI (S 0) := by rw [upd_n (by decide), upd_n (by decide)]; rfl
        unfold M_deals
        rw [eM, bd1_in, if_neg (by decide), ek, bd1_in, ez]
        have ek2 : bd2 (M_keeps mk m_past (nI kn)) (fun m_past_93 m_known_93 => bd1 (M_manyPages (nf S')) fun r97 => some (r97, nf S', m_past_93, mk, m_refused, m_known_93)) = some (nI (tot S'), nf S', mp', mk, m_refused, nI kn') := by
          rw [e1, bd2_in, manyPages_n q1.1.1.1.1, bd1_in]
        by_cases cz : 0 < S 0
        · rw [if_neg (nI_nle cz (by omega))]
          rw [if_pos cz] at q3
          exact q3.trans ek2
        · rw [if_pos (show nI (S 0) ≤ 0 by rw [show S 0 = 0 by omega]; decide)]
          rw [if_neg cz] at q3
          exact q3.trans ek2
      · exact ⟨S', T, ak, tl, al, kn', nx', ⟨rfl, q1, q5, q7⟩, ⟨rfl, rfl, rfl, rfl, ht, hT⟩, ⟨rfl, rfl, hal, hak⟩, hR, ⟨rfl, rfl, rfl, hW, frm_p hA g3 (fun z hz => ⟨rfl, (q6 z hz).1, (q6 z hz).2.1, (q6 z hz).2.2.1, (q6 z hz).2.2.2⟩)⟩⟩
theorem stp_sign {a : Nat → Nat} {LW LS LK : List Nat} (hA : Ax a LS LK) : Stp_sign a LW LS LK (II a LW) := by
  intro c_bytes c_heads c_firsts c_levelOf c_aboveOf c_partings c_signs c_count c_pages c_levels c_most c_page c_known c_guess c_diff c_pieces c_place c_bits c_words c_entries c_bads c_noes c_fulls c_length c_next c_kept c_base c_from c_to c_above c_bit c_lastLeft m_s m_past m_kept m_refused m_text m_asked m_heads m_forkBit m_forkFrom m_forkTo m_wayPage m_wayKnown m_wayGuess m_wayDiff m_wayRead m_wayPlace m_treeBit m_treeLeft m_treeRight m_treeAbove m_pileFrom m_pileTo m_pileAbove m_known m_typed m_askedLength m_entries m_forks m_guess m_diff m_read m_placeOf m_treeForks m_treeDeep v1 v2 hI
  obtain ⟨S, T, ak, tl, al, kn, nx, ⟨rfl, hg, hc, hs⟩, ⟨rfl, rfl, rfl, rfl, ht, hT⟩, ⟨rfl, rfl, hal, hak⟩, hR, ⟨rfl, rfl, rfl, hW, hr⟩⟩ := hI
  have h48 := gs48 hg
  have hcc := hc.1
  rcases pk_ix v1 (n := S 0) (by omega) with h | h | ⟨k, hk, rfl⟩
  · refine ⟨-2, c_bads + 1, c_noes, c_fulls, upd m_refused 0 (m_refused 0 + 1), ?_, ?_, ?_⟩
    · unfold C7_sign C7_sign_J22
      rw [if_pos h, rf_bad, bd4_in]
    · unfold M_sign M_sign_J12
      rw [idx_no h48 (Or.inl h), bd1_in, if_pos rfl, mr_bad, bd2_in]
    · exact ⟨S, T, ak, tl, al, kn, nx, ⟨rfl, hg, hc, hs⟩, ⟨rfl, rfl, rfl, rfl, ht, hT⟩, ⟨rfl, rfl, hal, hak⟩, rx_bad hR, ⟨rfl, rfl, rfl, hW, hr⟩⟩
  · have q1 : ¬ v1 < 0 := fun q => absurd h (lo3 (n := S 0) q (by omega)).2.1
    refine ⟨-2, c_bads + 1, c_noes, c_fulls, upd m_refused 0 (m_refused 0 + 1), ?_, ?_, ?_⟩
    · unfold C7_sign C7_sign_J22
      rw [if_neg q1, hcc, if_pos h, rf_bad, bd4_in]
    · unfold M_sign M_sign_J12
      rw [idx_no h48 (Or.inr h), bd1_in, if_pos rfl, mr_bad, bd2_in]
    · exact ⟨S, T, ak, tl, al, kn, nx, ⟨rfl, hg, hc, hs⟩, ⟨rfl, rfl, rfl, rfl, ht, hT⟩, ⟨rfl, rfl, hal, hak⟩, rx_bad hR, ⟨rfl, rfl, rfl, hW, hr⟩⟩
  · by_cases c2 : v2 < 0
    · have c3 : ¬ 0 ≤ v2 := fun q => by rw [Int32.lt_iff_toInt_lt] at c2; rw [Int32.le_iff_toInt_le] at q; omega
      refine ⟨-2, c_bads + 1, c_noes, c_fulls, upd m_refused 0 (m_refused 0 + 1), ?_, ?_, ?_⟩
      · unfold C7_sign C7_sign_J22
        rw [ineg (by omega), hcc, if_neg (nI_ge hk (by omega)), if_neg c3, rf_bad, bd4_in]
      · unfold M_sign M_sign_J12
        rw [idx_yes h48 hk, bd1_in, if_neg (by decide), if_neg c3, mr_bad, bd2_in]
      · exact ⟨S, T, ak, tl, al, kn, nx, ⟨rfl, hg, hc, hs⟩, ⟨rfl, rfl, rfl, rfl, ht, hT⟩, ⟨rfl, rfl, hal, hak⟩, rx_bad hR, ⟨rfl, rfl, rfl, hW, hr⟩⟩
    · obtain ⟨i, hi, rfl⟩ := nI_of c2
      have c3 : (0 : Int32) ≤ nI i := nI_pos' hi
      obtain ⟨w1, w2⟩ := hc.2.2.2.2.2.2.2 k hk
      have hwk := hg.1.1.2.2.2.2.1 k hk
      have eL : M_lengthOf (nf S) (nI al) (nI k) = some (nI (S (350 + k))) := by rw [lengthOf_n (by omega)]; unfold mlen; rw [if_neg (by omega)]
      have hm := hc.2.2.2.2.2.1 k (by omega)
      by_cases c4 : S (350 + k) ≤ i
      · refine ⟨-1, c_bads, c_noes, c_fulls, m_refused, ?_, ?_, ?_⟩
        · unfold C7_sign
          rw [ineg (by omega), hcc, if_neg (nI_ge hk (by omega)), if_pos c3, wordAt_n (by omega) hm, bd1_in, gm_in hm, w1, il (by omega) hi, if_pos c4]
        · unfold M_sign
          rw [idx_yes h48 hk, bd1_in, if_neg (by decide), if_pos c3, eL, bd1_in, il (by omega) hi, if_pos c4]
        · exact ⟨S, T, ak, tl, al, kn, nx, ⟨rfl, hg, hc, hs⟩, ⟨rfl, rfl, rfl, rfl, ht, hT⟩, ⟨rfl, rfl, hal, hak⟩, hR, ⟨rfl, rfl, rfl, hW, hr⟩⟩
      · have eS : M_signOf (nf S) (nf ak) (nI k) (nI i) = some (nI (S (400 + 24 * k + i))) := by rw [signOf_n (by omega) (by omega)]; unfold msg; rw [if_neg (by omega)]
        refine ⟨nI (S (400 + 24 * k + i)), c_bads, c_noes, c_fulls, m_refused, ?_, ?_, ?_⟩
        · unfold C7_sign
          rw [ineg (by omega), hcc, if_neg (nI_ge hk (by omega)), if_pos c3, wordAt_n (by omega) hm, bd1_in, gm_in hm, w1, il (by omega) hi, if_neg c4, signAt_n (len := S (350 + k)) (s := fun i => S (400 + 24 * k + i)) hwk.2.1 (by omega) (hwk.2.2 i (by omega)) w2, bd1_in]
        · unfold M_sign
          rw [idx_yes h48 hk, bd1_in, if_neg (by decide), if_pos c3, eL, bd1_in, il (by omega) hi, if_neg c4, eS, bd1_in]
        · exact ⟨S, T, ak, tl, al, kn, nx, ⟨rfl, hg, hc, hs⟩, ⟨rfl, rfl, rfl, rfl, ht, hT⟩, ⟨rfl, rfl, hal, hak⟩, hR, ⟨rfl, rfl, rfl, hW, hr⟩⟩
theorem stp_parts {a : Nat → Nat} {LW LS LK : List Nat} (hA : Ax a LS LK) : Stp_parts a LW LS LK (II a LW) := by
  intro c_bytes c_heads c_firsts c_levelOf c_aboveOf c_partings c_signs c_count c_pages c_levels c_most c_page c_known c_guess c_diff c_pieces c_place c_bits c_words c_entries c_bads c_noes c_fulls c_length c_next c_kept c_base c_from c_to c_above c_bit c_lastLeft m_s m_past m_kept m_refused m_text m_asked m_heads m_forkBit m_forkFrom m_forkTo m_wayPage m_wayKnown m_wayGuess m_wayDiff m_wayRead m_wayPlace m_treeBit m_treeLeft m_treeRight m_treeAbove m_pileFrom m_pileTo m_pileAbove m_known m_typed m_askedLength m_entries m_forks m_guess m_diff m_read m_placeOf m_treeForks m_treeDeep v1 hI
  obtain ⟨S, T, ak, tl, al, kn, nx, ⟨rfl, hg, hc, hs⟩, ⟨rfl, rfl, rfl, rfl, ht, hT⟩, ⟨rfl, rfl, hal, hak⟩, hR, ⟨rfl, rfl, rfl, hW, hr⟩⟩ := hI
  have h48 := gs48 hg
  have hcc := hc.1
  rcases pk_ix v1 (n := S 0) (by omega) with h | h | ⟨k, hk, rfl⟩
  · refine ⟨-2, c_bads + 1, c_noes, c_fulls, upd m_refused 0 (m_refused 0 + 1), ?_, ?_, ?_⟩
    · unfold C7_parts C7_parts_J20
      rw [if_pos h, rf_bad, bd4_in]
    · unfold M_parts M_parts_J31
      rw [idx_no h48 (Or.inl h), bd1_in, if_pos rfl, mr_bad, bd2_in]
    · exact ⟨S, T, ak, tl, al, kn, nx, ⟨rfl, hg, hc, hs⟩, ⟨rfl, rfl, rfl, rfl, ht, hT⟩, ⟨rfl, rfl, hal, hak⟩, rx_bad hR, ⟨rfl, rfl, rfl, hW, hr⟩⟩
  · have q1 : ¬ v1 < 0 := fun q => absurd h (lo3 (n := S 0) q (by omega)).2.1
    have q2 : ¬ v1 < nI (S 0) - 1 := by
      have e1 : (nI (S 0) - nI 1).toInt = ((S 0 : Nat) : Int) - (1 : Nat) := pk_sub_toInt (by omega) (by decide)
      have e2 := nI_toInt (n := S 0) (by omega)
      rw [Int32.le_iff_toInt_le] at h
      rw [Int32.lt_iff_toInt_lt]
      show ¬ _ < (nI (S 0) - nI 1).toInt
      omega
    refine ⟨-2, c_bads + 1, c_noes, c_fulls, upd m_refused 0 (m_refused 0 + 1), ?_, ?_, ?_⟩
    · unfold C7_parts C7_parts_J20
      rw [if_neg q1, hcc, if_neg q2, rf_bad, bd4_in]
    · unfold M_parts M_parts_J31
      rw [idx_no h48 (Or.inr h), bd1_in, if_pos rfl, mr_bad, bd2_in]
    · exact ⟨S, T, ak, tl, al, kn, nx, ⟨rfl, hg, hc, hs⟩, ⟨rfl, rfl, rfl, rfl, ht, hT⟩, ⟨rfl, rfl, hal, hak⟩, rx_bad hR, ⟨rfl, rfl, rfl, hW, hr⟩⟩
  · have e1 : nI (S 0) - 1 = nI (S 0 - 1) := pk_sub (b := 1) (by omega)
    have e0 : nf S 0 - 1 = nI (S 0 - 1) := e1
    by_cases c2 : k + 1 < S 0
    · have hm := hc.2.2.2.2.2.1 k (by omega)
      have hm2 := hc.2.2.2.2.2.1 (k + 1) (by omega)
      have ed : fd (cb (c_bits (c_words (a 14) k))) (cb (c_bits (c_words (a 14) (k + 1)))) = fd (mbit S ak al k) (mbit S ak al (k + 1)) := by
        rw [mbit_wb (by omega), mbit_wb (by omega)]
        exact fd_congr (hc.2.2.2.2.2.2.2 k hk).2 (hc.2.2.2.2.2.2.2 (k + 1) c2).2
      refine ⟨enc (fd (mbit S ak al k) (mbit S ak al (k + 1))), c_bads, c_noes, c_fulls, m_refused, ?_, ?_, ?_⟩
      · unfold C7_parts
        rw [ineg (by omega), hcc, e1, ilt (by omega) (by omega), if_pos (by omega), wordAt_n (by omega) hm, bd1_in, gm_in hm, nI_p1, wordAt_n (by omega) hm2, bd1_in, gm_in hm2, parting_c, bd1_in, ed]
      · unfold M_parts
        rw [idx_yes h48 hk, bd1_in, if_neg (by decide), e0, il (by omega) (by omega), if_neg (by omega), nI_p1, differ_n (wok_w hg.1.1 hk).1 (wok_w hg.1.1 c2).1, bd1_in]
      · exact ⟨S, T, ak, tl, al, kn, nx, ⟨rfl, hg, hc, hs⟩, ⟨rfl, rfl, rfl, rfl, ht, hT⟩, ⟨rfl, rfl, hal, hak⟩, hR, ⟨rfl, rfl, rfl, hW, hr⟩⟩
    · refine ⟨-2, c_bads + 1, c_noes, c_fulls, upd m_refused 0 (m_refused 0 + 1), ?_, ?_, ?_⟩
      · unfold C7_parts C7_parts_J20
        rw [ineg (by omega), hcc, e1, ilt (by omega) (by omega), if_neg (by omega), rf_bad, bd4_in]
      · unfold M_parts M_parts_J31
        rw [idx_yes h48 hk, bd1_in, if_neg (by decide), e0, il (by omega) (by omega), if_pos (by omega), mr_bad, bd2_in]
      · exact ⟨S, T, ak, tl, al, kn, nx, ⟨rfl, hg, hc, hs⟩, ⟨rfl, rfl, rfl, rfl, ht, hT⟩, ⟨rfl, rfl, hal, hak⟩, rx_bad hR, ⟨rfl, rfl, rfl, hW, hr⟩⟩
