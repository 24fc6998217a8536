theorem fa_eq (a b : Int32) : a = b ↔ a.toInt = b.toInt := Int32.toInt_inj.symm
def WM (a : Nat → Nat) (cI : ClassId) (m_s m_past m_kept m_refused m_text m_asked m_heads m_forkBit m_forkFrom m_forkTo m_wayPage m_wayKnown m_wayGuess m_wayDiff m_wayRead m_wayPlace m_treeBit m_treeLeft m_treeRight m_treeAbove m_pileFrom m_pileTo m_pileAbove : Nat → Int32) (m_known m_typed m_askedLength m_entries m_forks m_guess m_diff m_read m_placeOf m_treeForks m_treeDeep : Int32) : va_W := [(a 0, .inr (8, [.ref (a 1), .ref (a 2), .ref (a 3), .int m_known, .ref (a 4), .ref (a 5), .int m_typed, .ref (a 6), .int m_askedLength, .ref (a 7), .int m_entries, .ref (a 8), .ref (a 9), .ref (a 10), .int m_forks, .int m_guess, .int m_diff, .int m_read, .int m_placeOf, .ref (a 11), .ref (a 12), .ref (a 13), .ref (a 14), .ref (a 15), .ref (a 16), .ref (a 17), .ref (a 18), .ref (a 19), .ref (a 20), .int m_treeForks, .int m_treeDeep, .ref (a 21), .ref (a 22), .ref (a 23)])), (a 1, .inl (cI, 1552, .inl m_s)), (a 2, .inl (cI, 9312, .inl m_past)), (a 3, .inl (cI, 1552, .inl m_kept)), (a 4, .inl (cI, 3, .inl m_refused)), (a 5, .inl (cI, 120, .inl m_text)), (a 6, .inl (cI, 24, .inl m_asked)), (a 7, .inl (cI, 10, .inl m_heads)), (a 8, .inl (cI, 10, .inl m_forkBit)), (a 9, .inl (cI, 10, .inl m_forkFrom)), (a 10, .inl (cI, 10, .inl m_forkTo)), (a 11, .inl (cI, 8, .inl m_wayPage)), (a 12, .inl (cI, 8, .inl m_wayKnown)), (a 13, .inl (cI, 8, .inl m_wayGuess)), (a 14, .inl (cI, 8, .inl m_wayDiff)), (a 15, .inl (cI, 8, .inl m_wayRead)), (a 16, .inl (cI, 8, .inl m_wayPlace)), (a 17, .inl (cI, 10, .inl m_treeBit)), (a 18, .inl (cI, 10, .inl m_treeLeft)), (a 19, .inl (cI, 10, .inl m_treeRight)), (a 20, .inl (cI, 10, .inl m_treeAbove)), (a 21, .inl (cI, 24, .inl m_pileFrom)), (a 22, .inl (cI, 24, .inl m_pileTo)), (a 23, .inl (cI, 24, .inl m_pileAbove))]
abbrev WM0 (a : Nat → Nat) (cI : ClassId) : va_W := WM a cI (fun _ => 0) (fun _ => 0) (fun _ => 0) (fun _ => 0) (fun _ => 0) (fun _ => 0) (fun _ => 0) (fun _ => 0) (fun _ => 0) (fun _ => 0) (fun _ => 0) (fun _ => 0) (fun _ => 0) (fun _ => 0) (fun _ => 0) (fun _ => 0) (fun _ => 0) (fun _ => 0) (fun _ => 0) (fun _ => 0) (fun _ => 0) (fun _ => 0) (fun _ => 0) 0 0 0 0 0 0 0 0 0 0 0
theorem sw_out0_5 {x : Int32} (h0 : ¬ x = 0) (h1 : ¬ x = 1) (h2 : ¬ x = 2) (h3 : ¬ x = 3) (h4 : ¬ x = 4) (h5 : ¬ x = 5) : x.toInt < 0 ∨ 5 < x.toInt := by
  have h := fun (n : Int32) (e : x.toInt = n.toInt) => (fa_eq x n).mpr e
  rcases Int.lt_or_le x.toInt 0 with q | q
  · exact Or.inl q
  · rcases Int.lt_or_le 5 x.toInt with q2 | q2
    · exact Or.inr q2
    · exfalso
      rcases (show x.toInt = 0 ∨ x.toInt = 1 ∨ x.toInt = 2 ∨ x.toInt = 3 ∨ x.toInt = 4 ∨ x.toInt = 5 by omega) with e | e | e | e | e | e
      · exact h0 (h 0 e)
      · exact h1 (h 1 e)
      · exact h2 (h 2 e)
      · exact h3 (h 3 e)
      · exact h4 (h 4 e)
      · exact h5 (h 5 e)
theorem sw_out0_6 {x : Int32} (h0 : ¬ x = 0) (h1 : ¬ x = 1) (h2 : ¬ x = 2) (h3 : ¬ x = 3) (h4 : ¬ x = 4) (h5 : ¬ x = 5) (h6 : ¬ x = 6) : x.toInt < 0 ∨ 6 < x.toInt := by
  have h := fun (n : Int32) (e : x.toInt = n.toInt) => (fa_eq x n).mpr e
  rcases Int.lt_or_le x.toInt 0 with q | q
  · exact Or.inl q
  · rcases Int.lt_or_le 6 x.toInt with q2 | q2
    · exact Or.inr q2
    · exfalso
      rcases (show x.toInt = 0 ∨ x.toInt = 1 ∨ x.toInt = 2 ∨ x.toInt = 3 ∨ x.toInt = 4 ∨ x.toInt = 5 ∨ x.toInt = 6 by omega) with e | e | e | e | e | e | e
      · exact h0 (h 0 e)
      · exact h1 (h 1 e)
      · exact h2 (h 2 e)
      · exact h3 (h 3 e)
      · exact h4 (h 4 e)
      · exact h5 (h 5 e)
      · exact h6 (h 6 e)
theorem sw_out0_4 {x : Int32} (h0 : ¬ x = 0) (h1 : ¬ x = 1) (h2 : ¬ x = 2) (h3 : ¬ x = 3) (h4 : ¬ x = 4) : x.toInt < 0 ∨ 4 < x.toInt := by
  have h := fun (n : Int32) (e : x.toInt = n.toInt) => (fa_eq x n).mpr e
  rcases Int.lt_or_le x.toInt 0 with q | q
  · exact Or.inl q
  · rcases Int.lt_or_le 4 x.toInt with q2 | q2
    · exact Or.inr q2
    · exfalso
      rcases (show x.toInt = 0 ∨ x.toInt = 1 ∨ x.toInt = 2 ∨ x.toInt = 3 ∨ x.toInt = 4 by omega) with e | e | e | e | e
      · exact h0 (h 0 e)
      · exact h1 (h 1 e)
      · exact h2 (h 2 e)
      · exact h3 (h 3 e)
      · exact h4 (h 4 e)
theorem sw_out0_2 {x : Int32} (h0 : ¬ x = 0) (h1 : ¬ x = 1) (h2 : ¬ x = 2) : x.toInt < 0 ∨ 2 < x.toInt := by
  have h := fun (n : Int32) (e : x.toInt = n.toInt) => (fa_eq x n).mpr e
  rcases Int.lt_or_le x.toInt 0 with q | q
  · exact Or.inl q
  · rcases Int.lt_or_le 2 x.toInt with q2 | q2
    · exact Or.inr q2
    · exfalso
      rcases (show x.toInt = 0 ∨ x.toInt = 1 ∨ x.toInt = 2 by omega) with e | e | e
      · exact h0 (h 0 e)
      · exact h1 (h 1 e)
      · exact h2 (h 2 e)
theorem sw_out0_3 {x : Int32} (h0 : ¬ x = 0) (h1 : ¬ x = 1) (h2 : ¬ x = 2) (h3 : ¬ x = 3) : x.toInt < 0 ∨ 3 < x.toInt := by
  have h := fun (n : Int32) (e : x.toInt = n.toInt) => (fa_eq x n).mpr e
  rcases Int.lt_or_le x.toInt 0 with q | q
  · exact Or.inl q
  · rcases Int.lt_or_le 3 x.toInt with q2 | q2
    · exact Or.inr q2
    · exfalso
      rcases (show x.toInt = 0 ∨ x.toInt = 1 ∨ x.toInt = 2 ∨ x.toInt = 3 by omega) with e | e | e | e
      · exact h0 (h 0 e)
      · exact h1 (h 1 e)
      · exact h2 (h 2 e)
      · exact h3 (h 3 e)
