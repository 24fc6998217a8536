/-! the class finds anew what depends on its state -/
section
variable {S : Nat → Nat} {E : Nat → Nat}
/-- the flat row of sizes, from the top down -/
def Flat (S E : Nat → Nat) : Prop := ∀ v, v < S 2 → ∀ p, p < S (3 + v) → E (off S v + p) = S (12 + 48 * v + p)
theorem sumN_add (f : Nat → Nat) (m : Nat) : ∀ n, sumN f (m + n) = sumN f m + sumN (fun k => f (m + k)) n
  | 0 => rfl
  | n + 1 => by
    rw [← Nat.add_assoc, sumN, sumN_add f m n, sumN]
    omega
theorem nd_off {v : Nat} (hv : v < S 2) : nd S v 0 = S (3 + v) + off S v := by
  unfold nd
  by_cases h0 : v = 0
  · rw [if_pos h0, tot_off (by omega), h0]
    rfl
  · rw [if_neg h0]
    have ho := off_step (S := S) (v := v - 1) (by omega)
    rw [show 4 + (v - 1) = 3 + v by omega, show v - 1 + 1 = v by omega] at ho
    omega
theorem nd_add (S : Nat → Nat) (v e f : Nat) : nd S v (e + f) = nd S v e + f := by
  unfold nd
  split <;> omega
theorem flat_s (h : WF S) (hE : Flat S E) : ∀ (d v : Nat), v + d + 1 = S 2 → ∀ p, p ≤ S (3 + v) → 1 + sumN E (off S v + p) = nd S v (ent S v p) := by
  have lift : ∀ v, v < S 2 → 1 + sumN E (off S v) = nd S v 0 → ∀ p, p ≤ S (3 + v) → 1 + sumN E (off S v + p) = nd S v (ent S v p) := by
    intro v hv h0 p hp
    rw [sumN_add, sumN_congr (g := fun k => S (12 + 48 * v + k)) (fun k hk => hE v hv k (by omega))]
    have : nd S v (ent S v p) = nd S v 0 + ent S v p := by rw [← nd_add, Nat.zero_add]
    rw [this, ← h0]
    show _ = _ + sumN (fun k => S (12 + 48 * v + k)) p
    omega
  intro d
  induction d with
  | zero =>
    intro v hv
    refine lift v (by omega) ?_
    rw [off_top (by omega), nd_off (by omega), off_top (by omega)]
    have := h.2.2.2.1 (by omega)
    rw [show S 2 - 1 = v by omega] at this
    rw [this]
    rfl
  | succ d ih =>
    intro v hv
    have i1 := ih (v + 1) (by omega) (S (3 + (v + 1))) (Nat.le_refl _)
    refine lift v (by omega) ?_
    have ho := off_step (S := S) (v := v) (by omega)
    rw [show off S v = off S (v + 1) + S (3 + (v + 1)) by rw [ho, show 4 + v = 3 + (v + 1) by omega]; omega, i1, (h.1.2.2 (v + 1) (by omega)).2, nd_off (by omega)]
    unfold nd bel
    rw [if_neg (by omega), if_neg (by omega)]
    show off S v + S (3 + v) = _
    rw [ho, show 4 + v = 3 + (v + 1) by omega]
    omega
theorem flat_all (h : WF S) (hE : Flat S E) (h0 : 0 < S 2) : 1 + sumN E (tot S) = tot S + S 0 := by
  have := flat_s h hE (S 2 - 1) 0 (by omega) (S (3 + 0)) (Nat.le_refl _)
  rw [show off S 0 + S (3 + 0) = tot S by rw [tot_off (by omega)]; show _ = S 3 + off S 0; have : S (3 + 0) = S 3 := rfl; omega] at this
  rw [this, (h.1.2.2 0 h0).2]
  rfl
/-- each page number is that of a page of a level -/
theorem page_of (h : WF S) {q : Nat} (hq : q < tot S) : ∃ v p, v < S 2 ∧ p < S (3 + v) ∧ q = off S v + p := by
  have h0 : 0 < S 2 := by
    rcases Nat.eq_zero_or_pos (S 2) with z | z
    · unfold tot at hq
      rw [z] at hq
      exact absurd hq (Nat.not_lt_zero q)
    · exact z
  have key : ∀ (d v : Nat), v + d + 1 = S 2 → q < off S v + S (3 + v) → ∃ v p, v < S 2 ∧ p < S (3 + v) ∧ q = off S v + p := by
    intro d
    induction d with
    | zero =>
      intro v hv hlt
      rw [off_top (by omega)] at hlt
      exact ⟨v, q, by omega, by omega, by rw [off_top (by omega)]; omega⟩
    | succ d ih =>
      intro v hv hlt
      rcases Nat.lt_or_ge q (off S v) with z | z
      · have ho := off_step (S := S) (v := v) (by omega)
        rw [show 4 + v = 3 + (v + 1) by omega] at ho
        exact ih (v + 1) (by omega) (by omega)
      · exact ⟨v, q - off S v, by omega, by omega, by omega⟩
  refine key (S 2 - 1) 0 (by omega) ?_
  rw [tot_off h0] at hq
  have : S (3 + 0) = S 3 := rfl
  omega
end
section
variable {a : Nat → Nat} {LW : List Nat} {cc cpg cs : Nat → Int32} {cbits : Nat → Nat → Int64} {cw : Nat → Nat → Nat} {ce : Nat → Nat → Int32} {P : Nat} {E : Nat → Nat}
theorem settleE_L49 (hpg : cpg (a 14) = nI P) (hP : P ≤ 48) {q y : Nat} (hy : y ≤ 100) (hq : q < 2 ^ 31) (cf : Nat → Int32) (k : (Nat → Int32) → (Nat → Int32) → Int32 → Int32 → Option ((Nat → Int32) × (Nat → Int32))) : ∀ (d x n : Nat) (ca : Nat → Int32), x + d = y → d < n → ∃ ca', C0_settleEntries_L49 a cpg ce k n cf ca (nI x) (nI q) (nI y) = k cf ca' (nI y) (nI q) ∧ (∀ j, x ≤ j → j < y → 0 < j → j < P → ca' j = nI q) ∧ ∀ j, j < x ∨ y ≤ j ∨ j = 0 → ca' j = ca j := by
  intro d
  induction d with
  | zero =>
    intro x n ca hx hn
    obtain ⟨n, rfl⟩ : ∃ m, n = m + 1 := ⟨n - 1, by omega⟩
    refine ⟨ca, ?_, fun j h1 h2 => absurd h2 (by omega), fun _ _ => rfl⟩
    rw [C0_settleEntries_L49, il (by omega) (by omega), if_pos (by omega), show x = y by omega]
  | succ d ih =>
    intro x n ca hx hn
    obtain ⟨n, rfl⟩ : ∃ m, n = m + 1 := ⟨n - 1, by omega⟩
    rw [C0_settleEntries_L49, il (by omega) (by omega), if_neg (by omega), hpg, il (by omega) (by omega)]
    show ∃ ca', (if P ≤ x then C0_settleEntries_L49 a cpg ce k n cf ca (nI x + nI 1) (nI q) (nI y) else (if nI x ≤ nI 0 then C0_settleEntries_L49 a cpg ce k n cf ca (nI x + nI 1) (nI q) (nI y) else (if nI 48 ≤ nI x then C0_settleEntries_L49 a cpg ce k n cf ca (nI x + nI 1) (nI q) (nI y) else ga (nI x) 48 (C0_settleEntries_L49 a cpg ce k n cf (upd ca (nI x).toNatClampNeg (nI q)) (nI x + nI 1) (nI q) (nI y))))) = _ ∧ _
    rw [nI_add, il (by omega) (by decide), il (by decide) (by omega)]
    by_cases h1 : P ≤ x
    · obtain ⟨ca', e, p1, p2⟩ := ih (x + 1) n ca (by omega) (by omega)
      rw [if_pos h1]
      exact ⟨ca', e, fun j q1 q2 q3 q4 => p1 j (by omega) q2 q3 q4, fun j hj => p2 j (by omega)⟩
    · rw [if_neg h1]
      by_cases h2 : x ≤ 0
      · obtain ⟨ca', e, p1, p2⟩ := ih (x + 1) n ca (by omega) (by omega)
        rw [if_pos h2]
        exact ⟨ca', e, fun j q1 q2 q3 q4 => p1 j (by omega) q2 q3 q4, fun j hj => p2 j (by omega)⟩
      · rw [if_neg h2, if_neg (by omega), ga_n (by omega) (by decide), nI_clamp (by omega)]
        obtain ⟨ca', e, p1, p2⟩ := ih (x + 1) n (upd ca x (nI q)) (by omega) (by omega)
        refine ⟨ca', e, fun j q1 q2 q3 q4 => ?_, fun j hj => ?_⟩
        · by_cases z : j = x
          · rw [p2 j (by omega), z, upd_s]
          · exact p1 j (by omega) q2 q3 q4
        · rw [p2 j (by omega), upd_n (by omega)]
theorem settleE_n (hpg : cpg (a 14) = nI P) (hP : P ≤ 48) (hE : ∀ q, q < P → ce (a 14) q = nI (E q)) (hsum : 1 + sumN E P ≤ 100) (cf ca : Nat → Int32) : ∃ cf' ca', C0_settleEntries a cpg ce cf ca = some (cf', ca') ∧ (∀ q, q < P → cf' q = nI (1 + sumN E q)) ∧ ca' 0 = -1 ∧ ∀ q, q < P → ∀ j, 1 + sumN E q ≤ j → j < 1 + sumN E (q + 1) → j < P → ca' j = nI q := by
  unfold C0_settleEntries
  have key : ∀ (d q n : Nat) (cf ca : Nat → Int32), q + d = P → d < n → (∀ r, r < q → cf r = nI (1 + sumN E r)) → ca 0 = -1 → (∀ r, r < q → ∀ j, 1 + sumN E r ≤ j → j < 1 + sumN E (r + 1) → j < P → ca j = nI r) → ∃ cf' ca', C0_settleEntries_L11 a cpg ce (fun c_firsts c_aboveOf => some (c_firsts, c_aboveOf)) n cf ca (nI (1 + sumN E q)) (nI q) = some (cf', ca') ∧ (∀ q, q < P → cf' q = nI (1 + sumN E q)) ∧ ca' 0 = -1 ∧ ∀ q, q < P → ∀ j, 1 + sumN E q ≤ j → j < 1 + sumN E (q + 1) → j < P → ca' j = nI q := by
    intro d
    induction d with
    | zero =>
      intro q n cf ca hq hn h1 h2 h3
      obtain ⟨n, rfl⟩ : ∃ m, n = m + 1 := ⟨n - 1, by omega⟩
      have hqp : q = P := by omega
      subst hqp
      refine ⟨cf, ca, ?_, h1, h2, h3⟩
      rw [C0_settleEntries_L11, hpg, il (by omega) (by omega), if_pos (Nat.le_refl _)]
    | succ d ih =>
      intro q n cf ca hq hn h1 h2 h3
      obtain ⟨n, rfl⟩ : ∃ m, n = m + 1 := ⟨n - 1, by omega⟩
      have hmono : sumN E (q + 1) ≤ sumN E P := sumN_mono (by omega)
      have hse : sumN E (q + 1) = sumN E q + E q := rfl
      rw [C0_settleEntries_L11, hpg, il (by omega) (by omega), if_neg (by omega)]
      show ∃ cf' ca', (if nI 48 ≤ nI q then _ else ga (nI q) 48 (bd1 (C3_entriesOf cpg ce (a 14) (nI q)) fun r44 => C0_settleEntries_L49 a cpg ce (fun c_firsts c_aboveOf v1 v2 => C0_settleEntries_L11 a cpg ce _ n c_firsts c_aboveOf v1 (v2 + nI 1)) FU (upd cf (nI q).toNatClampNeg (nI (1 + sumN E q))) ca (nI (1 + sumN E q)) (nI q) (nI (1 + sumN E q) + r44))) = _ ∧ _
      rw [il (by decide) (by omega), if_neg (by omega), ga_n (by omega) (by decide), entriesOf_n hpg (by omega) hP (hE q (by omega)), bd1_in, nI_add, nI_clamp (by omega)]
      obtain ⟨ca1, e1, p1, p2⟩ := settleE_L49 (a := a) (ce := ce) hpg hP (q := q) (y := 1 + sumN E q + E q) (by omega) (by omega) (upd cf q (nI (1 + sumN E q))) (fun c_firsts c_aboveOf v1 v2 => C0_settleEntries_L11 a cpg ce (fun c_firsts c_aboveOf => some (c_firsts, c_aboveOf)) n c_firsts c_aboveOf v1 (v2 + nI 1)) (E q) (1 + sumN E q) FU ca (by omega) (Nat.lt_of_le_of_lt (show E q ≤ 100 by omega) (by decide))
      rw [e1, nI_add]
      rw [show 1 + sumN E q + E q = 1 + sumN E (q + 1) by omega]
      refine ih (q + 1) n _ ca1 (by omega) (by omega) (fun r hr => ?_) ?_ (fun r hr j q1 q2 q3 => ?_)
      · by_cases z : r = q
        · rw [z, upd_s]
        · rw [upd_n z]; exact h1 r (by omega)
      · rw [p2 0 (Or.inr (Or.inr rfl))]; exact h2
      · by_cases z : r = q
        · rw [z] at q1 q2 ⊢
          exact p1 j q1 (by omega) (by omega) q3
        · have : sumN E (r + 1) ≤ sumN E q := sumN_mono (by omega)
          rw [p2 j (by omega)]
          exact h3 r (by omega) j q1 q2 q3
  exact key P 0 FU cf (upd ca 0 (-1)) (by omega) (Nat.lt_of_le_of_lt hP (by decide)) (fun r hr => absurd hr (Nat.not_lt_zero r)) upd_s (fun r hr => absurd hr (Nat.not_lt_zero r))
theorem headOf_any {ch : Nat → Int32} {p : Nat} (hp : p < 96) : C0_headOf ch (nI p) = some (ch p) := by
  unfold C0_headOf
  rw [ineg (by omega)]
  show (if nI 96 ≤ nI p then _ else _) = _
  rw [il (by decide) (by omega), if_neg (by omega), ga_n (by omega) (by decide), nI_clamp (by omega)]
theorem levelAt_any {cl : Nat → Int32} {p : Nat} (hp : p < 48) : C0_levelAt cl (nI p) = some (cl p) := by
  unfold C0_levelAt
  rw [ineg (by omega)]
  show (if nI 48 ≤ nI p then _ else _) = _
  rw [il (by decide) (by omega), if_neg (by omega), ga_n (by omega) (by decide), nI_clamp (by omega)]
theorem settleH_n {N : Nat} {F : Nat → Nat} (hpg : cpg (a 14) = nI P) (hP : P ≤ 48) (hct : cc (a 14) = nI N) (hN : N ≤ 48) {cf : Nat → Int32} (hF : ∀ q, q < P → cf q = nI (F q) ∧ q < F q ∧ F q < P + N) (ch cl : Nat → Int32) : ∃ ch' cl', C0_settleHeads a cf cc cpg ch cl = some (ch', cl') ∧ (∀ k, k < N → ch' (P + k) = nI k) ∧ ∀ q, q < P → ch' q = ch' (F q) ∧ cl' q = if P ≤ F q then 0 else cl' (F q) + 1 := by
  unfold C0_settleHeads
  have k1 : ∀ (d k n : Nat) (ch : Nat → Int32) (kk : (Nat → Int32) → (Nat → Int32) → Option ((Nat → Int32) × (Nat → Int32))), k + d = N → d < n → (∀ r, r < k → ch (P + r) = nI r) → ∃ ch', C0_settleHeads_L2 a cf cc cpg kk n ch cl (nI k) = kk ch' cl ∧ ∀ r, r < N → ch' (P + r) = nI r := by
    intro d
    induction d with
    | zero =>
      intro k n ch kk hk hn h1
      obtain ⟨n, rfl⟩ : ∃ m, n = m + 1 := ⟨n - 1, by omega⟩
      have hkn : k = N := by omega
      subst hkn
      refine ⟨ch, ?_, h1⟩
      rw [C0_settleHeads_L2, hct, il (by omega) (by omega), if_pos (Nat.le_refl _)]
    | succ d ih =>
      intro k n ch kk hk hn h1
      obtain ⟨n, rfl⟩ : ∃ m, n = m + 1 := ⟨n - 1, by omega⟩
      rw [C0_settleHeads_L2, hct, il (by omega) (by omega), if_neg (by omega), hpg, nI_add]
      show ∃ ch', (if nI 96 ≤ nI (P + k) then _ else ga (nI (P + k)) 96 (C0_settleHeads_L2 a cf cc cpg kk n (upd ch (nI (P + k)).toNatClampNeg (nI k)) cl (nI k + nI 1))) = _ ∧ _
      rw [il (by decide) (by omega), if_neg (by omega), ga_n (by omega) (by decide), nI_clamp (by omega), nI_add]
      refine ih (k + 1) n _ kk (by omega) (by omega) (fun r hr => ?_)
      by_cases z : r = k
      · rw [z, upd_s]
      · rw [upd_n (by omega)]; exact h1 r (by omega)
  have k2 : ∀ (q n : Nat) (ch cl : Nat → Int32), q ≤ P → q < n → (∀ k, k < N → ch (P + k) = nI k) → (∀ r, q ≤ r → r < P → ch r = ch (F r) ∧ cl r = if P ≤ F r then 0 else cl (F r) + 1) → ∃ ch' cl', C0_settleHeads_L66 a cf cc cpg (fun c_heads c_levelOf => some (c_heads, c_levelOf)) n ch cl (nI q + (-1)) = some (ch', cl') ∧ (∀ k, k < N → ch' (P + k) = nI k) ∧ ∀ r, r < P → ch' r = ch' (F r) ∧ cl' r = if P ≤ F r then 0 else cl' (F r) + 1 := by
    intro q
    induction q with
    | zero =>
      intro n ch cl _ hn h1 h2
      obtain ⟨n, rfl⟩ : ∃ m, n = m + 1 := ⟨n - 1, by omega⟩
      refine ⟨ch, cl, ?_, h1, fun r hr => h2 r (Nat.zero_le _) hr⟩
      rw [C0_settleHeads_L66, if_pos (by decide)]
    | succ q ih =>
      intro n ch cl hq hn h1 h2
      obtain ⟨n, rfl⟩ : ∃ m, n = m + 1 := ⟨n - 1, by omega⟩
      obtain ⟨f1, f2, f3⟩ := hF q (by omega)
      have step : ∀ x : Int32, (x = if P ≤ F q then 0 else cl (F q) + 1) → ∃ ch' cl', C0_settleHeads_L66 a cf cc cpg (fun c_heads c_levelOf => some (c_heads, c_levelOf)) n (upd ch q (ch (F q))) (upd cl q x) (nI q + (-1)) = some (ch', cl') ∧ (∀ k, k < N → ch' (P + k) = nI k) ∧ ∀ r, r < P → ch' r = ch' (F r) ∧ cl' r = if P ≤ F r then 0 else cl' (F r) + 1 := by
        intro x hx
        refine ih n _ _ (by omega) (by omega) (fun k hk => ?_) (fun r q1 q2 => ?_)
        · rw [upd_n (by omega)]; exact h1 k hk
        · obtain ⟨g1, g2, g3⟩ := hF r q2
          have hne : F r ≠ q := by omega
          rw [upd_n hne, upd_n hne]
          by_cases z : r = q
          · rw [z, upd_s, upd_s]
            exact ⟨rfl, hx⟩
          · rw [upd_n z, upd_n z]
            exact h2 r (by omega) q2
      rw [C0_settleHeads_L66, pk_m1, ineg (by omega), firstOf_n (by omega) f1, bd1_in, headOf_any (by omega), bd1_in, ga_n (by omega) (by decide), hpg, il (by omega) (by omega), nI_clamp (by omega)]
      by_cases hc : P ≤ F q
      · rw [if_pos hc, ga_n (by omega) (by decide)]
        exact step 0 (by rw [if_pos hc])
      · rw [if_neg hc, levelAt_any (by omega), bd1_in, ga_n (by omega) (by decide)]
        exact step _ (by rw [if_neg hc])
  obtain ⟨ch1, e1, p1⟩ := k1 N 0 FU ch (fun c_heads c_levelOf => C0_settleHeads_J51 a cf cc cpg c_heads c_levelOf) (by omega) (Nat.lt_of_le_of_lt hN (by decide)) (fun r hr => absurd hr (Nat.not_lt_zero r))
  obtain ⟨ch2, cl2, e2, p2, p3⟩ := k2 P FU ch1 cl (Nat.le_refl _) (Nat.lt_of_le_of_lt hP (by decide)) p1 (fun r q1 q2 => absurd q2 (by omega))
  refine ⟨ch2, cl2, ?_, p2, p3⟩
  refine Eq.trans (show _ = _ from e1) ?_
  unfold C0_settleHeads_J51
  rw [hpg]
  show C0_settleHeads_L66 _ _ _ _ _ _ _ _ ((if nI 48 < nI P then 48 else nI P) - 1) = _
  rw [ilt (by decide) (by omega), if_neg (by omega)]
  have e3 : nI P - 1 = nI P + (-1) := Int32.sub_eq_add_neg _ _
  rw [e3]
  exact e2
end
