/-! what the class finds anew is what the way needs -/
theorem settle_n {S : Nat → Nat} {a : Nat → Nat} {LW : List Nat} {cc cpg clv cm cs : Nat → Int32} {cbits : Nat → Nat → Int64} {cw : Nat → Nat → Nat} {ce : Nat → Nat → Int32} (h : WX S) (hc : Cpl LW S (a 14) cc cpg clv cm cs cbits cw ce) (ch cf cl ca cp : Nat → Int32) : ∃ ch' cf' cl' ca' cp', C0_settle a LW cc cpg cbits cw ce ch cf cl ca cp = some (ch', cf', cl', ca', cp') ∧ Stl S ch' cf' cl' ca' cp' := by
  obtain ⟨k1, k2, k3, k4, k5, k6, k7, k8⟩ := hc
  obtain ⟨t1, t2⟩ := tot_le h
  have h48 := h.1.1.2.1
  -- the flat row
  obtain ⟨E, hE1, hE2⟩ : ∃ E : Nat → Nat, (∀ q, q < tot S → ce (a 14) q = nI (E q)) ∧ Flat S E := by
    refine ⟨fun q => (ce (a 14) q).toNatClampNeg, fun q hq => ?_, fun v hv p hp => ?_⟩
    · obtain ⟨v, p, hv, hp, e⟩ := page_of h.1 hq
      show _ = nI (ce (a 14) q).toNatClampNeg
      have := ((h.1.2.1 v hv).2 p hp).2
      rw [e, k5 v hv p hp, nI_clamp (by omega)]
    · show (ce (a 14) (off S v + p)).toNatClampNeg = _
      have := ((h.1.2.1 v hv).2 p hp).2
      rw [k5 v hv p hp, nI_clamp (by omega)]
  by_cases h0 : S 2 = 0
  · have hn0 := h.1.2.2.1.mp h0
    have ht0 : tot S = 0 := by unfold tot; rw [h0]; rfl
    obtain ⟨cf1, ca1, e1, _, p2, _⟩ := settleE_n (a := a) (ce := ce) (P := tot S) (E := E) k2 t1 hE1 (by rw [ht0]; show 1 + 0 ≤ 100; decide) cf ca
    obtain ⟨ch1, cl1, e2, _, _⟩ := settleH_n (a := a) (P := tot S) (N := S 0) (F := fun _ => 0) (cf := cf1) k2 t1 k1 h48 (fun q hq => absurd hq (by omega)) ch cl
    refine ⟨ch1, cf1, cl1, ca1, cp, ?_, fun v hv => absurd hv (by omega), fun q => absurd q (by omega), fun q => absurd q (by omega), fun v hv => absurd hv (by omega)⟩
    unfold C0_settle
    rw [e1, bd2_in, e2, bd2_in, k2, k1, ht0, hn0, show FU = 19999 + 1 from rfl, C0_settle_L28, if_pos (by decide)]
  have hpos : 0 < S 2 := by omega
  have hall := flat_all h.1 hE2 hpos
  have hfs := fun v (hv : v < S 2) p (hp : p ≤ S (3 + v)) => flat_s h.1 hE2 (S 2 - 1 - v) v (by omega) p hp
  have htp : 1 ≤ tot S := by
    rw [tot_off hpos]
    have := (h.1.2.1 0 hpos).1
    have h3 : S (3 + 0) = S 3 := rfl
    omega
  have hn1 : 1 ≤ S 0 := by
    rcases Nat.eq_zero_or_pos (S 0) with z | z
    · exact absurd (h.1.2.2.1.mpr z) h0
    · exact z
  obtain ⟨cf1, ca1, e1, p1, p2, p3⟩ := settleE_n (a := a) (ce := ce) (P := tot S) (E := E) k2 t1 hE1 (by omega) cf ca
  have hge : ∀ q, q < tot S → q < 1 + sumN E q ∧ 1 + sumN E q < tot S + S 0 := by
    intro q hq
    have hE1' : ∀ r, r < tot S → 1 ≤ E r := fun r hr => by
      obtain ⟨v, p, hv, hp, e⟩ := page_of h.1 hr
      rw [e, hE2 v hv p hp]
      exact ((h.1.2.1 v hv).2 p hp).1
    have g1 : 1 * q ≤ sumN E q := sumN_ge (fun k hk => hE1' k (by omega))
    have g2 : sumN E (q + 1) ≤ sumN E (tot S) := sumN_mono (by omega)
    have g3 : sumN E (q + 1) = sumN E q + E q := rfl
    have g4 := hE1' q hq
    omega
  obtain ⟨ch1, cl1, e2, p4, p5⟩ := settleH_n (a := a) (P := tot S) (N := S 0) (F := fun q => 1 + sumN E q) (cf := cf1) k2 t1 k1 h48 (fun q hq => ⟨p1 q hq, (hge q hq).1, (hge q hq).2⟩) ch cl
  -- numbers of pages
  have hno : ∀ v p, v < S 2 → p < S (3 + v) → off S v + p < tot S := by
    intro v p hv hp
    have key : ∀ d u, u + d = v → off S v + S (3 + v) ≤ off S u + S (3 + u) := by
      intro d
      induction d with
      | zero => intro u hu; rw [show u = v by omega]; exact Nat.le_refl _
      | succ d ih =>
        intro u hu
        have i1 := ih (u + 1) (by omega)
        have ho := off_step (S := S) (v := u) (by omega)
        rw [show 4 + u = 3 + (u + 1) by omega] at ho
        omega
    have := key v 0 (by omega)
    rw [tot_off hpos]
    have h3 : S (3 + 0) = S 3 := rfl
    omega
  -- heads and levels
  have hhl : ∀ v, v < S 2 → ∀ p, p < S (3 + v) → ch1 (off S v + p) = nI (hd S v p) ∧ cl1 (off S v + p) = nI v := by
    intro v
    induction v with
    | zero =>
      intro hv p hp
      obtain ⟨q1, q2⟩ := p5 _ (hno 0 p hv hp)
      have e := hfs 0 hv p (by omega)
      have e' : nd S 0 (ent S 0 p) = tot S + ent S 0 p := if_pos rfl
      have hlt : ent S 0 p < S 0 := hd_lt0 h.1 hv hp
      simp only [e, e'] at q1 q2
      rw [p4 _ hlt] at q1
      rw [if_pos (by omega)] at q2
      exact ⟨q1, q2⟩
    | succ v ih =>
      intro hv p hp
      obtain ⟨q1, q2⟩ := p5 _ (hno (v + 1) p hv hp)
      have e := hfs (v + 1) hv p (by omega)
      have e' : nd S (v + 1) (ent S (v + 1) p) = off S v + ent S (v + 1) p := if_neg (by omega)
      have hlt : ent S (v + 1) p < S (3 + v) := by
        have a1 := ent_lt h.1 hv (p := p) (q := S (3 + (v + 1))) hp (Nat.le_refl _)
        rw [(h.1.1.2.2 (v + 1) hv).2] at a1
        unfold bel at a1
        rw [if_neg (by omega)] at a1
        exact a1
      simp only [e, e'] at q1 q2
      obtain ⟨i1, i2⟩ := ih (by omega) _ hlt
      rw [i1] at q1
      rw [if_neg (by have := hno v _ (by omega) hlt; omega), i2] at q2
      refine ⟨q1, q2.trans ?_⟩
      show nI v + nI 1 = _
      rw [nI_add]
  -- heads of nodes
  have hnode : ∀ v, v < S 2 → ∀ e, e < bel S v → ch1 (nd S v e) = nI (eh S v e) := by
    intro v hv e he
    unfold nd eh
    unfold bel at he
    by_cases hv0 : v = 0
    · rw [if_pos hv0] at he ⊢
      rw [if_pos hv0]
      exact p4 e he
    · rw [if_neg hv0] at he ⊢
      rw [if_neg hv0]
      exact (hhl (v - 1) (by omega) e he).1
  have hsmall : ∀ x, 1 ≤ x → x < tot S + S 0 → ∃ k, ch1 x = nI k ∧ k < S 0 := by
    intro x hx1 hx
    rcases Nat.lt_or_ge x (tot S) with z | z
    · obtain ⟨v, p, hv, hp, e⟩ := page_of h.1 z
      exact ⟨hd S v p, by rw [e]; exact (hhl v hv p hp).1, hd_lt0 h.1 hv hp⟩
    · exact ⟨x - tot S, by rw [← p4 (x - tot S) (by omega), show tot S + (x - tot S) = x by omega], by omega⟩
  -- partings
  have key : ∀ (d x n : Nat) (cp : Nat → Int32), x + d = tot S + S 0 - 1 → 1 ≤ x → d < n → (∀ y, 1 ≤ y → y < x → ∀ i j, i < S 0 → j < S 0 → ch1 y = nI i → ch1 (y + 1) = nI j → cp y = enc (fd (wb S i) (wb S j))) → ∃ cp', C0_settle_L28 a LW cc cpg cbits cw ce (fun c_heads c_firsts c_levelOf c_aboveOf c_partings => some (c_heads, c_firsts, c_levelOf, c_aboveOf, c_partings)) n ch1 cf1 cl1 ca1 cp (nI (tot S + S 0 - 1)) (nI x) = some (ch1, cf1, cl1, ca1, cp') ∧ ∀ y, 1 ≤ y → y < tot S + S 0 - 1 → ∀ i j, i < S 0 → j < S 0 → ch1 y = nI i → ch1 (y + 1) = nI j → cp' y = enc (fd (wb S i) (wb S j)) := by
    intro d
    induction d with
    | zero =>
      intro x n cp hx hx1 hn hcp
      obtain ⟨n, rfl⟩ : ∃ m, n = m + 1 := ⟨n - 1, by omega⟩
      refine ⟨cp, ?_, fun y q1 q2 => hcp y q1 (by omega)⟩
      rw [C0_settle_L28, il (by omega) (by omega), if_pos (by omega)]
    | succ d ih =>
      intro x n cp hx hx1 hn hcp
      obtain ⟨n, rfl⟩ : ∃ m, n = m + 1 := ⟨n - 1, by omega⟩
      obtain ⟨i0, g1, g2⟩ := hsmall x hx1 (by omega)
      obtain ⟨j0, g3, g4⟩ := hsmall (x + 1) (by omega) (by omega)
      have m1 := k6 i0 (by omega)
      have m2 := k6 j0 (by omega)
      have efd : fd (cb (cbits (cw (a 14) i0))) (cb (cbits (cw (a 14) j0))) = fd (wb S i0) (wb S j0) := fd_congr (k8 i0 g2).2 (k8 j0 g4).2
      have hset : C5_setParting cp (nI x) (enc (fd (wb S i0) (wb S j0))) = some (upd cp x (enc (fd (wb S i0) (wb S j0)))) := by
        unfold C5_setParting
        rw [ineg (by omega)]
        show (if nI 96 ≤ nI x then _ else _) = _
        rw [il (by decide) (by omega), if_neg (by omega), ga_n (by omega) (by decide), nI_clamp (by omega)]
      rw [C0_settle_L28, il (by omega) (by omega), if_neg (by omega), headWord_n (by omega) g1 (by omega) m1, bd1_in, gm_in m1]
      show ∃ cp', bd1 (C0_headWord a LW ch1 cw (nI x + nI 1)) (fun r47 => gm LW r47 (bd1 (C6_partingFrom cbits (cw (a 14) i0) r47) fun r50 => bd1 (C5_setParting cp (nI x) r50) fun c_partings_53 => C0_settle_L28 a LW cc cpg cbits cw ce _ n ch1 cf1 cl1 ca1 c_partings_53 (nI (tot S + S 0 - 1)) (nI x + nI 1))) = _ ∧ _
      rw [nI_add, headWord_n (by omega) g3 (by omega) m2, bd1_in, gm_in m2, parting_c, bd1_in, efd, hset, bd1_in]
      refine ih (x + 1) n _ (by omega) (by omega) (by omega) (fun y q1 q2 i j hi hj e1 e2 => ?_)
      by_cases z : y = x
      · rw [z] at e1 e2 ⊢
        have hi0 : i0 = i := (nI_eq (by omega) (by omega)).mp (g1.symm.trans e1)
        have hj0 : j0 = j := (nI_eq (by omega) (by omega)).mp (g3.symm.trans e2)
        rw [upd_s, hi0, hj0]
      · rw [upd_n z]
        exact hcp y q1 (by omega) i j hi hj e1 e2
  obtain ⟨cp1, e3, p6⟩ := key (tot S + S 0 - 2) 1 FU cp (by omega) (Nat.le_refl _) (Nat.lt_of_le_of_lt (show tot S + S 0 - 2 ≤ 96 by omega) (by decide)) (fun y q1 q2 => absurd q2 (by omega))
  refine ⟨ch1, cf1, cl1, ca1, cp1, ?_, fun v hv p hp => ?_, fun _ => p2, fun _ k hk => p4 k hk, fun v hv e he => ?_⟩
  · unfold C0_settle
    rw [e1, bd2_in, e2, bd2_in, k2, k1, nI_add]
    have e4 : nI (tot S + S 0) - 1 = nI (tot S + S 0 - 1) := pk_sub (b := 1) (by omega)
    rw [e4]
    exact e3
  · refine ⟨?_, (hhl v hv p hp).1, (hhl v hv p hp).2, fun hv1 q hq g1 g2 => ?_⟩
    · rw [p1 _ (hno v p hv hp), hfs v hv p (by omega)]
    · have r1 := hfs (v + 1) hv1 q (by omega)
      have r2 := hfs (v + 1) hv1 (q + 1) (by omega)
      have r3 : ∀ x, nd S (v + 1) x = off S v + x := fun x => if_neg (by omega)
      rw [r3] at r1 r2
      exact p3 (off S (v + 1) + q) (hno (v + 1) q hv1 hq) (off S v + p) (by omega) (by rw [show off S (v + 1) + q + 1 = off S (v + 1) + (q + 1) by omega]; omega) (hno v p hv hp)
  · have b1 := hnode v hv e (by omega)
    have b2 := hnode v hv (e + 1) (by omega)
    have b3 := nd_le h hv (e := e) (by omega)
    have b4 : nd S v (e + 1) = nd S v e + 1 := nd_add S v e 1
    have l1 := eh_lt0 h.1 hv (e := e) (by omega)
    have l2 := eh_lt0 h.1 hv (e := e + 1) he
    have hs := h.1.2.2.2.2.2 _ _ (eh_lt h.1 hv (e := e) (f := e + 1) (by omega) (by omega)) l2
    have hlast : nd S v e < tot S + S 0 - 1 := by
      have : nd S v (e + 1) < tot S + S 0 := by
        unfold nd
        unfold bel at he
        by_cases hv0 : v = 0
        · rw [if_pos hv0] at he ⊢; omega
        · rw [if_neg hv0] at he ⊢
          have := hno (v - 1) (e + 1) (by omega) he
          omega
      omega
    rw [p6 (nd S v e) b3.2.1 hlast _ _ l1 l2 b1 (by rw [← b4]; exact b2), enc_some (by have := hs.1; omega)]
