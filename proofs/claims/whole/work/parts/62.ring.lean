/-! the states of the class: the one now, six that are kept in a ring -/
def Ax (a : Nat → Nat) (LS LK : List Nat) : Prop := (∀ i, i < 6 → a (20 + i) ∈ LS) ∧ (∀ i j, i < 6 → j < 6 → a (20 + i) = a (20 + j) → i = j) ∧ (∀ i, i < 6 → a (20 + i) ≠ a 14) ∧ LKok a LK
def zz (a : Nat → Nat) (i : Nat) : Nat := if i < 6 then a (20 + i) else a 14
theorem zz_l (a : Nat → Nat) {i : Nat} (h : i < 6) : zz a i = a (20 + i) := if_pos h
theorem zz_6 (a : Nat → Nat) : zz a 6 = a 14 := if_neg (by decide)
def Wds (a : Nat → Nat) (LW : List Nat) (cw : Nat → Nat → Nat) : Prop := (∀ i, i < 7 → ∀ k, k < 48 → cw (zz a i) k ∈ LW ∧ cw (zz a i) k ≠ a 13) ∧ ∀ i i' j k, i < 7 → i' < 7 → j < 48 → k < 48 → cw (zz a i) j = cw (zz a i') k → i = i' ∧ j = k
def Rng (a : Nat → Nat) (LW : List Nat) (kn nx : Nat) (mp : Nat → Int32) (cc cpg clv cm cs : Nat → Int32) (cbits : Nat → Nat → Int64) (cw : Nat → Nat → Nat) (ce : Nat → Nat → Int32) : Prop :=
  kn ≤ 6 ∧ nx < 6 ∧ ∀ i, i < kn → ∃ Q, GS Q ∧ (∀ j, j < 1552 → mp (1552 * i + j) = nI (Q j)) ∧ Cpl LW Q (a (20 + (nx + 6 - kn + i) % 6)) cc cpg clv cm cs cbits cw ce
section
variable {a : Nat → Nat} {LW LS LK : List Nat} {S : Nat → Nat} {kn nx : Nat} {mp : Nat → Int32} {cc cpg clv cm cs cc' cpg' clv' cm' cs' : Nat → Int32} {cbits cbits' : Nat → Nat → Int64} {cw cw' : Nat → Nat → Nat} {ce ce' : Nat → Nat → Int32}
theorem wds_l (hW : Wds a LW cw) {i : Nat} (hi : i < 6) {k : Nat} (hk : k < 48) : cw (a (20 + i)) k ∈ LW ∧ cw (a (20 + i)) k ≠ a 13 := by
  have := hW.1 i (by omega) k hk
  rw [zz_l a hi] at this
  exact this
theorem wds_n (hW : Wds a LW cw) {k : Nat} (hk : k < 48) : cw (a 14) k ∈ LW ∧ cw (a 14) k ≠ a 13 := by
  have := hW.1 6 (by omega) k hk
  rw [zz_6] at this
  exact this
theorem wds_ll (hW : Wds a LW cw) {i i' : Nat} (hi : i < 6) (hi' : i' < 6) {j k : Nat} (hj : j < 48) (hk : k < 48) (e : cw (a (20 + i)) j = cw (a (20 + i')) k) : i = i' ∧ j = k := by
  refine hW.2 i i' j k (by omega) (by omega) hj hk ?_
  rw [zz_l a hi, zz_l a hi']
  exact e
theorem wds_nl (hW : Wds a LW cw) {i : Nat} (hi : i < 6) {j k : Nat} (hj : j < 48) (hk : k < 48) : cw (a 14) j ≠ cw (a (20 + i)) k := by
  intro e
  have := (hW.2 6 i j k (by omega) (by omega) hj hk (by rw [zz_6, zz_l a hi]; exact e)).1
  omega
theorem wds_nn (hW : Wds a LW cw) {j k : Nat} (hj : j < 48) (hk : k < 48) (e : cw (a 14) j = cw (a 14) k) : j = k :=
  (hW.2 6 6 j k (by omega) (by omega) hj hk (by rw [zz_6]; exact e)).2
theorem gs48 {Q : Nat → Nat} (h : GS Q) : Q 0 ≤ 48 := h.1.1.1.2.1
/-- the word at hand is written: no state is touched -/
theorem up13 (hW : Wds a LW cw) (hg : GS S) (hc : Cpl LW S (a 14) cc cpg clv cm cs cbits cw ce) (hr : Rng a LW kn nx mp cc cpg clv cm cs cbits cw ce) (m : Int32) (B : Nat → Int64) : Cpl LW S (a 14) cc cpg clv cm (va_up cs (a 13) m) (va_up cbits (a 13) B) cw ce ∧ Rng a LW kn nx mp cc cpg clv cm (va_up cs (a 13) m) (va_up cbits (a 13) B) cw ce := by
  refine ⟨cpl_frame hc rfl rfl rfl rfl rfl rfl (fun k hk => ⟨vu_n (wds_n hW hk).2, vu_n (wds_n hW hk).2⟩) (gs48 hg), hr.1, hr.2.1, fun i hi => ?_⟩
  obtain ⟨Q, q1, q2, q3⟩ := hr.2.2 i hi
  exact ⟨Q, q1, q2, cpl_frame q3 rfl rfl rfl rfl rfl rfl (fun k hk => ⟨vu_n (wds_l hW (Nat.mod_lt _ (by decide)) hk).2, vu_n (wds_l hW (Nat.mod_lt _ (by decide)) hk).2⟩) (gs48 q1)⟩
/-- the state now has changed: the ring is as it was -/
theorem frm_n (hA : Ax a LS LK) (hW : Wds a LW cw) {S' : Nat → Nat} (hf : Frm (a 14) cs cc cpg clv cbits cw ce cs' cc' cpg' clv' cbits' cw' ce') (hc' : Cpl LW S' (a 14) cc' cpg' clv' cm cs' cbits' cw' ce') (hr : Rng a LW kn nx mp cc cpg clv cm cs cbits cw ce) : Wds a LW cw' ∧ Rng a LW kn nx mp cc' cpg' clv' cm cs' cbits' cw' ce' ∧ cs' (a 13) = cs (a 13) ∧ cbits' (a 13) = cbits (a 13) := by
  obtain ⟨f1, f2, f3⟩ := hf
  obtain ⟨a1, a2, a3, a4⟩ := hA
  have e5 : ∀ i, i < 6 → cw' (a (20 + i)) = cw (a (20 + i)) := fun i hi => (f1 _ (a3 i hi)).2.2.2.1
  have k7 := hc'.2.2.2.2.2.2.1
  refine ⟨⟨fun i hi k hk => ?_, fun i i' j k hi hi' hj hk e => ?_⟩, ⟨hr.1, hr.2.1, fun i hi => ?_⟩, f2 (a 13) (fun k hk q => (wds_n hW hk).2 q.symm)⟩
  · by_cases c : i < 6
    · rw [zz_l a c, e5 i c]; exact wds_l hW c hk
    · rw [show i = 6 by omega, zz_6]
      obtain ⟨j, hj, ej⟩ := f3 k hk
      rw [ej]; exact wds_n hW hj
  · by_cases c : i < 6
    · rw [zz_l a c, e5 i c] at e
      by_cases c' : i' < 6
      · rw [zz_l a c', e5 i' c'] at e
        exact wds_ll hW c c' hj hk e
      · rw [show i' = 6 by omega, zz_6] at e
        obtain ⟨j', hj', ej⟩ := f3 k hk
        rw [ej] at e
        exact absurd e.symm (wds_nl hW c hj' hj)
    · rw [show i = 6 by omega, zz_6] at e
      by_cases c' : i' < 6
      · rw [zz_l a c', e5 i' c'] at e
        obtain ⟨j', hj', ej⟩ := f3 j hj
        rw [ej] at e
        exact absurd e (wds_nl hW c' hj' hk)
      · rw [show i' = 6 by omega, zz_6] at e
        exact ⟨by omega, k7 j k hj hk e⟩
  · obtain ⟨Q, q1, q2, q3⟩ := hr.2.2 i hi
    have hp : (nx + 6 - kn + i) % 6 < 6 := Nat.mod_lt _ (by decide)
    obtain ⟨g1, g2, g3, g4, g5⟩ := f1 _ (a3 _ hp)
    exact ⟨Q, q1, q2, cpl_frame q3 g1 g2 g3 rfl g4 g5 (fun k hk => f2 _ (fun k' hk' q => wds_nl hW hp hk' hk q.symm)) (gs48 q1)⟩
/-- the state now, where only pages have changed -/
theorem frm_p (hA : Ax a LS LK) (hr : Rng a LW kn nx mp cc cpg clv cm cs cbits cw ce) (hz : ∀ z, z ≠ a 14 → cc' z = cc z ∧ cpg' z = cpg z ∧ clv' z = clv z ∧ cm' z = cm z ∧ ce' z = ce z) : Rng a LW kn nx mp cc' cpg' clv' cm' cs cbits cw ce' := by
  refine ⟨hr.1, hr.2.1, fun i hi => ?_⟩
  obtain ⟨Q, q1, q2, q3⟩ := hr.2.2 i hi
  obtain ⟨g1, g2, g3, g4, g5⟩ := hz _ (hA.2.2.1 _ (Nat.mod_lt (nx + 6 - kn + i) (by decide)))
  exact ⟨Q, q1, q2, cpl_frame q3 g1 g2 g3 g4 rfl g5 (fun k hk => ⟨rfl, rfl⟩) (gs48 q1)⟩
/-- a state is kept, by both -/
theorem keep_n (hA : Ax a LS LK) (hW : Wds a LW cw) (hg : GS S) (hc : Cpl LW S (a 14) cc cpg clv cm cs cbits cw ce) (hr : Rng a LW kn nx mp cc cpg clv cm cs cbits cw ce) {mk : Nat → Int32} (hmk : ∀ j, j < 1552 → mk j = nI (S j)) : ∃ (kn' nx' : Nat) (mp' cs' cc' cpg' clv' cm' : Nat → Int32) (cbits' : Nat → Nat → Int64) (ce' : Nat → Nat → Int32), M_keeps mk mp (nI kn) = some (mp', nI kn') ∧ C2_keep a LW LS cw cs cc cpg clv cm cbits ce (nI nx) (nI kn) (a 14) = some (cs', cc', cpg', clv', cm', cbits', ce', nI nx', nI kn') ∧ Cpl LW S (a 14) cc' cpg' clv' cm' cs' cbits' cw ce' ∧ Rng a LW kn' nx' mp' cc' cpg' clv' cm' cs' cbits' cw ce' ∧ cs' (a 13) = cs (a 13) ∧ cbits' (a 13) = cbits (a 13) := by
  obtain ⟨a1, a2, a3, a4⟩ := hA
  obtain ⟨hkn, hnx, hq⟩ := hr
  obtain ⟨cs', cbits', ce', r1, r2, r3, r4⟩ := copyFrom_n hg.1 hc (a3 nx hnx) (fun k hk => (wds_l hW hnx hk).1) (fun j k hj hk e => (wds_ll hW hnx hnx hj hk e).2) (fun j k hj hk => wds_nl hW hnx hj hk)
  obtain ⟨mp', e1, e2, e3⟩ := keeps_n (S := S) hmk (mp := mp) hkn
  have hfr : ∀ p, p < 6 → p ≠ nx → ∀ Q, GS Q → Cpl LW Q (a (20 + p)) cc cpg clv cm cs cbits cw ce → Cpl LW Q (a (20 + p)) (va_up cc (a (20 + nx)) (cc (a 14))) (va_up cpg (a (20 + nx)) (cpg (a 14))) (va_up clv (a (20 + nx)) (clv (a 14))) (va_up cm (a (20 + nx)) (cm (a 14))) cs' cbits' cw ce' := fun p hp hpn Q gQ hQ => by
    have hne : a (20 + p) ≠ a (20 + nx) := fun q => hpn (a2 p nx hp hnx q)
    exact cpl_frame hQ (vu_n hne) (vu_n hne) (vu_n hne) (vu_n hne) rfl (r4 _ hne) (fun k hk => r3 _ (fun k' hk' q => hpn (wds_ll hW hp hnx hk hk' q).1)) (gs48 gQ)
  refine ⟨if kn = 6 then 6 else kn + 1, if nx = 5 then 0 else nx + 1, mp', cs', va_up cc (a (20 + nx)) (cc (a 14)), va_up cpg (a (20 + nx)) (cpg (a 14)), va_up clv (a (20 + nx)) (clv (a 14)), va_up cm (a (20 + nx)) (cm (a 14)), cbits', ce', e1, ?_, cpl_frame hc (vu_n (a3 nx hnx).symm) (vu_n (a3 nx hnx).symm) (vu_n (a3 nx hnx).symm) (vu_n (a3 nx hnx).symm) rfl (r4 _ (a3 nx hnx).symm) (fun k hk => r3 _ (fun k' hk' => wds_nl hW hnx hk hk')) (gs48 hg), ⟨by split <;> omega, by split <;> omega, fun i hi => ?_⟩, r3 (a 13) (fun k hk q => (wds_l hW hnx hk).2 q.symm)⟩
  · unfold C2_keep
    rw [ineg (by omega), show (6 : Int32) = nI 6 from rfl, ilt (by omega) (by decide), if_pos hnx, ga_j (by omega) (by decide), nI_clamp (by omega), gm_in (a1 nx hnx), r1, bd7_in, nI_p1, il (by decide) (by omega)]
    have ek : (if nI 6 < nI kn + 1 then nI 6 else nI kn + 1) = nI (if kn = 6 then 6 else kn + 1) := by
      rw [nI_p1, ilt (by decide) (by omega)]
      by_cases c : kn = 6
      · rw [if_pos (by omega), if_pos c]
      · rw [if_neg (by omega), if_neg c]
    by_cases c : nx = 5
    · rw [if_pos (by omega), if_pos c]
      unfold C2_keep_J58
      rw [show (6 : Int32) = nI 6 from rfl, ek]
      rfl
    · rw [if_neg (by omega), if_neg c]
      unfold C2_keep_J58
      rw [show (6 : Int32) = nI 6 from rfl, ek]
  · by_cases c : kn = 6
    · rw [if_pos c] at hi
      rw [if_pos c]
      obtain ⟨g1, g2⟩ := e3 c
      by_cases c5 : i = 5
      · refine ⟨S, hg, fun j hj => by rw [c5]; exact g1 j hj, ?_⟩
        have ep : ((if nx = 5 then 0 else nx + 1) + 6 - 6 + i) % 6 = nx := by split <;> omega
        rw [ep]
        exact r2
      · obtain ⟨Q, q1, q2, q3⟩ := hq (i + 1) (by omega)
        refine ⟨Q, q1, fun j hj => by rw [g2 i (by omega) j hj]; exact q2 j hj, ?_⟩
        have ep : ((if nx = 5 then 0 else nx + 1) + 6 - 6 + i) % 6 = (nx + 6 - kn + (i + 1)) % 6 := by split <;> omega
        rw [ep]
        exact hfr _ (Nat.mod_lt _ (by decide)) (by omega) Q q1 q3
    · rw [if_neg c] at hi
      rw [if_neg c]
      obtain ⟨g1, g2⟩ := e2 (by omega)
      by_cases c5 : i = kn
      · refine ⟨S, hg, fun j hj => by rw [c5]; exact g1 j hj, ?_⟩
        have ep : ((if nx = 5 then 0 else nx + 1) + 6 - (kn + 1) + i) % 6 = nx := by split <;> omega
        rw [ep]
        exact r2
      · obtain ⟨Q, q1, q2, q3⟩ := hq i (by omega)
        refine ⟨Q, q1, fun j hj => by rw [g2 i (by omega) j hj]; exact q2 j hj, ?_⟩
        have ep : ((if nx = 5 then 0 else nx + 1) + 6 - (kn + 1) + i) % 6 = (nx + 6 - kn + i) % 6 := by split <;> omega
        rw [ep]
        exact hfr _ (Nat.mod_lt _ (by decide)) (by omega) Q q1 q3
/-- a state is gone back to, by both -/
theorem restore_n (hA : Ax a LS LK) (hW : Wds a LW cw) (hg : GS S) (hr : Rng a LW (kn + 1) nx mp cc cpg clv cm cs cbits cw ce) (mr : Nat → Int32) : ∃ (S' : Nat → Nat) (nx' : Nat) (cs' cc' cpg' clv' cm' : Nat → Int32) (cbits' : Nat → Nat → Int64) (ce' : Nat → Nat → Int32), M_back mp (nf S) mr (nI (kn + 1)) = some (nI kn, nf S', mr, nI kn) ∧ C2_restore a LW LS cw cs cc cpg clv cm cbits ce (nI nx) (nI (kn + 1)) (a 14) = some (cs', cc', cpg', clv', cm', cbits', ce', nI nx', nI kn) ∧ GS S' ∧ Cpl LW S' (a 14) cc' cpg' clv' cm' cs' cbits' cw ce' ∧ Rng a LW kn nx' mp cc' cpg' clv' cm' cs' cbits' cw ce' := by
  obtain ⟨a1, a2, a3, a4⟩ := hA
  obtain ⟨hkn, hnx, hq⟩ := hr
  obtain ⟨Q, q1, q2, q3⟩ := hq kn (by omega)
  have ep : (nx + 6 - (kn + 1) + kn) % 6 = (nx + 5) % 6 := by omega
  rw [ep] at q3
  have hl : (nx + 5) % 6 < 6 := Nat.mod_lt _ (by decide)
  obtain ⟨cs', cbits', ce', r1, r2, r3, r4⟩ := copyFrom_n q1.1 q3 (a3 _ hl).symm (fun k hk => (wds_n hW hk).1) (fun j k hj hk e => wds_nn hW hj hk e) (fun j k hj hk q => wds_nl hW hl hk hj q.symm)
  have hS : ∀ j, j < 1552 → (fun j => if j < 1552 then Q j else S j) j = Q j := fun j hj => if_pos hj
  refine ⟨fun j => if j < 1552 then Q j else S j, (nx + 5) % 6, cs', va_up cc (a 14) (cc (a (20 + (nx + 5) % 6))), va_up cpg (a 14) (cpg (a (20 + (nx + 5) % 6))), va_up clv (a 14) (clv (a (20 + (nx + 5) % 6))), va_up cm (a 14) (cm (a (20 + (nx + 5) % 6))), cbits', ce', back_n (by omega) q2 mr, ?_, gs_cut hS (fun j hj => by show (if j < 1552 then Q j else S j) < 128; rw [if_neg (by omega)]; exact hg.2 j (by omega)) q1, cpl_cut hS q1.1 r2, by omega, hl, fun i hi => ?_⟩
  · have key : C2_restore_J23 a LW LS cw (a 14) cs cc cpg clv cm cbits ce (nI nx) (nI (kn + 1)) (nI ((nx + 5) % 6)) = some (cs', va_up cc (a 14) (cc (a (20 + (nx + 5) % 6))), va_up cpg (a 14) (cpg (a (20 + (nx + 5) % 6))), va_up clv (a 14) (clv (a (20 + (nx + 5) % 6))), va_up cm (a 14) (cm (a (20 + (nx + 5) % 6))), cbits', ce', nI ((nx + 5) % 6), nI kn) := by
      unfold C2_restore_J23
      rw [show (if nI (kn + 1) < 1 then (some (cs, cc, cpg, clv, cm, cbits, ce, nI nx, nI (kn + 1)) : Option _) else _) = _ from if_neg (nI_nlt (a := kn + 1) (b := 1) (by omega) (by omega)), ineg (by omega), show (6 : Int32) = nI 6 from rfl, ilt (by omega) (by decide), if_pos hl, ga_j hl (by decide), nI_clamp (by omega), gm_in (a1 _ hl), r1, bd7_in, nI_pred]
    unfold C2_restore
    by_cases c : nx = 0
    · rw [if_pos (show nI nx ≤ 0 by rw [c]; decide), show (6 - 1 : Int32) = nI ((nx + 5) % 6) by rw [c]; rfl]
      exact key
    · rw [if_neg (nI_nle (by omega) (by omega)), show nI nx - 1 = nI ((nx + 5) % 6) by rw [show (nx + 5) % 6 = nx - 1 by omega]; exact pk_sub (b := 1) (by omega)]
      exact key
  · obtain ⟨Q', g1, g2, g3⟩ := hq i (by omega)
    refine ⟨Q', g1, g2, ?_⟩
    have ep2 : ((nx + 5) % 6 + 6 - kn + i) % 6 = (nx + 6 - (kn + 1) + i) % 6 := by omega
    rw [ep2]
    have hp : (nx + 6 - (kn + 1) + i) % 6 < 6 := Nat.mod_lt _ (by decide)
    exact cpl_frame g3 (vu_n (a3 _ hp)) (vu_n (a3 _ hp)) (vu_n (a3 _ hp)) (vu_n (a3 _ hp)) rfl (r4 _ (a3 _ hp)) (fun k hk => r3 _ (fun k' hk' q => wds_nl hW hp hk' hk q.symm)) (gs48 g1)
end
