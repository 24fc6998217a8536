/-! states that are kept: the reference's rows -/
theorem ga_j {α : Type} {k N : Nat} {x : Option α} (h : k < N) (hN : N ≤ 20000) : ga (nI k) N x = x := ga_n h (by omega)
theorem aside_n {S : Nat → Nat} (mk : Nat → Int32) : ∃ mk', M_aside (nf S) mk = some mk' ∧ ∀ j, j < 1552 → mk' j = nI (S j) := by
  have key : ∀ (d x n : Nat) (m1 : Nat → Int32), x + d = 1552 → d < n → (∀ j, j < x → m1 j = nI (S j)) → ∃ mk', M_aside_L2 (nf S) (fun m_kept => some m_kept) n m1 (nI x) = some mk' ∧ ∀ j, j < 1552 → mk' j = nI (S j) := by
    intro d
    induction d with
    | zero =>
      intro x n m1 hx hn h1
      obtain ⟨n, rfl⟩ : ∃ m, n = m + 1 := ⟨n - 1, by omega⟩
      refine ⟨m1, ?_, fun j hj => h1 j (by omega)⟩
      rw [M_aside_L2, show (1552 : Int32) = nI 1552 from rfl, il (by decide) (by omega), if_pos (by omega)]
    | succ d ih =>
      intro x n m1 hx hn h1
      obtain ⟨n, rfl⟩ : ∃ m, n = m + 1 := ⟨n - 1, by omega⟩
      rw [M_aside_L2, show (1552 : Int32) = nI 1552 from rfl, il (by decide) (by omega), if_neg (by omega), ga_j (by omega) (by decide), ga_j (by omega) (by decide), nI_clamp (by omega), nI_p1]
      refine ih (x + 1) n _ (by omega) (by omega) (fun j hj => ?_)
      by_cases c : j = x
      · rw [c, upd_s]; rfl
      · rw [upd_n c]; exact h1 j (by omega)
  exact key 1552 0 FU mk (by omega) (by decide) (fun j hj => absurd hj (by omega))
theorem keeps_L52 {S : Nat → Nat} {mk : Nat → Int32} (hmk : ∀ j, j < 1552 → mk j = nI (S j)) {kn : Nat} (hkn : kn ≤ 5) (k : (Nat → Int32) → Int32 → Option ((Nat → Int32) × Int32)) : ∀ (d x n : Nat) (m1 : Nat → Int32), x + d = 1552 → d < n → (∀ j, j < x → m1 (1552 * kn + j) = nI (S j)) → ∃ m', M_keeps_L52 mk k n m1 (nI kn) (nI x) = k m' (nI kn) ∧ (∀ j, j < 1552 → m' (1552 * kn + j) = nI (S j)) ∧ ∀ y, y < 1552 * kn → m' y = m1 y := by
  intro d
  induction d with
  | zero =>
    intro x n m1 hx hn h1
    obtain ⟨n, rfl⟩ : ∃ m, n = m + 1 := ⟨n - 1, by omega⟩
    refine ⟨m1, ?_, fun j hj => h1 j (by omega), fun _ _ => rfl⟩
    rw [M_keeps_L52, show (1552 : Int32) = nI 1552 from rfl, il (by decide) (by omega), if_pos (by omega)]
  | succ d ih =>
    intro x n m1 hx hn h1
    obtain ⟨n, rfl⟩ : ∃ m, n = m + 1 := ⟨n - 1, by omega⟩
    obtain ⟨m', r1, r2, r3⟩ := ih (x + 1) n (upd m1 (1552 * kn + x) (mk x)) (by omega) (by omega) (fun j hj => by
      by_cases c : j = x
      · rw [c, upd_s]; exact hmk x (by omega)
      · rw [upd_n (by omega)]; exact h1 j (by omega))
    refine ⟨m', ?_, r2, fun y hy => by rw [r3 y hy, upd_n (by omega)]⟩
    rw [M_keeps_L52, show (1552 : Int32) = nI 1552 from rfl, il (by decide) (by omega), if_neg (by omega), ga_j (by omega) (by decide), pk_mul, nI_add, ga_j (by omega) (by decide), nI_clamp (by omega), nI_clamp (by omega), nI_p1]
    exact r1
theorem keeps_L11 {mk m0 : Nat → Int32} (v : Int32) (k : (Nat → Int32) → Int32 → Option ((Nat → Int32) × Int32)) : ∀ (d x n : Nat) (m1 : Nat → Int32), x + d = 7760 → d < n → (∀ j, j < x → m1 j = m0 (j + 1552)) → (∀ j, x ≤ j → m1 j = m0 j) → ∃ m', M_keeps_L11 mk k n m1 v (nI x) = k m' v ∧ ∀ j, j < 7760 → m' j = m0 (j + 1552) := by
  intro d
  induction d with
  | zero =>
    intro x n m1 hx hn h1 h2
    obtain ⟨n, rfl⟩ : ∃ m, n = m + 1 := ⟨n - 1, by omega⟩
    refine ⟨m1, ?_, fun j hj => h1 j (by omega)⟩
    rw [M_keeps_L11, show (7760 : Int32) = nI 7760 from rfl, il (by decide) (by omega), if_pos (by omega)]
  | succ d ih =>
    intro x n m1 hx hn h1 h2
    obtain ⟨n, rfl⟩ : ∃ m, n = m + 1 := ⟨n - 1, by omega⟩
    have e : nI x + 1552 = nI (x + 1552) := nI_add x 1552
    rw [M_keeps_L11, show (7760 : Int32) = nI 7760 from rfl, il (by decide) (by omega), if_neg (by omega), e, ga_j (by omega) (by decide), ga_j (by omega) (by decide), nI_clamp (by omega), nI_clamp (by omega), nI_p1]
    refine ih (x + 1) n _ (by omega) (by omega) (fun j hj => ?_) (fun j hj => ?_)
    · by_cases c : j = x
      · rw [c, upd_s]; exact h2 _ (by omega)
      · rw [upd_n c]; exact h1 j (by omega)
    · rw [upd_n (by omega)]; exact h2 j (by omega)
theorem keeps_n {S : Nat → Nat} {mk mp : Nat → Int32} (hmk : ∀ j, j < 1552 → mk j = nI (S j)) {kn : Nat} (hkn : kn ≤ 6) : ∃ mp', M_keeps mk mp (nI kn) = some (mp', nI (if kn = 6 then 6 else kn + 1)) ∧ (kn < 6 → (∀ j, j < 1552 → mp' (1552 * kn + j) = nI (S j)) ∧ ∀ i, i < kn → ∀ j, j < 1552 → mp' (1552 * i + j) = mp (1552 * i + j)) ∧ (kn = 6 → (∀ j, j < 1552 → mp' (1552 * 5 + j) = nI (S j)) ∧ ∀ i, i < 5 → ∀ j, j < 1552 → mp' (1552 * i + j) = mp (1552 * (i + 1) + j)) := by
  unfold M_keeps
  rw [show (6 : Int32) = nI 6 from rfl, ie (by omega) (by decide)]
  by_cases c : kn = 6
  · obtain ⟨m1, r1, r2⟩ := keeps_L11 (mk := mk) (m0 := mp) (nI kn) (fun m_past m_known => M_keeps_L52 mk (fun m_past m_known => some (m_past, (m_known + 1))) FU m_past (m_known - 1) 0) 7760 0 FU mp (by omega) (by decide) (fun j hj => absurd hj (by omega)) (fun j _ => rfl)
    obtain ⟨m2, q1, q2, q3⟩ := keeps_L52 (S := S) hmk (kn := 5) (by decide) (fun m_past m_known => some (m_past, (m_known + 1))) 1552 0 FU m1 (by omega) (by decide) (fun j hj => absurd hj (by omega))
    refine ⟨m2, ?_, fun q => absurd q (by omega), fun _ => ⟨q2, fun i hi j hj => ?_⟩⟩
    · rw [if_pos c, if_pos c]
      refine Eq.trans r1 ?_
      have e : nI kn - 1 = nI 5 := by rw [c]; rfl
      show M_keeps_L52 mk _ FU m1 (nI kn - 1) 0 = _
      rw [e]
      refine Eq.trans q1 ?_
      rfl
    · rw [q3 _ (by omega), r2 _ (by omega), show 1552 * i + j + 1552 = 1552 * (i + 1) + j by omega]
  · obtain ⟨m2, q1, q2, q3⟩ := keeps_L52 (S := S) hmk (kn := kn) (by omega) (fun m_past m_known => some (m_past, (m_known + 1))) 1552 0 FU mp (by omega) (by decide) (fun j hj => absurd hj (by omega))
    refine ⟨m2, ?_, fun _ => ⟨q2, fun i hi j hj => q3 _ (by omega)⟩, fun q => absurd q c⟩
    rw [if_neg c, if_neg c]
    refine Eq.trans q1 ?_
    rw [nI_p1]
/-- the reference goes back -/
theorem back_L {mp : Nat → Int32} {S Q : Nat → Nat} {kn : Nat} (hkn : kn ≤ 5) (hQ : ∀ j, j < 1552 → mp (1552 * kn + j) = nI (Q j)) (mr : Nat → Int32) : ∀ (d x n : Nat), x + d = 1552 → d < n → M_back_L26 mp (fun m_s m_refused m_known => some (m_known, m_s, m_refused, m_known)) n (nf (fun j => if j < x then Q j else S j)) mr (nI kn) (nI x) = some (nI kn, nf (fun j => if j < 1552 then Q j else S j), mr, nI kn) := by
  intro d
  induction d with
  | zero =>
    intro x n hx hn
    obtain ⟨n, rfl⟩ : ∃ m, n = m + 1 := ⟨n - 1, by omega⟩
    rw [M_back_L26, show (1552 : Int32) = nI 1552 from rfl, il (by decide) (by omega), if_pos (by omega), show x = 1552 by omega]
  | succ d ih =>
    intro x n hx hn
    obtain ⟨n, rfl⟩ : ∃ m, n = m + 1 := ⟨n - 1, by omega⟩
    rw [M_back_L26, show (1552 : Int32) = nI 1552 from rfl, il (by decide) (by omega), if_neg (by omega), pk_mul, nI_add, ga_j (by omega) (by decide), ga_j (by omega) (by decide), nI_clamp (by omega), nI_clamp (by omega), hQ x (by omega), nf_upd, nI_p1]
    have e : un (fun j => if j < x then Q j else S j) x (Q x) = fun j => if j < x + 1 then Q j else S j := by
      funext j
      unfold un
      by_cases c : j = x
      · rw [if_pos c, if_pos (by omega), c]
      · rw [if_neg c]
        show (if j < x then Q j else S j) = _
        by_cases c2 : j < x
        · rw [if_pos c2, if_pos (by omega)]
        · rw [if_neg c2, if_neg (by omega)]
    rw [e]
    exact ih (x + 1) n (by omega) (by omega)
theorem back_n {mp : Nat → Int32} {S Q : Nat → Nat} {kn : Nat} (hkn : kn ≤ 5) (hQ : ∀ j, j < 1552 → mp (1552 * kn + j) = nI (Q j)) (mr : Nat → Int32) : M_back mp (nf S) mr (nI (kn + 1)) = some (nI kn, nf (fun j => if j < 1552 then Q j else S j), mr, nI kn) := by
  have hne : ¬ nI (kn + 1) = 0 := fun q => absurd ((nI_eq (a := kn + 1) (b := 0) (by omega) (by decide)).mp q) (by omega)
  have e : nI (kn + 1) - 1 = nI kn := pk_sub (b := 1) (by omega)
  have e2 : nf S = nf (fun j => if j < 0 then Q j else S j) := by
    congr 1
  unfold M_back
  rw [if_neg hne, e]
  conv => lhs; rw [e2]
  exact back_L hkn hQ mr 1552 0 FU (by omega) (by decide)
/-! only the first 1552 places of a row count -/
theorem wb_cut {S S' : Nat → Nat} (hS : ∀ j, j < 1552 → S' j = S j) {w : Nat} (hw : w < 48) (hl : S (350 + w) ≤ 24) : wb S' w = wb S w := by
  funext b
  unfold wb bt8
  rw [hS (350 + w) (by omega)]
  by_cases c : b / 8 < S (350 + w)
  · rw [if_pos c, if_pos c]
    show S' (400 + 24 * w + b / 8) / _ % 2 = _
    rw [hS _ (by omega)]
  · rw [if_neg c, if_neg c]
theorem wx_cut {S S' : Nat → Nat} (hS : ∀ j, j < 1552 → S' j = S j) (h : WX S) : WX S' := by
  obtain ⟨⟨⟨t1, t2, t3⟩, f1, f2, f3, f4, f5⟩, x1, x2, x3, x4, x5⟩ := h
  have e0 := hS 0 (by decide)
  have e1 := hS 1 (by decide)
  have e2 := hS 2 (by decide)
  have ep : ∀ v, v ≤ 6 → S' (3 + v) = S (3 + v) := fun v hv => hS _ (by omega)
  have ez : ∀ v p, v ≤ 6 → p ≤ 48 → S' (12 + 48 * v + p) = S (12 + 48 * v + p) := fun v p hv hp => hS _ (by omega)
  have eb : ∀ v, v < 6 → bel S' v = bel S v := fun v hv => by
    unfold bel
    rw [e0, ep (v - 1) (by omega)]
  have pg : ∀ v, v < S 2 → S (3 + v) ≤ 48 := fun v hv => (t3 v hv).1
  refine ⟨⟨⟨by omega, by omega, fun v hv => ?_⟩, fun v hv => ?_, by rw [e0, e2]; exact f2, fun q => ?_, fun w hw => ?_, fun i j hij hj => ?_⟩, fun v hv p hp => ?_, fun q => ?_, by omega, by omega, fun v hv p hp => ?_⟩
  · rw [e2] at hv
    have := pg v hv
    rw [ep v (by omega), eb v (by omega), ent_oth (S := S) (S1 := S') (fun q hq => ez v q (by omega) (by omega)) this]
    exact t3 v hv
  · rw [e2] at hv
    have := pg v hv
    rw [ep v (by omega)]
    exact ⟨(f1 v hv).1, fun p hp => by rw [ez v p (by omega) (by omega)]; exact (f1 v hv).2 p hp⟩
  · rw [e2] at q ⊢
    rw [ep _ (by omega)]
    exact f3 q
  · rw [e0] at hw
    rw [hS (350 + w) (by omega)]
    exact ⟨(f4 w hw).1, (f4 w hw).2.1, fun i hi => by rw [hS _ (by omega)]; exact (f4 w hw).2.2 i hi⟩
  · rw [e0] at hj
    rw [wb_cut hS (by omega) (f4 i (by omega)).2.1, wb_cut hS (by omega) (f4 j hj).2.1]
    exact f5 i j hij hj
  · rw [e2] at hv
    have := pg v (by omega)
    rw [ep v (by omega)] at hp
    rw [ez v p (by omega) (by omega)]
    exact x1 v hv p hp
  · rw [e2] at q ⊢
    have := ez (S 2 - 1) 0 (by omega) (by decide)
    rw [Nat.add_zero] at this
    rw [this]
    exact x2 q
  · rw [e2] at hv
    have := pg v hv
    rw [ep v (by omega)] at hp
    rw [ez v p (by omega) (by omega), e1]
    exact x5 v hv p hp
theorem gs_cut {S S' : Nat → Nat} (hS : ∀ j, j < 1552 → S' j = S j) (hb : ∀ j, 1552 ≤ j → S' j < 128) (h : GS S) : GS S' :=
  ⟨wx_cut hS h.1, fun j hj => by
    by_cases c : j < 1552
    · rw [hS j c]; exact h.2 j hj
    · exact hb j (by omega)⟩
section
variable {LW : List Nat} {cc cpg clv cm cs cc' cpg' clv' cm' cs' : Nat → Int32} {cbits cbits' : Nat → Nat → Int64} {cw cw' : Nat → Nat → Nat} {ce ce' : Nat → Nat → Int32}
theorem cpl_cut {S S' : Nat → Nat} (hS : ∀ j, j < 1552 → S' j = S j) (hx : WX S) {st : Nat} (h : Cpl LW S st cc cpg clv cm cs cbits cw ce) : Cpl LW S' st cc cpg clv cm cs cbits cw ce := by
  obtain ⟨k1, k2, k3, k4, k5, k6, k7, k8⟩ := h
  have h6 := hx.1.1.1
  have h48 := hx.1.1.2.1
  have e0 := hS 0 (by decide)
  have e2 := hS 2 (by decide)
  have eo := off_eq (S := S) (S1 := S') (fun j _ h2 => hS j (by omega)) h6
  have et := tot_eq (S := S) (S1 := S') (fun j _ h2 => hS j (by omega)) h6
  refine ⟨by rw [e0]; exact k1, by rw [et]; exact k2, by rw [e2]; exact k3, by rw [hS 1 (by decide)]; exact k4, fun v hv p hp => ?_, k6, k7, fun k hk => ?_⟩
  · rw [e2] at hv
    rw [hS (3 + v) (by omega)] at hp
    have := (hx.1.1.2.2 v hv).1
    rw [eo, hS _ (by omega)]
    exact k5 v hv p hp
  · rw [e0] at hk
    rw [hS (350 + k) (by omega), wb_cut hS (by omega) (hx.1.2.2.2.2.1 k hk).2.1]
    exact k8 k hk
theorem cpl_frame {S : Nat → Nat} {z : Nat} (h : Cpl LW S z cc cpg clv cm cs cbits cw ce) (e1 : cc' z = cc z) (e2 : cpg' z = cpg z) (e3 : clv' z = clv z) (e4 : cm' z = cm z) (e5 : cw' z = cw z) (e6 : ce' z = ce z) (hx : ∀ k, k < 48 → cs' (cw z k) = cs (cw z k) ∧ cbits' (cw z k) = cbits (cw z k)) (h48 : S 0 ≤ 48) : Cpl LW S z cc' cpg' clv' cm' cs' cbits' cw' ce' := by
  obtain ⟨k1, k2, k3, k4, k5, k6, k7, k8⟩ := h
  refine ⟨e1.trans k1, e2.trans k2, e3.trans k3, e4.trans k4, fun v hv p hp => by rw [e6]; exact k5 v hv p hp, fun k hk => by rw [e5]; exact k6 k hk, fun j k hj hk q => k7 j k hj hk (by rw [e5] at q; exact q), fun k hk => ?_⟩
  rw [e5, (hx k (by omega)).1, (hx k (by omega)).2]
  exact k8 k hk
/-- a state is copied -/
theorem copyFrom_n {S : Nat → Nat} {st dst : Nat} (hx : WX S) (h : Cpl LW S st cc cpg clv cm cs cbits cw ce) (hne : dst ≠ st) (hd1 : ∀ k, k < 48 → cw dst k ∈ LW) (hd2 : ∀ j k, j < 48 → k < 48 → cw dst j = cw dst k → j = k) (hd3 : ∀ j k, j < 48 → k < 48 → cw st j ≠ cw dst k) : ∃ cs' cbits' ce', C3_copyFrom LW cw cs cc cpg clv cm cbits ce dst st = some (cs', va_up cc dst (cc st), va_up cpg dst (cpg st), va_up clv dst (clv st), va_up cm dst (cm st), cbits', ce') ∧ Cpl LW S dst (va_up cc dst (cc st)) (va_up cpg dst (cpg st)) (va_up clv dst (clv st)) (va_up cm dst (cm st)) cs' cbits' cw ce' ∧ (∀ x, (∀ k, k < 48 → x ≠ cw dst k) → cs' x = cs x ∧ cbits' x = cbits x) ∧ ∀ z, z ≠ dst → ce' z = ce z := by
  obtain ⟨k1, k2, k3, k4, k5, k6, k7, k8⟩ := h
  have h48 := hx.1.1.2.1
  obtain ⟨t1, t2⟩ := tot_le hx
  have w1 : ∀ (d x n : Nat) (cs1 : Nat → Int32) (cb1 : Nat → Nat → Int64) (kk : (Nat → Int32) → (Nat → Int32) → (Nat → Int32) → (Nat → Int32) → (Nat → Int32) → (Nat → Nat → Int64) → (Nat → Nat → Int32) → Option ((Nat → Int32) × (Nat → Int32) × (Nat → Int32) × (Nat → Int32) × (Nat → Int32) × (Nat → Nat → Int64) × (Nat → Nat → Int32))), x + d = S 0 → d < n → (∀ j, j < x → cs1 (cw dst j) = cs (cw st j) ∧ ∀ b, b < 192 → cb (cb1 (cw dst j)) b = cb (cbits (cw st j)) b) → (∀ y, (∀ k, k < 48 → y ≠ cw dst k) → cs1 y = cs y ∧ cb1 y = cbits y) → ∃ cs' cb', C3_copyFrom_L2 LW cw dst st kk n cs1 cc cpg clv cm cb1 ce (nI x) = kk cs' cc cpg clv cm cb' ce ∧ (∀ j, j < S 0 → cs' (cw dst j) = cs (cw st j) ∧ ∀ b, b < 192 → cb (cb' (cw dst j)) b = cb (cbits (cw st j)) b) ∧ ∀ y, (∀ k, k < 48 → y ≠ cw dst k) → cs' y = cs y ∧ cb' y = cbits y := by
    intro d
    induction d with
    | zero =>
      intro x n cs1 cb1 kk hxd hn h1 h2
      obtain ⟨n, rfl⟩ : ∃ m, n = m + 1 := ⟨n - 1, by omega⟩
      refine ⟨cs1, cb1, ?_, fun j hj => h1 j (by omega), h2⟩
      rw [C3_copyFrom_L2, k1, il (by omega) (by omega), if_pos (by omega)]
    | succ d ih =>
      intro x n cs1 cb1 kk hxd hn h1 h2
      obtain ⟨n, rfl⟩ : ∃ m, n = m + 1 := ⟨n - 1, by omega⟩
      obtain ⟨B, eB, hB⟩ := copyFrom_w (cs := cs1) (cbits := cb1) (x := cw dst x) (y := cw st x)
      have hst := h2 (cw st x) (fun k hk => hd3 x k (by omega) hk)
      obtain ⟨cs', cb', r1, r2, r3⟩ := ih (x + 1) n (va_up cs1 (cw dst x) (cs1 (cw st x))) (va_up cb1 (cw dst x) B) kk (by omega) (by omega) (fun j hj => by
        by_cases c : j = x
        · rw [c, vu_s, vu_s, hst.1]
          exact ⟨rfl, fun b hb => by rw [cb_congr hB b hb, hst.2]⟩
        · have hne2 : cw dst j ≠ cw dst x := fun q => c (hd2 j x (by omega) (by omega) q)
          rw [vu_n hne2, vu_n hne2]
          exact h1 j (by omega)) (fun y hy => by
        rw [vu_n (hy x (by omega)), vu_n (hy x (by omega))]
        exact h2 y hy)
      refine ⟨cs', cb', ?_, r2, r3⟩
      rw [C3_copyFrom_L2, k1, il (by omega) (by omega), if_neg (by omega), show (48 : Int32) = nI 48 from rfl, il (by decide) (by omega), if_neg (by omega), ga_j (by omega) (by decide), nI_clamp (by omega), gm_in (hd1 x (by omega)), wordAt_n (by omega) (k6 x (by omega)), bd1_in, gm_in (k6 x (by omega)), eB, bd2_in, nI_p1]
      exact r1
  have w2 : ∀ (d x n : Nat) (cs1 : Nat → Int32) (cb1 : Nat → Nat → Int64) (ce1 : Nat → Nat → Int32), x + d = tot S → d < n → (∀ j, j < x → ce1 dst j = ce st j) → (∀ z, z ≠ dst → ce1 z = ce z) → ∃ ce', C3_copyFrom_L41 LW cw dst st (fun c_signs c_count c_pages c_levels c_most c_bits c_entries => C3_copyFrom_J75 LW cw dst st c_signs c_count c_pages c_levels c_most c_bits c_entries) n cs1 cc cpg clv cm cb1 ce1 (nI x) = some (cs1, va_up cc dst (cc st), va_up cpg dst (cpg st), va_up clv dst (clv st), va_up cm dst (cm st), cb1, ce') ∧ (∀ j, j < tot S → ce' dst j = ce st j) ∧ ∀ z, z ≠ dst → ce' z = ce z := by
    intro d
    induction d with
    | zero =>
      intro x n cs1 cb1 ce1 hxd hn h1 h2
      obtain ⟨n, rfl⟩ : ∃ m, n = m + 1 := ⟨n - 1, by omega⟩
      refine ⟨ce1, ?_, fun j hj => h1 j (by omega), h2⟩
      rw [C3_copyFrom_L41, k2, il (by omega) (by omega), if_pos (by omega)]
      unfold C3_copyFrom_J75
      rw [k2]
    | succ d ih =>
      intro x n cs1 cb1 ce1 hxd hn h1 h2
      obtain ⟨n, rfl⟩ : ∃ m, n = m + 1 := ⟨n - 1, by omega⟩
      obtain ⟨v, p, hv, hp, e⟩ := page_of hx.1 (show x < tot S by omega)
      have hce : ce1 st x = nI (S (12 + 48 * v + p)) := by rw [h2 st (fun q => hne q.symm), e]; exact k5 v hv p hp
      obtain ⟨ce', r1, r2, r3⟩ := ih (x + 1) n cs1 cb1 (va_up ce1 dst (upd (ce1 dst) x (nI (S (12 + 48 * v + p))))) (by omega) (by omega) (fun j hj => by
        rw [vu_s]
        by_cases c : j = x
        · rw [c, upd_s, ← hce, h2 st (fun q => hne q.symm)]
        · rw [upd_n c]; exact h1 j (by omega)) (fun z hz => by rw [vu_n hz]; exact h2 z hz)
      refine ⟨ce', ?_, r2, r3⟩
      rw [← r1, C3_copyFrom_L41, k2, il (by omega) (by omega), if_neg (by omega), show (48 : Int32) = nI 48 from rfl, il (by decide) (by omega), if_neg (by omega), entriesOf_n k2 (by omega) t1 hce, bd1_in, ga_j (by omega) (by decide), nI_clamp (by omega), nI_p1]
  obtain ⟨cs', cb', r1, r2, r3⟩ := w1 (S 0) 0 FU cs cbits (fun c_signs c_count c_pages c_levels c_most c_bits c_entries => C3_copyFrom_L41 LW cw dst st (fun c_signs c_count c_pages c_levels c_most c_bits c_entries => C3_copyFrom_J75 LW cw dst st c_signs c_count c_pages c_levels c_most c_bits c_entries) FU c_signs c_count c_pages c_levels c_most c_bits c_entries 0) (by omega) (Nat.lt_of_le_of_lt h48 (by decide)) (fun j hj => absurd hj (by omega)) (fun y _ => ⟨rfl, rfl⟩)
  obtain ⟨ce', q1, q2, q3⟩ := w2 (tot S) 0 FU cs' cb' ce (by omega) (Nat.lt_of_le_of_lt t1 (by decide)) (fun j hj => absurd hj (by omega)) (fun z _ => rfl)
  refine ⟨cs', cb', ce', Eq.trans r1 q1, ⟨by rw [vu_s]; exact k1, by rw [vu_s]; exact k2, by rw [vu_s]; exact k3, by rw [vu_s]; exact k4, fun v hv p hp => ?_, hd1, hd2, fun k hk => ?_⟩, r3, q3⟩
  · have := off_tot (S := S) hv
    rw [q2 _ (by omega)]
    exact k5 v hv p hp
  · obtain ⟨x1, x2⟩ := r2 k hk
    rw [x1]
    exact ⟨(k8 k hk).1, fun b hb => by rw [x2 b hb]; exact (k8 k hk).2 b hb⟩
end
