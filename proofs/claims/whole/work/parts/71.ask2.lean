/-! beginnings; what lies between; pages, forks, all -/
theorem word2_n {T ak : Nat → Nat} {tl al : Nat} (ht : tl ≤ 120) (hT : ∀ i, T i < 128) (hak : ∀ i, ak i < 128) (cs : Nat → Int32) (cbits : Nat → Nat → Int64) (w : Nat) : (∃ (ak' : Nat → Nat) (B : Nat → Int64), M_isWord (nf T) (nI tl) (nf ak) (nI al) = some (1, nf ak', nI tl) ∧ C4_readWord (nf T) (nI tl) cs cbits w = some (1, va_up cs w (nI tl), va_up cbits w B) ∧ (∀ i, ak' i < 128) ∧ 1 ≤ tl ∧ tl ≤ 24 ∧ (∀ b, b < 192 → cb B b = ab ak' tl b) ∧ ∀ i, i < tl → 1 ≤ ak' i) ∨ ∃ (ak' : Nat → Nat) (B : Nat → Int64) (m : Int32), M_isWord (nf T) (nI tl) (nf ak) (nI al) = some (0, nf ak', nI al) ∧ C4_readWord (nf T) (nI tl) cs cbits w = some (0, va_up cs w m, va_up cbits w B) ∧ ∀ i, ak' i < 128 := by
  obtain ⟨m1, m2⟩ := isWord_n (ak := ak) (al := al) ht hT
  obtain ⟨c1, c2⟩ := readWord_n (w := w) ht hT cs cbits
  by_cases c : isw T tl
  · obtain ⟨ak', e1, e2, e3⟩ := m1 c
    obtain ⟨B, e4, e5⟩ := c1 c
    have hs := isw_s.mp c
    refine Or.inl ⟨ak', B, e1, e4, fun i => ?_, hs.1.1, hs.1.2, fun b hb => ?_, fun i hi => ?_⟩
    · rcases e3 i with q | q
      · rw [q]; exact hT i
      · rw [q]; exact hak i
    · exact wbits_congr e5 (fun i hi => (e2 i hi).symm) b hb
    · rw [e2 i hi]
      have := hs.2 i hi
      unfold sg at this
      by_cases cs : (97 ≤ T i ∧ T i ≤ 122) ∨ (65 ≤ T i ∧ T i ≤ 90) ∨ (48 ≤ T i ∧ T i ≤ 57)
      · omega
      · rw [if_neg cs] at this
        cases this
  · obtain ⟨ak', e1, e3⟩ := m2 c
    obtain ⟨B, m, e4⟩ := c2 c
    refine Or.inr ⟨ak', B, m, e1, e4, fun i => ?_⟩
    rcases e3 i with q | q
    · rw [q]; exact hT i
    · rw [q]; exact hak i
theorem beg_iff {S ak : Nat → Nat} {al w : Nat} (h : WF S) (ha : aok ak al) (hpos : ∀ i, i < al → 1 ≤ ak i) (hw : w < S 0) : 8 * al ≤ fd (ab ak al) (wb S w) ↔ al ≤ S (350 + w) ∧ ∀ i, i < al → S (400 + 24 * w + i) = ak i := by
  have hl := h.2.2.2.2.1 w hw
  have ha1 := ha.1
  constructor
  · intro hf
    have hbit : ∀ i, i < al → ∀ t, t < 7 → (if i < S (350 + w) then S (400 + 24 * w + i) else 0) / 2 ^ t % 2 = ak i / 2 ^ t % 2 := fun i hi t ht => by
      have e := fd_eq (f := ab ak al) (g := wb S w) (b := 8 * i + (7 - t)) (by omega)
      unfold ab wb bt8 at e
      rw [show (8 * i + (7 - t)) / 8 = i by omega, show (8 * i + (7 - t)) % 8 = 7 - t by omega, show 7 - (7 - t) = t by omega, if_pos hi] at e
      rw [e]
      by_cases c : i < S (350 + w)
      · rw [if_pos c, if_pos c]
      · rw [if_neg c, if_neg c, Nat.zero_div]
    have hone : ∀ i, i < al → (if i < S (350 + w) then S (400 + 24 * w + i) else 0) % 128 = ak i := fun i hi => sign_s (ha.2 i (by omega)) (hbit i hi)
    have hlen : al ≤ S (350 + w) := by
      rcases Nat.lt_or_ge (S (350 + w)) al with q | q
      · have e := hone (S (350 + w)) q
        rw [if_neg (Nat.lt_irrefl _)] at e
        have := hpos _ q
        omega
      · exact q
    refine ⟨hlen, fun i hi => ?_⟩
    have e := hone i hi
    rw [if_pos (by omega)] at e
    have := hl.2.2 i (by omega)
    omega
  · rintro ⟨h1, h2⟩
    rcases Nat.lt_or_ge (fd (ab ak al) (wb S w)) (8 * al) with q | q
    · exfalso
      refine fd_ne (f := ab ak al) (g := wb S w) (by omega) ?_
      generalize fd (ab ak al) (wb S w) = b at q
      unfold ab wb bt8
      rw [if_pos (by omega), if_pos (by omega)]
      show _ = S (400 + 24 * w + b / 8) / _ % 2
      rw [h2 (b / 8) (by omega)]
    · exact q
theorem isBeg_n {S ak : Nat → Nat} {al w : Nat} (h : WF S) (ha : aok ak al) (hpos : ∀ i, i < al → 1 ≤ ak i) (hw : w < S 0) : M_isBeginning (nf S) (nf ak) (nI al) (nI w) = some (nI (if 8 * al ≤ fd (ab ak al) (wb S w) then 1 else 0)) := by
  have hl := h.2.2.2.2.1 w hw
  have h48 := h.1.2.1
  have ha1 := ha.1
  have z0 : ∀ (n i : Nat), i ≤ 24 → M_isBeginning_L20 (nf S) (nf ak) (nI al) (nI w) (fun v2 => gb v2 (some v2)) (n + 1) 0 (nI i) = some 0 := fun n i hi => by
    rw [M_isBeginning_L20, il (by omega) (by omega)]
    by_cases c : al ≤ i
    · rw [if_pos c]; rfl
    · rw [if_neg c, if_pos rfl]; rfl
  have key : al ≤ S (350 + w) → ∀ (d i n : Nat), i + d = al → d + 1 < n → (∀ j, j < i → S (400 + 24 * w + j) = ak j) → M_isBeginning_L20 (nf S) (nf ak) (nI al) (nI w) (fun v2 => gb v2 (some v2)) n 1 (nI i) = some (nI (if 8 * al ≤ fd (ab ak al) (wb S w) then 1 else 0)) := by
    intro hlen d
    induction d with
    | zero =>
      intro i n hi hn hj
      obtain ⟨n, rfl⟩ : ∃ m, n = m + 1 := ⟨n - 1, by omega⟩
      rw [M_isBeginning_L20, il (by omega) (by omega), if_pos (by omega), if_pos ((beg_iff h ha hpos hw).mpr ⟨hlen, fun j hj' => hj j (by omega)⟩)]
      rfl
    | succ d ih =>
      intro i n hi hn hj
      obtain ⟨n, rfl⟩ : ∃ m, n = m + 2 := ⟨n - 2, by omega⟩
      have eS : M_signOf (nf S) (nf ak) (nI w) (nI i) = some (nI (S (400 + 24 * w + i))) := by rw [signOf_n (by omega) (by omega)]; unfold msg; rw [if_neg (by omega)]
      have h1 := hl.2.2 i (by omega)
      have h2 := ha.2 i (by omega)
      rw [M_isBeginning_L20, il (by omega) (by omega), if_neg (by omega), if_neg (by decide), eS, bd1_in, ga_j (by omega) (by decide), nI_clamp (by omega), nf_a, ie (by omega) (by omega), nI_p1]
      by_cases c : S (400 + 24 * w + i) = ak i
      · rw [if_pos c]
        refine ih (i + 1) (n + 1) (by omega) (by omega) (fun j hj' => ?_)
        by_cases cj : j = i
        · rw [cj]; exact c
        · exact hj j (by omega)
      · rw [if_neg c, z0 n (i + 1) (by omega), if_neg (fun q => c (((beg_iff h ha hpos hw).mp q).2 i (by omega)))]
        rfl
  unfold M_isBeginning
  rw [len_n (by omega), bd1_in, ilt (by omega) (by omega)]
  by_cases c : S (350 + w) < al
  · rw [if_pos c]
    refine (z0 19999 0 (by decide)).trans ?_
    rw [if_neg (fun q => by have := ((beg_iff h ha hpos hw).mp q).1; omega)]
    rfl
  · rw [if_neg c]
    exact key (by omega) al 0 FU (by omega) (by have : FU = 20000 := rfl; omega) (fun j hj => absurd hj (by omega))
def bgc (S ak : Nat → Nat) (al : Nat) : Nat → Nat := sumN (fun k => if 8 * al ≤ fd (ab ak al) (wb S k) then 1 else 0)
theorem begins_m {S ak : Nat → Nat} {al : Nat} (h : WF S) (ha : aok ak al) (hpos : ∀ i, i < al → 1 ≤ ak i) (mt mr : Nat → Int32) (ty v1 : Int32) : M_begins_L44 (nf S) mt ty v1 (fun m_refused m_asked m_askedLength v2 => some (v2, m_refused, m_asked, m_askedLength)) FU mr (nf ak) (nI al) 0 0 = some (nI (bgc S ak al (S 0)), mr, nf ak, nI al) := by
  have h48 := h.1.2.1
  have key : ∀ (d w n : Nat), w + d = S 0 → d < n → M_begins_L44 (nf S) mt ty v1 (fun m_refused m_asked m_askedLength v2 => some (v2, m_refused, m_asked, m_askedLength)) n mr (nf ak) (nI al) (nI (bgc S ak al w)) (nI w) = some (nI (bgc S ak al (S 0)), mr, nf ak, nI al) := by
    intro d
    induction d with
    | zero =>
      intro w n hw hn
      obtain ⟨n, rfl⟩ : ∃ m, n = m + 1 := ⟨n - 1, by omega⟩
      rw [M_begins_L44, nf_a, il (by omega) (by omega), if_pos (by omega), show w = S 0 by omega]
    | succ d ih =>
      intro w n hw hn
      obtain ⟨n, rfl⟩ : ∃ m, n = m + 1 := ⟨n - 1, by omega⟩
      have ih := ih (w + 1) n (by omega) (by omega)
      rw [show bgc S ak al (w + 1) = bgc S ak al w + (if 8 * al ≤ fd (ab ak al) (wb S w) then 1 else 0) from rfl] at ih
      rw [M_begins_L44, nf_a, il (by omega) (by omega), if_neg (by omega), isBeg_n h ha hpos (by omega), bd1_in, nI_p1]
      by_cases c : 8 * al ≤ fd (ab ak al) (wb S w)
      · rw [if_pos c] at ih ⊢
        rw [if_neg (by decide), nI_p1]
        exact ih
      · rw [if_neg c] at ih ⊢
        rw [if_pos (by decide), show nI (bgc S ak al w) + 0 = nI (bgc S ak al w + 0) from nI_add _ 0]
        exact ih
  exact key (S 0) 0 FU (by omega) (by have : FU = 20000 := rfl; omega)
theorem begins_c {a : Nat → Nat} {LW : List Nat} {S ak : Nat → Nat} {al w : Nat} {cc cpg clv cm cs : Nat → Int32} {cbits : Nat → Nat → Int64} {cw : Nat → Nat → Nat} {ce : Nat → Nat → Int32} (h : WF S) (hal : al ≤ 24) (hc : Cpl LW S (a 14) cc cpg clv cm cs cbits cw ce) (hw : cs w = nI al) (hb : ∀ b, b < 192 → cb (cbits w) b = ab ak al b) : C3_beginning LW cs cc cbits cw (a 14) w = some (nI (bgc S ak al (S 0))) := by
  have h48 := h.1.2.1
  have key : ∀ (d k n : Nat), k + d = S 0 → d < n → C3_beginning_L4 LW cs cc cbits cw (a 14) w (fun v2 => some v2) n (nI (bgc S ak al k)) (nI k) = some (nI (bgc S ak al (S 0))) := by
    intro d
    induction d with
    | zero =>
      intro k n hk hn
      obtain ⟨n, rfl⟩ : ∃ m, n = m + 1 := ⟨n - 1, by omega⟩
      rw [C3_beginning_L4, hc.1, il (by omega) (by omega), if_pos (by omega), show k = S 0 by omega]
    | succ d ih =>
      intro k n hk hn
      obtain ⟨n, rfl⟩ : ∃ m, n = m + 1 := ⟨n - 1, by omega⟩
      have ih := ih (k + 1) n (by omega) (by omega)
      rw [show bgc S ak al (k + 1) = bgc S ak al k + (if 8 * al ≤ fd (ab ak al) (wb S k) then 1 else 0) from rfl] at ih
      have hm := hc.2.2.2.2.2.1 k (by omega)
      have ef : fd (cb (cbits w)) (cb (cbits (cw (a 14) k))) = fd (ab ak al) (wb S k) := fd_congr hb (hc.2.2.2.2.2.2.2 k (by omega)).2
      have hfl := fd_le (ab ak al) (wb S k)
      rw [C3_beginning_L4, hc.1, il (by omega) (by omega), if_neg (by omega), wordAt_n (by omega) hm, bd1_in, gm_in hm, parting_c, bd1_in, ef, enc_m1 hfl, hw, show (8 : Int32) * nI al = nI (8 * al) from pk_mul 8 al, nI_p1, nI_p1]
      by_cases c1 : fd (ab ak al) (wb S k) = 192
      · rw [if_pos (by omega)] at ih
        rw [if_pos c1]
        exact ih
      · rw [if_neg c1, enc_some c1, ilt (by omega) (by omega)]
        by_cases c2 : 8 * al ≤ fd (ab ak al) (wb S k)
        · rw [if_pos c2] at ih
          rw [if_neg (by omega)]
          exact ih
        · rw [if_neg c2] at ih
          rw [if_pos (by omega)]
          exact ih
  unfold C3_beginning
  exact key (S 0) 0 FU (by omega) (by have : FU = 20000 := rfl; omega)
theorem ltb_w {S ak : Nat → Nat} {al w : Nat} (h : WF S) (hw : w < S 0) : ltb (mbit S ak al w) (mbit S ak al 48) = (if w < rkk S (ab ak al) al - thv S ak al then 1 else 0) ∧ ltb (mbit S ak al 48) (mbit S ak al w) = if rkk S (ab ak al) al ≤ w then 1 else 0 := by
  obtain ⟨r1, r2, r3, r4, r5⟩ := rkk_s (ak := ak) (al := al) h
  have h48 := h.1.2.1
  have ht := thv_le S ak al
  rw [mbit_wb (by omega), mbit_ab]
  by_cases c1 : w < rkk S (ab ak al) al - thv S ak al
  · rw [if_pos c1, if_neg (by omega)]
    exact ⟨ltb_1 (r3 w c1), ltb_0 (ab_bits _ _) (wb_bits _ _) (fun q => lt_irr q (r3 w c1))⟩
  · rw [if_neg c1]
    by_cases c2 : rkk S (ab ak al) al ≤ w
    · rw [if_pos c2]
      exact ⟨ltb_0 (wb_bits _ _) (ab_bits _ _) (fun q => lt_irr q (r4 w c2 hw)), ltb_1 (r4 w c2 hw)⟩
    · rw [if_neg c2]
      have e : w = rkk S (ab ak al) al - 1 := by omega
      have h192 : fd (wb S w) (ab ak al) = 192 := fd_all (fun b hb => by rw [e]; exact (r5 (by omega) b hb).symm)
      exact ⟨ltb_0 (wb_bits _ _) (ab_bits _ _) (fun q => by have := q.1; omega), ltb_0 (ab_bits _ _) (wb_bits _ _) (fun q => by have := q.1; rw [fd_comm] at this; omega)⟩
theorem between_m {S ak : Nat → Nat} {al k : Nat} (h : WF S) (ha : aok ak al) (hk : k < S 0) (mt mr : Nat → Int32) (ty : Int32) : bd1 (M_isAhead (nf S) (nf ak) (nI al) (nI k) 48) (fun r35 => M_between_L42 (nf S) mt ty (nI k) (fun m_refused m_asked m_askedLength v2 => some (v2, m_refused, m_asked, m_askedLength)) FU mr (nf ak) (nI al) 0 r35 0) = some (nI (if k < rkk S (ab ak al) al - thv S ak al then rkk S (ab ak al) al - k else k + 1 - (rkk S (ab ak al) al - thv S ak al)), mr, nf ak, nI al) := by
  have h48 := h.1.2.1
  obtain ⟨r1, r2, -, -, -⟩ := rkk_s (ak := ak) (al := al) h
  have ht := thv_le S ak al
  have eA : ∀ w, w < S 0 → M_isAhead (nf S) (nf ak) (nI al) (nI w) 48 = some (nI (if w < rkk S (ab ak al) al - thv S ak al then 1 else 0)) := fun w hw => by
    show M_isAhead (nf S) (nf ak) (nI al) (nI w) (nI 48) = _
    rw [isAhead_n (wok_w h hw).1 (wok_a ha), (ltb_w h hw).1]
  have eB : ∀ w, w < S 0 → M_isAhead (nf S) (nf ak) (nI al) 48 (nI w) = some (nI (if rkk S (ab ak al) al ≤ w then 1 else 0)) := fun w hw => by
    show M_isAhead (nf S) (nf ak) (nI al) (nI 48) (nI w) = _
    rw [isAhead_n (wok_a ha) (wok_w h hw).1, (ltb_w h hw).2]
  rw [eA k hk, bd1_in]
  generalize hR : rkk S (ab ak al) al = R at *
  generalize hA : R - thv S ak al = A at *
  have hAR : A ≤ R := by omega
  by_cases c : k < A
  · rw [if_pos c, if_pos c]
    have key : ∀ (d w n : Nat), w + d = S 0 → d < n → M_between_L42 (nf S) mt ty (nI k) (fun m_refused m_asked m_askedLength v2 => some (v2, m_refused, m_asked, m_askedLength)) n mr (nf ak) (nI al) (nI (min w R - k)) (nI 1) (nI w) = some (nI (R - k), mr, nf ak, nI al) := by
      intro d
      induction d with
      | zero =>
        intro w n hw hn
        obtain ⟨n, rfl⟩ : ∃ m, n = m + 1 := ⟨n - 1, by omega⟩
        rw [M_between_L42, nf_a, il (by omega) (by omega), if_pos (by omega), show min w R - k = R - k by omega]
      | succ d ih =>
        intro w n hw hn
        obtain ⟨n, rfl⟩ : ∃ m, n = m + 1 := ⟨n - 1, by omega⟩
        have ih := ih (w + 1) n (by omega) (by omega)
        have j0 : M_between_J104 (nf S) mt ty (nI k) (M_between_L42 (nf S) mt ty (nI k) (fun m_refused m_asked m_askedLength v2 => some (v2, m_refused, m_asked, m_askedLength)) n) (fun m_refused m_asked m_askedLength v2 => some (v2, m_refused, m_asked, m_askedLength)) mr (nf ak) (nI al) (nI (min w R - k)) (nI 1) (nI w) 0 = M_between_L42 (nf S) mt ty (nI k) (fun m_refused m_asked m_askedLength v2 => some (v2, m_refused, m_asked, m_askedLength)) n mr (nf ak) (nI al) (nI (min w R - k)) (nI 1) (nI (w + 1)) := by
          unfold M_between_J104
          rw [if_pos rfl, show nI (min w R - k) + 0 = nI (min w R - k) from nI_add _ 0, nI_p1]
        have j1 : M_between_J104 (nf S) mt ty (nI k) (M_between_L42 (nf S) mt ty (nI k) (fun m_refused m_asked m_askedLength v2 => some (v2, m_refused, m_asked, m_askedLength)) n) (fun m_refused m_asked m_askedLength v2 => some (v2, m_refused, m_asked, m_askedLength)) mr (nf ak) (nI al) (nI (min w R - k)) (nI 1) (nI w) 1 = M_between_L42 (nf S) mt ty (nI k) (fun m_refused m_asked m_askedLength v2 => some (v2, m_refused, m_asked, m_askedLength)) n mr (nf ak) (nI al) (nI (min w R - k + 1)) (nI 1) (nI (w + 1)) := by
          unfold M_between_J104
          rw [if_neg (by decide), nI_p1, nI_p1]
        rw [M_between_L42, nf_a, il (by omega) (by omega), if_neg (by omega), if_neg (by decide), ilt (by omega) (by omega), j0, j1, eB w (by omega), bd1_in]
        by_cases c1 : w < k
        · rw [if_pos c1, ← ih, show min (w + 1) R - k = min w R - k by omega]
        · rw [if_neg c1]
          by_cases c2 : R ≤ w
          · rw [if_pos c2, if_neg (by decide), ← ih, show min (w + 1) R - k = min w R - k by omega]
          · rw [if_neg c2, if_pos (by decide), ← ih, show min (w + 1) R - k = min w R - k + 1 by omega]
    have := key (S 0) 0 FU (by omega) (by have : FU = 20000 := rfl; omega)
    rw [show min 0 R - k = 0 by omega] at this
    exact this
  · rw [if_neg c, if_neg c]
    have key : ∀ (d w n : Nat), w + d = S 0 → d < n → M_between_L42 (nf S) mt ty (nI k) (fun m_refused m_asked m_askedLength v2 => some (v2, m_refused, m_asked, m_askedLength)) n mr (nf ak) (nI al) (nI (min w (k + 1) - A)) (nI 0) (nI w) = some (nI (k + 1 - A), mr, nf ak, nI al) := by
      intro d
      induction d with
      | zero =>
        intro w n hw hn
        obtain ⟨n, rfl⟩ : ∃ m, n = m + 1 := ⟨n - 1, by omega⟩
        rw [M_between_L42, nf_a, il (by omega) (by omega), if_pos (by omega), show min w (k + 1) - A = k + 1 - A by omega]
      | succ d ih =>
        intro w n hw hn
        obtain ⟨n, rfl⟩ : ∃ m, n = m + 1 := ⟨n - 1, by omega⟩
        have ih := ih (w + 1) n (by omega) (by omega)
        have j0 : M_between_J104 (nf S) mt ty (nI k) (M_between_L42 (nf S) mt ty (nI k) (fun m_refused m_asked m_askedLength v2 => some (v2, m_refused, m_asked, m_askedLength)) n) (fun m_refused m_asked m_askedLength v2 => some (v2, m_refused, m_asked, m_askedLength)) mr (nf ak) (nI al) (nI (min w (k + 1) - A)) (nI 0) (nI w) 0 = M_between_L42 (nf S) mt ty (nI k) (fun m_refused m_asked m_askedLength v2 => some (v2, m_refused, m_asked, m_askedLength)) n mr (nf ak) (nI al) (nI (min w (k + 1) - A)) (nI 0) (nI (w + 1)) := by
          unfold M_between_J104
          rw [if_pos rfl, show nI (min w (k + 1) - A) + 0 = nI (min w (k + 1) - A) from nI_add _ 0, nI_p1]
        have j1 : M_between_J104 (nf S) mt ty (nI k) (M_between_L42 (nf S) mt ty (nI k) (fun m_refused m_asked m_askedLength v2 => some (v2, m_refused, m_asked, m_askedLength)) n) (fun m_refused m_asked m_askedLength v2 => some (v2, m_refused, m_asked, m_askedLength)) mr (nf ak) (nI al) (nI (min w (k + 1) - A)) (nI 0) (nI w) 1 = M_between_L42 (nf S) mt ty (nI k) (fun m_refused m_asked m_askedLength v2 => some (v2, m_refused, m_asked, m_askedLength)) n mr (nf ak) (nI al) (nI (min w (k + 1) - A + 1)) (nI 0) (nI (w + 1)) := by
          unfold M_between_J104
          rw [if_neg (by decide), nI_p1, nI_p1]
        rw [M_between_L42, nf_a, il (by omega) (by omega), if_neg (by omega), if_pos (by decide), ilt (by omega) (by omega), j0, j1, eA w (by omega), bd1_in]
        by_cases c1 : k < w
        · rw [if_pos c1, ← ih, show min (w + 1) (k + 1) - A = min w (k + 1) - A by omega]
        · rw [if_neg c1]
          by_cases c2 : w < A
          · rw [if_pos c2, if_neg (by decide), ← ih, show min (w + 1) (k + 1) - A = min w (k + 1) - A by omega]
          · rw [if_neg c2, if_pos (by decide), ← ih, show min (w + 1) (k + 1) - A = min w (k + 1) - A + 1 by omega]
    have := key (S 0) 0 FU (by omega) (by have : FU = 20000 := rfl; omega)
    rw [show min 0 (k + 1) - A = 0 by omega] at this
    exact this
theorem stp_begins {a : Nat → Nat} {LW LS LK : List Nat} (hA : Ax a LS LK) : Stp_begins a LW LS LK (II a LW) := by
  intro c_bytes c_heads c_firsts c_levelOf c_aboveOf c_partings c_signs c_count c_pages c_levels c_most c_page c_known c_guess c_diff c_pieces c_place c_bits c_words c_entries c_bads c_noes c_fulls c_length c_next c_kept c_base c_from c_to c_above c_bit c_lastLeft m_s m_past m_kept m_refused m_text m_asked m_heads m_forkBit m_forkFrom m_forkTo m_wayPage m_wayKnown m_wayGuess m_wayDiff m_wayRead m_wayPlace m_treeBit m_treeLeft m_treeRight m_treeAbove m_pileFrom m_pileTo m_pileAbove m_known m_typed m_askedLength m_entries m_forks m_guess m_diff m_read m_placeOf m_treeForks m_treeDeep v1 hI
  obtain ⟨S, T, ak, tl, al, kn, nx, ⟨rfl, hg, hc, hs⟩, ⟨rfl, rfl, rfl, rfl, ht, hT⟩, ⟨rfl, rfl, hal, hak⟩, hR, ⟨rfl, rfl, rfl, hW, hr⟩⟩ := hI
  rcases pk_ix v1 (n := 2) (by decide) with h | h | ⟨c, hc8, rfl⟩
  · refine ⟨-2, c_signs, c_page, c_known, c_guess, c_diff, c_pieces, c_place, c_bits, c_bads + 1, c_noes, c_fulls, c_base, c_from, c_to, c_above, c_bit, c_lastLeft, upd m_refused 0 (m_refused 0 + 1), nf ak, nI al, ?_, ?_, ?_⟩
    · unfold C7_begins C7_begins_J9
      rw [if_pos h, rf_bad, bd4_in]
    · unfold M_begins
      rw [in_lo h (by decide), bd1_in, if_pos rfl, mr_bad, bd2_in]
    · exact ⟨S, T, ak, tl, al, kn, nx, ⟨rfl, hg, hc, hs⟩, ⟨rfl, rfl, rfl, rfl, ht, hT⟩, ⟨rfl, rfl, hal, hak⟩, rx_bad hR, ⟨rfl, rfl, rfl, hW, hr⟩⟩
  · obtain ⟨q1, q2, q3⟩ := hi3 h (by decide)
    refine ⟨-2, c_signs, c_page, c_known, c_guess, c_diff, c_pieces, c_place, c_bits, c_bads + 1, c_noes, c_fulls, c_base, c_from, c_to, c_above, c_bit, c_lastLeft, upd m_refused 0 (m_refused 0 + 1), nf ak, nI al, ?_, ?_, ?_⟩
    · unfold C7_begins C7_begins_J9
      rw [if_neg q1, if_neg (show ¬ v1 ≤ 1 from q2), rf_bad, bd4_in]
    · unfold M_begins
      rw [in_hi (show (1 : Int32) < v1 from q3), bd1_in, if_pos rfl, mr_bad, bd2_in]
    · exact ⟨S, T, ak, tl, al, kn, nx, ⟨rfl, hg, hc, hs⟩, ⟨rfl, rfl, rfl, rfl, ht, hT⟩, ⟨rfl, rfl, hal, hak⟩, rx_bad hR, ⟨rfl, rfl, rfl, hW, hr⟩⟩
  · have eI : M_in (nI c) 0 1 = some 1 := in_c (m := 1) (by decide) (by omega)
    rcases word2_n (al := al) ht hT hak c_signs c_bits (a 13) with ⟨ak', B, m1, c1, hak', h1, h24, hB, hpos⟩ | ⟨ak', B, m, m1, c1, hak'⟩
    · skip
      obtain ⟨hc1, hr1⟩ := up13 hW hg hc hr (nI tl) B
      have ha : aok ak' tl := ⟨h24, fun i _ => hak' i⟩
      have hw13 : va_up c_signs (a 13) (nI tl) (a 13) = nI tl := vu_s
      have hb13 : ∀ b, b < 192 → cb (va_up c_bits (a 13) B (a 13)) b = ab ak' tl b := fun b hb => by rw [vu_s]; exact hB b hb
      obtain ⟨d1, d2, d3, d4, d5, d6, y1, y2, y3, y4, y5, y6, eW, hl⟩ := walkw_n hg hc1 hs hA.2.2.2 h24 hw13 hb13 c_page c_known c_guess c_diff c_pieces c_place c_base c_from c_to c_above c_bit c_lastLeft
      have eT := thc hg hc1 hA.2.2.2 hl
      have eM := there_n hg.1.1 ha
      have eA := ahead_r hg.1.1 ha
      have eR := rank_c hg.1 hc1 hs hA.2.2.2 (ab_bits ak' tl) hl
      have hle := thv_le S ak' tl
      obtain ⟨k1, k2, -, -, -⟩ := rkk_s (ak := ak') (al := tl) hg.1.1
      have h48 := gs48 hg
      have hcc := hc.1
      have eH : C7_aheadOfWord a LW LK c_heads c_firsts c_partings (va_up c_signs (a 13) (nI tl)) c_pages c_levels (va_up c_bits (a 13) B) c_words c_entries c_page c_known c_guess c_diff c_pieces c_place c_base c_from c_to c_above c_bit c_lastLeft = some (nI (rkk S (ab ak' tl) tl - thv S ak' tl), d1, d2, d3, d4, d5, d6, y1, y2, y3, y4, y5, y6) := by
        unfold C7_aheadOfWord
        rw [eW, bd12_in, eT, bd1_in, eR, bd1_in, bd1_in]
        by_cases ct : thv S ak' tl = 1
        · rw [ct, if_neg (by decide), show nI (rkk S (ab ak' tl) tl) - 1 = nI (rkk S (ab ak' tl) tl - 1) from pk_sub (b := 1) (by omega)]
        · rw [show thv S ak' tl = 0 by omega, if_pos (by decide), Nat.sub_zero]
      rcases (show c = 0 ∨ c = 1 by omega) with rfl | rfl
      · refine ⟨nI (bgc S ak' tl (S 0)), va_up c_signs (a 13) (nI tl), c_page, c_known, c_guess, c_diff, c_pieces, c_place, va_up c_bits (a 13) B, c_bads, c_noes, c_fulls, c_base, c_from, c_to, c_above, c_bit, c_lastLeft, m_refused, nf ak', nI tl, ?_, ?_, ?_⟩
        · unfold C7_begins
          rw [ineg (by decide), if_pos (by decide), c1, bd3_in, if_neg (by decide), if_pos (by decide), begins_c (ak := ak') (al := tl) hg.1.1 h24 hc1 hw13 hb13, bd1_in]
        · unfold M_begins
          rw [eI, bd1_in, if_neg (by decide), m1, bd3_in, if_neg (by decide), if_neg (by decide), begins_m hg.1.1 ha hpos]
        · exact ⟨S, T, ak', tl, tl, kn, nx, ⟨rfl, hg, hc1, hs⟩, ⟨rfl, rfl, rfl, rfl, ht, hT⟩, ⟨rfl, rfl, h24, hak'⟩, hR, ⟨rfl, rfl, rfl, hW, hr1⟩⟩
      · refine ⟨nI (rkk S (ab ak' tl) tl - thv S ak' tl), va_up c_signs (a 13) (nI tl), d1, d2, d3, d4, d5, d6, va_up c_bits (a 13) B, c_bads, c_noes, c_fulls, y1, y2, y3, y4, y5, y6, m_refused, nf ak', nI tl, ?_, ?_, ?_⟩
        · unfold C7_begins
          rw [ineg (by decide), if_pos (by decide), c1, bd3_in, if_neg (by decide), if_neg (by decide), eH, bd13_in]
        · unfold M_begins
          rw [eI, bd1_in, if_neg (by decide), m1, bd3_in, if_neg (by decide), if_pos (by decide), eA, bd1_in]
        · exact ⟨S, T, ak', tl, tl, kn, nx, ⟨rfl, hg, hc1, hs⟩, ⟨rfl, rfl, rfl, rfl, ht, hT⟩, ⟨rfl, rfl, h24, hak'⟩, hR, ⟨rfl, rfl, rfl, hW, hr1⟩⟩
    · refine ⟨-3, va_up c_signs (a 13) m, c_page, c_known, c_guess, c_diff, c_pieces, c_place, va_up c_bits (a 13) B, c_bads, c_noes + 1, c_fulls, c_base, c_from, c_to, c_above, c_bit, c_lastLeft, upd m_refused 1 (m_refused 1 + 1), nf ak', nI al, ?_, ?_, ?_⟩
      · unfold C7_begins
        have hle1 : nI c ≤ 1 := (show nI c ≤ nI 1 from nI_le (by omega) (by decide))
        rw [ineg (by omega), if_pos hle1, c1, bd3_in, if_pos rfl, rf_no, bd4_in]
      · unfold M_begins
        rw [eI, bd1_in, if_neg (by decide), m1, bd3_in, if_pos rfl, mr_no, bd2_in]
      · exact ⟨S, T, ak', tl, al, kn, nx, ⟨rfl, hg, (up13 hW hg hc hr m B).1, hs⟩, ⟨rfl, rfl, rfl, rfl, ht, hT⟩, ⟨rfl, rfl, hal, hak'⟩, rx_no hR, ⟨rfl, rfl, rfl, hW, (up13 hW hg hc hr m B).2⟩⟩
theorem stp_between {a : Nat → Nat} {LW LS LK : List Nat} (hA : Ax a LS LK) : Stp_between a LW LS LK (II a LW) := by
  intro c_bytes c_heads c_firsts c_levelOf c_aboveOf c_partings c_signs c_count c_pages c_levels c_most c_page c_known c_guess c_diff c_pieces c_place c_bits c_words c_entries c_bads c_noes c_fulls c_length c_next c_kept c_base c_from c_to c_above c_bit c_lastLeft m_s m_past m_kept m_refused m_text m_asked m_heads m_forkBit m_forkFrom m_forkTo m_wayPage m_wayKnown m_wayGuess m_wayDiff m_wayRead m_wayPlace m_treeBit m_treeLeft m_treeRight m_treeAbove m_pileFrom m_pileTo m_pileAbove m_known m_typed m_askedLength m_entries m_forks m_guess m_diff m_read m_placeOf m_treeForks m_treeDeep v1 hI
  obtain ⟨S, T, ak, tl, al, kn, nx, ⟨rfl, hg, hc, hs⟩, ⟨rfl, rfl, rfl, rfl, ht, hT⟩, ⟨rfl, rfl, hal, hak⟩, hR, ⟨rfl, rfl, rfl, hW, hr⟩⟩ := hI
  have h48a := gs48 hg
  have hcc0 := hc.1
  rcases pk_ix v1 (n := S 0) (by omega) with h | h | ⟨k, hk, rfl⟩
  · refine ⟨-2, c_signs, c_page, c_known, c_guess, c_diff, c_pieces, c_place, c_bits, c_bads + 1, c_noes, c_fulls, c_base, c_from, c_to, c_above, c_bit, c_lastLeft, upd m_refused 0 (m_refused 0 + 1), nf ak, nI al, ?_, ?_, ?_⟩
    · unfold C7_between C7_between_J18
      rw [if_pos h, rf_bad, bd4_in]
    · unfold M_between
      rw [idx_no h48a (Or.inl h), bd1_in, if_pos rfl, mr_bad, bd2_in]
    · exact ⟨S, T, ak, tl, al, kn, nx, ⟨rfl, hg, hc, hs⟩, ⟨rfl, rfl, rfl, rfl, ht, hT⟩, ⟨rfl, rfl, hal, hak⟩, rx_bad hR, ⟨rfl, rfl, rfl, hW, hr⟩⟩
  · have q1 : ¬ v1 < 0 := fun q => absurd h (lo3 (n := S 0) q (by omega)).2.1
    have q2 : ¬ v1 < nI (S 0) := fun q => by rw [Int32.lt_iff_toInt_lt] at q; rw [Int32.le_iff_toInt_le] at h; omega
    refine ⟨-2, c_signs, c_page, c_known, c_guess, c_diff, c_pieces, c_place, c_bits, c_bads + 1, c_noes, c_fulls, c_base, c_from, c_to, c_above, c_bit, c_lastLeft, upd m_refused 0 (m_refused 0 + 1), nf ak, nI al, ?_, ?_, ?_⟩
    · unfold C7_between C7_between_J18
      rw [if_neg q1, hcc0, if_neg q2, rf_bad, bd4_in]
    · unfold M_between
      rw [idx_no h48a (Or.inr h), bd1_in, if_pos rfl, mr_bad, bd2_in]
    · exact ⟨S, T, ak, tl, al, kn, nx, ⟨rfl, hg, hc, hs⟩, ⟨rfl, rfl, rfl, rfl, ht, hT⟩, ⟨rfl, rfl, hal, hak⟩, rx_bad hR, ⟨rfl, rfl, rfl, hW, hr⟩⟩
  · skip
    rcases word_n (al := al) ht hT hak c_signs c_bits (a 13) with ⟨ak', B, m1, c1, hak', h1, h24, hB⟩ | ⟨ak', B, m, m1, c1, hak'⟩
    · skip
      obtain ⟨hc1, hr1⟩ := up13 hW hg hc hr (nI tl) B
      have ha : aok ak' tl := ⟨h24, fun i _ => hak' i⟩
      have hw13 : va_up c_signs (a 13) (nI tl) (a 13) = nI tl := vu_s
      have hb13 : ∀ b, b < 192 → cb (va_up c_bits (a 13) B (a 13)) b = ab ak' tl b := fun b hb => by rw [vu_s]; exact hB b hb
      obtain ⟨d1, d2, d3, d4, d5, d6, y1, y2, y3, y4, y5, y6, eW, hl⟩ := walkw_n hg hc1 hs hA.2.2.2 h24 hw13 hb13 c_page c_known c_guess c_diff c_pieces c_place c_base c_from c_to c_above c_bit c_lastLeft
      have eT := thc hg hc1 hA.2.2.2 hl
      have eM := there_n hg.1.1 ha
      have eA := ahead_r hg.1.1 ha
      have eR := rank_c hg.1 hc1 hs hA.2.2.2 (ab_bits ak' tl) hl
      have hle := thv_le S ak' tl
      obtain ⟨k1, k2, -, -, -⟩ := rkk_s (ak := ak') (al := tl) hg.1.1
      have h48 := gs48 hg
      have hcc := hc.1
      have eH : C7_aheadOfWord a LW LK c_heads c_firsts c_partings (va_up c_signs (a 13) (nI tl)) c_pages c_levels (va_up c_bits (a 13) B) c_words c_entries c_page c_known c_guess c_diff c_pieces c_place c_base c_from c_to c_above c_bit c_lastLeft = some (nI (rkk S (ab ak' tl) tl - thv S ak' tl), d1, d2, d3, d4, d5, d6, y1, y2, y3, y4, y5, y6) := by
        unfold C7_aheadOfWord
        rw [eW, bd12_in, eT, bd1_in, eR, bd1_in, bd1_in]
        by_cases ct : thv S ak' tl = 1
        · rw [ct, if_neg (by decide), show nI (rkk S (ab ak' tl) tl) - 1 = nI (rkk S (ab ak' tl) tl - 1) from pk_sub (b := 1) (by omega)]
        · rw [show thv S ak' tl = 0 by omega, if_pos (by decide), Nat.sub_zero]
      refine ⟨nI (if k < rkk S (ab ak' tl) tl - thv S ak' tl then rkk S (ab ak' tl) tl - k else k + 1 - (rkk S (ab ak' tl) tl - thv S ak' tl)), va_up c_signs (a 13) (nI tl), d1, d2, d3, d4, d5, d6, va_up c_bits (a 13) B, c_bads, c_noes, c_fulls, y1, y2, y3, y4, y5, y6, m_refused, nf ak', nI tl, ?_, ?_, ?_⟩
      · unfold C7_between
        rw [ineg (by omega), hcc0, ilt (by omega) (by omega), if_pos hk, c1, bd3_in, if_neg (by decide), eH, bd13_in, ilt (by omega) (by omega), eR, bd1_in]
        by_cases cb : k < rkk S (ab ak' tl) tl - thv S ak' tl
        · rw [if_pos cb, if_pos cb, pk_sub (by omega)]
        · rw [if_neg cb, if_neg cb, pk_sub (by omega), nI_p1, show k - (rkk S (ab ak' tl) tl - thv S ak' tl) + 1 = k + 1 - (rkk S (ab ak' tl) tl - thv S ak' tl) by omega]
      · unfold M_between
        rw [idx_yes h48a hk, bd1_in, if_neg (by decide), m1, bd3_in, if_neg (by decide), between_m hg.1.1 ha hk]
      · exact ⟨S, T, ak', tl, tl, kn, nx, ⟨rfl, hg, hc1, hs⟩, ⟨rfl, rfl, rfl, rfl, ht, hT⟩, ⟨rfl, rfl, h24, hak'⟩, hR, ⟨rfl, rfl, rfl, hW, hr1⟩⟩
    · refine ⟨-3, va_up c_signs (a 13) m, c_page, c_known, c_guess, c_diff, c_pieces, c_place, va_up c_bits (a 13) B, c_bads, c_noes + 1, c_fulls, c_base, c_from, c_to, c_above, c_bit, c_lastLeft, upd m_refused 1 (m_refused 1 + 1), nf ak', nI al, ?_, ?_, ?_⟩
      · unfold C7_between
        rw [ineg (by omega), hcc0, ilt (by omega) (by omega), if_pos hk, c1, bd3_in, if_pos rfl, rf_no, bd4_in]
      · unfold M_between
        rw [idx_yes h48a hk, bd1_in, if_neg (by decide), m1, bd3_in, if_pos rfl, mr_no, bd2_in]
      · exact ⟨S, T, ak', tl, al, kn, nx, ⟨rfl, hg, (up13 hW hg hc hr m B).1, hs⟩, ⟨rfl, rfl, rfl, rfl, ht, hT⟩, ⟨rfl, rfl, hal, hak'⟩, rx_no hR, ⟨rfl, rfl, rfl, hW, (up13 hW hg hc hr m B).2⟩⟩
theorem stp_all {a : Nat → Nat} {LW LS LK : List Nat} (hA : Ax a LS LK) : Stp_all a LW LS LK (II a LW) := by
  intro c_bytes c_heads c_firsts c_levelOf c_aboveOf c_partings c_signs c_count c_pages c_levels c_most c_page c_known c_guess c_diff c_pieces c_place c_bits c_words c_entries c_bads c_noes c_fulls c_length c_next c_kept c_base c_from c_to c_above c_bit c_lastLeft m_s m_past m_kept m_refused m_text m_asked m_heads m_forkBit m_forkFrom m_forkTo m_wayPage m_wayKnown m_wayGuess m_wayDiff m_wayRead m_wayPlace m_treeBit m_treeLeft m_treeRight m_treeAbove m_pileFrom m_pileTo m_pileAbove m_known m_typed m_askedLength m_entries m_forks m_guess m_diff m_read m_placeOf m_treeForks m_treeDeep v1 hI
  obtain ⟨S, T, ak, tl, al, kn, nx, ⟨rfl, hg, hc, hs⟩, ⟨rfl, rfl, rfl, rfl, ht, hT⟩, ⟨rfl, rfl, hal, hak⟩, hR, ⟨rfl, rfl, rfl, hW, hr⟩⟩ := hI
  rcases pk_ix v1 (n := 7) (by decide) with h | h | ⟨c, hc8, rfl⟩
  · refine ⟨-2, c_page, c_known, c_guess, c_diff, c_pieces, c_place, c_bads + 1, c_noes, c_fulls, c_base, c_from, c_to, c_above, c_bit, c_lastLeft, upd m_refused 0 (m_refused 0 + 1), nf ak, m_heads, m_forkBit, m_forkFrom, m_forkTo, m_wayPage, m_wayKnown, m_wayGuess, m_wayDiff, m_wayRead, m_wayPlace, nI al, m_entries, m_forks, m_guess, m_diff, m_read, m_placeOf, ?_, ?_, ?_⟩
    · unfold C7_all C7_all_J10
      rw [if_pos h, rf_bad, bd4_in]
    · unfold M_all
      rw [in_lo h (by decide), bd1_in, if_pos rfl, mr_bad, bd2_in]
    · exact ⟨S, T, ak, tl, al, kn, nx, ⟨rfl, hg, hc, hs⟩, ⟨rfl, rfl, rfl, rfl, ht, hT⟩, ⟨rfl, rfl, hal, hak⟩, rx_bad hR, ⟨rfl, rfl, rfl, hW, hr⟩⟩
  · obtain ⟨q1, q2, q3⟩ := hi3 h (by decide)
    refine ⟨-2, c_page, c_known, c_guess, c_diff, c_pieces, c_place, c_bads + 1, c_noes, c_fulls, c_base, c_from, c_to, c_above, c_bit, c_lastLeft, upd m_refused 0 (m_refused 0 + 1), nf ak, m_heads, m_forkBit, m_forkFrom, m_forkTo, m_wayPage, m_wayKnown, m_wayGuess, m_wayDiff, m_wayRead, m_wayPlace, nI al, m_entries, m_forks, m_guess, m_diff, m_read, m_placeOf, ?_, ?_, ?_⟩
    · unfold C7_all C7_all_J10
      rw [if_neg q1, if_neg (show ¬ v1 ≤ 6 from q2), rf_bad, bd4_in]
    · unfold M_all
      rw [in_hi (show (6 : Int32) < v1 from q3), bd1_in, if_pos rfl, mr_bad, bd2_in]
    · exact ⟨S, T, ak, tl, al, kn, nx, ⟨rfl, hg, hc, hs⟩, ⟨rfl, rfl, rfl, rfl, ht, hT⟩, ⟨rfl, rfl, hal, hak⟩, rx_bad hR, ⟨rfl, rfl, rfl, hW, hr⟩⟩
  · have eI : M_in (nI c) 0 6 = some 1 := in_c (m := 6) (by decide) (by omega)
    obtain ⟨x, xc, xm⟩ := all_n hg.1 hc hs hA.2.2.2 hc8
    obtain ⟨d1, d2, d3, d4, d5, d6, y1, y2, y3, y4, y5, y6, e1⟩ := xc c_page c_known c_guess c_diff c_pieces c_place c_base c_from c_to c_above c_bit c_lastLeft
    obtain ⟨ak', al', hs1, fb1, ff1, ft1, wp1, wk1, wg1, wd1, wr1, wl1, me1, mf1, mg1, md1, mr1, mp1, e2, z1, z2⟩ := xm ak al m_heads m_forkBit m_forkFrom m_forkTo m_wayPage m_wayKnown m_wayGuess m_wayDiff m_wayRead m_wayPlace m_entries m_forks m_guess m_diff m_read m_placeOf hak hal
    refine ⟨x, d1, d2, d3, d4, d5, d6, c_bads, c_noes, c_fulls, y1, y2, y3, y4, y5, y6, m_refused, nf ak', hs1, fb1, ff1, ft1, wp1, wk1, wg1, wd1, wr1, wl1, nI al', me1, mf1, mg1, md1, mr1, mp1, ?_, ?_, ?_⟩
    · unfold C7_all
      rw [ineg (by omega), if_pos (show nI c ≤ 6 from (show nI c ≤ nI 6 from nI_le (by omega) (by decide))), e1, bd13_in]
    · unfold M_all
      rw [eI, bd1_in, if_neg (by decide), e2, bd19_in]
    · exact ⟨S, T, ak', tl, al', kn, nx, ⟨rfl, hg, hc, hs⟩, ⟨rfl, rfl, rfl, rfl, ht, hT⟩, ⟨rfl, rfl, z2, z1⟩, hR, ⟨rfl, rfl, rfl, hW, hr⟩⟩
theorem stp_page {a : Nat → Nat} {LW LS LK : List Nat} (hA : Ax a LS LK) : Stp_page a LW LS LK (II a LW) := by
  intro c_bytes c_heads c_firsts c_levelOf c_aboveOf c_partings c_signs c_count c_pages c_levels c_most c_page c_known c_guess c_diff c_pieces c_place c_bits c_words c_entries c_bads c_noes c_fulls c_length c_next c_kept c_base c_from c_to c_above c_bit c_lastLeft m_s m_past m_kept m_refused m_text m_asked m_heads m_forkBit m_forkFrom m_forkTo m_wayPage m_wayKnown m_wayGuess m_wayDiff m_wayRead m_wayPlace m_treeBit m_treeLeft m_treeRight m_treeAbove m_pileFrom m_pileTo m_pileAbove m_known m_typed m_askedLength m_entries m_forks m_guess m_diff m_read m_placeOf m_treeForks m_treeDeep v1 v2 hI
  obtain ⟨S, T, ak, tl, al, kn, nx, ⟨rfl, hg, hc, hs⟩, ⟨rfl, rfl, rfl, rfl, ht, hT⟩, ⟨rfl, rfl, hal, hak⟩, hR, ⟨rfl, rfl, rfl, hW, hr⟩⟩ := hI
  have hx := hg.1
  have hpg := hc.2.1
  have ht48 := (tot_le hx).1
  have hpt : M_isPage (nf S) v1 = some 0 ∨ M_isPage (nf S) v1 = some 1 := by
    rcases pk_ix v1 (n := tot S) (by omega) with h | h | ⟨k, hk, rfl⟩
    · exact Or.inl (page_no hx (Or.inl h))
    · exact Or.inl (page_no hx (Or.inr h))
    · exact Or.inr (page_yes hx hk)
  rcases pk_ix v2 (n := 7) (by decide) with h | h | ⟨c, hc8, rfl⟩
  · refine ⟨-2, c_bads + 1, c_noes, c_fulls, c_base, c_from, c_to, c_above, c_bit, c_lastLeft, upd m_refused 0 (m_refused 0 + 1), m_heads, m_treeBit, m_treeLeft, m_treeRight, m_treeAbove, m_pileFrom, m_pileTo, m_pileAbove, m_entries, m_treeForks, m_treeDeep, ?_, ?_, ?_⟩
    · unfold C7_page C7_page_J21
      rw [if_pos h, rf_bad, bd4_in]
    · unfold M_page M_page_J36
      rcases hpt with q | q <;> rw [q, bd1_in] <;> first | rw [if_pos rfl, mr_bad, bd2_in] | rw [if_neg (by decide), in_lo h (by decide), bd1_in, if_pos rfl, mr_bad, bd2_in]
    · exact ⟨S, T, ak, tl, al, kn, nx, ⟨rfl, hg, hc, hs⟩, ⟨rfl, rfl, rfl, rfl, ht, hT⟩, ⟨rfl, rfl, hal, hak⟩, rx_bad hR, ⟨rfl, rfl, rfl, hW, hr⟩⟩
  · obtain ⟨q1, q2, q3⟩ := hi3 h (by decide)
    refine ⟨-2, c_bads + 1, c_noes, c_fulls, c_base, c_from, c_to, c_above, c_bit, c_lastLeft, upd m_refused 0 (m_refused 0 + 1), m_heads, m_treeBit, m_treeLeft, m_treeRight, m_treeAbove, m_pileFrom, m_pileTo, m_pileAbove, m_entries, m_treeForks, m_treeDeep, ?_, ?_, ?_⟩
    · unfold C7_page C7_page_J21
      rw [if_neg q1, if_pos (show (6 : Int32) < v2 from q3), rf_bad, bd4_in]
    · unfold M_page M_page_J36
      rcases hpt with q | q <;> rw [q, bd1_in] <;> first | rw [if_pos rfl, mr_bad, bd2_in] | rw [if_neg (by decide), in_hi (show (6 : Int32) < v2 from q3), bd1_in, if_pos rfl, mr_bad, bd2_in]
    · exact ⟨S, T, ak, tl, al, kn, nx, ⟨rfl, hg, hc, hs⟩, ⟨rfl, rfl, rfl, rfl, ht, hT⟩, ⟨rfl, rfl, hal, hak⟩, rx_bad hR, ⟨rfl, rfl, rfl, hW, hr⟩⟩
  · have eI : M_in (nI c) 0 6 = some 1 := in_c (m := 6) (by decide) (by omega)
    rcases pk_ix v1 (n := tot S) (by omega) with h | h | ⟨k, hk, rfl⟩
    · refine ⟨-2, c_bads + 1, c_noes, c_fulls, c_base, c_from, c_to, c_above, c_bit, c_lastLeft, upd m_refused 0 (m_refused 0 + 1), m_heads, m_treeBit, m_treeLeft, m_treeRight, m_treeAbove, m_pileFrom, m_pileTo, m_pileAbove, m_entries, m_treeForks, m_treeDeep, ?_, ?_, ?_⟩
      · unfold C7_page C7_page_J21
        rw [ineg (by omega), if_neg (show ¬ 6 < nI c from (show ¬ nI 6 < nI c from nI_nlt (by omega) (by omega))), has_no hpg (Or.inl h), bd1_in, if_pos rfl, rf_bad, bd4_in]
      · unfold M_page M_page_J36
        rw [page_no hx (Or.inl h), bd1_in, if_pos rfl, mr_bad, bd2_in]
      · exact ⟨S, T, ak, tl, al, kn, nx, ⟨rfl, hg, hc, hs⟩, ⟨rfl, rfl, rfl, rfl, ht, hT⟩, ⟨rfl, rfl, hal, hak⟩, rx_bad hR, ⟨rfl, rfl, rfl, hW, hr⟩⟩
    · refine ⟨-2, c_bads + 1, c_noes, c_fulls, c_base, c_from, c_to, c_above, c_bit, c_lastLeft, upd m_refused 0 (m_refused 0 + 1), m_heads, m_treeBit, m_treeLeft, m_treeRight, m_treeAbove, m_pileFrom, m_pileTo, m_pileAbove, m_entries, m_treeForks, m_treeDeep, ?_, ?_, ?_⟩
      · unfold C7_page C7_page_J21
        rw [ineg (by omega), if_neg (show ¬ 6 < nI c from (show ¬ nI 6 < nI c from nI_nlt (by omega) (by omega))), has_no hpg (Or.inr h), bd1_in, if_pos rfl, rf_bad, bd4_in]
      · unfold M_page M_page_J36
        rw [page_no hx (Or.inr h), bd1_in, if_pos rfl, mr_bad, bd2_in]
      · exact ⟨S, T, ak, tl, al, kn, nx, ⟨rfl, hg, hc, hs⟩, ⟨rfl, rfl, rfl, rfl, ht, hT⟩, ⟨rfl, rfl, hal, hak⟩, rx_bad hR, ⟨rfl, rfl, rfl, hW, hr⟩⟩
    · have eK := page_yes hx hk
      have eH := has_yes (a := a) hpg ht48 hk
      obtain ⟨v, p, hv, hp, rfl⟩ := page_of hx.1 hk
      obtain ⟨y1, y2, y3, y4, y5, y6, e1⟩ := pageFact_c hx hc hs hv hp hc8 c_base c_from c_to c_above c_bit c_lastLeft
      obtain ⟨hs', tb', tlf', tr', ta', pf', pt', pa', me', tf', td', e2⟩ := pageFact_m (ak := ak) (al := al) hx.1 hv hp hc8 m_heads m_treeBit m_treeLeft m_treeRight m_treeAbove m_pileFrom m_pileTo m_pileAbove m_entries m_treeForks m_treeDeep
      refine ⟨pgf S v p c, c_bads, c_noes, c_fulls, y1, y2, y3, y4, y5, y6, m_refused, hs', tb', tlf', tr', ta', pf', pt', pa', me', tf', td', ?_, ?_, ?_⟩
      · unfold C7_page
        rw [ineg (by omega), if_neg (show ¬ 6 < nI c from (show ¬ nI 6 < nI c from nI_nlt (by omega) (by omega))), eH, bd1_in, if_neg (by decide), e1, bd7_in]
      · unfold M_page
        rw [eK, bd1_in, if_neg (by decide), eI, bd1_in, if_neg (by decide), levelOf_n hx.1.1 hv hp, bd1_in, pageOf_n hx.1.1 hv hp, bd1_in, e2, bd12_in]
      · exact ⟨S, T, ak, tl, al, kn, nx, ⟨rfl, hg, hc, hs⟩, ⟨rfl, rfl, rfl, rfl, ht, hT⟩, ⟨rfl, rfl, hal, hak⟩, hR, ⟨rfl, rfl, rfl, hW, hr⟩⟩
theorem stp_fork {a : Nat → Nat} {LW LS LK : List Nat} (hA : Ax a LS LK) : Stp_fork a LW LS LK (II a LW) := by
  intro c_bytes c_heads c_firsts c_levelOf c_aboveOf c_partings c_signs c_count c_pages c_levels c_most c_page c_known c_guess c_diff c_pieces c_place c_bits c_words c_entries c_bads c_noes c_fulls c_length c_next c_kept c_base c_from c_to c_above c_bit c_lastLeft m_s m_past m_kept m_refused m_text m_asked m_heads m_forkBit m_forkFrom m_forkTo m_wayPage m_wayKnown m_wayGuess m_wayDiff m_wayRead m_wayPlace m_treeBit m_treeLeft m_treeRight m_treeAbove m_pileFrom m_pileTo m_pileAbove m_known m_typed m_askedLength m_entries m_forks m_guess m_diff m_read m_placeOf m_treeForks m_treeDeep v1 v2 v3 hI
  obtain ⟨S, T, ak, tl, al, kn, nx, ⟨rfl, hg, hc, hs⟩, ⟨rfl, rfl, rfl, rfl, ht, hT⟩, ⟨rfl, rfl, hal, hak⟩, hR, ⟨rfl, rfl, rfl, hW, hr⟩⟩ := hI
  have hx := hg.1
  have hpg := hc.2.1
  have ht48 := (tot_le hx).1
  have hpt : M_isPage (nf S) v1 = some 0 ∨ M_isPage (nf S) v1 = some 1 := by
    rcases pk_ix v1 (n := tot S) (by omega) with h | h | ⟨k, hk, rfl⟩
    · exact Or.inl (page_no hx (Or.inl h))
    · exact Or.inl (page_no hx (Or.inr h))
    · exact Or.inr (page_yes hx hk)
  rcases pk_ix v3 (n := 4) (by decide) with h | h | ⟨c, hc8, rfl⟩
  · refine ⟨-2, c_bads + 1, c_noes, c_fulls, c_base, c_from, c_to, c_above, c_bit, c_lastLeft, upd m_refused 0 (m_refused 0 + 1), m_heads, m_treeBit, m_treeLeft, m_treeRight, m_treeAbove, m_pileFrom, m_pileTo, m_pileAbove, m_entries, m_treeForks, m_treeDeep, ?_, ?_, ?_⟩
    · unfold C7_fork C7_fork_J20
      rw [if_pos h, rf_bad, bd4_in]
    · unfold M_fork M_fork_J21
      rcases hpt with q | q
      · rw [q, bd1_in, if_pos rfl, mr_bad, bd2_in]
      · by_cases c2 : v2 < 0
        · rw [q, bd1_in, if_neg (by decide), if_pos c2, mr_bad, bd2_in]
        · rw [q, bd1_in, if_neg (by decide), if_neg c2, in_lo h (by decide), bd1_in, if_pos rfl, mr_bad, bd2_in]
    · exact ⟨S, T, ak, tl, al, kn, nx, ⟨rfl, hg, hc, hs⟩, ⟨rfl, rfl, rfl, rfl, ht, hT⟩, ⟨rfl, rfl, hal, hak⟩, rx_bad hR, ⟨rfl, rfl, rfl, hW, hr⟩⟩
  · obtain ⟨q1, q2, q3⟩ := hi3 h (by decide)
    refine ⟨-2, c_bads + 1, c_noes, c_fulls, c_base, c_from, c_to, c_above, c_bit, c_lastLeft, upd m_refused 0 (m_refused 0 + 1), m_heads, m_treeBit, m_treeLeft, m_treeRight, m_treeAbove, m_pileFrom, m_pileTo, m_pileAbove, m_entries, m_treeForks, m_treeDeep, ?_, ?_, ?_⟩
    · unfold C7_fork C7_fork_J20
      rw [if_neg q1, if_pos (show (3 : Int32) < v3 from q3), rf_bad, bd4_in]
    · unfold M_fork M_fork_J21
      rcases hpt with q | q
      · rw [q, bd1_in, if_pos rfl, mr_bad, bd2_in]
      · by_cases c2 : v2 < 0
        · rw [q, bd1_in, if_neg (by decide), if_pos c2, mr_bad, bd2_in]
        · rw [q, bd1_in, if_neg (by decide), if_neg c2, in_hi (show (3 : Int32) < v3 from q3), bd1_in, if_pos rfl, mr_bad, bd2_in]
    · exact ⟨S, T, ak, tl, al, kn, nx, ⟨rfl, hg, hc, hs⟩, ⟨rfl, rfl, rfl, rfl, ht, hT⟩, ⟨rfl, rfl, hal, hak⟩, rx_bad hR, ⟨rfl, rfl, rfl, hW, hr⟩⟩
  · have eI : M_in (nI c) 0 3 = some 1 := in_c (m := 3) (by decide) (by omega)
    rcases pk_ix v1 (n := tot S) (by omega) with h | h | ⟨k, hk, rfl⟩
    · refine ⟨-2, c_bads + 1, c_noes, c_fulls, c_base, c_from, c_to, c_above, c_bit, c_lastLeft, upd m_refused 0 (m_refused 0 + 1), m_heads, m_treeBit, m_treeLeft, m_treeRight, m_treeAbove, m_pileFrom, m_pileTo, m_pileAbove, m_entries, m_treeForks, m_treeDeep, ?_, ?_, ?_⟩
      · unfold C7_fork C7_fork_J20
        rw [ineg (by omega), if_neg (show ¬ 3 < nI c from (show ¬ nI 3 < nI c from nI_nlt (by omega) (by omega))), has_no hpg (Or.inl h), bd1_in, if_pos rfl, rf_bad, bd4_in]
      · unfold M_fork M_fork_J21
        rw [page_no hx (Or.inl h), bd1_in, if_pos rfl, mr_bad, bd2_in]
      · exact ⟨S, T, ak, tl, al, kn, nx, ⟨rfl, hg, hc, hs⟩, ⟨rfl, rfl, rfl, rfl, ht, hT⟩, ⟨rfl, rfl, hal, hak⟩, rx_bad hR, ⟨rfl, rfl, rfl, hW, hr⟩⟩
    · refine ⟨-2, c_bads + 1, c_noes, c_fulls, c_base, c_from, c_to, c_above, c_bit, c_lastLeft, upd m_refused 0 (m_refused 0 + 1), m_heads, m_treeBit, m_treeLeft, m_treeRight, m_treeAbove, m_pileFrom, m_pileTo, m_pileAbove, m_entries, m_treeForks, m_treeDeep, ?_, ?_, ?_⟩
      · unfold C7_fork C7_fork_J20
        rw [ineg (by omega), if_neg (show ¬ 3 < nI c from (show ¬ nI 3 < nI c from nI_nlt (by omega) (by omega))), has_no hpg (Or.inr h), bd1_in, if_pos rfl, rf_bad, bd4_in]
      · unfold M_fork M_fork_J21
        rw [page_no hx (Or.inr h), bd1_in, if_pos rfl, mr_bad, bd2_in]
      · exact ⟨S, T, ak, tl, al, kn, nx, ⟨rfl, hg, hc, hs⟩, ⟨rfl, rfl, rfl, rfl, ht, hT⟩, ⟨rfl, rfl, hal, hak⟩, rx_bad hR, ⟨rfl, rfl, rfl, hW, hr⟩⟩
    · have eK := page_yes hx hk
      have eH := has_yes (a := a) hpg ht48 hk
      by_cases c2 : v2 < 0
      · refine ⟨-2, c_bads + 1, c_noes, c_fulls, c_base, c_from, c_to, c_above, c_bit, c_lastLeft, upd m_refused 0 (m_refused 0 + 1), m_heads, m_treeBit, m_treeLeft, m_treeRight, m_treeAbove, m_pileFrom, m_pileTo, m_pileAbove, m_entries, m_treeForks, m_treeDeep, ?_, ?_, ?_⟩
        · unfold C7_fork C7_fork_J48
          rw [ineg (by omega), if_neg (show ¬ 3 < nI c from (show ¬ nI 3 < nI c from nI_nlt (by omega) (by omega))), eH, bd1_in, if_neg (by decide), if_pos c2, rf_bad, bd4_in]
        · unfold M_fork M_fork_J21
          rw [eK, bd1_in, if_neg (by decide), if_pos c2, mr_bad, bd2_in]
        · exact ⟨S, T, ak, tl, al, kn, nx, ⟨rfl, hg, hc, hs⟩, ⟨rfl, rfl, rfl, rfl, ht, hT⟩, ⟨rfl, rfl, hal, hak⟩, rx_bad hR, ⟨rfl, rfl, rfl, hW, hr⟩⟩
      · obtain ⟨f, hf31, rfl⟩ := nI_of c2
        obtain ⟨v, p, hv, hp, rfl⟩ := page_of hx.1 hk
        obtain ⟨-, eE, -, -⟩ := tree_c hx hc hs hv hp
        obtain ⟨g1, g2, g3⟩ := pgv hx.1 hv hp
        have eN : nI (S (12 + 48 * v + p)) - 1 = nI (S (12 + 48 * v + p) - 1) := pk_sub (b := 1) (by omega)
        obtain ⟨hs', tb', tlf', tr', ta', pf', pt', pa', me', e2, e3⟩ := laysTree_n (ak := ak) (al := al) hx.1 hv hp m_heads m_treeBit m_treeLeft m_treeRight m_treeAbove m_pileFrom m_pileTo m_pileAbove m_entries m_treeForks m_treeDeep
        by_cases cf : f < S (12 + 48 * v + p) - 1
        · obtain ⟨y1, y2, y3, y4, y5, y6, e1⟩ := forkFact_c hx hc hs hv hp cf hc8 c_base c_from c_to c_above c_bit c_lastLeft
          refine ⟨fkv S v p f c, c_bads, c_noes, c_fulls, y1, y2, y3, y4, y5, y6, m_refused, hs', tb', tlf', tr', ta', pf', pt', pa', me', nI (S (12 + 48 * v + p) - 1), nI (hgt S v p), ?_, ?_, ?_⟩
          · unfold C7_fork
            rw [ineg (by omega), if_neg (show ¬ 3 < nI c from (show ¬ nI 3 < nI c from nI_nlt (by omega) (by omega))), eH, bd1_in, if_neg (by decide), ineg hf31, eE, bd1_in, eN, ilt hf31 (by omega), if_pos cf, e1, bd7_in]
          · unfold M_fork
            rw [eK, bd1_in, if_neg (by decide), ineg hf31, eI, bd1_in, if_neg (by decide), levelOf_n hx.1.1 hv hp, bd1_in, pageOf_n hx.1.1 hv hp, bd1_in, e2, bd11_in, il (by omega) hf31, if_neg (by omega), e3 f cf c hc8, bd1_in]
          · exact ⟨S, T, ak, tl, al, kn, nx, ⟨rfl, hg, hc, hs⟩, ⟨rfl, rfl, rfl, rfl, ht, hT⟩, ⟨rfl, rfl, hal, hak⟩, hR, ⟨rfl, rfl, rfl, hW, hr⟩⟩
        · refine ⟨-2, c_bads + 1, c_noes, c_fulls, c_base, c_from, c_to, c_above, c_bit, c_lastLeft, upd m_refused 0 (m_refused 0 + 1), hs', tb', tlf', tr', ta', pf', pt', pa', me', nI (S (12 + 48 * v + p) - 1), nI (hgt S v p), ?_, ?_, ?_⟩
          · unfold C7_fork C7_fork_J48
            rw [ineg (by omega), if_neg (show ¬ 3 < nI c from (show ¬ nI 3 < nI c from nI_nlt (by omega) (by omega))), eH, bd1_in, if_neg (by decide), ineg hf31, eE, bd1_in, eN, ilt hf31 (by omega), if_neg cf, rf_bad, bd4_in]
          · unfold M_fork
            rw [eK, bd1_in, if_neg (by decide), ineg hf31, eI, bd1_in, if_neg (by decide), levelOf_n hx.1.1 hv hp, bd1_in, pageOf_n hx.1.1 hv hp, bd1_in, e2, bd11_in, il (by omega) hf31, if_pos (by omega), mr_bad, bd2_in]
          · exact ⟨S, T, ak, tl, al, kn, nx, ⟨rfl, hg, hc, hs⟩, ⟨rfl, rfl, rfl, rfl, ht, hT⟩, ⟨rfl, rfl, hal, hak⟩, rx_bad hR, ⟨rfl, rfl, rfl, hW, hr⟩⟩
