/-! the class's changes of a state -/
theorem vu_self {α : Type} (f : Nat → α) (k : Nat) : va_up f k (f k) = f := by
  funext z
  unfold va_up
  split
  · rename_i q; rw [q]
  · rfl
theorem copyFrom_w {cs : Nat → Int32} {cbits : Nat → Nat → Int64} {x y : Nat} : ∃ B, C6_copyFrom cs cbits x y = some (va_up cs x (cs y), va_up cbits x B) ∧ ∀ i, i < 3 → B i = cbits y i := by
  have key : ∀ (d i n : Nat) (B : Nat → Int64), i + d = 3 → d < n → (∀ j, j < i → B j = cbits y j) → (∀ j, i ≤ j → B j = cbits x j) → ∃ B', C6_copyFrom_L2 x y (fun c_signs c_bits => some ((va_up c_signs x (c_signs y)), c_bits)) n cs (va_up cbits x B) (nI i) = some (va_up cs x (cs y), va_up cbits x B') ∧ ∀ j, j < 3 → B' j = cbits y j := by
    intro d
    induction d with
    | zero =>
      intro i n B hi hn h1 h2
      obtain ⟨n, rfl⟩ : ∃ m, n = m + 1 := ⟨n - 1, by omega⟩
      refine ⟨B, ?_, fun j hj => h1 j (by omega)⟩
      rw [C6_copyFrom_L2]
      show (if nI 3 ≤ nI i then _ else _) = _
      rw [il (by decide) (by omega), if_pos (by omega)]
    | succ d ih =>
      intro i n B hi hn h1 h2
      obtain ⟨n, rfl⟩ : ∃ m, n = m + 1 := ⟨n - 1, by omega⟩
      have hy : va_up cbits x B y i = cbits y i := by
        by_cases q : y = x
        · rw [q, vu_s]; exact h2 i (Nat.le_refl _)
        · rw [vu_n q]
      obtain ⟨B', e1, h3⟩ := ih (i + 1) n (vp_updL B i (cbits y i)) (by omega) (by omega) (fun j hj => by
        unfold vp_updL
        by_cases q : j = i
        · rw [if_pos q, q]
        · rw [if_neg q]; exact h1 j (by omega)) (fun j hj => by
        unfold vp_updL
        rw [if_neg (by omega)]
        exact h2 j (by omega))
      refine ⟨B', ?_, h3⟩
      rw [C6_copyFrom_L2]
      show (if nI 3 ≤ nI i then _ else (if nI 3 ≤ nI i then _ else ga (nI i) 3 (ga (nI i) 3 (C6_copyFrom_L2 x y _ n cs (va_up (va_up cbits x B) x (vp_updL (va_up cbits x B x) (nI i).toNatClampNeg (va_up cbits x B y (nI i).toNatClampNeg))) (nI i + nI 1))))) = _
      rw [il (by decide) (by omega), if_neg (by omega), il (by decide) (by omega), if_neg (by omega), ga_n (by omega) (by decide), ga_n (by omega) (by decide), nI_clamp (by omega), nI_add, bx_uu, vu_s, hy]
      exact e1
  unfold C6_copyFrom
  obtain ⟨B, e1, h1⟩ := key 3 0 FU (cbits x) (by omega) (by decide) (fun j hj => absurd hj (Nat.not_lt_zero j)) (fun j _ => rfl)
  rw [vu_self] at e1
  exact ⟨B, e1, h1⟩
/-- a stretch of addresses moves on, and back -/
def shrA (f : Nat → Nat) (lo hi : Nat) : Nat → Nat := fun j => if lo < j ∧ j ≤ hi then f (j - 1) else f j
theorem insertWord_n {LW : List Nat} {cs cc : Nat → Int32} {cbits : Nat → Nat → Int64} {cw : Nat → Nat → Nat} {st w n k : Nat} (hc : cc st = nI n) (hn : n < 48) (hk : k ≤ n) (hm : ∀ j, j < 48 → cw st j ∈ LW) : ∃ B, C3_insertWord LW cs cc cbits cw st (nI k) w = some (va_up cs (cw st n) (cs w), va_up cc st (nI (n + 1)), va_up cbits (cw st n) B, va_up cw st (un (shr (cw st) k n) k (cw st n))) ∧ ∀ i, i < 3 → B i = cbits w i := by
  obtain ⟨B, e1, h1⟩ := copyFrom_w (cs := cs) (cbits := cbits) (x := cw st n) (y := w)
  refine ⟨B, ?_, h1⟩
  have key : ∀ (d i m : Nat) (kk : (Nat → Int32) → (Nat → Int32) → (Nat → Nat → Int64) → (Nat → Nat → Nat) → Nat → Option ((Nat → Int32) × (Nat → Int32) × (Nat → Nat → Int64) × (Nat → Nat → Nat))), k + d = i → i ≤ n → d < m → C3_insertWord_L41 LW st (nI k) w kk m cs cc cbits (va_up cw st (shr (cw st) i n)) (cw st n) (nI i) = kk cs cc cbits (va_up cw st (shr (cw st) k n)) (cw st n) := by
    intro d
    induction d with
    | zero =>
      intro i m kk hi hin hmm
      obtain ⟨m, rfl⟩ : ∃ t, m = t + 1 := ⟨m - 1, by omega⟩
      rw [C3_insertWord_L41, il (by omega) (by omega), if_pos (by omega), show i = k by omega]
    | succ d ih =>
      intro i m kk hi hin hmm
      obtain ⟨m, rfl⟩ : ∃ t, m = t + 1 := ⟨m - 1, by omega⟩
      obtain ⟨t, rfl⟩ : ∃ t, i = t + 1 := ⟨i - 1, by omega⟩
      have ih := ih t m kk (by omega) (by omega) (by omega)
      rw [← shr_step (by omega)] at ih
      have e2 : shr (cw st) (t + 1) n t = cw st t := if_neg (by omega)
      rw [C3_insertWord_L41, il (by omega) (by omega), if_neg (by omega)]
      show ga (nI (t + 1) - nI 1) 48 (gm LW (va_up cw st (shr (cw st) (t + 1) n) st (nI (t + 1) - nI 1).toNatClampNeg) (ga (nI (t + 1)) 48 (C3_insertWord_L41 LW st (nI k) w kk m cs cc cbits (va_up (va_up cw st (shr (cw st) (t + 1) n)) st (va_up (va_up cw st (shr (cw st) (t + 1) n) st) (nI (t + 1)).toNatClampNeg (va_up cw st (shr (cw st) (t + 1) n) st (nI (t + 1) - nI 1).toNatClampNeg))) (cw st n) (nI (t + 1) + (-1))))) = _
      rw [pk_sub (by omega), Nat.add_sub_cancel, ga_n (by omega) (by decide), nI_clamp (by omega), vu_s, e2, gm_in (hm t (by omega)), ga_n (by omega) (by decide), nI_clamp (by omega), bx_uu, pk_m1]
      have e3 : va_up (shr (cw st) (t + 1) n) (t + 1) (cw st t) = un (shr (cw st) (t + 1) n) (t + 1) (cw st t) := rfl
      rw [e3]
      exact ih
  unfold C3_insertWord
  rw [ineg (by omega), hc, ilt (by omega) (by omega), if_neg (by omega)]
  show (if nI n < nI 48 then _ else _) = _
  rw [ilt (by omega) (by decide), if_pos hn, ga_n hn (by decide), nI_clamp (by omega), gm_in (hm n hn)]
  have := fun kk => key (n - k) n FU kk (by omega) (Nat.le_refl _) (Nat.lt_of_le_of_lt (show n - k ≤ 48 by omega) (by decide))
  rw [shr_self, vu_self] at this
  rw [this, e1, bd2_in, ga_n (by omega) (by decide), nI_clamp (by omega), vu_s, bx_uu, hc]
  show some (_, va_up cc st (nI n + nI 1), _, _) = _
  rw [nI_add]
  rfl
theorem removeWord_n {LW : List Nat} {cc : Nat → Int32} {cw : Nat → Nat → Nat} {st n k : Nat} (hc : cc st = nI n) (hn : n ≤ 48) (hk : k < n) (hm : ∀ j, j < 48 → cw st j ∈ LW) : C3_removeWord LW cc cw st (nI k) = some (va_up cc st (nI (n - 1)), va_up cw st (un (shl (cw st) k (n - 1)) (n - 1) (cw st k))) := by
  have key : ∀ (d i m : Nat) (kk : (Nat → Int32) → (Nat → Nat → Nat) → Nat → Option ((Nat → Int32) × (Nat → Nat → Nat))), i + d = n - 1 → k ≤ i → d < m → C3_removeWord_L34 LW st (nI k) kk m cc (va_up cw st (shl (cw st) k i)) (cw st k) (nI i) = kk cc (va_up cw st (shl (cw st) k (n - 1))) (cw st k) := by
    intro d
    induction d with
    | zero =>
      intro i m kk hi hki hmm
      obtain ⟨m, rfl⟩ : ∃ t, m = t + 1 := ⟨m - 1, by omega⟩
      rw [C3_removeWord_L34, hc]
      show (if nI n - nI 1 ≤ nI i then _ else _) = _
      rw [pk_sub (by omega), il (by omega) (by omega), if_pos (by omega), show i = n - 1 by omega]
    | succ d ih =>
      intro i m kk hi hki hmm
      obtain ⟨m, rfl⟩ : ∃ t, m = t + 1 := ⟨m - 1, by omega⟩
      have ih := ih (i + 1) m kk (by omega) (by omega) (by omega)
      rw [← shl_step hki] at ih
      have e2 : shl (cw st) k i (i + 1) = cw st (i + 1) := if_neg (by omega)
      rw [C3_removeWord_L34, hc]
      show (if nI n - nI 1 ≤ nI i then _ else ga (nI i + nI 1) 48 (gm LW (va_up cw st (shl (cw st) k i) st (nI i + nI 1).toNatClampNeg) (ga (nI i) 48 (C3_removeWord_L34 LW st (nI k) kk m cc (va_up (va_up cw st (shl (cw st) k i)) st (va_up (va_up cw st (shl (cw st) k i) st) (nI i).toNatClampNeg (va_up cw st (shl (cw st) k i) st (nI i + nI 1).toNatClampNeg))) (cw st k) (nI i + nI 1))))) = _
      rw [pk_sub (by omega), il (by omega) (by omega), if_neg (by omega), nI_add, ga_n (by omega) (by decide), nI_clamp (by omega), vu_s, e2, gm_in (hm _ (by omega)), ga_n (by omega) (by decide), nI_clamp (by omega), bx_uu]
      exact ih
  unfold C3_removeWord
  rw [ineg (by omega), hc, il (by omega) (by omega), if_neg (by omega)]
  show (if nI n ≤ nI 48 then _ else _) = _
  rw [il (by omega) (by decide), if_pos hn, ga_n (by omega) (by decide), nI_clamp (by omega), gm_in (hm k (by omega))]
  have := fun kk => key (n - 1 - k) k FU kk (by omega) (Nat.le_refl _) (Nat.lt_of_le_of_lt (show n - 1 - k ≤ 48 by omega) (by decide))
  rw [shl_self, vu_self] at this
  rw [this, hc]
  show ga (nI n - nI 1) 48 (some (va_up cc st (nI n - nI 1), va_up (va_up cw st (shl (cw st) k (n - 1))) st (va_up (va_up cw st (shl (cw st) k (n - 1)) st) (nI n - nI 1).toNatClampNeg (cw st k)))) = _
  rw [pk_sub (by omega), ga_n (by omega) (by decide), nI_clamp (by omega), vu_s, bx_uu]
  rfl
theorem setEntries_n {cpg : Nat → Int32} {ce : Nat → Nat → Int32} {E : Nat → Nat} {st P p x : Nat} (h1 : cpg st = nI P) (hp : p < P) (hP : P ≤ 48) (hE : ce st = nf E) : C3_setEntries cpg ce st (nI p) (nI x) = some (va_up ce st (nf (un E p x))) := by
  unfold C3_setEntries
  rw [ineg (by omega), h1, il (by omega) (by omega), if_neg (by omega)]
  show (if nI 48 ≤ nI p then _ else _) = _
  rw [il (by decide) (by omega), if_neg (by omega), ga_n (by omega) (by decide), nI_clamp (by omega), hE, nf_upd]
theorem insertPage_n {cpg : Nat → Int32} {ce : Nat → Nat → Int32} {E : Nat → Nat} {st P p x : Nat} (h1 : cpg st = nI P) (hp : p ≤ P) (hP : P < 48) (hE : ce st = nf E) : C3_insertPage cpg ce st (nI p) (nI x) = some (va_up cpg st (nI (P + 1)), va_up ce st (nf (un (shr E p P) p x))) := by
  have key : ∀ (d i m : Nat) (kk : (Nat → Int32) → (Nat → Nat → Int32) → Option ((Nat → Int32) × (Nat → Nat → Int32))), p + d = i → i ≤ P → d < m → C3_insertPage_L30 st (nI p) (nI x) kk m cpg (va_up ce st (nf (shr E i P))) (nI i) = kk cpg (va_up ce st (nf (shr E p P))) := by
    intro d
    induction d with
    | zero =>
      intro i m kk hi hin hmm
      obtain ⟨m, rfl⟩ : ∃ t, m = t + 1 := ⟨m - 1, by omega⟩
      rw [C3_insertPage_L30, il (by omega) (by omega), if_pos (by omega), show i = p by omega]
    | succ d ih =>
      intro i m kk hi hin hmm
      obtain ⟨m, rfl⟩ : ∃ t, m = t + 1 := ⟨m - 1, by omega⟩
      obtain ⟨t, rfl⟩ : ∃ t, i = t + 1 := ⟨i - 1, by omega⟩
      have ih := ih t m kk (by omega) (by omega) (by omega)
      rw [← shr_step (by omega)] at ih
      have e2 : shr E (t + 1) P t = E t := if_neg (by omega)
      rw [C3_insertPage_L30, il (by omega) (by omega), if_neg (by omega)]
      show ga (nI (t + 1) - nI 1) 48 (ga (nI (t + 1)) 48 (C3_insertPage_L30 st (nI p) (nI x) kk m cpg (va_up (va_up ce st (nf (shr E (t + 1) P))) st (upd (va_up ce st (nf (shr E (t + 1) P)) st) (nI (t + 1)).toNatClampNeg (va_up ce st (nf (shr E (t + 1) P)) st (nI (t + 1) - nI 1).toNatClampNeg))) (nI (t + 1) + (-1)))) = _
      rw [pk_sub (by omega), Nat.add_sub_cancel, ga_n (by omega) (by decide), ga_n (by omega) (by decide), nI_clamp (by omega), nI_clamp (by omega), vu_s, nf_a, e2, nf_upd, bx_uu, pk_m1]
      exact ih
  unfold C3_insertPage
  rw [ineg (by omega), h1, ilt (by omega) (by omega), if_neg (by omega)]
  show (if nI P < nI 48 then _ else _) = _
  rw [ilt (by omega) (by decide), if_pos hP]
  have := fun kk => key (P - p) P FU kk (by omega) (Nat.le_refl _) (Nat.lt_of_le_of_lt (show P - p ≤ 48 by omega) (by decide))
  rw [shr_self, ← hE, vu_self] at this
  rw [this, ga_n (by omega) (by decide), h1, nI_clamp (by omega), vu_s, nf_upd, bx_uu]
  show some (va_up cpg st (nI P + nI 1), _) = _
  rw [nI_add]
theorem removePage_n {cpg : Nat → Int32} {ce : Nat → Nat → Int32} {E : Nat → Nat} {st P p : Nat} (h1 : cpg st = nI P) (hp : p < P) (hP : P ≤ 48) (hE : ce st = nf E) : C3_removePage cpg ce st (nI p) = some (va_up cpg st (nI (P - 1)), va_up ce st (nf (shl E p (P - 1)))) := by
  have key : ∀ (d i m : Nat) (kk : (Nat → Int32) → (Nat → Nat → Int32) → Option ((Nat → Int32) × (Nat → Nat → Int32))), i + d = P - 1 → p ≤ i → d < m → C3_removePage_L27 st (nI p) kk m cpg (va_up ce st (nf (shl E p i))) (nI i) = kk cpg (va_up ce st (nf (shl E p (P - 1)))) := by
    intro d
    induction d with
    | zero =>
      intro i m kk hi hki hmm
      obtain ⟨m, rfl⟩ : ∃ t, m = t + 1 := ⟨m - 1, by omega⟩
      rw [C3_removePage_L27, h1]
      show (if nI P - nI 1 ≤ nI i then _ else _) = _
      rw [pk_sub (by omega), il (by omega) (by omega), if_pos (by omega), show i = P - 1 by omega]
    | succ d ih =>
      intro i m kk hi hki hmm
      obtain ⟨m, rfl⟩ : ∃ t, m = t + 1 := ⟨m - 1, by omega⟩
      have ih := ih (i + 1) m kk (by omega) (by omega) (by omega)
      rw [← shl_step hki] at ih
      have e2 : shl E p i (i + 1) = E (i + 1) := if_neg (by omega)
      rw [C3_removePage_L27, h1]
      show (if nI P - nI 1 ≤ nI i then _ else ga (nI i + nI 1) 48 (ga (nI i) 48 (C3_removePage_L27 st (nI p) kk m cpg (va_up (va_up ce st (nf (shl E p i))) st (upd (va_up ce st (nf (shl E p i)) st) (nI i).toNatClampNeg (va_up ce st (nf (shl E p i)) st (nI i + nI 1).toNatClampNeg))) (nI i + nI 1)))) = _
      rw [pk_sub (by omega), il (by omega) (by omega), if_neg (by omega), nI_add, ga_n (by omega) (by decide), ga_n (by omega) (by decide), nI_clamp (by omega), nI_clamp (by omega), vu_s, nf_a, e2, nf_upd, bx_uu]
      exact ih
  unfold C3_removePage
  rw [ineg (by omega), h1, il (by omega) (by omega), if_neg (by omega)]
  show (if nI P ≤ nI 48 then _ else _) = _
  rw [il (by omega) (by decide), if_pos hP]
  have := fun kk => key (P - 1 - p) p FU kk (by omega) (Nat.le_refl _) (Nat.lt_of_le_of_lt (show P - 1 - p ≤ 48 by omega) (by decide))
  rw [shl_self, ← hE, vu_self] at this
  rw [this, h1]
  show some (va_up cpg st (nI P - nI 1), _) = _
  rw [pk_sub (by omega)]
