/-! numbers: rows of naturals as rows of ints -/
def nf (f : Nat → Nat) : Nat → Int32 := fun j => nI (f j)
def un (f : Nat → Nat) (k v : Nat) : Nat → Nat := fun j => if j = k then v else f j
theorem un_s {f : Nat → Nat} {k v : Nat} : un f k v k = v := if_pos rfl
theorem un_n {f : Nat → Nat} {k v j : Nat} (h : j ≠ k) : un f k v j = f j := if_neg h
theorem nf_a (f : Nat → Nat) (k : Nat) : nf f k = nI (f k) := rfl
theorem nf_upd (f : Nat → Nat) (k v : Nat) : upd (nf f) k (nI v) = nf (un f k v) := by
  funext j
  unfold upd nf un
  by_cases h : j = k
  · rw [if_pos h, if_pos h]
  · rw [if_neg h, if_neg h]
theorem ga_n {α : Type} {k N : Nat} {x : Option α} (h : k < N) (hN : N < 2 ^ 31) : ga (nI k) N x = x := ga_in (vp_in_nI h hN)
theorem il {α : Sort _} {a b : Nat} {x y : α} (ha : a < 2 ^ 31) (hb : b < 2 ^ 31) : (if nI a ≤ nI b then x else y) = if a ≤ b then x else y := by
  by_cases h : a ≤ b
  · rw [if_pos h, if_pos ((nI_leI ha hb).mpr h)]
  · rw [if_neg h, if_neg (fun q => h ((nI_leI ha hb).mp q))]
theorem ilt {α : Sort _} {a b : Nat} {x y : α} (ha : a < 2 ^ 31) (hb : b < 2 ^ 31) : (if nI a < nI b then x else y) = if a < b then x else y := by
  by_cases h : a < b
  · rw [if_pos h, if_pos ((nI_ltI ha hb).mpr h)]
  · rw [if_neg h, if_neg (fun q => h ((nI_ltI ha hb).mp q))]
theorem ie {α : Sort _} {a b : Nat} {x y : α} (ha : a < 2 ^ 31) (hb : b < 2 ^ 31) : (if nI a = nI b then x else y) = if a = b then x else y := by
  by_cases h : a = b
  · rw [if_pos h, if_pos ((nI_eq ha hb).mpr h)]
  · rw [if_neg h, if_neg (fun q => h ((nI_eq ha hb).mp q))]
theorem ineg {α : Sort _} {a : Nat} {x y : α} (ha : a < 2 ^ 31) : (if nI a < 0 then x else y) = y := if_neg (nI_pos ha)
theorem nneg1 {a : Nat} (ha : a < 2 ^ 31) : ¬ nI a = -1 := by
  intro h
  have h1 := nI_toInt ha
  rw [h] at h1
  have h2 : (-1 : Int32).toInt = -1 := by decide
  omega
theorem in1 {α : Sort _} {a : Nat} {x y : α} (ha : a < 2 ^ 31) : (if nI a = -1 then x else y) = y := if_neg (nneg1 ha)
/-- a bit's number as the programs tell it: 192 is none -/
def enc (d : Nat) : Int32 := if d = 192 then -1 else nI d
theorem enc_none : enc 192 = -1 := if_pos rfl
theorem enc_some {d : Nat} (h : d ≠ 192) : enc d = nI d := if_neg h
theorem enc_m1 {α : Sort _} {d : Nat} {x y : α} (h : d ≤ 192) : (if enc d = -1 then x else y) = if d = 192 then x else y := by
  by_cases hd : d = 192
  · rw [hd, enc_none, if_pos rfl, if_pos rfl]
  · rw [enc_some hd, if_neg hd, in1 (by omega)]
/-! the first of 192 places in which two rows differ -/
def fdf (f g : Nat → Nat) (k : Nat) : Nat → Nat
  | 0 => 192
  | n + 1 => if f k = g k then fdf f g (k + 1) n else k
def fd (f g : Nat → Nat) : Nat := fdf f g 0 192
theorem fdf_s {f g : Nat → Nat} : ∀ (n k : Nat), k + n = 192 → (fdf f g k n = 192 ∧ ∀ b, k ≤ b → b < 192 → f b = g b) ∨ (k ≤ fdf f g k n ∧ fdf f g k n < 192 ∧ f (fdf f g k n) ≠ g (fdf f g k n) ∧ ∀ b, k ≤ b → b < fdf f g k n → f b = g b)
  | 0, k, h => Or.inl ⟨rfl, fun b h1 h2 => absurd h2 (by omega)⟩
  | n + 1, k, h => by
    by_cases he : f k = g k
    · have e : fdf f g k (n + 1) = fdf f g (k + 1) n := if_pos he
      rw [e]
      rcases fdf_s n (k + 1) (by omega) with ⟨h1, h2⟩ | ⟨h1, h2, h3, h4⟩
      · refine Or.inl ⟨h1, fun b hb1 hb2 => ?_⟩
        rcases Nat.eq_or_lt_of_le hb1 with hb | hb
        · rw [← hb]; exact he
        · exact h2 b hb hb2
      · refine Or.inr ⟨by omega, h2, h3, fun b hb1 hb2 => ?_⟩
        rcases Nat.eq_or_lt_of_le hb1 with hb | hb
        · rw [← hb]; exact he
        · exact h4 b hb hb2
    · have e : fdf f g k (n + 1) = k := if_neg he
      rw [e]
      exact Or.inr ⟨Nat.le_refl _, by omega, he, fun b h1 h2 => absurd h2 (by omega)⟩
theorem fd_s (f g : Nat → Nat) : (fd f g = 192 ∧ ∀ b, b < 192 → f b = g b) ∨ (fd f g < 192 ∧ f (fd f g) ≠ g (fd f g) ∧ ∀ b, b < fd f g → f b = g b) := by
  rcases fdf_s (f := f) (g := g) 192 0 rfl with ⟨h1, h2⟩ | ⟨_, h2, h3, h4⟩
  · exact Or.inl ⟨h1, fun b h => h2 b (Nat.zero_le _) h⟩
  · exact Or.inr ⟨h2, h3, fun b h => h4 b (Nat.zero_le _) h⟩
theorem fd_le (f g : Nat → Nat) : fd f g ≤ 192 := by
  rcases fd_s f g with ⟨h, _⟩ | ⟨h, _⟩ <;> omega
theorem fd_ne {f g : Nat → Nat} (h : fd f g < 192) : f (fd f g) ≠ g (fd f g) := by
  rcases fd_s f g with ⟨h1, _⟩ | ⟨_, h1, _⟩
  · omega
  · exact h1
theorem fd_eq {f g : Nat → Nat} {b : Nat} (h : b < fd f g) : f b = g b := by
  rcases fd_s f g with ⟨h1, h2⟩ | ⟨_, _, h2⟩
  · exact h2 b (by omega)
  · exact h2 b h
/-- what the first difference is, by what it does -/
theorem fd_is {f g : Nat → Nat} {d : Nat} (hd : d < 192) (h1 : f d ≠ g d) (h2 : ∀ b, b < d → f b = g b) : fd f g = d := by
  rcases fd_s f g with ⟨h, h3⟩ | ⟨h, h3, h4⟩
  · exact absurd (h3 d hd) h1
  · rcases Nat.lt_trichotomy (fd f g) d with q | q | q
    · exact absurd (h2 _ q) h3
    · exact q
    · exact absurd (h4 _ q) h1
theorem fd_all {f g : Nat → Nat} (h : ∀ b, b < 192 → f b = g b) : fd f g = 192 := by
  rcases fd_s f g with ⟨h1, _⟩ | ⟨h1, h2, _⟩
  · exact h1
  · exact absurd (h _ h1) h2
theorem fd_comm (f g : Nat → Nat) : fd f g = fd g f := by
  rcases fd_s g f with ⟨h, h3⟩ | ⟨h, h3, h4⟩
  · rw [h]; exact fd_all (fun b hb => (h3 b hb).symm)
  · exact fd_is h (Ne.symm h3) (fun b hb => (h4 b hb).symm)
theorem fd_congr {f f' g g' : Nat → Nat} (h1 : ∀ b, b < 192 → f b = f' b) (h2 : ∀ b, b < 192 → g b = g' b) : fd f g = fd f' g' := by
  rcases fd_s f' g' with ⟨h, h3⟩ | ⟨h, h3, h4⟩
  · rw [h]; exact fd_all (fun b hb => by rw [h1 b hb, h2 b hb]; exact h3 b hb)
  · exact fd_is h (by rw [h1 _ h, h2 _ h]; exact h3) (fun b hb => by rw [h1 b (by omega), h2 b (by omega)]; exact h4 b hb)
/-- bits: every place holds 0 or 1 -/
def bits (f : Nat → Nat) : Prop := ∀ b, f b ≤ 1
/-- ahead in ORDER -/
def lt (f g : Nat → Nat) : Prop := fd f g < 192 ∧ f (fd f g) = 0 ∧ g (fd f g) = 1
theorem lt_or {f g : Nat → Nat} (hf : bits f) (hg : bits g) (h : fd f g < 192) : lt f g ∨ lt g f := by
  have h1 := fd_ne h
  have h2 := hf (fd f g)
  have h3 := hg (fd f g)
  unfold lt
  rw [fd_comm g f]
  omega
theorem lt_trans {f g h : Nat → Nat} (h1 : lt f g) (h2 : lt g h) : lt f h ∧ fd f h = min (fd f g) (fd g h) := by
  obtain ⟨a1, a2, a3⟩ := h1
  obtain ⟨b1, b2, b3⟩ := h2
  have e : fd f h = min (fd f g) (fd g h) := by
    rcases Nat.lt_trichotomy (fd f g) (fd g h) with q | q | q
    · rw [Nat.min_eq_left (by omega)]
      refine fd_is a1 ?_ (fun b hb => ?_)
      · rw [← fd_eq q, a2, a3]; decide
      · rw [fd_eq hb, fd_eq (Nat.lt_trans hb q)]
    · rw [q] at a3
      rw [a3] at b2
      cases b2
    · rw [Nat.min_eq_right (by omega)]
      refine fd_is b1 ?_ (fun b hb => ?_)
      · rw [fd_eq q, b2, b3]; decide
      · rw [fd_eq (Nat.lt_trans hb q), fd_eq hb]
  refine ⟨?_, e⟩
  unfold lt
  rw [e]
  rcases Nat.lt_trichotomy (fd f g) (fd g h) with q | q | q
  · rw [Nat.min_eq_left (by omega)]
    exact ⟨a1, a2, by rw [← fd_eq q]; exact a3⟩
  · rw [q] at a3
    rw [a3] at b2
    cases b2
  · rw [Nat.min_eq_right (by omega)]
    exact ⟨b1, by rw [fd_eq q]; exact b2, b3⟩
theorem lt_irr {f g : Nat → Nat} (h1 : lt f g) (h2 : lt g f) : False := by
  obtain ⟨a1, a2, a3⟩ := h1
  obtain ⟨b1, b2, b3⟩ := h2
  rw [fd_comm g f] at b2
  omega
