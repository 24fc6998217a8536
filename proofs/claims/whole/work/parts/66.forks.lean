/-! the forks of a page: the class seeks one by its number, the reference lays all -/
theorem am_in (D : Nat → Nat) (i : Nat) : ∀ d, i ≤ (am D i d).2 ∧ (0 < d → (am D i d).2 < i + d)
  | 0 => ⟨Nat.le_refl _, fun h => absurd h (Nat.lt_irrefl 0)⟩
  | d + 1 => by
    have ih := am_in D i d
    rw [am]
    split
    · exact ⟨by show i ≤ i + d; omega, fun _ => by show i + d < i + (d + 1); omega⟩
    · refine ⟨ih.1, fun _ => ?_⟩
      rcases Nat.eq_zero_or_pos d with q | q
      · rw [q]
        show i < i + (0 + 1)
        omega
      · have := ih.2 q
        omega
theorem fl_in (D : Nat → Nat) {i j : Nat} (h : i < j) : i ≤ fl D (i, j) ∧ fl D (i, j) < j := by
  have h1 := am_in D i (j - i)
  have h2 := h1.2 (by omega)
  unfold fl
  exact ⟨h1.1, by show (am D i (j - i)).2 < j; omega⟩
/-- the part of a page, and how many forks stand above it, at the fork of a number -/
def sk (D : Nat → Nat) : Nat → Nat → Nat → Nat → Nat → Nat × Nat × Nat
  | 0, i, j, u, _ => (i, j, u)
  | k + 1, i, j, u, f => if i < j ∧ 0 < f then (if f ≤ fl D (i, j) - i then sk D k i (fl D (i, j)) (u + 1) (f - 1) else sk D k (fl D (i, j) + 1) j (u + 1) (f - 1 - (fl D (i, j) - i))) else (i, j, u)
theorem sk_fuel (D : Nat → Nat) : ∀ (k k' i j u f : Nat), j ≤ i + k → j ≤ i + k' → sk D k i j u f = sk D k' i j u f
  | 0, 0, _, _, _, _, _, _ => rfl
  | 0, k' + 1, i, j, u, f, h, _ => by
    rw [sk, sk, if_neg (by omega)]
  | k + 1, 0, i, j, u, f, _, h => by
    rw [sk, sk, if_neg (by omega)]
  | k + 1, k' + 1, i, j, u, f, h, h' => by
    rw [sk, sk]
    by_cases c : i < j ∧ 0 < f
    · obtain ⟨q1, q2⟩ := fl_in D c.1
      rw [if_pos c, if_pos c, sk_fuel D k k' _ _ _ _ (by omega) (by omega), sk_fuel D k k' _ _ _ _ (by omega) (by omega)]
    · rw [if_neg c, if_neg c]
theorem sk_0 (D : Nat → Nat) (k i j u : Nat) : sk D k i j u 0 = (i, j, u) := by
  cases k with
  | zero => rfl
  | succ k => rw [sk, if_neg (by omega)]
theorem sk_left (D : Nat → Nat) {k i j u f : Nat} (hk : j ≤ i + k) (h : i < j) (hf : f < fl D (i, j) - i) : sk D k i j u (f + 1) = sk D k i (fl D (i, j)) (u + 1) f := by
  obtain ⟨q1, q2⟩ := fl_in D h
  cases k with
  | zero => omega
  | succ k =>
    rw [sk, if_pos ⟨h, by omega⟩, if_pos (by omega), Nat.add_sub_cancel]
    exact sk_fuel D k (k + 1) _ _ _ _ (by omega) (by omega)
theorem sk_right (D : Nat → Nat) {k i j u f : Nat} (hk : j ≤ i + k) (h : i < j) : sk D k i j u (fl D (i, j) - i + 1 + f) = sk D k (fl D (i, j) + 1) j (u + 1) f := by
  obtain ⟨q1, q2⟩ := fl_in D h
  cases k with
  | zero => omega
  | succ k =>
    rw [sk, if_pos ⟨h, by omega⟩, if_neg (by omega), show fl D (i, j) - i + 1 + f - 1 - (fl D (i, j) - i) = f by omega]
    exact sk_fuel D k (k + 1) _ _ _ _ (by omega) (by omega)
theorem sk_in (D : Nat → Nat) : ∀ (k i j u f : Nat), i ≤ j → f < j - i → j ≤ i + k → i ≤ (sk D k i j u f).1 ∧ (sk D k i j u f).1 < (sk D k i j u f).2.1 ∧ (sk D k i j u f).2.1 ≤ j ∧ (sk D k i j u f).2.2 < u + k
  | 0, i, j, u, f, h, hf, hk => absurd hf (by omega)
  | k + 1, i, j, u, f, h, hf, hk => by
    obtain ⟨q1, q2⟩ := fl_in D (show i < j by omega)
    rw [sk]
    by_cases c : i < j ∧ 0 < f
    · rw [if_pos c]
      by_cases c2 : f ≤ fl D (i, j) - i
      · rw [if_pos c2]
        obtain ⟨a1, a2, a3, a4⟩ := sk_in D k i (fl D (i, j)) (u + 1) (f - 1) q1 (by omega) (by omega)
        exact ⟨a1, a2, by omega, by omega⟩
      · rw [if_neg c2]
        obtain ⟨a1, a2, a3, a4⟩ := sk_in D k (fl D (i, j) + 1) j (u + 1) (f - 1 - (fl D (i, j) - i)) (by omega) (by omega) (by omega)
        exact ⟨by omega, a2, a3, by omega⟩
    · rw [if_neg c]
      exact ⟨Nat.le_refl _, by show i < j; omega, Nat.le_refl _, by show u < u + (k + 1); omega⟩
theorem sk_congr {hb : Nat → Nat → Nat} {D : Nat → Nat} {n : Nat} (hD : ∀ k, k + 1 < n → nb hb k = D k) : ∀ (k i j u f : Nat), j < n → sk (nb hb) k i j u f = sk D k i j u f
  | 0, _, _, _, _, _ => rfl
  | k + 1, i, j, u, f, hj => by
    have e := (st_congr hD (s := (i, j)) hj).2
    rw [sk, sk, e]
    by_cases c : i < j ∧ 0 < f
    · obtain ⟨q1, q2⟩ := fl_in D c.1
      rw [if_pos c, if_pos c, sk_congr hD k _ _ _ _ (by omega), sk_congr hD k _ _ _ _ hj]
    · rw [if_neg c, if_neg c]
def mxs (f : Nat → Nat) : Nat → Nat
  | 0 => 0
  | n + 1 => max (mxs f n) (f n)
theorem mxs_congr {f g : Nat → Nat} : ∀ {n : Nat}, (∀ k, k < n → f k = g k) → mxs f n = mxs g n
  | 0, _ => rfl
  | n + 1, h => by rw [mxs, mxs, mxs_congr (fun k hk => h k (by omega)), h n (by omega)]
theorem mxs_add (f : Nat → Nat) (m : Nat) : ∀ n, mxs f (m + n) = max (mxs f m) (mxs (fun k => f (m + k)) n)
  | 0 => by
    show mxs f m = max (mxs f m) 0
    omega
  | n + 1 => by
    show max (mxs f (m + n)) (f (m + n)) = max (mxs f m) (max (mxs (fun k => f (m + k)) n) (f (m + n)))
    rw [mxs_add f m n]
    omega
theorem mxs_le {f : Nat → Nat} {c : Nat} : ∀ {n : Nat}, (∀ k, k < n → f k ≤ c) → mxs f n ≤ c
  | 0, _ => Nat.zero_le _
  | n + 1, h => by
    have h1 := mxs_le (f := f) (c := c) (n := n) (fun k hk => h k (by omega))
    have h2 := h n (by omega)
    show max (mxs f n) (f n) ≤ c
    omega
section
variable {hb : Nat → Nat → Nat} {n base : Nat} {cp : Nat → Int32}
theorem seek_n (h : Srt hb n) (hn : 0 < n) (h8 : n ≤ 8) (hp : ∀ k, k + 1 < n → cp (base + k) = nI (nb hb k)) (hbs : base + n ≤ 96) {f : Nat} (hf : f ≤ 8) : C5_seek cp (nI base) (nI 0) (nI (n - 1)) (nI 0) (nI (fb (nb hb) (0, n - 1))) (nI (fl (nb hb) (0, n - 1))) (nI f) = some (nI (sk (nb hb) 8 0 (n - 1) 0 f).1, nI (sk (nb hb) 8 0 (n - 1) 0 f).2.1, nI (sk (nb hb) 8 0 (n - 1) 0 f).2.2, nI (fb (nb hb) ((sk (nb hb) 8 0 (n - 1) 0 f).1, (sk (nb hb) 8 0 (n - 1) 0 f).2.1)), nI (fl (nb hb) ((sk (nb hb) 8 0 (n - 1) 0 f).1, (sk (nb hb) 8 0 (n - 1) 0 f).2.1))) := by
  unfold C5_seek
  have key : ∀ (c i j u g m : Nat), c ≤ 8 → i ≤ j → j < n → g ≤ 8 → c < m → C5_seek_L4 cp (nI base) (nI f) (fun c_from c_to c_above c_bit c_lastLeft => some (c_from, c_to, c_above, c_bit, c_lastLeft)) m (nI i) (nI j) (nI u) (nI (fb (nb hb) (i, j))) (nI (fl (nb hb) (i, j))) (nI g) (nI (8 - c)) = some (nI (sk (nb hb) c i j u g).1, nI (sk (nb hb) c i j u g).2.1, nI (sk (nb hb) c i j u g).2.2, nI (fb (nb hb) ((sk (nb hb) c i j u g).1, (sk (nb hb) c i j u g).2.1)), nI (fl (nb hb) ((sk (nb hb) c i j u g).1, (sk (nb hb) c i j u g).2.1))) := by
    intro c
    induction c with
    | zero =>
      intro i j u g m _ hij hj hg hm
      obtain ⟨m, rfl⟩ : ∃ t, m = t + 1 := ⟨m - 1, by omega⟩
      rw [C5_seek_L4]
      show (if nI 8 ≤ nI 8 then _ else _) = _
      rw [il (by decide) (by decide), if_pos (by omega)]
      rfl
    | succ c ih =>
      intro i j u g m hc8 hij hj hg hm
      obtain ⟨m, rfl⟩ : ∃ t, m = t + 1 := ⟨m - 1, by omega⟩
      rw [C5_seek_L4]
      show (if nI 8 ≤ nI (8 - (c + 1)) then _ else _) = _
      rw [il (by decide) (by omega), if_neg (by omega), il (by omega) (by omega), sk]
      by_cases c1 : i < j
      · obtain ⟨q1, q2⟩ := fl_in (nb hb) c1
        rw [if_neg (by omega)]
        show (if nI g ≤ nI 0 then _ else _) = _
        rw [il (by omega) (by decide)]
        by_cases c2 : 0 < g
        · rw [if_neg (by omega), if_pos (show i < j ∧ 0 < g from ⟨c1, c2⟩), pk_sub q1, ilt (by omega) (by omega)]
          have eg : nI g - 1 = nI (g - 1) := pk_sub (b := 1) (by omega)
          have ev : nI (8 - (c + 1)) + 1 = nI (8 - c) := by rw [nI_p1, show 8 - (c + 1) + 1 = 8 - c by omega]
          by_cases c3 : g ≤ fl (nb hb) (i, j) - i
          · rw [if_neg (by omega), if_pos c3]
            have hff := fork_at (s := (i, fl (nb hb) (i, j))) h hn h8 hp hbs q1 (by show fl (nb hb) (i, j) < n; omega) (nI (fb (nb hb) (i, j))) (nI (fl (nb hb) (i, j)))
            unfold C5_seek_J47
            rw [if_neg (by decide), eg]
            unfold C5_seek_J66 C5_step
            rw [if_neg (by decide), bd3_in, hff, bd2_in, nI_p1, ev]
            exact ih i (fl (nb hb) (i, j)) (u + 1) (g - 1) m (by omega) q1 (by omega) (by omega) (by omega)
          · rw [if_pos (by omega), if_neg c3]
            have hff := fork_at (s := (fl (nb hb) (i, j) + 1, j)) h hn h8 hp hbs (by show fl (nb hb) (i, j) + 1 ≤ j; omega) hj (nI (fb (nb hb) (i, j))) (nI (fl (nb hb) (i, j)))
            unfold C5_seek_J47
            rw [if_pos (by decide), eg, pk_sub (by omega)]
            unfold C5_seek_J66 C5_step
            rw [if_pos (by decide), bd3_in, nI_p1, hff, bd2_in, nI_p1, ev]
            exact ih (fl (nb hb) (i, j) + 1) j (u + 1) (g - 1 - (fl (nb hb) (i, j) - i)) m (by omega) (by omega) hj (by omega) (by omega)
        · rw [if_pos (by omega), if_neg (by omega)]
      · rw [if_pos (by omega), if_neg (by omega)]
  exact key 8 0 (n - 1) 0 f FU (by decide) (Nat.zero_le _) (by omega) hf (by decide)
end
section
variable {S ak : Nat → Nat} {al : Nat} {h : Nat → Nat} {hs : Nat → Int32} {N : Nat}
theorem piles_n {pf pt pa : Nat → Int32} {k : Nat} {x y z : Int32} (hk : k < 24) : M_piles pf pt pa (nI k) x y z = some (upd pf k x, upd pt k y, upd pa k z) := by
  unfold M_piles
  rw [ga_j hk (by decide), ga_j hk (by decide), ga_j hk (by decide), nI_clamp (by omega)]
theorem lays_L (hN : N ≤ 8) (hw : ∀ e, e < N → wok S ak al (h e)) (hsr : Srt (fun e => mbit S ak al (h e)) N) (w1 w2 : Int32) (k : (Nat → Int32) → (Nat → Int32) → (Nat → Int32) → (Nat → Int32) → (Nat → Int32) → (Nat → Int32) → (Nat → Int32) → (Nat → Int32) → Int32 → Int32 → Int32 → Option ((Nat → Int32) × (Nat → Int32) × (Nat → Int32) × (Nat → Int32) × (Nat → Int32) × (Nat → Int32) × (Nat → Int32) × (Nat → Int32) × Int32 × Int32 × Int32)) :
    ∀ (d i j u m tf dp f0 : Nat) (tb tlf tr ta pf pt pa : Nat → Int32) (me : Int32), j ≤ i + d → i ≤ j → j < N → m + (j - i) < 20 → tf + (j - i) < 10 → u < 20 → dp < 40 → u + (j - i) < 20 → pf m = nI i → pt m = nI (j + 1) → pa m = nI u →
      ∃ (tb' tlf' tr' ta' pf' pt' pa' : Nat → Int32), M_laysTree_L29 (nf S) (nf ak) (nI al) w1 w2 k (f0 + (2 * (j - i) + 1)) (ov hs N h) tb tlf tr ta pf pt pa me (nI tf) (nI dp) (nI (m + 1)) = M_laysTree_L29 (nf S) (nf ak) (nI al) w1 w2 k f0 (ov hs N h) tb' tlf' tr' ta' pf' pt' pa' me (nI (tf + (j - i))) (nI (max (max dp u) (mxs (fun g => (sk (nb (fun e => mbit S ak al (h e))) 8 i j u g).2.2 + 1) (j - i)))) (nI m) ∧ (∀ q, q < m → pf' q = pf q ∧ pt' q = pt q ∧ pa' q = pa q) ∧ (∀ q, q < tf → tb' q = tb q ∧ tlf' q = tlf q ∧ tr' q = tr q ∧ ta' q = ta q) ∧ ∀ g, g < j - i → tb' (tf + g) = nI (fb (nb (fun e => mbit S ak al (h e))) ((sk (nb (fun e => mbit S ak al (h e))) 8 i j u g).1, (sk (nb (fun e => mbit S ak al (h e))) 8 i j u g).2.1)) ∧ tlf' (tf + g) = nI (fl (nb (fun e => mbit S ak al (h e))) ((sk (nb (fun e => mbit S ak al (h e))) 8 i j u g).1, (sk (nb (fun e => mbit S ak al (h e))) 8 i j u g).2.1) - (sk (nb (fun e => mbit S ak al (h e))) 8 i j u g).1 + 1) ∧ tr' (tf + g) = nI ((sk (nb (fun e => mbit S ak al (h e))) 8 i j u g).2.1 - fl (nb (fun e => mbit S ak al (h e))) ((sk (nb (fun e => mbit S ak al (h e))) 8 i j u g).1, (sk (nb (fun e => mbit S ak al (h e))) 8 i j u g).2.1)) ∧ ta' (tf + g) = nI (sk (nb (fun e => mbit S ak al (h e))) 8 i j u g).2.2 := by
  intro d
  induction d with
  | zero =>
    intro i j u m tf dp f0 tb tlf tr ta pf pt pa me hd hij hj hm htf hu hdp hud h1 h2 h3
    have e0 : i = j := by omega
    subst e0
    refine ⟨tb, tlf, tr, ta, pf, pt, pa, ?_, fun q _ => ⟨rfl, rfl, rfl⟩, fun q _ => ⟨rfl, rfl, rfl, rfl⟩, fun g hg => absurd hg (by omega)⟩
    rw [Nat.sub_self]
    show M_laysTree_L29 (nf S) (nf ak) (nI al) w1 w2 k (f0 + 1) _ _ _ _ _ _ _ _ _ _ _ _ = M_laysTree_L29 _ _ _ _ _ _ f0 _ _ _ _ _ _ _ _ _ _ (nI (max (max dp u) 0)) _
    rw [M_laysTree_L29, if_neg (nI_nle (by omega) (by omega)), pk_m1, ga_j (by omega) (by decide), ga_j (by omega) (by decide), ga_j (by omega) (by decide), nI_clamp (by omega), h1, h2, h3, il (by omega) (by omega)]
    have hj79 : ∀ t1 : Int32, M_laysTree_J79 (nf S) (nf ak) (nI al) w1 w2 (M_laysTree_L29 (nf S) (nf ak) (nI al) w1 w2 k f0) k (ov hs N h) tb tlf tr ta pf pt pa me (nI tf) (nI dp) (nI m) (nI i) (nI (i + 1)) (nI u) t1 = M_laysTree_L29 (nf S) (nf ak) (nI al) w1 w2 k f0 (ov hs N h) tb tlf tr ta pf pt pa me (nI tf) t1 (nI m) := fun t1 => by
      unfold M_laysTree_J79
      rw [pk_sub (by omega), show i + 1 - i = 1 by omega, if_pos (by decide)]
    rw [hj79, hj79]
    by_cases c : u ≤ dp
    · rw [if_pos c, show max (max dp u) 0 = dp by omega, Nat.add_zero]
    · rw [if_neg c, show max (max dp u) 0 = u by omega, Nat.add_zero]
  | succ d ih =>
    intro i j u m tf dp f0 tb tlf tr ta pf pt pa me hd hij hj hm htf hu hdp hud h1 h2 h3
    by_cases c0 : j = i
    · exact ih i j u m tf dp f0 tb tlf tr ta pf pt pa me (by omega) hij hj hm htf hu hdp hud h1 h2 h3
    · have hlt : i < j := by omega
      obtain ⟨q1, q2⟩ := fl_in (nb (fun e => mbit S ak al (h e))) hlt
      have hfrk := fb_frk hsr (s := (i, j)) hlt hj
      have hb192 := hfrk.1
      have hbit : fb (nb (fun e => mbit S ak al (h e))) (i, j) = fd (mbit S ak al (h i)) (mbit S ak al (h j)) := hfrk.2.2.2.1
      have hpart := parting_n (hs := hs) (by omega) hj hw hfrk
      generalize hL : fl (nb (fun e => mbit S ak al (h e))) (i, j) = L at *
      generalize hB : fb (nb (fun e => mbit S ak al (h e))) (i, j) = B at *
      -- the left part, then the right part
      obtain ⟨tb1, tl1, tr1, ta1, pf1, pt1, pa1, r1, r2, r3, r4⟩ := ih i L (u + 1) (m + 1) (tf + 1) (max dp u) (f0 + (2 * (j - (L + 1)) + 1)) (upd tb tf (nI B)) (upd tlf tf (nI (L + 1 - i))) (upd tr tf (nI (j + 1 - (L + 1)))) (upd ta tf (nI u)) (upd (upd pf m (nI (L + 1))) (m + 1) (nI i)) (upd (upd pt m (nI (j + 1))) (m + 1) (nI (L + 1))) (upd (upd pa m (nI (u + 1))) (m + 1) (nI (u + 1))) me (by omega) q1 (by omega) (by omega) (by omega) (by omega) (by omega) (by omega) upd_s upd_s upd_s
      obtain ⟨x1, x2, x3⟩ := r2 m (by omega)
      rw [upd_n (by omega), upd_s] at x1 x2 x3
      have hmx1 : mxs (fun g => (sk (nb (fun e => mbit S ak al (h e))) 8 i L (u + 1) g).2.2 + 1) (L - i) ≤ 39 := mxs_le (fun g hg => by
        have := (sk_in (nb (fun e => mbit S ak al (h e))) 8 i L (u + 1) g q1 (by omega) (by omega)).2.2.2
        omega)
      obtain ⟨tb2, tl2, tr2, ta2, pf2, pt2, pa2, s1, s2, s3, s4⟩ := ih (L + 1) j (u + 1) m (tf + 1 + (L - i)) (max (max (max dp u) (u + 1)) (mxs (fun g => (sk (nb (fun e => mbit S ak al (h e))) 8 i L (u + 1) g).2.2 + 1) (L - i))) f0 tb1 tl1 tr1 ta1 pf1 pt1 pa1 me (by omega) (by omega) hj (by omega) (by omega) (by omega) (by omega) (by omega) x1 x2 x3
      have hsk0 : sk (nb (fun e => mbit S ak al (h e))) 8 i j u 0 = (i, j, u) := sk_0 _ _ _ _ _
      have hskl : ∀ g, g < L - i → sk (nb (fun e => mbit S ak al (h e))) 8 i j u (g + 1) = sk (nb (fun e => mbit S ak al (h e))) 8 i L (u + 1) g := fun g hg => by
        have := sk_left (nb (fun e => mbit S ak al (h e))) (k := 8) (u := u) (f := g) (by omega) hlt (by rw [hL]; exact hg)
        rw [hL] at this
        exact this
      have hskr : ∀ g, sk (nb (fun e => mbit S ak al (h e))) 8 i j u (L - i + 1 + g) = sk (nb (fun e => mbit S ak al (h e))) 8 (L + 1) j (u + 1) g := fun g => by
        have := sk_right (nb (fun e => mbit S ak al (h e))) (k := 8) (u := u) (f := g) (by omega) hlt
        rw [hL] at this
        exact this
      refine ⟨tb2, tl2, tr2, ta2, pf2, pt2, pa2, ?_, fun q hq => ?_, fun q hq => ?_, fun g hg => ?_⟩
      · rw [show f0 + (2 * (j - i) + 1) = (f0 + (2 * (j - (L + 1)) + 1) + (2 * (L - i) + 1)) + 1 by omega]
        rw [M_laysTree_L29, if_neg (nI_nle (by omega) (by omega)), pk_m1, ga_j (by omega) (by decide), ga_j (by omega) (by decide), ga_j (by omega) (by decide), nI_clamp (by omega), h1, h2, h3, il (by omega) (by omega)]
        have hj79 : ∀ t1 : Int32, M_laysTree_J79 (nf S) (nf ak) (nI al) w1 w2 (M_laysTree_L29 (nf S) (nf ak) (nI al) w1 w2 k (f0 + (2 * (j - (L + 1)) + 1) + (2 * (L - i) + 1))) k (ov hs N h) tb tlf tr ta pf pt pa me (nI tf) (nI dp) (nI m) (nI i) (nI (j + 1)) (nI u) t1 = M_laysTree_L29 (nf S) (nf ak) (nI al) w1 w2 k (f0 + (2 * (j - (L + 1)) + 1) + (2 * (L - i) + 1)) (ov hs N h) (upd tb tf (nI B)) (upd tlf tf (nI (L + 1 - i))) (upd tr tf (nI (j + 1 - (L + 1)))) (upd ta tf (nI u)) (upd (upd pf m (nI (L + 1))) (m + 1) (nI i)) (upd (upd pt m (nI (j + 1))) (m + 1) (nI (L + 1))) (upd (upd pa m (nI (u + 1))) (m + 1) (nI (u + 1))) me (nI (tf + 1)) t1 (nI (m + 1 + 1)) := fun t1 => by
          unfold M_laysTree_J79
          rw [pk_sub (show i ≤ j + 1 by omega), if_neg (show ¬ nI (j + 1 - i) ≤ 1 from (show ¬ nI (j + 1 - i) ≤ nI 1 from nI_ge (by omega) (by omega))), ga_j (by omega) (by decide), show nI (j + 1) - 1 = nI j from nI_pred j, ga_j (by omega) (by decide), nI_clamp (by omega), nI_clamp (by omega), ov_in (by omega), ov_in hj, differ_n (hw i (by omega)) (hw j hj), bd1_in, ← hbit, enc_some (by omega), hpart, bd1_in, ga_j (by omega) (by decide), ga_j (by omega) (by decide), ga_j (by omega) (by decide), ga_j (by omega) (by decide), nI_p1, piles_n (by omega), bd3_in, nI_p1, piles_n (by omega), bd3_in, nI_clamp (by omega), pk_sub (by omega), pk_sub (by omega), nI_p1, show nI m + 2 = nI (m + 1 + 1) from nI_add m 2]
        rw [hj79, hj79]
        have hdd : ∀ z : Nat, (if u ≤ dp then M_laysTree_L29 (nf S) (nf ak) (nI al) w1 w2 k (f0 + (2 * (j - (L + 1)) + 1) + (2 * (L - i) + 1)) (ov hs N h) (upd tb tf (nI B)) (upd tlf tf (nI (L + 1 - i))) (upd tr tf (nI (j + 1 - (L + 1)))) (upd ta tf (nI u)) (upd (upd pf m (nI (L + 1))) (m + 1) (nI i)) (upd (upd pt m (nI (j + 1))) (m + 1) (nI (L + 1))) (upd (upd pa m (nI (u + 1))) (m + 1) (nI (u + 1))) me (nI (tf + 1)) (nI dp) (nI (m + 1 + 1)) else M_laysTree_L29 (nf S) (nf ak) (nI al) w1 w2 k (f0 + (2 * (j - (L + 1)) + 1) + (2 * (L - i) + 1)) (ov hs N h) (upd tb tf (nI B)) (upd tlf tf (nI (L + 1 - i))) (upd tr tf (nI (j + 1 - (L + 1)))) (upd ta tf (nI u)) (upd (upd pf m (nI (L + 1))) (m + 1) (nI i)) (upd (upd pt m (nI (j + 1))) (m + 1) (nI (L + 1))) (upd (upd pa m (nI (u + 1))) (m + 1) (nI (u + 1))) me (nI (tf + 1)) (nI u) (nI (m + 1 + 1))) = M_laysTree_L29 (nf S) (nf ak) (nI al) w1 w2 k (f0 + (2 * (j - (L + 1)) + 1) + (2 * (L - i) + 1)) (ov hs N h) (upd tb tf (nI B)) (upd tlf tf (nI (L + 1 - i))) (upd tr tf (nI (j + 1 - (L + 1)))) (upd ta tf (nI u)) (upd (upd pf m (nI (L + 1))) (m + 1) (nI i)) (upd (upd pt m (nI (j + 1))) (m + 1) (nI (L + 1))) (upd (upd pa m (nI (u + 1))) (m + 1) (nI (u + 1))) me (nI (tf + 1)) (nI (max dp u)) (nI (m + 1 + 1)) := fun z => by
          by_cases c : u ≤ dp
          · rw [if_pos c, show max dp u = dp by omega]
          · rw [if_neg c, show max dp u = u by omega]
        rw [hdd 0, r1, s1]
        have et : tf + 1 + (L - i) + (j - (L + 1)) = tf + (j - i) := by omega
        have em : max (max (max (max (max dp u) (u + 1)) (mxs (fun g => (sk (nb (fun e => mbit S ak al (h e))) 8 i L (u + 1) g).2.2 + 1) (L - i))) (u + 1)) (mxs (fun g => (sk (nb (fun e => mbit S ak al (h e))) 8 (L + 1) j (u + 1) g).2.2 + 1) (j - (L + 1))) = max (max dp u) (mxs (fun g => (sk (nb (fun e => mbit S ak al (h e))) 8 i j u g).2.2 + 1) (j - i)) := by
          have e1 : mxs (fun g => (sk (nb (fun e => mbit S ak al (h e))) 8 i j u g).2.2 + 1) (j - i) = max (max (u + 1) (mxs (fun g => (sk (nb (fun e => mbit S ak al (h e))) 8 i L (u + 1) g).2.2 + 1) (L - i))) (mxs (fun g => (sk (nb (fun e => mbit S ak al (h e))) 8 (L + 1) j (u + 1) g).2.2 + 1) (j - (L + 1))) := by
            rw [show j - i = (1 + (L - i)) + (j - (L + 1)) by omega, mxs_add, mxs_add]
            have f1 : mxs (fun g => (sk (nb (fun e => mbit S ak al (h e))) 8 i j u g).2.2 + 1) 1 = u + 1 := by
              show max 0 ((sk (nb (fun e => mbit S ak al (h e))) 8 i j u 0).2.2 + 1) = u + 1
              rw [hsk0]
              show max 0 (u + 1) = u + 1
              omega
            have f2 : mxs (fun k_1 => (sk (nb (fun e => mbit S ak al (h e))) 8 i j u (1 + k_1)).2.2 + 1) (L - i) = mxs (fun g => (sk (nb (fun e => mbit S ak al (h e))) 8 i L (u + 1) g).2.2 + 1) (L - i) := mxs_congr (fun g hg => by
              show (sk _ 8 i j u (1 + g)).2.2 + 1 = _
              rw [Nat.add_comm 1 g, hskl g hg])
            have f3 : mxs (fun k_1 => (sk (nb (fun e => mbit S ak al (h e))) 8 i j u (1 + (L - i) + k_1)).2.2 + 1) (j - (L + 1)) = mxs (fun g => (sk (nb (fun e => mbit S ak al (h e))) 8 (L + 1) j (u + 1) g).2.2 + 1) (j - (L + 1)) := mxs_congr (fun g hg => by
              show (sk _ 8 i j u (1 + (L - i) + g)).2.2 + 1 = _
              rw [Nat.add_comm 1 (L - i), hskr g])
            rw [f1, f2, f3]
          rw [e1]
          omega
        rw [et, em]
      · obtain ⟨a1, a2, a3⟩ := s2 q hq
        obtain ⟨b1, b2, b3⟩ := r2 q (by omega)
        rw [upd_n (by omega), upd_n (by omega)] at b1 b2 b3
        exact ⟨a1.trans b1, a2.trans b2, a3.trans b3⟩
      · obtain ⟨a1, a2, a3, a4⟩ := s3 q (by omega)
        obtain ⟨b1, b2, b3, b4⟩ := r3 q (by omega)
        rw [upd_n (by omega)] at b1 b2 b3 b4
        exact ⟨a1.trans b1, a2.trans b2, a3.trans b3, a4.trans b4⟩
      · rcases Nat.eq_zero_or_pos g with cg | cg
        · obtain ⟨a1, a2, a3, a4⟩ := s3 tf (by omega)
          obtain ⟨b1, b2, b3, b4⟩ := r3 tf (by omega)
          rw [upd_s] at b1 b2 b3 b4
          rw [cg, hsk0, Nat.add_zero]
          refine ⟨a1.trans (b1.trans ?_), a2.trans (b2.trans ?_), a3.trans (b3.trans ?_), a4.trans b4⟩
          · show nI B = nI (fb _ (i, j)); rw [hB]
          · show _ = nI (fl _ (i, j) - i + 1); rw [hL, show L + 1 - i = L - i + 1 by omega]
          · show _ = nI (j - fl _ (i, j)); rw [hL, show j + 1 - (L + 1) = j - L by omega]
        · by_cases cl : g ≤ L - i
          · obtain ⟨g', rfl⟩ : ∃ g', g = g' + 1 := ⟨g - 1, by omega⟩
            obtain ⟨a1, a2, a3, a4⟩ := s3 (tf + 1 + g') (by omega)
            obtain ⟨b1, b2, b3, b4⟩ := r4 g' (by omega)
            rw [hskl g' (by omega), show tf + (g' + 1) = tf + 1 + g' by omega]
            exact ⟨a1.trans b1, a2.trans b2, a3.trans b3, a4.trans b4⟩
          · obtain ⟨g', rfl⟩ : ∃ g', g = L - i + 1 + g' := ⟨g - (L - i + 1), by omega⟩
            rw [hskr g', show tf + (L - i + 1 + g') = tf + 1 + (L - i) + g' by omega]
            exact s4 g' (by omega)
end
