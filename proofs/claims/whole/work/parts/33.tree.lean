/-! blind trees over sorted rows of bits -/
def Srt (hb : Nat → Nat → Nat) (n : Nat) : Prop := ∀ i j, i < j → j < n → lt (hb i) (hb j)
def nb (hb : Nat → Nat → Nat) (k : Nat) : Nat := fd (hb k) (hb (k + 1))
/-- the least of the neighbours' partings from a place on, and the first place where it is -/
def am (D : Nat → Nat) (i : Nat) : Nat → Nat × Nat
  | 0 => (192, i)
  | d + 1 => if D (i + d) < (am D i d).1 then (D (i + d), i + d) else am D i d
def Frk (hb : Nat → Nat → Nat) (i j b l : Nat) : Prop := b < 192 ∧ i ≤ l ∧ l < j ∧ b = fd (hb i) (hb j) ∧ (∀ k, i ≤ k → k ≤ l → hb k b = 0) ∧ ∀ k, l < k → k ≤ j → hb k b = 1
theorem srt_min {hb : Nat → Nat → Nat} {n i k j : Nat} (h : Srt hb n) (hi : i ≤ k) (hk : k ≤ j) (hj : j < n) : fd (hb i) (hb j) ≤ fd (hb i) (hb k) ∧ fd (hb i) (hb j) ≤ fd (hb k) (hb j) := by
  rcases Nat.lt_or_eq_of_le hi with q | q
  · rcases Nat.lt_or_eq_of_le hk with r | r
    · have h1 := (lt_trans (h i k q (by omega)) (h k j r hj)).2
      rw [h1]
      exact ⟨Nat.min_le_left _ _, Nat.min_le_right _ _⟩
    · rw [r]
      refine ⟨Nat.le_refl _, ?_⟩
      rw [fd_all (fun _ _ => rfl)]
      exact fd_le _ _
  · rw [q]
    refine ⟨?_, Nat.le_refl _⟩
    rw [fd_all (fun _ _ => rfl)]
    exact fd_le _ _
theorem am_frk {hb : Nat → Nat → Nat} {n i : Nat} (h : Srt hb n) : ∀ d, i + d + 1 < n → Frk hb i (i + d + 1) (am (nb hb) i (d + 1)).1 (am (nb hb) i (d + 1)).2
  | 0, hd => by
    have h1 := h i (i + 1) (by omega) hd
    have e : am (nb hb) i 1 = (nb hb i, i) := if_pos h1.1
    rw [e]
    refine ⟨h1.1, Nat.le_refl _, by omega, rfl, fun k q1 q2 => ?_, fun k q1 q2 => ?_⟩
    · rw [show k = i by omega]; exact h1.2.1
    · have q : k = i + 1 := Nat.le_antisymm q2 q1
      rw [q]
      exact h1.2.2
  | d + 1, hd => by
    obtain ⟨f1, f2, f3, f4, f5, f6⟩ := am_frk (i := i) h d (by omega)
    have hij := h i (i + d + 1) (by omega) (by omega)
    have hjj := h (i + d + 1) (i + d + 1 + 1) (by omega) hd
    have ht := (lt_trans hij hjj).2
    have hne : nb hb (i + d + 1) ≠ (am (nb hb) i (d + 1)).1 := by
      intro e
      have h1 := f6 (i + d + 1) (by omega) (Nat.le_refl _)
      rw [← e] at h1
      have h2 := hjj.2.1
      unfold nb at h1
      omega
    by_cases hc : nb hb (i + d + 1) < (am (nb hb) i (d + 1)).1
    · have e : am (nb hb) i (d + 1 + 1) = (nb hb (i + d + 1), i + d + 1) := if_pos hc
      rw [e]
      refine ⟨hjj.1, by omega, Nat.lt_succ_self _, ?_, fun k q1 q2 => ?_, fun k q1 q2 => ?_⟩
      · show nb hb (i + d + 1) = fd (hb i) (hb (i + d + 1 + 1))
        rw [ht, ← f4]
        exact (Nat.min_eq_right (Nat.le_of_lt hc)).symm
      · have q2 : k ≤ i + d + 1 := q2
        have h1 := (srt_min h q1 q2 (by omega)).2
        rw [← f4] at h1
        rw [fd_eq (show nb hb (i + d + 1) < fd (hb k) (hb (i + d + 1)) by omega)]
        exact hjj.2.1
      · have q : k = i + d + 1 + 1 := Nat.le_antisymm q2 q1
        rw [q]
        exact hjj.2.2
    · have e : am (nb hb) i (d + 1 + 1) = am (nb hb) i (d + 1) := if_neg hc
      rw [e]
      refine ⟨f1, f2, Nat.lt_succ_of_lt f3, ?_, f5, fun k q1 q2 => ?_⟩
      · show _ = fd (hb i) (hb (i + d + 1 + 1))
        rw [ht, ← f4]
        exact (Nat.min_eq_left (show (am (nb hb) i (d + 1)).1 ≤ fd (hb (i + d + 1)) (hb (i + d + 1 + 1)) from Nat.not_lt.mp hc)).symm
      · rcases Nat.lt_or_ge k (i + d + 1 + 1) with q | q
        · exact f6 k q1 (by omega)
        · have q3 : k = i + d + 1 + 1 := Nat.le_antisymm q2 q
          rw [q3, ← fd_eq (show (am (nb hb) i (d + 1)).1 < fd (hb (i + d + 1)) (hb (i + d + 1 + 1)) from Nat.lt_of_le_of_ne (Nat.not_lt.mp hc) (Ne.symm hne))]
          exact f6 (i + d + 1) (by omega) (Nat.le_refl _)
/-- the fork over a stretch of entries (its last one counts) -/
def fb (D : Nat → Nat) (s : Nat × Nat) : Nat := (am D s.1 (s.2 - s.1)).1
def fl (D : Nat → Nat) (s : Nat × Nat) : Nat := (am D s.1 (s.2 - s.1)).2
theorem fb_frk {hb : Nat → Nat → Nat} {n : Nat} (h : Srt hb n) {s : Nat × Nat} (h1 : s.1 < s.2) (h2 : s.2 < n) : Frk hb s.1 s.2 (fb (nb hb) s) (fl (nb hb) s) := by
  have := am_frk (i := s.1) h (s.2 - s.1 - 1) (by omega)
  rw [show s.1 + (s.2 - s.1 - 1) + 1 = s.2 by omega, show s.2 - s.1 - 1 + 1 = s.2 - s.1 by omega] at this
  exact this
theorem fb_tip {D : Nat → Nat} {s : Nat × Nat} (h : s.2 ≤ s.1) : fb D s = 192 := by
  unfold fb
  rw [show s.2 - s.1 = 0 by omega]
  rfl
def nx (D W : Nat → Nat) (s : Nat × Nat) : Nat × Nat := if W (fb D s) = 0 then (s.1, fl D s) else (fl D s + 1, s.2)
def ps (D W : Nat → Nat) (n : Nat) : Nat → Nat × Nat
  | 0 => (0, n - 1)
  | f + 1 => if (ps D W n f).1 < (ps D W n f).2 then nx D W (ps D W n f) else ps D W n f
/-- how many turns until a fork at a bit not below the limit, or a tip -/
def dn (D W : Nat → Nat) (n lim : Nat) : Nat → Nat → Nat
  | 0, f => f
  | k + 1, f => if fb D (ps D W n f) < lim then dn D W n lim k (f + 1) else f
section
variable {hb : Nat → Nat → Nat} {W : Nat → Nat} {n : Nat}
theorem ps_in (h : Srt hb n) (hn : 0 < n) : ∀ f, (ps (nb hb) W n f).1 ≤ (ps (nb hb) W n f).2 ∧ (ps (nb hb) W n f).2 < n ∧ ((ps (nb hb) W n f).2 - (ps (nb hb) W n f).1) + f ≤ n - 1 + (f - (n - 1)) ∧ ((ps (nb hb) W n f).1 < (ps (nb hb) W n f).2 → ((ps (nb hb) W n f).2 - (ps (nb hb) W n f).1) + f ≤ n - 1)
  | 0 => ⟨Nat.zero_le _, by show n - 1 < n; omega, by show n - 1 - 0 + 0 ≤ _; omega, fun _ => by show n - 1 - 0 + 0 ≤ _; omega⟩
  | f + 1 => by
    obtain ⟨h1, h2, h3, h4⟩ := ps_in h hn f
    by_cases hc : (ps (nb hb) W n f).1 < (ps (nb hb) W n f).2
    · have e : ps (nb hb) W n (f + 1) = nx (nb hb) W (ps (nb hb) W n f) := if_pos hc
      obtain ⟨_, f2, f3, _⟩ := fb_frk h hc h2
      have h5 := h4 hc
      rw [e]
      unfold nx
      split
      · exact ⟨f2, by show fl _ _ < n; omega, by show fl _ _ - _ + _ ≤ _; omega, fun _ => by show fl _ _ - _ + _ ≤ _; omega⟩
      · exact ⟨by show fl _ _ + 1 ≤ _; omega, h2, by show _ - (fl _ _ + 1) + _ ≤ _; omega, fun _ => by show _ - (fl _ _ + 1) + _ ≤ _; omega⟩
    · have e : ps (nb hb) W n (f + 1) = ps (nb hb) W n f := if_neg hc
      rw [e]
      exact ⟨h1, h2, by omega, fun q => absurd q hc⟩
theorem ps_sub (h : Srt hb n) (hn : 0 < n) (f : Nat) : (ps (nb hb) W n f).1 ≤ (ps (nb hb) W n (f + 1)).1 ∧ (ps (nb hb) W n (f + 1)).2 ≤ (ps (nb hb) W n f).2 := by
  obtain ⟨h1, h2, _, _⟩ := ps_in (W := W) h hn f
  by_cases hc : (ps (nb hb) W n f).1 < (ps (nb hb) W n f).2
  · have e : ps (nb hb) W n (f + 1) = nx (nb hb) W (ps (nb hb) W n f) := if_pos hc
    obtain ⟨_, f2, f3, _⟩ := fb_frk h hc h2
    rw [e]
    unfold nx
    split
    · exact ⟨Nat.le_refl _, Nat.le_of_lt f3⟩
    · exact ⟨by show _ ≤ fl _ _ + 1; omega, Nat.le_refl _⟩
  · have e : ps (nb hb) W n (f + 1) = ps (nb hb) W n f := if_neg hc
    rw [e]
    exact ⟨Nat.le_refl _, Nat.le_refl _⟩
theorem ps_subs (h : Srt hb n) (hn : 0 < n) (f : Nat) : ∀ d, (ps (nb hb) W n f).1 ≤ (ps (nb hb) W n (f + d)).1 ∧ (ps (nb hb) W n (f + d)).2 ≤ (ps (nb hb) W n f).2
  | 0 => ⟨Nat.le_refl _, Nat.le_refl _⟩
  | d + 1 => by
    have h1 := ps_subs h hn f d
    have h2 := ps_sub (W := W) h hn (f + d)
    exact ⟨Nat.le_trans h1.1 h2.1, Nat.le_trans h2.2 h1.2⟩
/-- at a fork of the way the word's bit is that of all that lie on beneath -/
theorem ps_bit (h : Srt hb n) (hn : 0 < n) (hW : bits W) {f e : Nat} (hc : (ps (nb hb) W n f).1 < (ps (nb hb) W n f).2) (he1 : (ps (nb hb) W n (f + 1)).1 ≤ e) (he2 : e ≤ (ps (nb hb) W n (f + 1)).2) : hb e (fb (nb hb) (ps (nb hb) W n f)) = W (fb (nb hb) (ps (nb hb) W n f)) := by
  obtain ⟨_, h2, _, _⟩ := ps_in (W := W) h hn f
  have e0 : ps (nb hb) W n (f + 1) = nx (nb hb) W (ps (nb hb) W n f) := if_pos hc
  obtain ⟨_, f2, f3, _, f5, f6⟩ := fb_frk h hc h2
  rw [e0] at he1 he2
  unfold nx at he1 he2
  have hb1 := hW (fb (nb hb) (ps (nb hb) W n f))
  by_cases hw : W (fb (nb hb) (ps (nb hb) W n f)) = 0
  · rw [if_pos hw] at he1 he2
    rw [f5 e he1 he2, hw]
  · rw [if_neg hw] at he1 he2
    rw [f6 e he1 he2]
    omega
/-- entries of one stretch are alike ahead of its fork -/
theorem ps_alike (h : Srt hb n) {s : Nat × Nat} (h2 : s.2 < n) {e g b : Nat} (he1 : s.1 ≤ e) (he2 : e ≤ s.2) (hg1 : s.1 ≤ g) (hg2 : g ≤ s.2) (hb0 : b < fb (nb hb) s) (hb1 : b < 192) : hb e b = hb g b := by
  by_cases hc : s.1 < s.2
  · obtain ⟨_, _, _, f4, _⟩ := fb_frk h hc h2
    have a1 := (srt_min h he1 he2 h2).1
    have a2 := (srt_min h hg1 hg2 h2).1
    rw [← fd_eq (show b < fd (hb s.1) (hb e) by omega), ← fd_eq (show b < fd (hb s.1) (hb g) by omega)]
  · rw [show e = g by omega]
theorem dn_s (lim : Nat) : ∀ k f, f ≤ dn (nb hb) W n lim k f ∧ dn (nb hb) W n lim k f ≤ f + k ∧ (∀ t, f ≤ t → t < dn (nb hb) W n lim k f → fb (nb hb) (ps (nb hb) W n t) < lim) ∧ (dn (nb hb) W n lim k f < f + k → lim ≤ fb (nb hb) (ps (nb hb) W n (dn (nb hb) W n lim k f)))
  | 0, f => ⟨Nat.le_refl _, Nat.le_refl _, fun t h1 h2 => absurd h2 (Nat.not_lt.mpr h1), fun h => absurd h (Nat.lt_irrefl _)⟩
  | k + 1, f => by
    by_cases hc : fb (nb hb) (ps (nb hb) W n f) < lim
    · have e : dn (nb hb) W n lim (k + 1) f = dn (nb hb) W n lim k (f + 1) := if_pos hc
      obtain ⟨h1, h2, h3, h4⟩ := dn_s lim k (f + 1)
      rw [e]
      refine ⟨by omega, by omega, fun t q1 q2 => ?_, fun q => h4 (by omega)⟩
      rcases Nat.lt_or_eq_of_le q1 with q | q
      · exact h3 t q q2
      · rw [← q]; exact hc
    · have e : dn (nb hb) W n lim (k + 1) f = f := if_neg hc
      rw [e]
      exact ⟨Nat.le_refl _, by omega, fun t q1 q2 => absurd q2 (Nat.not_lt.mpr q1), fun _ => Nat.not_lt.mp hc⟩
/-- with at most eight entries eight turns are enough -/
theorem dn_end (h : Srt hb n) (hn : 0 < n) (h8 : n ≤ 8) {lim : Nat} (hl : lim ≤ 192) : dn (nb hb) W n lim 8 0 ≤ n - 1 ∧ lim ≤ fb (nb hb) (ps (nb hb) W n (dn (nb hb) W n lim 8 0)) := by
  obtain ⟨_, h2, h3, h4⟩ := dn_s (hb := hb) (W := W) (n := n) lim 8 0
  have key : dn (nb hb) W n lim 8 0 ≤ n - 1 := by
    rcases Nat.lt_or_ge (n - 1) (dn (nb hb) W n lim 8 0) with q | q
    · have q1 := h3 (n - 1) (Nat.zero_le _) q
      obtain ⟨a1, a2, a3, a4⟩ := ps_in (W := W) h hn (n - 1)
      rw [fb_tip (by omega)] at q1
      omega
    · exact q
  exact ⟨key, h4 (by omega)⟩
/-- the guess -/
def gs (hb : Nat → Nat → Nat) (W : Nat → Nat) (n : Nat) : Nat := (ps (nb hb) W n (dn (nb hb) W n 192 8 0)).1
theorem gs_tip (h : Srt hb n) (hn : 0 < n) (h8 : n ≤ 8) : (ps (nb hb) W n (dn (nb hb) W n 192 8 0)).2 = gs hb W n ∧ gs hb W n < n := by
  obtain ⟨h1, h2⟩ := dn_end (W := W) h hn h8 (Nat.le_refl 192)
  obtain ⟨a1, a2, _, _⟩ := ps_in (W := W) h hn (dn (nb hb) W n 192 8 0)
  have : ¬ (ps (nb hb) W n (dn (nb hb) W n 192 8 0)).1 < (ps (nb hb) W n (dn (nb hb) W n 192 8 0)).2 := by
    intro hc
    have := (fb_frk h hc a2).1
    omega
  unfold gs
  exact ⟨by omega, by omega⟩
theorem dn_mono {lim : Nat} (hl : lim ≤ 192) (h : Srt hb n) (hn : 0 < n) (h8 : n ≤ 8) : dn (nb hb) W n lim 8 0 ≤ dn (nb hb) W n 192 8 0 := by
  obtain ⟨_, _, h3, _⟩ := dn_s (hb := hb) (W := W) (n := n) lim 8 0
  obtain ⟨h1, h2⟩ := dn_end (W := W) h hn h8 (Nat.le_refl 192)
  rcases Nat.lt_or_ge (dn (nb hb) W n 192 8 0) (dn (nb hb) W n lim 8 0) with q | q
  · have := h3 _ (Nat.zero_le _) q
    omega
  · exact q
/-- the guess lies in every stretch of the way -/
theorem gs_in (h : Srt hb n) (hn : 0 < n) (h8 : n ≤ 8) {f : Nat} (hf : f ≤ dn (nb hb) W n 192 8 0) : (ps (nb hb) W n f).1 ≤ gs hb W n ∧ gs hb W n ≤ (ps (nb hb) W n f).2 := by
  have h1 := ps_subs (W := W) h hn f (dn (nb hb) W n 192 8 0 - f)
  rw [show f + (dn (nb hb) W n 192 8 0 - f) = dn (nb hb) W n 192 8 0 by omega] at h1
  have h2 := gs_tip (W := W) h hn h8
  unfold gs at h2 ⊢
  omega
/-- the place of a word among the entries -/
def plc (hb : Nat → Nat → Nat) (W : Nat → Nat) (n : Nat) : Nat := if fd W (hb (gs hb W n)) = 192 then gs hb W n + 1 else if W (fd W (hb (gs hb W n))) = 0 then (ps (nb hb) W n (dn (nb hb) W n (fd W (hb (gs hb W n))) 8 0)).1 else (ps (nb hb) W n (dn (nb hb) W n (fd W (hb (gs hb W n))) 8 0)).2 + 1
/-- no fork of the way is at the first difference -/
theorem ps_nd (h : Srt hb n) (hn : 0 < n) (h8 : n ≤ 8) (hW : bits W) {f : Nat} (hf : f < dn (nb hb) W n 192 8 0) : fb (nb hb) (ps (nb hb) W n f) < 192 ∧ (ps (nb hb) W n f).1 < (ps (nb hb) W n f).2 ∧ W (fb (nb hb) (ps (nb hb) W n f)) = hb (gs hb W n) (fb (nb hb) (ps (nb hb) W n f)) ∧ fb (nb hb) (ps (nb hb) W n f) ≠ fd W (hb (gs hb W n)) := by
  obtain ⟨_, _, h3, _⟩ := dn_s (hb := hb) (W := W) (n := n) 192 8 0
  have h1 := h3 f (Nat.zero_le _) hf
  have hc : (ps (nb hb) W n f).1 < (ps (nb hb) W n f).2 := by
    rcases Nat.lt_or_ge (ps (nb hb) W n f).1 (ps (nb hb) W n f).2 with q | q
    · exact q
    · rw [fb_tip q] at h1
      omega
  have h2 := gs_in (W := W) h hn h8 (f := f + 1) hf
  have h4 := ps_bit h hn hW hc h2.1 h2.2
  refine ⟨h1, hc, h4.symm, fun e => ?_⟩
  rw [e] at h1 h4
  exact fd_ne h1 h4.symm
theorem plc_s (h : Srt hb n) (hn : 0 < n) (h8 : n ≤ 8) (hW : bits W) (hB : ∀ e, bits (hb e)) : plc hb W n ≤ n ∧ (∀ e, e < plc hb W n → e < n → ¬ lt W (hb e)) ∧ (∀ e, plc hb W n ≤ e → e < n → lt W (hb e)) ∧ (fd W (hb (gs hb W n)) ≠ 192 → ∀ e, e < plc hb W n → lt (hb e) W) := by
  obtain ⟨g1, g2⟩ := gs_tip (W := W) h hn h8
  unfold plc
  by_cases hd : fd W (hb (gs hb W n)) = 192
  · rw [if_pos hd]
    have hall : ∀ b, b < 192 → W b = hb (gs hb W n) b := fun b hb2 => fd_eq (by omega)
    have hl : ∀ e, e < gs hb W n → lt (hb e) W := fun e he => by
      have h1 := h e (gs hb W n) he g2
      unfold lt at h1 ⊢
      rw [fd_congr (f' := hb e) (g' := hb (gs hb W n)) (fun _ _ => rfl) hall]
      exact ⟨h1.1, h1.2.1, by rw [hall _ h1.1]; exact h1.2.2⟩
    refine ⟨g2, fun e he hen hlt => ?_, fun e he hen => ?_, fun hc => absurd hd hc⟩
    · rcases Nat.lt_or_eq_of_le (Nat.le_of_lt_succ he) with q | q
      · exact lt_irr (hl e q) hlt
      · rw [q] at hlt
        have := hlt.1
        omega
    · have h1 := h (gs hb W n) e he hen
      unfold lt at h1 ⊢
      rw [fd_congr (f' := hb (gs hb W n)) (g' := hb e) hall (fun _ _ => rfl)]
      exact ⟨h1.1, by rw [hall _ h1.1]; exact h1.2.1, h1.2.2⟩
  · rw [if_neg hd]
    have hle := fd_le W (hb (gs hb W n))
    generalize hD : fd W (hb (gs hb W n)) = d at *
    have hdl : d < 192 := by omega
    have hmono := dn_mono (W := W) (lim := d) (by omega) h hn h8
    obtain ⟨_, hend⟩ := dn_end (W := W) h hn h8 (lim := d) (by omega)
    obtain ⟨_, _, hbef, _⟩ := dn_s (hb := hb) (W := W) (n := n) d 8 0
    generalize hM : dn (nb hb) W n d 8 0 = m at *
    have hag : ∀ b, b < d → W b = hb (gs hb W n) b := fun b q => fd_eq (by omega)
    -- outside the stretch
    have out : ∀ f, f ≤ m → (∀ e, e < (ps (nb hb) W n f).1 → lt (hb e) W) ∧ ∀ e, (ps (nb hb) W n f).2 < e → e < n → lt W (hb e) := by
      intro f
      induction f with
      | zero =>
        intro _
        exact ⟨fun e he => absurd he (Nat.not_lt_zero e), fun e he hen => absurd hen (by have he : n - 1 < e := he; omega)⟩
      | succ f ih =>
        intro hf
        obtain ⟨i1, i2⟩ := ih (by omega)
        obtain ⟨b1, hc, hWb, _⟩ := ps_nd h hn h8 hW (f := f) (by omega)
        have hbd := hbef f (Nat.zero_le _) (by omega)
        obtain ⟨_, p2, _, _⟩ := ps_in (W := W) h hn f
        obtain ⟨_, f2, f3, _, f5, f6⟩ := fb_frk h hc p2
        have hgi := gs_in (W := W) h hn h8 (f := f) (by omega)
        have e0 : ps (nb hb) W n (f + 1) = nx (nb hb) W (ps (nb hb) W n f) := if_pos hc
        have hW1 := hW (fb (nb hb) (ps (nb hb) W n f))
        have alike : ∀ e, (ps (nb hb) W n f).1 ≤ e → e ≤ (ps (nb hb) W n f).2 → ∀ b, b < fb (nb hb) (ps (nb hb) W n f) → hb e b = W b := fun e q1 q2 b q3 => by
          rw [ps_alike h p2 q1 q2 hgi.1 hgi.2 q3 (by omega), hag b (by omega)]
        rw [e0]
        unfold nx
        by_cases hw : W (fb (nb hb) (ps (nb hb) W n f)) = 0
        · rw [if_pos hw]
          refine ⟨i1, fun e he hen => ?_⟩
          have he : fl (nb hb) (ps (nb hb) W n f) < e := he
          rcases Nat.lt_or_ge (ps (nb hb) W n f).2 e with q | q
          · exact i2 e q hen
          · have hx : fd W (hb e) = fb (nb hb) (ps (nb hb) W n f) := fd_is b1 (by rw [hw, f6 e he q]; decide) (fun b q3 => (alike e (by omega) q b q3).symm)
            unfold lt
            rw [hx]
            exact ⟨b1, hw, f6 e he q⟩
        · rw [if_neg hw]
          refine ⟨fun e he => ?_, i2⟩
          have he : e < fl (nb hb) (ps (nb hb) W n f) + 1 := he
          rcases Nat.lt_or_ge e (ps (nb hb) W n f).1 with q | q
          · exact i1 e q
          · have hx : fd (hb e) W = fb (nb hb) (ps (nb hb) W n f) := fd_is b1 (by rw [f5 e q (by omega)]; exact fun z => hw z.symm) (fun b q3 => alike e q (by omega) b q3)
            unfold lt
            rw [hx]
            exact ⟨b1, f5 e q (by omega), by omega⟩
    obtain ⟨o1, o2⟩ := out m (Nat.le_refl _)
    obtain ⟨p1, p2, _, _⟩ := ps_in (W := W) h hn m
    have hgi := gs_in (W := W) h hn h8 (f := m) hmono
    have hgt : d < fb (nb hb) (ps (nb hb) W n m) := by
      rcases Nat.lt_or_eq_of_le hmono with q | q
      · have := (ps_nd h hn h8 hW q).2.2.2
        rw [hD] at this
        omega
      · rw [q]
        have := (dn_end (W := W) h hn h8 (Nat.le_refl 192)).2
        omega
    have inn : ∀ e, (ps (nb hb) W n m).1 ≤ e → e ≤ (ps (nb hb) W n m).2 → fd W (hb e) = d ∧ hb e d ≠ W d := by
      intro e q1 q2
      have hne : hb e d ≠ W d := by
        rw [ps_alike h p2 q1 q2 hgi.1 hgi.2 hgt hdl]
        have := fd_ne (f := W) (g := hb (gs hb W n)) (by omega)
        rw [hD] at this
        exact Ne.symm this
      refine ⟨fd_is hdl (Ne.symm hne) (fun b q3 => ?_), hne⟩
      rw [hag b q3, ps_alike h p2 q1 q2 hgi.1 hgi.2 (by omega) (by omega)]
    have hWd := hW d
    by_cases hw : W d = 0
    · rw [if_pos hw]
      refine ⟨by omega, fun e he hen hlt => lt_irr (o1 e he) hlt, fun e he hen => ?_, fun _ e he => o1 e he⟩
      rcases Nat.lt_or_ge (ps (nb hb) W n m).2 e with q | q
      · exact o2 e q hen
      · obtain ⟨i1, i2⟩ := inn e he q
        have := hB e d
        unfold lt
        rw [i1]
        exact ⟨hdl, hw, by omega⟩
    · rw [if_neg hw]
      have low : ∀ e, e < (ps (nb hb) W n m).2 + 1 → lt (hb e) W := fun e he => by
        rcases Nat.lt_or_ge e (ps (nb hb) W n m).1 with q | q
        · exact o1 e q
        · obtain ⟨i1, i2⟩ := inn e q (by omega)
          have := hB e d
          unfold lt
          rw [fd_comm, i1]
          exact ⟨hdl, by omega, by omega⟩
      exact ⟨by omega, fun e he hen hlt => lt_irr (low e he) hlt, fun e he hen => o2 e (by omega) hen, fun _ e he => low e he⟩
end
