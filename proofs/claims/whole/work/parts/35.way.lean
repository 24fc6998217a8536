/-! what the trees tell depends on the first 192 places of the entries alone -/
theorem am_congr {D D' : Nat → Nat} {i : Nat} : ∀ {d : Nat}, (∀ k, i ≤ k → k < i + d → D k = D' k) → am D i d = am D' i d
  | 0, _ => rfl
  | d + 1, h => by
    have ih := am_congr (d := d) (fun k h1 h2 => h k h1 (by omega))
    have e := h (i + d) (by omega) (by omega)
    rw [am, am, ih, e]
section
variable {hb hb' : Nat → Nat → Nat} {W W' : Nat → Nat} {n : Nat}
theorem st_congr {D : Nat → Nat} (hD : ∀ k, k + 1 < n → nb hb k = D k) {s : Nat × Nat} (h2 : s.2 < n) : fb (nb hb) s = fb D s ∧ fl (nb hb) s = fl D s := by
  have e : am (nb hb) s.1 (s.2 - s.1) = am D s.1 (s.2 - s.1) := am_congr (fun k h1 h3 => hD k (by omega))
  unfold fb fl
  rw [e]
  exact ⟨rfl, rfl⟩
theorem ps_congr {D : Nat → Nat} (h : Srt hb n) (hn : 0 < n) (hD : ∀ k, k + 1 < n → nb hb k = D k) (hW : ∀ b, b < 192 → W b = W' b) : ∀ f, ps (nb hb) W n f = ps D W' n f
  | 0 => rfl
  | f + 1 => by
    have ih := ps_congr h hn hD hW f
    obtain ⟨h1, h2, _, _⟩ := ps_in (W := W) h hn f
    obtain ⟨e1, e2⟩ := st_congr hD h2
    rw [ps, ps, ← ih]
    by_cases hc : (ps (nb hb) W n f).1 < (ps (nb hb) W n f).2
    · rw [if_pos hc, if_pos hc]
      have hb1 := (fb_frk h hc h2).1
      unfold nx
      rw [← e1, ← e2, hW _ hb1]
    · rw [if_neg hc, if_neg hc]
theorem dn_congr {D : Nat → Nat} (h : Srt hb n) (hn : 0 < n) (hD : ∀ k, k + 1 < n → nb hb k = D k) (hW : ∀ b, b < 192 → W b = W' b) (lim : Nat) : ∀ k f, dn (nb hb) W n lim k f = dn D W' n lim k f
  | 0, f => rfl
  | k + 1, f => by
    obtain ⟨h1, h2, _, _⟩ := ps_in (W := W) h hn f
    have e0 := ps_congr h hn hD hW f
    obtain ⟨e1, e2⟩ := st_congr hD h2
    rw [dn, dn, dn_congr h hn hD hW lim k (f + 1), ← e0, e1]
theorem look_congr (h : Srt hb n) (hn : 0 < n) (h8 : n ≤ 8) (hh : ∀ e, e < n → ∀ b, b < 192 → hb e b = hb' e b) (hW : ∀ b, b < 192 → W b = W' b) : gs hb W n = gs hb' W' n ∧ fd W (hb (gs hb W n)) = fd W' (hb' (gs hb' W' n)) ∧ plc hb W n = plc hb' W' n ∧ ∀ lim, ps (nb hb) W n (dn (nb hb) W n lim 8 0) = ps (nb hb') W' n (dn (nb hb') W' n lim 8 0) := by
  have hD : ∀ k, k + 1 < n → nb hb k = nb hb' k := fun k hk => fd_congr (hh k (by omega)) (hh (k + 1) hk)
  have hp : ∀ lim, ps (nb hb) W n (dn (nb hb) W n lim 8 0) = ps (nb hb') W' n (dn (nb hb') W' n lim 8 0) := fun lim => by
    rw [ps_congr h hn hD hW, dn_congr h hn hD hW]
  have hg : gs hb W n = gs hb' W' n := by
    unfold gs
    rw [hp 192]
  have hgn := (gs_tip (W := W) h hn h8).2
  have hd : fd W (hb (gs hb W n)) = fd W' (hb' (gs hb' W' n)) := by
    rw [← hg]
    exact fd_congr hW (hh _ hgn)
  refine ⟨hg, hd, ?_, hp⟩
  have hle := fd_le W (hb (gs hb W n))
  unfold plc
  rw [← hd, ← hg]
  by_cases h1 : fd W (hb (gs hb W n)) = 192
  · rw [if_pos h1, if_pos h1]
  · rw [if_neg h1, if_neg h1, hW _ (by omega), hp]
theorem srt_congr (h : Srt hb n) (hh : ∀ e, e < n → ∀ b, b < 192 → hb e b = hb' e b) : Srt hb' n := by
  intro i j hi hj
  have h1 := h i j hi hj
  unfold lt at h1 ⊢
  rw [← fd_congr (hh i (by omega)) (hh j hj), ← hh i (by omega) _ h1.1, ← hh j hj _ h1.1]
  exact h1
end
/-! well-formed rows of the reference -/
def wb (S : Nat → Nat) (w : Nat) : Nat → Nat := bt8 (S (350 + w)) (fun i => S (400 + 24 * w + i))
theorem wb_bits (S : Nat → Nat) (w : Nat) : bits (wb S w) := bt8_bits _ _
theorem mbit_wb {S ak : Nat → Nat} {al w : Nat} (h : w < 48) : mbit S ak al w = wb S w := by
  unfold mbit wb mlen msg
  simp only [if_neg (show ¬ w = 48 by omega)]
def WF (S : Nat → Nat) : Prop := TW S ∧ (∀ v, v < S 2 → 1 ≤ S (3 + v) ∧ ∀ p, p < S (3 + v) → 1 ≤ S (12 + 48 * v + p) ∧ S (12 + 48 * v + p) ≤ 8) ∧ (S 2 = 0 ↔ S 0 = 0) ∧ (0 < S 2 → S (3 + (S 2 - 1)) = 1) ∧ (∀ w, w < S 0 → 1 ≤ S (350 + w) ∧ S (350 + w) ≤ 24 ∧ ∀ i, i < 24 → S (400 + 24 * w + i) < 128) ∧ ∀ i j, i < j → j < S 0 → lt (wb S i) (wb S j)
section
variable {S : Nat → Nat}
theorem ent_s (S : Nat → Nat) (v p : Nat) : ent S v (p + 1) = ent S v p + S (12 + 48 * v + p) := rfl
theorem ent_lt (h : WF S) {v p q : Nat} (hv : v < S 2) (hpq : p < q) (hq : q ≤ S (3 + v)) : ent S v p < ent S v q := by
  have h1 := ((h.2.1 v hv).2 p (by omega)).1
  have h2 : ent S v (p + 1) ≤ ent S v q := sumN_mono hpq
  rw [ent_s] at h2
  omega
theorem hd_lt (h : WF S) : ∀ {v p q : Nat}, v < S 2 → p < q → q ≤ S (3 + v) → hd S v p < hd S v q
  | 0, p, q, hv, hpq, hq => ent_lt h hv hpq hq
  | v + 1, p, q, hv, hpq, hq => by
    have h1 := ent_lt h hv hpq hq
    have h2 := ent_le h.1 hv hq
    unfold bel at h2
    rw [if_neg (by omega)] at h2
    show hd S v (ent S (v + 1) p) < hd S v (ent S (v + 1) q)
    exact hd_lt h (by omega) h1 h2
theorem hd_le (h : WF S) {v p q : Nat} (hv : v < S 2) (hpq : p ≤ q) (hq : q ≤ S (3 + v)) : hd S v p ≤ hd S v q := by
  rcases Nat.lt_or_eq_of_le hpq with q1 | q1
  · exact Nat.le_of_lt (hd_lt h hv q1 hq)
  · rw [q1]; exact Nat.le_refl _
theorem hd_all (h : WF S) : ∀ {v : Nat}, v < S 2 → hd S v (S (3 + v)) = S 0
  | 0, hv => (h.1.2.2 0 hv).2
  | v + 1, hv => by
    have h1 := (h.1.2.2 (v + 1) hv).2
    show hd S v (ent S (v + 1) (S (3 + (v + 1)))) = _
    rw [h1]
    unfold bel
    rw [if_neg (by omega)]
    exact hd_all h (by omega)
theorem hd_0 (S : Nat → Nat) : ∀ v, hd S v 0 = 0
  | 0 => rfl
  | v + 1 => hd_0 S v
theorem hd_lt0 (h : WF S) {v p : Nat} (hv : v < S 2) (hp : p < S (3 + v)) : hd S v p < S 0 := by
  rw [← hd_all h hv]
  exact hd_lt h hv hp (Nat.le_refl _)
theorem eh_lt0 (h : WF S) {v e : Nat} (hv : v < S 2) (he : e < bel S v) : eh S v e < S 0 := by
  unfold bel at he
  unfold eh
  by_cases h0 : v = 0
  · rw [if_pos h0] at he ⊢
    exact he
  · rw [if_neg h0] at he ⊢
    exact hd_lt0 h (by omega) he
theorem eh_lt (h : WF S) {v e f : Nat} (hv : v < S 2) (hef : e < f) (hf : f ≤ bel S v) : eh S v e < eh S v f := by
  unfold bel at hf
  unfold eh
  by_cases h0 : v = 0
  · rw [if_pos h0, if_pos h0]
    exact hef
  · rw [if_neg h0] at hf
    rw [if_neg h0, if_neg h0]
    exact hd_lt h (by omega) hef hf
theorem eh_all (h : WF S) {v : Nat} (hv : v < S 2) : eh S v (bel S v) = S 0 := by
  unfold eh bel
  by_cases h0 : v = 0
  · rw [if_pos h0, if_pos h0]
  · rw [if_neg h0, if_neg h0]
    exact hd_all h (by omega)
/-- the heads of a page's entries, by their bits -/
def hbs (S : Nat → Nat) (v p : Nat) : Nat → Nat → Nat := fun e => wb S (eh S v (ent S v p + e))
theorem pgv (h : WF S) {v p : Nat} (hv : v < S 2) (hp : p < S (3 + v)) : ent S v p + S (12 + 48 * v + p) ≤ bel S v ∧ 1 ≤ S (12 + 48 * v + p) ∧ S (12 + 48 * v + p) ≤ 8 := by
  have h1 := ent_le h.1 hv (p := p + 1) (by omega)
  rw [ent_s] at h1
  exact ⟨h1, (h.2.1 v hv).2 p hp⟩
theorem hbs_srt (h : WF S) {v p : Nat} (hv : v < S 2) (hp : p < S (3 + v)) : Srt (hbs S v p) (S (12 + 48 * v + p)) := by
  intro i j hi hj
  obtain ⟨h1, _, _⟩ := pgv h hv hp
  exact h.2.2.2.2.2 _ _ (eh_lt h hv (by omega) (by omega)) (eh_lt0 h hv (by omega))
/-- the way of a word W of al signs: page and known bits by turns -/
def wG (S W : Nat → Nat) (v p : Nat) : Nat := gs (hbs S v p) W (S (12 + 48 * v + p))
def wD (S W : Nat → Nat) (v p : Nat) : Nat := fd W (hbs S v p (wG S W v p))
def wL (S W : Nat → Nat) (v p : Nat) : Nat := plc (hbs S v p) W (S (12 + 48 * v + p))
def wR (S W : Nat → Nat) (v p kn : Nat) : Nat := rdp kn (wD S W v p) (S (350 + eh S v (ent S v p + wG S W v p)))
def wx (S W : Nat → Nat) (v p : Nat) : Nat := ent S v p + (wL S W v p - 1)
def wkn (S W : Nat → Nat) (al v p : Nat) : Nat := if fd W (wb S (eh S v (wx S W v p))) = 192 then 8 * al else fd W (wb S (eh S v (wx S W v p)))
def wst (S W : Nat → Nat) (al : Nat) : Nat → Nat × Nat
  | 0 => (0, 0)
  | t + 1 => (wx S W (S 2 - 1 - t) (wst S W al t).1, wkn S W al (S 2 - 1 - t) (wst S W al t).1)
def WP (S W : Nat → Nat) (al v : Nat) : Nat := (wst S W al (S 2 - 1 - v)).1
def WK (S W : Nat → Nat) (al v : Nat) : Nat := (wst S W al (S 2 - 1 - v)).2
theorem WP_top (S W : Nat → Nat) (al : Nat) {v : Nat} (hv : v + 1 = S 2) : WP S W al v = 0 ∧ WK S W al v = 0 := by
  unfold WP WK
  rw [show S 2 - 1 - v = 0 by omega]
  exact ⟨rfl, rfl⟩
theorem WP_s (S W : Nat → Nat) (al : Nat) {v : Nat} (hv : v + 1 < S 2) : WP S W al v = wx S W (v + 1) (WP S W al (v + 1)) ∧ WK S W al v = wkn S W al (v + 1) (WP S W al (v + 1)) := by
  unfold WP WK
  rw [show S 2 - 1 - v = (S 2 - 1 - (v + 1)) + 1 by omega, wst]
  rw [show S 2 - 1 - (S 2 - 1 - (v + 1)) = v + 1 by omega]
  exact ⟨rfl, rfl⟩
theorem wL_le (h : WF S) {W : Nat → Nat} (hW : bits W) {v p : Nat} (hv : v < S 2) (hp : p < S (3 + v)) : wL S W v p ≤ S (12 + 48 * v + p) := by
  obtain ⟨_, h2, h3⟩ := pgv h hv hp
  exact (plc_s (hbs_srt h hv hp) (by omega) h3 hW (fun e => wb_bits _ _)).1
theorem wx_lt (h : WF S) {W : Nat → Nat} (hW : bits W) {v p : Nat} (hv : v < S 2) (hp : p < S (3 + v)) : wx S W v p < bel S v := by
  obtain ⟨h1, h2, h3⟩ := pgv h hv hp
  have := wL_le h hW hv hp
  unfold wx
  omega
/-- every page of the way is a page -/
theorem WP_lt (h : WF S) {W : Nat → Nat} (hW : bits W) (al : Nat) : ∀ (d v : Nat), v + d + 1 = S 2 → WP S W al v < S (3 + v)
  | 0, v, hv => by
    rw [(WP_top S W al (by omega)).1]
    have := h.2.2.2.1 (by omega)
    rw [show S 2 - 1 = v by omega] at this
    omega
  | d + 1, v, hv => by
    have ih := WP_lt h hW al d (v + 1) (by omega)
    rw [(WP_s S W al (by omega)).1]
    have := wx_lt h hW (v := v + 1) (by omega) ih
    unfold bel at this
    rw [if_neg (by omega)] at this
    exact this
theorem WP_ok (h : WF S) {W : Nat → Nat} (hW : bits W) (al : Nat) {v : Nat} (hv : v < S 2) : WP S W al v < S (3 + v) := WP_lt h hW al (S 2 - 1 - v) v (by omega)
theorem WK_le (S W : Nat → Nat) {al : Nat} (hal : al ≤ 24) (v : Nat) : WK S W al v ≤ 192 := by
  unfold WK
  cases hc : S 2 - 1 - v with
  | zero => exact Nat.zero_le _
  | succ t =>
    show wkn _ _ _ _ _ ≤ 192
    unfold wkn
    split
    · omega
    · exact fd_le _ _
/-- what lies ahead of a page of the way is not behind the word, what lies behind it is; a word that is there lies beneath it -/
theorem way_s (h : WF S) {W : Nat → Nat} (hW : bits W) (al : Nat) : ∀ (d v : Nat), v + d + 1 = S 2 → (∀ w, w < hd S v (WP S W al v) → lt (wb S w) W) ∧ (∀ w, hd S v (WP S W al v + 1) ≤ w → w < S 0 → lt W (wb S w))
  | 0, v, hv => by
    rw [(WP_top S W al (by omega)).1]
    refine ⟨fun w hw => ?_, fun w hw hw0 => ?_⟩
    · rw [hd_0] at hw
      exact absurd hw (Nat.not_lt_zero w)
    · have h1 := h.2.2.2.1 (by omega)
      rw [show S 2 - 1 = v by omega] at h1
      have h2 := hd_all h (v := v) (by omega)
      rw [h1] at h2
      rw [show 0 + 1 = 1 from rfl, h2] at hw
      omega
  | d + 1, v, hv => by
    obtain ⟨i1, i2⟩ := way_s h hW al d (v + 1) (by omega)
    have hp := WP_ok h hW al (v := v + 1) (by omega)
    rw [(WP_s S W al (by omega)).1]
    generalize hpe : WP S W al (v + 1) = p at *
    obtain ⟨g1, g2, g3⟩ := pgv h (v := v + 1) (by omega) hp
    obtain ⟨p1, p2, p3, p4⟩ := plc_s (hbs_srt h (v := v + 1) (by omega) hp) (by omega) g3 hW (fun e => wb_bits _ _)
    have hbel : bel S (v + 1) = S (3 + v) := by unfold bel; rw [if_neg (by omega)]; rfl
    have hhead : ∀ e, hbs S (v + 1) p e = wb S (hd S v (ent S (v + 1) p + e)) := fun e => by
      unfold hbs eh
      rw [if_neg (by omega)]
      rfl
    have hnext : hd S (v + 1) (p + 1) = hd S v (ent S (v + 1) p + S (12 + 48 * (v + 1) + p)) := rfl
    have hfirst : hd S (v + 1) p = hd S v (ent S (v + 1) p) := rfl
    rw [hnext] at i2
    rw [hfirst] at i1
    unfold wx wL
    have sorted := h.2.2.2.2.2
    -- words behind one that W is ahead of
    have up : ∀ q, q ≤ S (3 + v) → lt W (wb S (hd S v q)) ∨ hd S v q = S 0 → ∀ w, hd S v q ≤ w → w < S 0 → lt W (wb S w) := fun q hq hl w hw hw0 => by
      rcases hl with hl | hl
      · rcases Nat.lt_or_eq_of_le hw with z | z
        · exact (lt_trans hl (sorted _ _ z hw0)).1
        · rw [← z]; exact hl
      · omega
    refine ⟨fun w hw => ?_, fun w hw hw0 => ?_⟩
    · by_cases h0 : plc (hbs S (v + 1) p) W (S (12 + 48 * (v + 1) + p)) = 0
      · rw [h0] at hw
        exact i1 w hw
      · have hq : ent S (v + 1) p + (plc (hbs S (v + 1) p) W (S (12 + 48 * (v + 1) + p)) - 1) < S (3 + v) := by omega
        have hlt0 := hd_lt0 h (v := v) (by omega) hq
        have hs := sorted _ _ hw hlt0
        have hn := p2 (plc (hbs S (v + 1) p) W (S (12 + 48 * (v + 1) + p)) - 1) (by omega) (by omega)
        rw [hhead] at hn
        have hne : fd (wb S w) W < 192 := by
          rcases Nat.lt_or_ge (fd (wb S w) W) 192 with z | z
          · exact z
          · exfalso
            apply hn
            have e := fd_le (wb S w) W
            have hall : ∀ b, b < 192 → W b = wb S w b := fun b hb => (fd_eq (by omega)).symm
            unfold lt at hs ⊢
            rw [fd_congr hall (fun _ _ => rfl)]
            exact ⟨hs.1, by rw [hall _ hs.1]; exact hs.2.1, hs.2.2⟩
        rcases lt_or (wb_bits S w) hW hne with z | z
        · exact z
        · exact absurd (lt_trans z hs).1 hn
    · by_cases hc : plc (hbs S (v + 1) p) W (S (12 + 48 * (v + 1) + p)) - 1 + 1 < S (12 + 48 * (v + 1) + p)
      · have hl := p3 (plc (hbs S (v + 1) p) W (S (12 + 48 * (v + 1) + p)) - 1 + 1) (by omega) hc
        rw [hhead] at hl
        exact up _ (by omega) (Or.inl hl) w (by rw [show ent S (v + 1) p + (plc (hbs S (v + 1) p) W (S (12 + 48 * (v + 1) + p)) - 1) + 1 = ent S (v + 1) p + (plc (hbs S (v + 1) p) W (S (12 + 48 * (v + 1) + p)) - 1 + 1) by omega] at hw; exact hw) hw0
      · rw [show ent S (v + 1) p + (plc (hbs S (v + 1) p) W (S (12 + 48 * (v + 1) + p)) - 1) + 1 = ent S (v + 1) p + S (12 + 48 * (v + 1) + p) by omega] at hw
        exact i2 w hw hw0
/-- how many words are not behind a word -/
def rk (S W : Nat → Nat) (al : Nat) : Nat := ent S 0 (WP S W al 0) + wL S W 0 (WP S W al 0)
theorem rk_s (h : WF S) {W : Nat → Nat} (hW : bits W) (al : Nat) (h0 : 0 < S 2) : rk S W al ≤ S 0 ∧ (∀ w, w < rk S W al → ¬ lt W (wb S w)) ∧ (∀ w, rk S W al ≤ w → w < S 0 → lt W (wb S w)) ∧ (wD S W 0 (WP S W al 0) ≠ 192 → ∀ w, w < rk S W al → lt (wb S w) W) ∧ (wD S W 0 (WP S W al 0) = 192 → rk S W al = ent S 0 (WP S W al 0) + wG S W 0 (WP S W al 0) + 1 ∧ ∀ b, b < 192 → W b = wb S (rk S W al - 1) b) := by
  obtain ⟨i1, i2⟩ := way_s h hW al (S 2 - 1) 0 (by omega)
  have hp := WP_ok h hW al h0
  obtain ⟨g1, g2, g3⟩ := pgv h h0 hp
  have hsr := hbs_srt h h0 hp
  obtain ⟨p1, p2, p3, p4⟩ := plc_s hsr (by omega) g3 hW (fun e => wb_bits _ _)
  have hbel : bel S 0 = S 0 := if_pos rfl
  have hhead : ∀ e, hbs S 0 (WP S W al 0) e = wb S (ent S 0 (WP S W al 0) + e) := fun e => rfl
  have e1 : hd S 0 (WP S W al 0) = ent S 0 (WP S W al 0) := rfl
  have e2 : hd S 0 (WP S W al 0 + 1) = ent S 0 (WP S W al 0) + S (12 + 48 * 0 + WP S W al 0) := rfl
  rw [e1] at i1
  rw [e2] at i2
  unfold rk wL wD wG
  generalize WP S W al 0 = p at *
  refine ⟨by omega, fun w hw hl => ?_, fun w hw hw0 => ?_, fun hd w hw => ?_, fun hd => ?_⟩
  · rcases Nat.lt_or_ge w (ent S 0 p) with z | z
    · exact lt_irr (i1 w z) hl
    · have := p2 (w - ent S 0 p) (by omega) (by omega)
      rw [hhead, show ent S 0 p + (w - ent S 0 p) = w by omega] at this
      exact this hl
  · rcases Nat.lt_or_ge w (ent S 0 p + S (12 + 48 * 0 + p)) with z | z
    · have := p3 (w - ent S 0 p) (by omega) (by omega)
      rw [hhead, show ent S 0 p + (w - ent S 0 p) = w by omega] at this
      exact this
    · exact i2 w z hw0
  · rcases Nat.lt_or_ge w (ent S 0 p) with z | z
    · exact i1 w z
    · have := p4 hd (w - ent S 0 p) (by omega)
      rw [hhead, show ent S 0 p + (w - ent S 0 p) = w by omega] at this
      exact this
  · have e3 : plc (hbs S 0 p) W (S (12 + 48 * 0 + p)) = gs (hbs S 0 p) W (S (12 + 48 * 0 + p)) + 1 := if_pos hd
    rw [e3]
    refine ⟨rfl, fun b hb => ?_⟩
    rw [fd_eq (show b < fd W (hbs S 0 p (gs (hbs S 0 p) W (S (12 + 48 * 0 + p)))) by omega), hhead]
    rfl
/-- there: by the way, and by the words themselves -/
theorem there_s (h : WF S) {W : Nat → Nat} (hW : bits W) (al : Nat) (h0 : 0 < S 2) : wD S W 0 (WP S W al 0) = 192 ↔ ∃ w, w < S 0 ∧ fd (wb S w) W = 192 := by
  obtain ⟨r1, r2, r3, r4, r5⟩ := rk_s h hW al h0
  constructor
  · intro hd
    obtain ⟨e1, e2⟩ := r5 hd
    exact ⟨rk S W al - 1, by omega, fd_all (fun b hb => (e2 b hb).symm)⟩
  · rintro ⟨w, hw, he⟩
    rcases Nat.lt_or_ge w (rk S W al) with z | z
    · by_cases hd : wD S W 0 (WP S W al 0) = 192
      · exact hd
      · have := (r4 hd w z).1
        omega
    · have := (r3 w z hw).1
      rw [fd_comm] at this
      omega
end
