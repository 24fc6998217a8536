/-! the reference's pages: sizes, entries ahead, heads, numbers -/
def ent (S : Nat → Nat) (v p : Nat) : Nat := sumN (fun k => S (12 + 48 * v + k)) p
def hd (S : Nat → Nat) : Nat → Nat → Nat
  | 0, p => ent S 0 p
  | v + 1, p => hd S v (ent S (v + 1) p)
/-- how many entries a level has -/
def bel (S : Nat → Nat) (v : Nat) : Nat := if v = 0 then S 0 else S (3 + (v - 1))
/-- the head of an entry of a level -/
def eh (S : Nat → Nat) (v e : Nat) : Nat := if v = 0 then e else hd S (v - 1) e
theorem hd_eh (S : Nat → Nat) (v p : Nat) : hd S v p = eh S v (ent S v p) := by
  cases v with
  | zero => rfl
  | succ v => rfl
def off (S : Nat → Nat) (v : Nat) : Nat := sumN (fun k => S (4 + v + k)) (S 2 - (v + 1))
def tot (S : Nat → Nat) : Nat := sumN (fun k => S (3 + k)) (S 2)
def TW (S : Nat → Nat) : Prop := S 2 ≤ 6 ∧ S 0 ≤ 48 ∧ ∀ v, v < S 2 → S (3 + v) ≤ 48 ∧ ent S v (S (3 + v)) = bel S v
theorem bel_le {S : Nat → Nat} (h : TW S) {v : Nat} (hv : v < S 2) : bel S v ≤ 48 := by
  unfold bel
  split
  · exact h.2.1
  · exact (h.2.2 (v - 1) (by omega)).1
theorem ent_le {S : Nat → Nat} (h : TW S) {v p : Nat} (hv : v < S 2) (hp : p ≤ S (3 + v)) : ent S v p ≤ bel S v := by
  rw [← (h.2.2 v hv).2]
  exact sumN_mono hp
theorem sizeOf_n {S : Nat → Nat} {v p : Nat} (h : 12 + 48 * v + p < 1552) : M_sizeOf (nf S) (nI v) (nI p) = some (nI (S (12 + 48 * v + p))) := by
  unfold M_sizeOf
  show ga (nI 12 + nI 48 * nI v + nI p) 1552 (some (nf S (nI 12 + nI 48 * nI v + nI p).toNatClampNeg)) = _
  rw [pk_mul, nI_add, nI_add, ga_n h (by decide), nI_clamp (by omega)]
  rfl
theorem entriesAhead_L {S : Nat → Nat} {v p : Nat} (hv : v ≤ 6) (hp : p ≤ 48) (k : Int32 → Option Int32) : ∀ (d q n : Nat), q + d = p → d < n → M_entriesAhead_L5 (nf S) (nI v) (nI p) k n (nI (ent S v q)) (nI q) = k (nI (ent S v p)) := by
  intro d
  induction d with
  | zero =>
    intro q n hq hn
    obtain ⟨n, rfl⟩ : ∃ m, n = m + 1 := ⟨n - 1, by omega⟩
    rw [M_entriesAhead_L5, il (by omega) (by omega), if_pos (by omega), show q = p by omega]
  | succ d ih =>
    intro q n hq hn
    obtain ⟨n, rfl⟩ : ∃ m, n = m + 1 := ⟨n - 1, by omega⟩
    rw [M_entriesAhead_L5, il (by omega) (by omega), if_neg (by omega), sizeOf_n (by omega), bd1_in]
    show M_entriesAhead_L5 (nf S) (nI v) (nI p) k n (nI (ent S v q) + nI (S (12 + 48 * v + q))) (nI q + nI 1) = _
    rw [nI_add, nI_add]
    exact ih (q + 1) n (by omega) (by omega)
theorem entriesAhead_n {S : Nat → Nat} {v p : Nat} (hv : v ≤ 6) (hp : p ≤ 48) : M_entriesAhead (nf S) (nI v) (nI p) = some (nI (ent S v p)) := by
  unfold M_entriesAhead
  exact entriesAhead_L hv hp (fun v => some v) p 0 FU (by omega) (Nat.lt_of_le_of_lt hp (by decide))
theorem headOf_L {S : Nat → Nat} (h : TW S) (w1 w2 : Int32) (k : Int32 → Option Int32) : ∀ (v p n : Nat), v < S 2 → p ≤ S (3 + v) → v + 1 < n → M_headOf_L5 (nf S) w1 w2 k n (nI p) (nI v) = k (nI (hd S v p)) := by
  intro v
  induction v with
  | zero =>
    intro p n hv hp hn
    obtain ⟨n, rfl⟩ : ∃ m, n = m + 2 := ⟨n - 2, by omega⟩
    have h1 := (h.2.2 0 hv).1
    rw [M_headOf_L5, ineg (by decide), entriesAhead_n (by omega) (by omega), bd1_in, M_headOf_L5, if_pos (by decide)]
    rfl
  | succ v ih =>
    intro p n hv hp hn
    obtain ⟨n, rfl⟩ : ∃ m, n = m + 1 := ⟨n - 1, by omega⟩
    have h0 := h.1
    have h1 := (h.2.2 (v + 1) hv).1
    have h2 := ent_le h hv hp
    rw [M_headOf_L5, ineg (by omega), entriesAhead_n (by omega) (by omega), bd1_in, pk_m1]
    exact ih _ n (by omega) (by unfold bel at h2; rw [if_neg (by omega)] at h2; exact h2) (by omega)
theorem headOf_n {S : Nat → Nat} (h : TW S) {v p : Nat} (hv : v < S 2) (hp : p ≤ S (3 + v)) : M_headOf (nf S) (nI v) (nI p) = some (nI (hd S v p)) := by
  unfold M_headOf
  have h0 := h.1
  exact headOf_L h _ _ (fun v => some v) v p FU hv hp (Nat.lt_of_le_of_lt (show v + 1 ≤ 6 by omega) (by decide))
theorem topLevel_n {S : Nat → Nat} (h : 1 ≤ S 2) : M_topLevel (nf S) = some (nI (S 2 - 1)) := by
  unfold M_topLevel
  show some (nI (S 2) - nI 1) = _
  rw [pk_sub h]
theorem numberOf_L {S : Nat → Nat} (h2 : S 2 ≤ 6) {v : Nat} (w1 w2 : Int32) (p : Nat) (k : Int32 → Option Int32) : ∀ (d j n : Nat), j + d = S 2 - (v + 1) → v + 1 ≤ S 2 → d < n → M_numberOf_L7 (nf S) w1 w2 k n (nI (p + sumN (fun k => S (4 + v + k)) j)) (nI (v + 1 + j)) = k (nI (p + off S v)) := by
  intro d
  induction d with
  | zero =>
    intro j n hj hv hn
    obtain ⟨n, rfl⟩ : ∃ m, n = m + 1 := ⟨n - 1, by omega⟩
    rw [M_numberOf_L7, nf_a, il (by omega) (by omega), if_pos (by omega), show j = S 2 - (v + 1) by omega]
    rfl
  | succ d ih =>
    intro j n hj hv hn
    obtain ⟨n, rfl⟩ : ∃ m, n = m + 1 := ⟨n - 1, by omega⟩
    rw [M_numberOf_L7, nf_a, il (by omega) (by omega), if_neg (by omega)]
    show ga (nI 3 + nI (v + 1 + j)) 1552 (M_numberOf_L7 (nf S) w1 w2 k n (nI (p + sumN (fun k => S (4 + v + k)) j) + nf S (nI 3 + nI (v + 1 + j)).toNatClampNeg) (nI (v + 1 + j) + nI 1)) = _
    rw [nI_add, ga_n (by omega) (by decide), nI_clamp (by omega), nf_a, nI_add, nI_add]
    have ih := ih (j + 1) n (by omega) hv (by omega)
    rw [show p + sumN (fun k => S (4 + v + k)) (j + 1) = p + sumN (fun k => S (4 + v + k)) j + S (3 + (v + 1 + j)) by
      show p + (sumN (fun k => S (4 + v + k)) j + S (4 + v + j)) = _
      rw [show 4 + v + j = 3 + (v + 1 + j) by omega]
      omega] at ih
    exact ih
theorem numberOf_n {S : Nat → Nat} (h2 : S 2 ≤ 6) {v p : Nat} (hv : v < S 2) : M_numberOf (nf S) (nI v) (nI p) = some (nI (p + off S v)) := by
  unfold M_numberOf
  show M_numberOf_L7 (nf S) (nI v) (nI p) (fun v3 => some v3) FU (nI p) (nI v + nI 1) = _
  rw [nI_add]
  exact numberOf_L h2 _ _ p (fun v => some v) (S 2 - (v + 1)) 0 FU (by omega) hv (Nat.lt_of_le_of_lt (show S 2 - (v + 1) ≤ 6 by omega) (by decide))
theorem manyPages_L {S : Nat → Nat} (h2 : S 2 ≤ 6) (k : Int32 → Option Int32) : ∀ (d j n : Nat), j + d = S 2 → d < n → M_manyPages_L4 (nf S) k n (nI (sumN (fun k => S (3 + k)) j)) (nI j) = k (nI (tot S)) := by
  intro d
  induction d with
  | zero =>
    intro j n hj hn
    obtain ⟨n, rfl⟩ : ∃ m, n = m + 1 := ⟨n - 1, by omega⟩
    rw [M_manyPages_L4, nf_a, il (by omega) (by omega), if_pos (by omega), show j = S 2 by omega]
    rfl
  | succ d ih =>
    intro j n hj hn
    obtain ⟨n, rfl⟩ : ∃ m, n = m + 1 := ⟨n - 1, by omega⟩
    rw [M_manyPages_L4, nf_a, il (by omega) (by omega), if_neg (by omega)]
    show ga (nI 3 + nI j) 1552 (M_manyPages_L4 (nf S) k n (nI (sumN (fun k => S (3 + k)) j) + nf S (nI 3 + nI j).toNatClampNeg) (nI j + nI 1)) = _
    rw [nI_add, ga_n (by omega) (by decide), nI_clamp (by omega), nf_a, nI_add, nI_add]
    exact ih (j + 1) n (by omega) (by omega)
theorem manyPages_n {S : Nat → Nat} (h2 : S 2 ≤ 6) : M_manyPages (nf S) = some (nI (tot S)) := by
  unfold M_manyPages
  exact manyPages_L h2 (fun v => some v) (S 2) 0 FU (by omega) (Nat.lt_of_le_of_lt h2 (by decide))
theorem sumN_shift (f : Nat → Nat) : ∀ n, sumN f (n + 1) = f 0 + sumN (fun k => f (k + 1)) n
  | 0 => by rw [sumN, sumN, sumN]; omega
  | n + 1 => by
    rw [sumN, sumN_shift f n, sumN]
    omega
/-- the pages of the levels above one, of those above the next one down -/
theorem off_step {S : Nat → Nat} {v : Nat} (hv : v + 1 < S 2) : off S v = S (4 + v) + off S (v + 1) := by
  unfold off
  rw [show S 2 - (v + 1) = (S 2 - (v + 1 + 1)) + 1 by omega, sumN_shift]
  have e : sumN (fun k => S (4 + v + (k + 1))) (S 2 - (v + 1 + 1)) = sumN (fun k => S (4 + (v + 1) + k)) (S 2 - (v + 1 + 1)) := sumN_congr (fun k _ => by rw [show 4 + v + (k + 1) = 4 + (v + 1) + k by omega])
  rw [e]
  rfl
theorem off_top {S : Nat → Nat} {v : Nat} (hv : v + 1 = S 2) : off S v = 0 := by
  unfold off
  rw [hv, Nat.sub_self]
  rfl
theorem tot_off {S : Nat → Nat} (h : 1 ≤ S 2) : tot S = S 3 + off S 0 := by
  unfold tot off
  obtain ⟨n, hn⟩ : ∃ n, S 2 = n + 1 := ⟨S 2 - 1, by omega⟩
  rw [hn, sumN_shift]
  have e : sumN (fun k => S (3 + (k + 1))) n = sumN (fun k => S (4 + 0 + k)) n := sumN_congr (fun k _ => by rw [show 3 + (k + 1) = 4 + 0 + k by omega])
  rw [e]
  rfl
theorem off_le {S : Nat → Nat} (h : TW S) {v : Nat} (hv : v < S 2) : off S v ≤ 48 * (S 2 - (v + 1)) := by
  have key : ∀ j, j ≤ S 2 - (v + 1) → sumN (fun k => S (4 + v + k)) j ≤ 48 * j := by
    intro j
    induction j with
    | zero => intro _; exact Nat.le_refl _
    | succ j ih =>
      intro hj
      have h1 := ih (by omega)
      have h2 := (h.2.2 (v + 1 + j) (by omega)).1
      rw [show 3 + (v + 1 + j) = 4 + v + j by omega] at h2
      rw [sumN]
      omega
  exact key _ (Nat.le_refl _)
theorem levelOf_L {S : Nat → Nat} (h : TW S) (w1 : Int32) {v p : Nat} (hp : p < S (3 + v)) (k : Int32 → Option Int32) : ∀ (d u n : Nat), u = v + d → u < S 2 → d < n → M_levelOf_L7 (nf S) w1 k n (nI u) (nI (off S v + p - off S u)) = k (nI v) ∧ off S u ≤ off S v := by
  intro d
  induction d with
  | zero =>
    intro u n hu hl hn
    obtain ⟨n, rfl⟩ : ∃ m, n = m + 1 := ⟨n - 1, by omega⟩
    have hv : u = v := by omega
    subst hv
    have h0 := h.1
    have h1 := (h.2.2 u hl).1
    refine ⟨?_, Nat.le_refl _⟩
    rw [M_levelOf_L7]
    show ga (nI 3 + nI u) 1552 (if nI (off S u + p - off S u) < nf S (nI 3 + nI u).toNatClampNeg then k (nI u) else _) = _
    rw [nI_add, ga_n (by omega) (by decide), nI_clamp (by omega), nf_a, ilt (by omega) (by omega), if_pos (by omega)]
  | succ d ih =>
    intro u n hu hl hn
    obtain ⟨n, rfl⟩ : ∃ m, n = m + 1 := ⟨n - 1, by omega⟩
    obtain ⟨t, rfl⟩ : ∃ t, u = t + 1 := ⟨u - 1, by omega⟩
    have h0 := h.1
    have h1 := (h.2.2 (t + 1) hl).1
    have ho := off_step (S := S) (v := t) hl
    obtain ⟨ih, hle⟩ := ih t n (by omega) (by omega) (by omega)
    rw [show 3 + (t + 1) = 4 + t by omega] at h1
    have hb := off_le h (v := v) (by omega)
    refine ⟨?_, by omega⟩
    rw [M_levelOf_L7]
    show ga (nI 3 + nI (t + 1)) 1552 (if nI (off S v + p - off S (t + 1)) < nf S (nI 3 + nI (t + 1)).toNatClampNeg then k (nI (t + 1)) else ga (nI 3 + nI (t + 1)) 1552 (M_levelOf_L7 (nf S) w1 k n (nI (t + 1) + (-1)) (nI (off S v + p - off S (t + 1)) - nf S (nI 3 + nI (t + 1)).toNatClampNeg))) = _
    have hpv := (h.2.2 v (by omega)).1
    rw [nI_add, ga_n (by omega) (by decide), nI_clamp (by omega), nf_a, show 3 + (t + 1) = 4 + t by omega, ilt (by omega) (by omega), if_neg (by omega), ga_n (by omega) (by decide), pk_m1, pk_sub (by omega)]
    rw [show off S v + p - off S (t + 1) - S (4 + t) = off S v + p - off S t by omega]
    exact ih
theorem levelOf_n {S : Nat → Nat} (h : TW S) {v p : Nat} (hv : v < S 2) (hp : p < S (3 + v)) : M_levelOf (nf S) (nI (off S v + p)) = some (nI v) := by
  unfold M_levelOf
  have h0 := h.1
  rw [topLevel_n (by omega), bd1_in]
  have h1 := (levelOf_L h (nI (off S v + p)) hp (fun v => some v) (S 2 - 1 - v) (S 2 - 1) FU (by omega) (by omega) (Nat.lt_of_le_of_lt (show S 2 - 1 - v ≤ 6 by omega) (by decide))).1
  rw [off_top (v := S 2 - 1) (by omega), Nat.sub_zero] at h1
  exact h1
theorem pageOf_n {S : Nat → Nat} (h : TW S) {v p : Nat} (hv : v < S 2) (hp : p < S (3 + v)) : M_pageOf (nf S) (nI (off S v + p)) = some (nI p) := by
  unfold M_pageOf
  rw [levelOf_n h hv hp, bd1_in]
  show bd1 (M_numberOf (nf S) (nI v) (nI 0)) _ = _
  rw [numberOf_n h.1 hv, bd1_in, Nat.zero_add, pk_sub (by omega), Nat.add_sub_cancel_left]
theorem over_L {S : Nat → Nat} {v q p : Nat} (hv : v + 1 ≤ 6) (hp : p < 48) (h1 : ent S (v + 1) p ≤ q) (h2 : q < ent S (v + 1) (p + 1)) (h3 : ent S (v + 1) (p + 1) < 2 ^ 31) (k : Int32 → Option Int32) : ∀ (d j n : Nat), j + d = p → d < n → M_over_L2 (nf S) (nI v) (nI q) k n (nI j) = k (nI p) := by
  intro d
  induction d with
  | zero =>
    intro j n hj hn
    obtain ⟨n, rfl⟩ : ∃ m, n = m + 1 := ⟨n - 1, by omega⟩
    have hjp : j = p := by omega
    subst hjp
    rw [M_over_L2]
    show bd1 (M_entriesAhead (nf S) (nI v + nI 1) (nI j + nI 1)) _ = _
    rw [nI_add, nI_add, entriesAhead_n hv (by omega), bd1_in, ilt (by omega) h3, if_pos h2]
  | succ d ih =>
    intro j n hj hn
    obtain ⟨n, rfl⟩ : ∃ m, n = m + 1 := ⟨n - 1, by omega⟩
    have hm : ent S (v + 1) (j + 1) ≤ ent S (v + 1) p := sumN_mono (by omega)
    rw [M_over_L2]
    show bd1 (M_entriesAhead (nf S) (nI v + nI 1) (nI j + nI 1)) (fun r9 => if nI q < r9 then k (nI j) else M_over_L2 (nf S) (nI v) (nI q) k n (nI j + nI 1)) = _
    rw [nI_add, nI_add, entriesAhead_n hv (by omega), bd1_in, ilt (by omega) (by omega), if_neg (by omega)]
    exact ih (j + 1) n (by omega) (by omega)
theorem over_n {S : Nat → Nat} {v q p : Nat} (hv : v + 1 ≤ 6) (hp : p < 48) (h1 : ent S (v + 1) p ≤ q) (h2 : q < ent S (v + 1) (p + 1)) (h3 : ent S (v + 1) (p + 1) < 2 ^ 31) : M_over (nf S) (nI v) (nI q) = some (nI p) := by
  unfold M_over
  exact over_L hv hp h1 h2 h3 (fun v => some v) p 0 FU (by omega) (Nat.lt_trans hp (by decide))
/-- a row whose first places are told anew -/
def ov (f : Nat → Int32) (n : Nat) (g : Nat → Nat) : Nat → Int32 := fun j => if j < n then nI (g j) else f j
theorem ov_in {f : Nat → Int32} {n : Nat} {g : Nat → Nat} {j : Nat} (h : j < n) : ov f n g j = nI (g j) := if_pos h
theorem ov_0 (f : Nat → Int32) (g : Nat → Nat) : ov f 0 g = f := by
  funext j
  exact if_neg (Nat.not_lt_zero j)
theorem ov_s (f : Nat → Int32) (n : Nat) (g : Nat → Nat) : upd (ov f n g) n (nI (g n)) = ov f (n + 1) g := by
  funext j
  unfold upd ov
  by_cases h : j = n
  · rw [if_pos h, if_pos (by omega), h]
  · rw [if_neg h]
    by_cases h2 : j < n
    · rw [if_pos h2, if_pos (by omega)]
    · rw [if_neg h2, if_neg (by omega)]
theorem laysHeads_L {S : Nat → Nat} (h : TW S) {v p : Nat} (w2 : Int32) (hv : v < S 2) (hp : p < S (3 + v)) (hz : S (12 + 48 * v + p) ≤ 10) (hs : Nat → Int32) (k : (Nat → Int32) → Int32 → Option ((Nat → Int32) × Int32)) : ∀ (d e n : Nat), e + d = S (12 + 48 * v + p) → d < n → M_laysHeads_L20 (nf S) (nI v) w2 k n (ov hs e (fun e => eh S v (ent S v p + e))) (nI (S (12 + 48 * v + p))) (nI (ent S v p)) (nI e) = k (ov hs (S (12 + 48 * v + p)) (fun e => eh S v (ent S v p + e))) (nI (S (12 + 48 * v + p))) := by
  have h0 := h.1
  have hb := ent_le h hv (p := p + 1) (by omega)
  have hbl := bel_le h hv
  have hpe : ent S v (p + 1) = ent S v p + S (12 + 48 * v + p) := rfl
  intro d
  induction d with
  | zero =>
    intro e n he hn
    obtain ⟨n, rfl⟩ : ∃ m, n = m + 1 := ⟨n - 1, by omega⟩
    rw [M_laysHeads_L20, il (by omega) (by omega), if_pos (by omega), show e = S (12 + 48 * v + p) by omega]
  | succ d ih =>
    intro e n he hn
    obtain ⟨n, rfl⟩ : ∃ m, n = m + 1 := ⟨n - 1, by omega⟩
    have ih := ih (e + 1) n (by omega) (by omega)
    rw [← ov_s] at ih
    rw [M_laysHeads_L20, il (by omega) (by omega), if_neg (by omega)]
    show (if nI v = nI 0 then ga (nI e) 10 (M_laysHeads_L20 (nf S) (nI v) w2 k n (upd (ov hs e (fun e => eh S v (ent S v p + e))) (nI e).toNatClampNeg (nI (ent S v p) + nI e)) (nI (S (12 + 48 * v + p))) (nI (ent S v p)) (nI e + nI 1)) else bd1 (M_headOf (nf S) (nI v - nI 1) (nI (ent S v p) + nI e)) fun r54 => ga (nI e) 10 (M_laysHeads_L20 (nf S) (nI v) w2 k n (upd (ov hs e (fun e => eh S v (ent S v p + e))) (nI e).toNatClampNeg r54) (nI (S (12 + 48 * v + p))) (nI (ent S v p)) (nI e + nI 1))) = _
    rw [ie (by omega) (by decide), nI_add, nI_add, nI_clamp (by omega)]
    by_cases hv0 : v = 0
    · rw [if_pos hv0, ga_n (by omega) (by decide)]
      have e1 : eh S v (ent S v p + e) = ent S v p + e := by unfold eh; rw [if_pos hv0]
      rw [e1] at ih
      exact ih
    · have e1 : eh S v (ent S v p + e) = hd S (v - 1) (ent S v p + e) := by unfold eh; rw [if_neg hv0]
      rw [e1] at ih
      have hb2 : bel S v = S (3 + (v - 1)) := by unfold bel; rw [if_neg hv0]
      rw [if_neg hv0, pk_sub (by omega), headOf_n h (by omega) (by omega), bd1_in, ga_n (by omega) (by decide)]
      exact ih
theorem laysHeads_n {S : Nat → Nat} (h : TW S) {v p : Nat} (hv : v < S 2) (hp : p < S (3 + v)) (hz : S (12 + 48 * v + p) ≤ 10) (hs : Nat → Int32) (en : Int32) : M_laysHeads (nf S) hs en (nI v) (nI p) = some (ov hs (S (12 + 48 * v + p)) (fun e => eh S v (ent S v p + e)), nI (S (12 + 48 * v + p))) := by
  have h0 := h.1
  have h1 := (h.2.2 v hv).1
  unfold M_laysHeads
  rw [sizeOf_n (by omega), bd1_in, entriesAhead_n (by omega) (by omega), bd1_in]
  have := laysHeads_L h (nI p) hv hp hz hs (fun m_heads m_entries => some (m_heads, m_entries)) (S (12 + 48 * v + p)) 0 FU (by omega) (Nat.lt_of_le_of_lt hz (by decide))
  rw [ov_0] at this
  exact this
