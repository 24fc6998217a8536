/-! the class's index beside the reference's rows -/
/-- the node of an entry: pages by their numbers, behind them the words -/
def nd (S : Nat → Nat) (v e : Nat) : Nat := if v = 0 then tot S + e else off S (v - 1) + e
def WX (S : Nat → Nat) : Prop := WF S ∧ (∀ v, v + 1 < S 2 → ∀ p, p < S (3 + v) → 2 ≤ S (12 + 48 * v + p)) ∧ (1 < S 2 → 2 ≤ S (12 + 48 * (S 2 - 1))) ∧ 4 ≤ S 1 ∧ S 1 ≤ 8 ∧ ∀ v, v < S 2 → ∀ p, p < S (3 + v) → S (12 + 48 * v + p) ≤ S 1
theorem sumN_ge {f : Nat → Nat} {c : Nat} : ∀ {n : Nat}, (∀ k, k < n → c ≤ f k) → c * n ≤ sumN f n
  | 0, _ => Nat.le_refl _
  | n + 1, h => by
    have h1 := sumN_ge (n := n) (fun k hk => h k (by omega))
    have h2 := h n (by omega)
    rw [sumN, Nat.mul_succ]
    omega
theorem pg_half {S : Nat → Nat} (h : WX S) {v : Nat} (hv : v + 1 < S 2) : 2 * S (3 + v) ≤ bel S v := by
  rw [← (h.1.1.2.2 v (by omega)).2]
  exact sumN_ge (fun k hk => h.2.1 v hv k hk)
/-- few pages: of each level but the highest at most half as many as entries -/
theorem tot_le {S : Nat → Nat} (h : WX S) : tot S ≤ 48 ∧ ∀ v, v < S 2 → off S v + S (3 + v) ≤ 48 := by
  have h48 := h.1.1.2.1
  by_cases h0 : S 2 = 0
  · unfold tot
    rw [h0]
    exact ⟨Nat.zero_le _, fun v hv => absurd hv (by omega)⟩
  have htop := h.1.2.2.2.1 (by omega)
  -- off v + pg v ≤ 2 pg v - 1, from the top down
  have key : ∀ (d v : Nat), v + d + 1 = S 2 → off S v + S (3 + v) + 1 ≤ 2 * S (3 + v) ∧ 1 ≤ S (3 + v) := by
    intro d
    induction d with
    | zero =>
      intro v hv
      rw [off_top (by omega)]
      rw [show S 2 - 1 = v by omega] at htop
      omega
    | succ d ih =>
      intro v hv
      have i1 := ih (v + 1) (by omega)
      have ho := off_step (S := S) (v := v) (by omega)
      rw [show 4 + v = 3 + (v + 1) by omega] at ho
      have hh : 2 * S (3 + (v + 1)) ≤ S (3 + v) := by
        by_cases ht : v + 2 < S 2
        · have := pg_half h (v := v + 1) (by omega)
          unfold bel at this
          rw [if_neg (by omega)] at this
          exact this
        · have e : v + 1 = S 2 - 1 := by omega
          have h2 := h.2.2.1 (by omega)
          have h3 := (h.1.1.2.2 (v + 1) (by omega)).2
          rw [e, htop] at h3
          unfold bel at h3
          rw [if_neg (by omega), show S 2 - 1 - 1 = v by omega] at h3
          have h4 : ent S (S 2 - 1) 1 = 0 + S (12 + 48 * (S 2 - 1) + 0) := rfl
          rw [e, htop]
          rw [h4, Nat.add_zero] at h3
          omega
      omega
  have hpg : ∀ v, v < S 2 → 2 * S (3 + v) ≤ 48 + 1 := by
    intro v hv
    by_cases ht : v + 1 < S 2
    · have h1 := pg_half h ht
      have h2 := bel_le h.1.1 hv
      omega
    · have := h.1.2.2.2.1 (by omega)
      rw [show S 2 - 1 = v by omega] at this
      omega
  refine ⟨?_, fun v hv => ?_⟩
  · rw [tot_off (by omega)]
    have h1 := key (S 2 - 1) 0 (by omega)
    have h2 := hpg 0 (by omega)
    show S 3 + off S 0 ≤ 48
    have h3 : S (3 + 0) = S 3 := rfl
    omega
  · have h1 := key (S 2 - 1 - v) v (by omega)
    have h2 := hpg v hv
    omega
/-- the nodes of a level's entries -/
theorem nd_le {S : Nat → Nat} (h : WX S) {v e : Nat} (hv : v < S 2) (he : e ≤ bel S v) : nd S v e ≤ 96 ∧ 1 ≤ nd S v e ∧ (0 < v → nd S v e ≤ 48) := by
  obtain ⟨t1, t2⟩ := tot_le h
  have h48 := h.1.1.2.1
  have htop := h.1.2.2.2.1 (by omega)
  unfold nd
  unfold bel at he
  by_cases h0 : v = 0
  · rw [if_pos h0] at he ⊢
    refine ⟨by omega, ?_, fun q => absurd q (by omega)⟩
    rw [tot_off (by omega)]
    have := (h.1.2.1 0 (by omega)).1
    have h3 : S (3 + 0) = S 3 := rfl
    omega
  · rw [if_neg h0] at he ⊢
    have h1 := t2 (v - 1) (by omega)
    refine ⟨by omega, ?_, fun _ => by omega⟩
    have ho := off_step (S := S) (v := v - 1) (by omega)
    rw [show 4 + (v - 1) = 3 + v by omega] at ho
    have := (h.1.2.1 v hv).1
    omega
def Cpl (LW : List Nat) (S : Nat → Nat) (st : Nat) (cc cpg clv cm cs : Nat → Int32) (cbits : Nat → Nat → Int64) (cw : Nat → Nat → Nat) (ce : Nat → Nat → Int32) : Prop :=
  cc st = nI (S 0) ∧ cpg st = nI (tot S) ∧ clv st = nI (S 2) ∧ cm st = nI (S 1) ∧ (∀ v, v < S 2 → ∀ p, p < S (3 + v) → ce st (off S v + p) = nI (S (12 + 48 * v + p))) ∧ (∀ k, k < 48 → cw st k ∈ LW) ∧ (∀ j k, j < 48 → k < 48 → cw st j = cw st k → j = k) ∧ ∀ k, k < S 0 → cs (cw st k) = nI (S (350 + k)) ∧ ∀ b, b < 192 → cb (cbits (cw st k)) b = wb S k b
/-- what the class finds anew behind each change -/
def Stl (S : Nat → Nat) (ch cf cl ca cp : Nat → Int32) : Prop :=
  (∀ v, v < S 2 → ∀ p, p < S (3 + v) → cf (off S v + p) = nI (nd S v (ent S v p)) ∧ ch (off S v + p) = nI (hd S v p) ∧ cl (off S v + p) = nI v ∧ (v + 1 < S 2 → ∀ q, q < S (3 + (v + 1)) → ent S (v + 1) q ≤ p → p < ent S (v + 1) (q + 1) → ca (off S v + p) = nI (off S (v + 1) + q))) ∧ (0 < S 2 → ca 0 = -1) ∧ (0 < S 2 → ∀ k, k < S 0 → ch (tot S + k) = nI k) ∧ ∀ v, v < S 2 → ∀ e, e + 1 < bel S v → cp (nd S v e) = nI (fd (wb S (eh S v e)) (wb S (eh S v (e + 1))))
section
variable {S : Nat → Nat} {LW LK : List Nat} {a : Nat → Nat} {cc cpg clv cm cs ch cf cl ca cp : Nat → Int32} {cbits : Nat → Nat → Int64} {cw : Nat → Nat → Nat} {ce : Nat → Nat → Int32}
theorem head_nd (h : WX S) (hs : Stl S ch cf cl ca cp) {v e : Nat} (hv : v < S 2) (he : e < bel S v) : ch (nd S v e) = nI (eh S v e) := by
  unfold nd eh
  unfold bel at he
  by_cases h0 : v = 0
  · rw [if_pos h0] at he ⊢
    rw [if_pos h0]
    exact hs.2.2.1 (by omega) e he
  · rw [if_neg h0] at he ⊢
    rw [if_neg h0]
    exact (hs.1 (v - 1) (by omega) e he).2.1
/-- the class looks at a page -/
theorem look_c (h : WX S) (hc : Cpl LW S (a 14) cc cpg clv cm cs cbits cw ce) (hs : Stl S ch cf cl ca cp) {v p kn w : Nat} (hv : v < S 2) (hp : p < S (3 + v)) (hkn : kn ≤ 192) (c1 c2 c3 c4 c5 c6 : Nat → Int32) (x1 x2 x3 x4 x5 x6 : Int32) (lk : Nat) :
    ∃ y1 y2 y3 y4 y5 y6 : Int32, C0_lookAt a LW ch cf cp cs cpg cbits cw ce c1 c2 c3 c4 c5 c6 x1 x2 x3 x4 x5 x6 w (nI (off S v + p)) (nI kn) lk = some (va_up c1 lk (nI (off S v + p)), va_up c2 lk (nI kn), va_up c3 lk (nI (wG S (cb (cbits w)) v p)), va_up c4 lk (enc (wD S (cb (cbits w)) v p)), va_up c5 lk (nI (wR S (cb (cbits w)) v p kn)), va_up c6 lk (nI (wL S (cb (cbits w)) v p)), y1, y2, y3, y4, y5, y6) := by
  obtain ⟨t1, t2⟩ := tot_le h
  obtain ⟨g1, g2, g3⟩ := pgv h.1 hv hp
  obtain ⟨k1, k2, k3, k4, k5, k6, k7, k8⟩ := hc
  have h48 := h.1.1.2.1
  have hlt : ∀ e, e < S (12 + 48 * v + p) → eh S v (ent S v p + e) < S 0 := fun e he => eh_lt0 h.1 hv (by omega)
  have hbt : ∀ e, e < S (12 + 48 * v + p) → ∀ b, b < 192 → hbs S v p e b = cb (cbits (cw (a 14) (eh S v (ent S v p + e)))) b := fun e he b hb => ((k8 _ (hlt e he)).2 b hb).symm
  have hsr := hbs_srt h.1 hv hp
  have hnd := nd_le h hv (e := ent S v p + S (12 + 48 * v + p)) g1
  have hadd : ∀ e, nd S v (ent S v p) + e = nd S v (ent S v p + e) := fun e => by
    unfold nd
    split <;> omega
  have hoff : off S v + p < tot S := by
    by_cases h0 : v = 0
    · rw [tot_off (by omega), h0]
      rw [h0] at hp
      have h3 : S (3 + 0) = S 3 := rfl
      omega
    · -- off 0 + pg 0 is all; off v + pg v ≤ off (v-1)
      have mono : ∀ d u, u + d = v → 0 < d → off S v + S (3 + v) ≤ off S u := by
        intro d
        induction d with
        | zero => intro u _ q; omega
        | succ d ih =>
          intro u hu _
          have ho := off_step (S := S) (v := u) (by omega)
          by_cases hd : d = 0
          · rw [show u + 1 = v by omega, show 4 + u = 3 + v by omega] at ho
            omega
          · have := ih (u + 1) (by omega) (by omega)
            omega
      have := mono v 0 (by omega) (by omega)
      rw [tot_off (by omega)]
      omega
  obtain ⟨c1', c2', c3', _⟩ := look_congr (W := cb (cbits w)) (W' := cb (cbits w)) hsr (by omega) g3 hbt (fun _ _ => rfl)
  have hL := lookAt_n (a := a) (LW := LW) (ch := ch) (cf := cf) (cp := cp) (cs := cs) (cpg := cpg) (cbits := cbits) (cw := cw) (ce := ce) (P := tot S) (p := off S v + p) (base := nd S v (ent S v p)) (n := S (12 + 48 * v + p)) (kn := kn) (w := w) (hw := fun e => eh S v (ent S v p + e)) (len := fun e => S (350 + eh S v (ent S v p + e))) k2 hoff t1 (by omega) g3 (k5 v hv p hp) (hs.1 v hv p hp).1 (by rw [hadd]; exact hnd.1) (fun e he => by
      have hl := hlt e he
      obtain ⟨z1, z2, _⟩ := h.1.2.2.2.2.1 _ hl
      refine ⟨?_, by omega, k6 _ (by omega), (k8 _ hl).1, z1, z2⟩
      rw [hadd]
      exact head_nd h hs hv (by omega)) (srt_congr hsr hbt) (fun k hk => by
      rw [hadd, hs.2.2.2 v hv _ (by omega)]
      exact congrArg nI (fd_congr (hbt k (by omega)) (hbt (k + 1) hk))) hkn c1 c2 c3 c4 c5 c6 x1 x2 x3 x4 x5 x6 lk
  have hgn := (gs_tip (W := cb (cbits w)) hsr (by omega) g3).2
  obtain ⟨y1, y2, y3, y4, y5, y6, hL⟩ := hL
  refine ⟨y1, y2, y3, y4, y5, y6, ?_⟩
  rw [hL]
  have e2 : fd (cb (cbits w)) (hbs S v p (gs (hbs S v p) (cb (cbits w)) (S (12 + 48 * v + p)))) = fd (cb (cbits w)) (cb (cbits (cw (a 14) (eh S v (ent S v p + gs (fun e => cb (cbits (cw (a 14) (eh S v (ent S v p + e))))) (cb (cbits w)) (S (12 + 48 * v + p))))))) := c2'
  unfold wR wD wL wG
  rw [← c3', e2, c1']
end
