/-! the reference looks at a page -/
theorem parting_L {S ak : Nat → Nat} {al : Nat} {h : Nat → Nat} {hs : Nat → Int32} {N i j b l : Nat} (w1 : Int32) (hN : N ≤ 10) (hj : j < N) (hw : ∀ e, e < N → wok S ak al (h e)) (hf : Frk (fun e => mbit S ak al (h e)) i j b l) (k : Int32 → Option Int32) : ∀ (d q n : Nat), q + d = l + 1 → i ≤ q → d < n → M_parting_L3 (nf S) (nf ak) (ov hs N h) (nI al) w1 (nI (j + 1)) (nI b) k n (nI q) = k (nI (l + 1)) := by
  obtain ⟨f1, f2, f3, f4, f5, f6⟩ := hf
  intro d
  induction d with
  | zero =>
    intro q n hq hi hn
    obtain ⟨n, rfl⟩ : ∃ m, n = m + 1 := ⟨n - 1, by omega⟩
    have hql : q = l + 1 := by omega
    subst hql
    rw [M_parting_L3, il (by omega) (by omega), if_neg (by omega), ga_n (by omega) (by decide), nI_clamp (by omega), ov_in (by omega), bitOf_n (hw _ (by omega)) f1, bd1_in]
    have := f6 (l + 1) (by omega) (by omega)
    rw [show mbit S ak al (h (l + 1)) b = 1 from this, if_neg (by decide)]
  | succ d ih =>
    intro q n hq hi hn
    obtain ⟨n, rfl⟩ : ∃ m, n = m + 1 := ⟨n - 1, by omega⟩
    rw [M_parting_L3, il (by omega) (by omega), if_neg (by omega), ga_n (by omega) (by decide), nI_clamp (by omega), ov_in (by omega), bitOf_n (hw _ (by omega)) f1, bd1_in]
    have := f5 q hi (by omega)
    rw [show mbit S ak al (h q) b = 0 from this, if_pos (by decide)]
    show M_parting_L3 _ _ _ _ _ _ _ k n (nI q + nI 1) = _
    rw [nI_add]
    exact ih (q + 1) n (by omega) (by omega) (by omega)
theorem parting_n {S ak : Nat → Nat} {al : Nat} {h : Nat → Nat} {hs : Nat → Int32} {N i j b l : Nat} (hN : N ≤ 10) (hj : j < N) (hw : ∀ e, e < N → wok S ak al (h e)) (hf : Frk (fun e => mbit S ak al (h e)) i j b l) : M_parting (nf S) (nf ak) (ov hs N h) (nI al) (nI i) (nI (j + 1)) (nI b) = some (nI (l + 1)) := by
  unfold M_parting
  have h1 := hf.2.1
  have h2 := hf.2.2.1
  exact parting_L _ hN hj hw hf (fun v => some v) (l + 1 - i) i FU (by omega) (Nat.le_refl _) (Nat.lt_of_le_of_lt (show l + 1 - i ≤ 10 by omega) (by decide))
/-- pieces read: known bits, first difference, signs of the guess -/
def rdp (kn d len : Nat) : Nat := (if d = 192 then (len - 1) / 4 else d / 32) + 1 - kn / 32
theorem rd_n {a q : Nat} (ha : a < 2 ^ 20) (hq : q < 2 ^ 20) : (0 ≤ nI a - nI q + 1 → nI a - nI q + 1 = nI (a + 1 - q)) ∧ (¬ 0 ≤ nI a - nI q + 1 → (0 : Int32) = nI (a + 1 - q)) := by
  have e : nI a - nI q + 1 = nI (a + 1) - nI q := by
    show nI a - nI q + nI 1 = _
    rw [← nI_add a 1]
    rw [Int32.sub_eq_add_neg, Int32.sub_eq_add_neg, Int32.add_assoc, Int32.add_comm (-nI q), ← Int32.add_assoc]
  have ht : (nI (a + 1) - nI q).toInt = ((a + 1 : Nat) : Int) - (q : Nat) := pk_sub_toInt (by omega) (by omega)
  rw [e]
  constructor
  · intro h
    have h2 := Int32.le_iff_toInt_le.mp h
    rw [ht] at h2
    have h3 : (0 : Int32).toInt = 0 := by decide
    rw [h3] at h2
    rw [pk_sub (by omega)]
  · intro h
    have h2 : ¬ (0 : Int32).toInt ≤ (nI (a + 1) - nI q).toInt := fun z => h (Int32.le_iff_toInt_le.mpr z)
    rw [ht] at h2
    have h3 : (0 : Int32).toInt = 0 := by decide
    rw [h3] at h2
    rw [show a + 1 - q = 0 by omega]
    rfl
section
variable {S ak : Nat → Nat} {al : Nat} {h : Nat → Nat} {hs : Nat → Int32} {N : Nat}
theorem looksAt_L20 (hN : N ≤ 8) (h0 : 0 < N) (hw : ∀ e, e < N → wok S ak al (h e)) (ha : wok S ak al 48) (hsr : Srt (fun e => mbit S ak al (h e)) N) (w1 w2 w3 : Int32) (fb0 ff0 ft0 : Nat → Int32) (me mg md mr mp : Int32) (k : (Nat → Int32) → (Nat → Int32) → (Nat → Int32) → (Nat → Int32) → Int32 → Int32 → Int32 → Int32 → Int32 → Int32 → Int32 → Option ((Nat → Int32) × (Nat → Int32) × (Nat → Int32) × (Nat → Int32) × Int32 × Int32 × Int32 × Int32 × Int32 × Int32)) :
    ∀ (d f n : Nat), f + d = dn (nb (fun e => mbit S ak al (h e))) (mbit S ak al 48) N 192 8 0 → d < n →
      M_looksAt_L20 (nf S) (nf ak) (nI al) w1 w2 w3 k n (ov hs N h) (ov fb0 f (fun t => fb (nb (fun e => mbit S ak al (h e))) (ps (nb (fun e => mbit S ak al (h e))) (mbit S ak al 48) N t))) (ov ff0 f (fun t => (ps (nb (fun e => mbit S ak al (h e))) (mbit S ak al 48) N t).1)) (ov ft0 f (fun t => (ps (nb (fun e => mbit S ak al (h e))) (mbit S ak al 48) N t).2 + 1)) me (nI f) mg md mr mp (nI (ps (nb (fun e => mbit S ak al (h e))) (mbit S ak al 48) N f).1) (nI ((ps (nb (fun e => mbit S ak al (h e))) (mbit S ak al 48) N f).2 + 1))
      = k (ov hs N h) (ov fb0 (dn (nb (fun e => mbit S ak al (h e))) (mbit S ak al 48) N 192 8 0) (fun t => fb (nb (fun e => mbit S ak al (h e))) (ps (nb (fun e => mbit S ak al (h e))) (mbit S ak al 48) N t))) (ov ff0 (dn (nb (fun e => mbit S ak al (h e))) (mbit S ak al 48) N 192 8 0) (fun t => (ps (nb (fun e => mbit S ak al (h e))) (mbit S ak al 48) N t).1)) (ov ft0 (dn (nb (fun e => mbit S ak al (h e))) (mbit S ak al 48) N 192 8 0) (fun t => (ps (nb (fun e => mbit S ak al (h e))) (mbit S ak al 48) N t).2 + 1)) me (nI (dn (nb (fun e => mbit S ak al (h e))) (mbit S ak al 48) N 192 8 0)) mg md mr mp (nI (gs (fun e => mbit S ak al (h e)) (mbit S ak al 48) N)) := by
  generalize hHB : (fun e => mbit S ak al (h e)) = hb at *
  generalize hWW : mbit S ak al 48 = W at *
  have hW : bits W := by rw [← hWW]; exact mbit_bits _ _ _ _
  have hhb : ∀ e, hb e = mbit S ak al (h e) := fun e => by rw [← hHB]
  have hK := (dn_end (W := W) hsr h0 hN (Nat.le_refl 192)).1
  intro d
  induction d with
  | zero =>
    intro f n hf hn
    obtain ⟨n, rfl⟩ : ∃ m, n = m + 1 := ⟨n - 1, by omega⟩
    have hfe : f = dn (nb hb) W N 192 8 0 := by omega
    obtain ⟨g1, g2⟩ := gs_tip (W := W) hsr h0 hN
    subst hfe
    rw [M_looksAt_L20, g1]
    show (if nI (gs hb W N + 1) - nI (gs hb W N) ≤ nI 1 then k (ov hs N h) _ _ _ me _ mg md mr mp (nI (gs hb W N)) else _) = _
    rw [pk_sub (by omega), il (by omega) (by decide), if_pos (by omega)]
  | succ d ih =>
    intro f n hf hn
    obtain ⟨n, rfl⟩ : ∃ m, n = m + 1 := ⟨n - 1, by omega⟩
    obtain ⟨b1, hc, hWb, hnd⟩ := ps_nd hsr h0 hN hW (f := f) (by omega)
    obtain ⟨p1, p2, _, _⟩ := ps_in (W := W) hsr h0 f
    have hfk := fb_frk hsr hc p2
    have ih := ih (f + 1) n (by omega) (by omega)
    rw [← ov_s, ← ov_s, ← ov_s] at ih
    have e0 : ps (nb hb) W N (f + 1) = nx (nb hb) W (ps (nb hb) W N f) := if_pos hc
    rw [e0] at ih
    unfold nx at ih
    rw [M_looksAt_L20]
    show (if nI ((ps (nb hb) W N f).2 + 1) - nI (ps (nb hb) W N f).1 ≤ nI 1 then _ else ga (nI (ps (nb hb) W N f).1) 10 (ga (nI ((ps (nb hb) W N f).2 + 1) - nI 1) 10 (bd1 (M_differ (nf S) (nf ak) (nI al) (ov hs N h (nI (ps (nb hb) W N f).1).toNatClampNeg) (ov hs N h (nI ((ps (nb hb) W N f).2 + 1) - nI 1).toNatClampNeg)) fun r46 => _))) = _
    have hd1 : fd (mbit S ak al (h (ps (nb hb) W N f).1)) (mbit S ak al (h (ps (nb hb) W N f).2)) = fb (nb hb) (ps (nb hb) W N f) := by rw [← hhb, ← hhb]; exact hfk.2.2.2.1.symm
    rw [pk_sub (by omega), il (by omega) (by decide), if_neg (by omega), ga_n (by omega) (by decide), pk_sub (by omega), ga_n (by omega) (by decide), nI_clamp (by omega), nI_clamp (by omega), ov_in (by omega), ov_in (by omega), show (ps (nb hb) W N f).2 + 1 - 1 = (ps (nb hb) W N f).2 by omega, differ_n (hw _ (by omega)) (hw _ (by omega)), bd1_in, hd1, enc_some (by omega), ga_n (by omega) (by decide), ga_n (by omega) (by decide), ga_n (by omega) (by decide)]
    rw [parting_n (by omega) p2 hw (by rw [hHB]; exact hfk), bd1_in]
    show bd1 (M_bitOf (nf S) (nf ak) (nI al) (nI 48) (nI (fb (nb hb) (ps (nb hb) W N f)))) _ = _
    rw [bitOf_n ha b1, bd1_in, hWW]
    have hW1 := hW (fb (nb hb) (ps (nb hb) W N f))
    rw [nI_clamp (by omega)]
    by_cases hw0 : W (fb (nb hb) (ps (nb hb) W N f)) = 0
    · rw [if_pos hw0] at ih
      rw [hw0, if_pos (by decide), M_looksAt_J124]
      show bd1 (M_bitOf (nf S) (nf ak) (nI al) (nI 48) (nI (fb (nb hb) (ps (nb hb) W N f)))) _ = _
      rw [bitOf_n ha b1, bd1_in, hWW, hw0, if_pos (by decide)]
      show M_looksAt_L20 _ _ _ _ _ _ k n _ _ _ _ _ (nI f + nI 1) _ _ _ _ _ _ = _
      rw [nI_add]
      exact ih
    · have hw1 : W (fb (nb hb) (ps (nb hb) W N f)) = 1 := by omega
      rw [if_neg hw0] at ih
      rw [hw1, if_neg (by decide), M_looksAt_J124]
      show bd1 (M_bitOf (nf S) (nf ak) (nI al) (nI 48) (nI (fb (nb hb) (ps (nb hb) W N f)))) _ = _
      rw [bitOf_n ha b1, bd1_in, hWW, hw1, if_neg (by decide)]
      show M_looksAt_L20 _ _ _ _ _ _ k n _ _ _ _ _ (nI f + nI 1) _ _ _ _ _ _ = _
      rw [nI_add]
      exact ih
theorem looksAt_L265 {D W : Nat → Nat} {K d : Nat} (w1 w2 w3 : Int32) (mh ff0 ft0 fb0 : Nat → Int32) (al : Int32) (ms ma : Nat → Int32) (me mg mr mp : Int32) (hK : K ≤ 10) (hd : d < 192) (m : Nat) (hm : m ≤ K) (hlo : ∀ t, t < m → fb D (ps D W N t) ≤ d) (hhi : m < K → d < fb D (ps D W N m)) (hbd : ∀ t, t < K → fb D (ps D W N t) < 192) (k : (Nat → Int32) → (Nat → Int32) → (Nat → Int32) → (Nat → Int32) → Int32 → Int32 → Int32 → Int32 → Int32 → Int32 → Int32 → Option ((Nat → Int32) × (Nat → Int32) × (Nat → Int32) × (Nat → Int32) × Int32 × Int32 × Int32 × Int32 × Int32 × Int32)) :
    ∀ (c f n : Nat), f + c = m → c < n → M_looksAt_L265 ms ma al w1 w2 w3 k n mh (ov fb0 K (fun t => fb D (ps D W N t))) ff0 ft0 me (nI K) mg (nI d) mr mp (nI f) = k mh (ov fb0 K (fun t => fb D (ps D W N t))) ff0 ft0 me (nI K) mg (nI d) mr mp (nI m) := by
  intro c
  induction c with
  | zero =>
    intro f n hf hn
    obtain ⟨n, rfl⟩ : ∃ m, n = m + 1 := ⟨n - 1, by omega⟩
    have hfm : f = m := by omega
    subst hfm
    rw [M_looksAt_L265, il (by omega) (by omega)]
    by_cases hc : K ≤ f
    · rw [if_pos hc]
    · have h1 := hbd f (by omega)
      rw [if_neg hc, ga_n (by omega) (by decide), nI_clamp (by omega), ov_in (by omega), ilt (by omega) (by omega), if_pos (hhi (by omega))]
  | succ c ih =>
    intro f n hf hn
    obtain ⟨n, rfl⟩ : ∃ m, n = m + 1 := ⟨n - 1, by omega⟩
    have h1 := hbd f (by omega)
    have h2 := hlo f (by omega)
    rw [M_looksAt_L265, il (by omega) (by omega), if_neg (by omega), ga_n (by omega) (by decide), nI_clamp (by omega), ov_in (by omega), ilt (by omega) (by omega), if_neg (by omega)]
    show M_looksAt_L265 ms ma al w1 w2 w3 k n _ _ _ _ _ _ _ _ _ _ (nI f + nI 1) = _
    rw [nI_add]
    exact ih (f + 1) n (by omega) (by omega)
/-- what looking at a page finds: all of it -/
theorem looksAt_n (hT : TW S) {v p : Nat} (hv : v < S 2) (hp : p < S (3 + v)) (hz : S (12 + 48 * v + p) = N) (hN : N ≤ 8) (h0 : 0 < N) (hh : h = fun e => eh S v (ent S v p + e)) (hw : ∀ e, e < N → wok S ak al (h e) ∧ 1 ≤ mlen S al (h e)) (ha : wok S ak al 48) (hsr : Srt (fun e => mbit S ak al (h e)) N) {kn : Nat} (hkn : kn ≤ 192) (hs fb0 ff0 ft0 : Nat → Int32) (me mf mg md mr mp : Int32) :
    ∃ fb1 ff1 ft1 : Nat → Int32, ∃ mf1 : Int32, M_looksAt (nf S) (nf ak) (nI al) hs fb0 ff0 ft0 me mf mg md mr mp (nI v) (nI p) (nI kn) = some (ov hs N h, fb1, ff1, ft1, nI N, mf1, nI (gs (fun e => mbit S ak al (h e)) (mbit S ak al 48) N), enc (fd (mbit S ak al 48) (mbit S ak al (h (gs (fun e => mbit S ak al (h e)) (mbit S ak al 48) N)))), nI (rdp kn (fd (mbit S ak al 48) (mbit S ak al (h (gs (fun e => mbit S ak al (h e)) (mbit S ak al 48) N)))) (mlen S al (h (gs (fun e => mbit S ak al (h e)) (mbit S ak al 48) N)))), nI (plc (fun e => mbit S ak al (h e)) (mbit S ak al 48) N)) := by
  have hw1 : ∀ e, e < N → wok S ak al (h e) := fun e he => (hw e he).1
  have hlay := laysHeads_n hT hv hp (by omega) hs me
  rw [hz, ← hh] at hlay
  have hL := fun k => looksAt_L20 (hs := hs) hN h0 hw1 ha hsr (nI v) (nI p) (nI kn) fb0 ff0 ft0 (nI N) mg md mr mp k (dn (nb (fun e => mbit S ak al (h e))) (mbit S ak al 48) N 192 8 0) 0 FU (by omega)
  have hW : bits (mbit S ak al 48) := mbit_bits _ _ _ _
  have hK := (dn_end (W := mbit S ak al 48) hsr h0 hN (Nat.le_refl 192)).1
  have hL := fun k => hL k (Nat.lt_of_le_of_lt (show dn (nb (fun e => mbit S ak al (h e))) (mbit S ak al 48) N 192 8 0 ≤ 8 by omega) (by decide))
  obtain ⟨g1, g2⟩ := gs_tip (W := mbit S ak al 48) hsr h0 hN
  have hwg := hw _ g2
  unfold M_looksAt
  rw [hlay, bd2_in]
  have hst : ps (nb (fun e => mbit S ak al (h e))) (mbit S ak al 48) N 0 = (0, N - 1) := rfl
  simp only [ov_0, hst, show N - 1 + 1 = N by omega] at hL
  refine ⟨ov fb0 (dn (nb (fun e => mbit S ak al (h e))) (mbit S ak al 48) N 192 8 0) (fun t => fb (nb (fun e => mbit S ak al (h e))) (ps (nb (fun e => mbit S ak al (h e))) (mbit S ak al 48) N t)), ov ff0 (dn (nb (fun e => mbit S ak al (h e))) (mbit S ak al 48) N 192 8 0) (fun t => (ps (nb (fun e => mbit S ak al (h e))) (mbit S ak al 48) N t).1), ov ft0 (dn (nb (fun e => mbit S ak al (h e))) (mbit S ak al 48) N 192 8 0) (fun t => (ps (nb (fun e => mbit S ak al (h e))) (mbit S ak al 48) N t).2 + 1), nI (dn (nb (fun e => mbit S ak al (h e))) (mbit S ak al 48) N 192 8 0), ?_⟩
  refine (hL _).trans ?_
  rw [ga_n (by omega) (by decide), nI_clamp (by omega), ov_in g2]
  show bd1 (M_differ (nf S) (nf ak) (nI al) (nI 48) (nI (h (gs (fun e => mbit S ak al (h e)) (mbit S ak al 48) N)))) _ = _
  have hdl := fd_le (mbit S ak al 48) (mbit S ak al (h (gs (fun e => mbit S ak al (h e)) (mbit S ak al 48) N)))
  rw [differ_n ha hwg.1, bd1_in, enc_m1 hdl]
  have hplc : plc (fun e => mbit S ak al (h e)) (mbit S ak al 48) N = if fd (mbit S ak al 48) (mbit S ak al (h (gs (fun e => mbit S ak al (h e)) (mbit S ak al 48) N))) = 192 then gs (fun e => mbit S ak al (h e)) (mbit S ak al 48) N + 1 else if mbit S ak al 48 (fd (mbit S ak al 48) (mbit S ak al (h (gs (fun e => mbit S ak al (h e)) (mbit S ak al 48) N)))) = 0 then (ps (nb (fun e => mbit S ak al (h e))) (mbit S ak al 48) N (dn (nb (fun e => mbit S ak al (h e))) (mbit S ak al 48) N (fd (mbit S ak al 48) (mbit S ak al (h (gs (fun e => mbit S ak al (h e)) (mbit S ak al 48) N)))) 8 0)).1 else (ps (nb (fun e => mbit S ak al (h e))) (mbit S ak al 48) N (dn (nb (fun e => mbit S ak al (h e))) (mbit S ak al 48) N (fd (mbit S ak al 48) (mbit S ak al (h (gs (fun e => mbit S ak al (h e)) (mbit S ak al 48) N)))) 8 0)).2 + 1 := rfl
  rw [hplc]
  have hnd := fun f hf => ps_nd hsr h0 hN hW (f := f) hf
  have hdm := fun hl => dn_mono (W := mbit S ak al 48) (lim := fd (mbit S ak al 48) (mbit S ak al (h (gs (fun e => mbit S ak al (h e)) (mbit S ak al 48) N)))) hl hsr h0 hN
  have hds := dn_s (hb := fun e => mbit S ak al (h e)) (W := mbit S ak al 48) (n := N) (fd (mbit S ak al 48) (mbit S ak al (h (gs (fun e => mbit S ak al (h e)) (mbit S ak al 48) N)))) 8 0
  have hde := fun hl => (dn_end (W := mbit S ak al 48) hsr h0 hN (lim := fd (mbit S ak al 48) (mbit S ak al (h (gs (fun e => mbit S ak al (h e)) (mbit S ak al 48) N)))) hl).2
  have hgdef : (ps (nb (fun e => mbit S ak al (h e))) (mbit S ak al 48) N (dn (nb (fun e => mbit S ak al (h e))) (mbit S ak al 48) N 192 8 0)).1 = gs (fun e => mbit S ak al (h e)) (mbit S ak al 48) N := rfl
  have hpin := fun f => ps_in (W := mbit S ak al 48) hsr h0 f
  have hlen := hwg.1.2.1
  have hlen1 := hwg.2
  have hbit := fun b (hb : b < 192) => bitOf_n ha hb
  generalize fd (mbit S ak al 48) (mbit S ak al (h (gs (fun e => mbit S ak al (h e)) (mbit S ak al 48) N))) = d at *
  generalize hK0 : dn (nb (fun e => mbit S ak al (h e))) (mbit S ak al 48) N 192 8 0 = K at *
  generalize hG0 : gs (fun e => mbit S ak al (h e)) (mbit S ak al 48) N = g at *
  have hfin : ∀ t0 : Nat, t0 < 2 ^ 20 → t0 + 1 - kn / 32 = rdp kn d (mlen S al (h g)) → M_looksAt_J209 (nf S) (nf ak) (nI al) (nI v) (nI p) (nI kn) (ov hs N h) (ov fb0 K (fun t => fb (nb (fun e => mbit S ak al (h e))) (ps (nb (fun e => mbit S ak al (h e))) (mbit S ak al 48) N t))) (ov ff0 K (fun t => (ps (nb (fun e => mbit S ak al (h e))) (mbit S ak al 48) N t).1)) (ov ft0 K (fun t => (ps (nb (fun e => mbit S ak al (h e))) (mbit S ak al 48) N t).2 + 1)) (nI N) (nI K) (nI g) (enc d) mr mp (nI t0) = some (ov hs N h, ov fb0 K (fun t => fb (nb (fun e => mbit S ak al (h e))) (ps (nb (fun e => mbit S ak al (h e))) (mbit S ak al 48) N t)), ov ff0 K (fun t => (ps (nb (fun e => mbit S ak al (h e))) (mbit S ak al 48) N t).1), ov ft0 K (fun t => (ps (nb (fun e => mbit S ak al (h e))) (mbit S ak al 48) N t).2 + 1), nI N, nI K, nI g, enc d, nI (rdp kn d (mlen S al (h g))), nI (if d = 192 then g + 1 else if mbit S ak al 48 d = 0 then (ps (nb (fun e => mbit S ak al (h e))) (mbit S ak al 48) N (dn (nb (fun e => mbit S ak al (h e))) (mbit S ak al 48) N d 8 0)).1 else (ps (nb (fun e => mbit S ak al (h e))) (mbit S ak al 48) N (dn (nb (fun e => mbit S ak al (h e))) (mbit S ak al 48) N d 8 0)).2 + 1)) := by
    intro t0 ht0 hrd
    have hkq : nI kn / 32 = nI (kn / 32) := pk_div (by omega) (by decide) (by decide)
    obtain ⟨r1, r2⟩ := rd_n (a := t0) (q := kn / 32) ht0 (by omega)
    have key : ∀ mr2 : Int32, M_looksAt_J240 (nf S) (nf ak) (nI al) (nI v) (nI p) (nI kn) (ov hs N h) (ov fb0 K (fun t => fb (nb (fun e => mbit S ak al (h e))) (ps (nb (fun e => mbit S ak al (h e))) (mbit S ak al 48) N t))) (ov ff0 K (fun t => (ps (nb (fun e => mbit S ak al (h e))) (mbit S ak al 48) N t).1)) (ov ft0 K (fun t => (ps (nb (fun e => mbit S ak al (h e))) (mbit S ak al 48) N t).2 + 1)) (nI N) (nI K) (nI g) (enc d) mr2 mp (nI (rdp kn d (mlen S al (h g)))) = some (ov hs N h, ov fb0 K (fun t => fb (nb (fun e => mbit S ak al (h e))) (ps (nb (fun e => mbit S ak al (h e))) (mbit S ak al 48) N t)), ov ff0 K (fun t => (ps (nb (fun e => mbit S ak al (h e))) (mbit S ak al 48) N t).1), ov ft0 K (fun t => (ps (nb (fun e => mbit S ak al (h e))) (mbit S ak al 48) N t).2 + 1), nI N, nI K, nI g, enc d, nI (rdp kn d (mlen S al (h g))), nI (if d = 192 then g + 1 else if mbit S ak al 48 d = 0 then (ps (nb (fun e => mbit S ak al (h e))) (mbit S ak al 48) N (dn (nb (fun e => mbit S ak al (h e))) (mbit S ak al 48) N d 8 0)).1 else (ps (nb (fun e => mbit S ak al (h e))) (mbit S ak al 48) N (dn (nb (fun e => mbit S ak al (h e))) (mbit S ak al 48) N d 8 0)).2 + 1)) := by
      intro mr2
      rw [M_looksAt_J240, enc_m1 hdl]
      by_cases hd : d = 192
      · rw [if_pos hd, if_pos hd]
        show some (_, _, _, _, _, _, _, _, _, nI g + nI 1) = _
        rw [nI_add]
      · rw [if_neg hd, if_neg hd, enc_some hd]
        have hdlt : d < 192 := by omega
        have hm := hdm (by omega)
        have hme := hde (by omega)
        obtain ⟨_, _, hbef, _⟩ := hds
        generalize hM : dn (nb (fun e => mbit S ak al (h e))) (mbit S ak al 48) N d 8 0 = m at *
        have hhi : m < K → d < fb (nb (fun e => mbit S ak al (h e))) (ps (nb (fun e => mbit S ak al (h e))) (mbit S ak al 48) N m) := fun hmk => by
          have := (hnd m hmk).2.2.2
          omega
        refine (looksAt_L265 (D := nb (fun e => mbit S ak al (h e))) (W := mbit S ak al 48) (N := N) (nI v) (nI p) (nI kn) (ov hs N h) _ _ fb0 (nI al) (nf S) (nf ak) (nI N) (nI g) _ mp (by omega) hdlt m hm (fun t ht => Nat.le_of_lt (hbef t (Nat.zero_le _) ht)) hhi (fun t ht => (hnd t ht).1) _ m 0 FU (by omega) (Nat.lt_of_le_of_lt (show m ≤ 8 by omega) (by decide))).trans ?_
        obtain ⟨q1, q2, _, _⟩ := hpin m
        have hps : m = K → (ps (nb (fun e => mbit S ak al (h e))) (mbit S ak al 48) N m).1 = g ∧ (ps (nb (fun e => mbit S ak al (h e))) (mbit S ak al 48) N m).2 = g := fun e => by rw [e]; exact ⟨hgdef, g1⟩
        have j344 : M_looksAt_J344 (nf S) (nf ak) (nI al) (nI v) (nI p) (nI kn) (ov hs N h) (ov fb0 K (fun t => fb (nb (fun e => mbit S ak al (h e))) (ps (nb (fun e => mbit S ak al (h e))) (mbit S ak al 48) N t))) (ov ff0 K (fun t => (ps (nb (fun e => mbit S ak al (h e))) (mbit S ak al 48) N t).1)) (ov ft0 K (fun t => (ps (nb (fun e => mbit S ak al (h e))) (mbit S ak al 48) N t).2 + 1)) (nI N) (nI K) (nI g) (nI d) (nI (rdp kn d (mlen S al (h g)))) mp (nI (ps (nb (fun e => mbit S ak al (h e))) (mbit S ak al 48) N m).1) (nI ((ps (nb (fun e => mbit S ak al (h e))) (mbit S ak al 48) N m).2 + 1)) = some (ov hs N h, ov fb0 K (fun t => fb (nb (fun e => mbit S ak al (h e))) (ps (nb (fun e => mbit S ak al (h e))) (mbit S ak al 48) N t)), ov ff0 K (fun t => (ps (nb (fun e => mbit S ak al (h e))) (mbit S ak al 48) N t).1), ov ft0 K (fun t => (ps (nb (fun e => mbit S ak al (h e))) (mbit S ak al 48) N t).2 + 1), nI N, nI K, nI g, nI d, nI (rdp kn d (mlen S al (h g))), nI (if mbit S ak al 48 d = 0 then (ps (nb (fun e => mbit S ak al (h e))) (mbit S ak al 48) N m).1 else (ps (nb (fun e => mbit S ak al (h e))) (mbit S ak al 48) N m).2 + 1)) := by
          rw [M_looksAt_J344]
          show bd1 (M_bitOf (nf S) (nf ak) (nI al) (nI 48) (nI d)) _ = _
          rw [hbit d hdlt, bd1_in]
          have hW1 := hW d
          by_cases hw0 : mbit S ak al 48 d = 0
          · rw [hw0, if_pos (by decide), if_pos rfl]
          · rw [show mbit S ak al 48 d = 1 by omega, if_neg (by decide), if_neg (by decide)]
        show M_looksAt_J294 _ _ _ _ _ _ _ _ _ _ _ _ _ _ _ _ _ = _
        rw [M_looksAt_J294, il (by omega) (by omega)]
        by_cases hmk : K ≤ m
        · obtain ⟨z1, z2⟩ := hps (by omega)
          rw [if_pos hmk, M_looksAt_J317, il (by omega) (by omega), if_pos hmk]
          rw [z1, z2] at j344
          show M_looksAt_J344 _ _ _ _ _ _ _ _ _ _ _ _ _ _ _ _ _ (nI g + nI 1) = _
          rw [nI_add]
          rw [z1, z2]
          exact j344
        · rw [if_neg hmk, ga_n (by omega) (by decide), M_looksAt_J317, il (by omega) (by omega), if_neg hmk, ga_n (by omega) (by decide), nI_clamp (by omega), ov_in (by omega), ov_in (by omega)]
          exact j344
    rw [M_looksAt_J209]
    show (if 0 ≤ nI t0 - nI kn / 32 + 1 then _ else _) = _
    rw [hkq]
    by_cases hc : 0 ≤ nI t0 - nI (kn / 32) + 1
    · rw [if_pos hc]
      have e1 := r1 hc
      rw [hrd] at e1
      rw [e1]
      exact key _
    · rw [if_neg hc]
      have e1 := r2 hc
      rw [hrd] at e1
      have := key (nI t0 - nI (kn / 32) + 1)
      rw [← e1] at this ⊢
      exact this
  by_cases hd : d = 192
  · rw [if_pos hd, ga_n (by omega) (by decide), lengthOf_n hwg.1.1, bd1_in]
    have e1 : (nI (mlen S al (h g)) - 1) / 4 = nI ((mlen S al (h g) - 1) / 4) := by
      show (nI (mlen S al (h g)) - nI 1) / nI 4 = _
      rw [pk_sub hlen1, pk_div (by omega) (by decide) (by decide)]
    rw [e1]
    exact hfin _ (by omega) (by unfold rdp; rw [if_pos hd])
  · rw [if_neg hd, enc_some hd]
    have e1 : nI d / 32 = nI (d / 32) := pk_div (by omega) (by decide) (by decide)
    rw [e1]
    have := hfin (d / 32) (by omega) (by unfold rdp; rw [if_neg hd])
    rw [enc_some hd] at this
    exact this
end
