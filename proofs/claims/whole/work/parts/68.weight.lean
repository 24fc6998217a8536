/-! words beneath a page, its weight -/
theorem sumN_0 {f : Nat → Nat} {n : Nat} (h : ∀ k, k < n → f k = 0) : sumN f n = 0 := by
  induction n with
  | zero => rfl
  | succ n ih => rw [sumN, ih (fun k hk => h k (by omega)), h n (by omega)]
def wlev (S : Nat → Nat) (v fr to : Nat) : Nat := sumN (fun e => S (350 + hd S v (fr + e))) (to - fr)
def wsum (S : Nat → Nat) : Nat → Nat → Nat → Nat
  | 0, _, _ => 0
  | v + 1, fr, to => wlev S v (ent S (v + 1) fr) (ent S (v + 1) to) + wsum S v (ent S (v + 1) fr) (ent S (v + 1) to)
def wgt (S : Nat → Nat) (v p : Nat) : Nat := sumN (fun k => S (350 + (hd S v p + k))) (hd S v (p + 1) - hd S v p) + wsum S v p (p + 1)
theorem ent_mono (S : Nat → Nat) (v : Nat) {p q : Nat} (h : p ≤ q) : ent S v p ≤ ent S v q := sumN_mono h
/-- of all pages from a place on, those with heads between two are the ones beneath -/
theorem wsum_s {S Hd : Nat → Nat} (h : WF S) (hH : ∀ v, v < S 2 → ∀ p, p < S (3 + v) → Hd (off S v + p) = hd S v p) : ∀ (v fr to x : Nat), v < S 2 → fr ≤ to → to ≤ S (3 + v) → nd S v 0 ≤ x → x ≤ nd S v (ent S v fr) → sumN (fun t => if hd S v fr ≤ Hd (x + t) ∧ Hd (x + t) < hd S v to then S (350 + Hd (x + t)) else 0) (tot S - x) = wsum S v fr to
  | 0, fr, to, x, hv, hft, hto, hx1, hx2 => by
    have : nd S 0 0 = tot S + 0 := if_pos rfl
    rw [show tot S - x = 0 by omega]
    rfl
  | v + 1, fr, to, x, hv, hft, hto, hx1, hx2 => by
    have hv' : v < S 2 := by omega
    have e0 : nd S (v + 1) 0 = off S v + 0 := if_neg (by omega)
    have e1 : nd S (v + 1) (ent S (v + 1) fr) = off S v + ent S (v + 1) fr := if_neg (by omega)
    have e2 : nd S v 0 = S (3 + v) + off S v := nd_off hv'
    have m1 := ent_mono S (v + 1) hft
    have m2 : ent S (v + 1) to ≤ S (3 + v) := by
      have := ent_le h.1 hv hto
      unfold bel at this
      rw [if_neg (by omega), show v + 1 - 1 = v by omega] at this
      exact this
    have m3 := off_tot (S := S) hv'
    have ih := wsum_s h hH v (ent S (v + 1) fr) (ent S (v + 1) to) (nd S v 0) hv' m1 m2 (Nat.le_refl _) (by
      rw [show ent S v (ent S (v + 1) fr) = 0 + ent S v (ent S (v + 1) fr) by omega, nd_add]
      omega)
    have hd1 : hd S (v + 1) fr = hd S v (ent S (v + 1) fr) := rfl
    have hd2 : hd S (v + 1) to = hd S v (ent S (v + 1) to) := rfl
    rw [hd1, hd2]
    obtain ⟨y, rfl⟩ : ∃ y, x = off S v + y := ⟨x - off S v, by omega⟩
    rw [show tot S - (off S v + y) = (ent S (v + 1) fr - y) + ((ent S (v + 1) to - ent S (v + 1) fr) + ((S (3 + v) - ent S (v + 1) to) + (tot S - nd S v 0))) by omega]
    rw [sumN_add, sumN_add, sumN_add, sumN_0 (n := ent S (v + 1) fr - y) (fun k hk => ?_), sumN_0 (n := S (3 + v) - ent S (v + 1) to) (fun k hk => ?_)]
    · have a1 : sumN (fun k => if hd S v (ent S (v + 1) fr) ≤ Hd (off S v + y + (ent S (v + 1) fr - y + k)) ∧ Hd (off S v + y + (ent S (v + 1) fr - y + k)) < hd S v (ent S (v + 1) to) then S (350 + Hd (off S v + y + (ent S (v + 1) fr - y + k))) else 0) (ent S (v + 1) to - ent S (v + 1) fr) = wlev S v (ent S (v + 1) fr) (ent S (v + 1) to) := by
        unfold wlev
        refine sumN_congr (fun k hk => ?_)
        show (if hd S v (ent S (v + 1) fr) ≤ Hd (off S v + y + (ent S (v + 1) fr - y + k)) ∧ Hd (off S v + y + (ent S (v + 1) fr - y + k)) < hd S v (ent S (v + 1) to) then S (350 + Hd (off S v + y + (ent S (v + 1) fr - y + k))) else 0) = S (350 + hd S v (ent S (v + 1) fr + k))
        rw [show off S v + y + (ent S (v + 1) fr - y + k) = off S v + (ent S (v + 1) fr + k) by omega, hH v hv' _ (by omega), if_pos ⟨hd_le h hv' (by omega) (by omega), hd_lt h hv' (by omega) (by omega)⟩]
      have a2 : sumN (fun k => if hd S v (ent S (v + 1) fr) ≤ Hd (off S v + y + (ent S (v + 1) fr - y + (ent S (v + 1) to - ent S (v + 1) fr + (S (3 + v) - ent S (v + 1) to + k)))) ∧ Hd (off S v + y + (ent S (v + 1) fr - y + (ent S (v + 1) to - ent S (v + 1) fr + (S (3 + v) - ent S (v + 1) to + k)))) < hd S v (ent S (v + 1) to) then S (350 + Hd (off S v + y + (ent S (v + 1) fr - y + (ent S (v + 1) to - ent S (v + 1) fr + (S (3 + v) - ent S (v + 1) to + k))))) else 0) (tot S - nd S v 0) = wsum S v (ent S (v + 1) fr) (ent S (v + 1) to) := by
        rw [← ih]
        refine sumN_congr (fun k hk => ?_)
        show (if hd S v (ent S (v + 1) fr) ≤ Hd (off S v + y + (ent S (v + 1) fr - y + (ent S (v + 1) to - ent S (v + 1) fr + (S (3 + v) - ent S (v + 1) to + k)))) ∧ Hd (off S v + y + (ent S (v + 1) fr - y + (ent S (v + 1) to - ent S (v + 1) fr + (S (3 + v) - ent S (v + 1) to + k)))) < hd S v (ent S (v + 1) to) then S (350 + Hd (off S v + y + (ent S (v + 1) fr - y + (ent S (v + 1) to - ent S (v + 1) fr + (S (3 + v) - ent S (v + 1) to + k))))) else 0) = _
        rw [show off S v + y + (ent S (v + 1) fr - y + (ent S (v + 1) to - ent S (v + 1) fr + (S (3 + v) - ent S (v + 1) to + k))) = nd S v 0 + k by omega]
      have a3 : wsum S (v + 1) fr to = wlev S v (ent S (v + 1) fr) (ent S (v + 1) to) + wsum S v (ent S (v + 1) fr) (ent S (v + 1) to) := rfl
      rw [a3, ← a1, ← a2]
      omega
    · show (if hd S v (ent S (v + 1) fr) ≤ Hd (off S v + y + (ent S (v + 1) fr - y + (ent S (v + 1) to - ent S (v + 1) fr + k))) ∧ Hd (off S v + y + (ent S (v + 1) fr - y + (ent S (v + 1) to - ent S (v + 1) fr + k))) < hd S v (ent S (v + 1) to) then S (350 + Hd (off S v + y + (ent S (v + 1) fr - y + (ent S (v + 1) to - ent S (v + 1) fr + k)))) else 0) = 0
      rw [show off S v + y + (ent S (v + 1) fr - y + (ent S (v + 1) to - ent S (v + 1) fr + k)) = off S v + (ent S (v + 1) to + k) by omega, hH v hv' _ (by omega), if_neg (fun q => by
        have := hd_le h hv' (show ent S (v + 1) to ≤ ent S (v + 1) to + k by omega) (by omega)
        omega)]
    · show (if hd S v (ent S (v + 1) fr) ≤ Hd (off S v + y + k) ∧ Hd (off S v + y + k) < hd S v (ent S (v + 1) to) then S (350 + Hd (off S v + y + k)) else 0) = 0
      rw [show off S v + y + k = off S v + (y + k) by omega, hH v hv' _ (by omega), if_neg (fun q => by
        have := hd_lt h hv' (show y + k < ent S (v + 1) fr by omega) (by omega)
        omega)]
/-! the reference -/
section
variable {S : Nat → Nat}
theorem len_n {al : Int32} {w : Nat} (hw : w < 48) : M_lengthOf (nf S) al (nI w) = some (nI (S (350 + w))) := by
  unfold M_lengthOf
  rw [show (48 : Int32) = nI 48 from rfl, ie (by omega) (by decide), if_neg (by omega)]
  show ga (nI 350 + nI w) 1552 (some (nf S (nI 350 + nI w).toNatClampNeg)) = _
  rw [nI_add, ga_j (by omega) (by decide), nI_clamp (by omega)]
  rfl
theorem beneath_n (h : WF S) {v p : Nat} (hv : v < S 2) (hp : p < S (3 + v)) : M_wordsBeneath (nf S) (nI v) (nI p) = some (nI (hd S v (p + 1) - hd S v p)) := by
  unfold M_wordsBeneath
  rw [nI_p1, headOf_n h.1 hv (by omega), bd1_in, headOf_n h.1 hv (by omega), bd1_in, pk_sub (hd_le h hv (by omega) (by omega))]
theorem sgs_le (h : WF S) {w : Nat} (hw : w < S 0) : S (350 + w) ≤ 24 := (h.2.2.2.2.1 w hw).2.1
theorem wlev_L (h : WF S) {v : Nat} (hv : v < S 2) (al w1 w2 w7 : Int32) (hw7 : w7 - 1 = nI v) {fr to : Nat} (hto : to ≤ S (3 + v)) (k : Int32 → Int32 → Int32 → Int32 → Option Int32) (v5 : Int32) (acc : Nat) : ∀ (d e n : Nat), fr + e + d = to → d < n → M_weight_L83 (nf S) al w1 w2 k n (nI (acc + sumN (fun e => S (350 + hd S v (fr + e))) e)) v5 (nI to) w7 (nI (fr + e)) = k (nI (acc + wlev S v fr to)) v5 (nI to) w7 := by
  intro d
  have hpg := (h.1.2.2 v hv).1
  have h48 := h.1.2.1
  induction d with
  | zero =>
    intro e n he hn
    obtain ⟨n, rfl⟩ : ∃ m, n = m + 1 := ⟨n - 1, by omega⟩
    rw [M_weight_L83, il (by omega) (by omega), if_pos (by omega)]
    unfold wlev
    rw [show to - fr = e by omega]
  | succ d ih =>
    intro e n he hn
    obtain ⟨n, rfl⟩ : ∃ m, n = m + 1 := ⟨n - 1, by omega⟩
    have hlt := hd_lt0 h hv (show fr + e < S (3 + v) by omega)
    rw [M_weight_L83, il (by omega) (by omega), if_neg (by omega), hw7, headOf_n h.1 hv (by omega), bd1_in, len_n (by omega), bd1_in, nI_add, nI_p1]
    have := ih (e + 1) n (by omega) (by omega)
    rw [sumN, ← Nat.add_assoc] at this
    exact this
theorem wsum_L (h : WF S) (al w1 w2 : Int32) (k : Int32 → Option Int32) : ∀ (v fr to acc n : Nat), v < S 2 → fr ≤ to → to ≤ S (3 + v) → v < n → M_weight_L54 (nf S) al w1 w2 k n (nI acc) (nI fr) (nI to) (nI v) = k (nI (acc + wsum S v fr to))
  | 0, fr, to, acc, n, hv, hft, hto, hn => by
    obtain ⟨n, rfl⟩ : ∃ m, n = m + 1 := ⟨n - 1, by omega⟩
    rw [M_weight_L54, if_pos (by decide)]
    rfl
  | v + 1, fr, to, acc, n, hv, hft, hto, hn => by
    obtain ⟨n, rfl⟩ : ∃ m, n = m + 1 := ⟨n - 1, by omega⟩
    have h6 := h.1.1
    have hpg := (h.1.2.2 (v + 1) hv).1
    have hpg' := (h.1.2.2 v (by omega)).1
    have m1 := ent_mono S (v + 1) hft
    have m2 : ent S (v + 1) to ≤ S (3 + v) := by
      have := ent_le h.1 hv hto
      unfold bel at this
      rw [if_neg (by omega), show v + 1 - 1 = v by omega] at this
      exact this
    rw [M_weight_L54, if_neg (nI_nle (by omega) (by omega)), entriesAhead_n (by omega) (by omega), bd1_in, entriesAhead_n (by omega) (by omega), bd1_in]
    have e := wlev_L h (v := v) (by omega) al w1 w2 (nI (v + 1)) (nI_pred v) (fr := ent S (v + 1) fr) (to := ent S (v + 1) to) m2 (fun v4 v5 v6 v7 => M_weight_L54 (nf S) al w1 w2 k n v4 v5 v6 (v7 + (-1))) (nI (ent S (v + 1) fr)) acc (ent S (v + 1) to - ent S (v + 1) fr) 0 FU (by omega) (by have : FU = 20000 := rfl; omega)
    rw [show acc + sumN (fun e => S (350 + hd S v (ent S (v + 1) fr + e))) 0 = acc from rfl, show ent S (v + 1) fr + 0 = ent S (v + 1) fr from rfl] at e
    rw [e]
    show M_weight_L54 (nf S) al w1 w2 k n (nI (acc + wlev S v (ent S (v + 1) fr) (ent S (v + 1) to))) (nI (ent S (v + 1) fr)) (nI (ent S (v + 1) to)) (nI (v + 1) + (-1)) = _
    rw [pk_m1, wsum_L h al w1 w2 k v _ _ _ n (by omega) m1 m2 (by omega)]
    show _ = k (nI (acc + (wlev S v (ent S (v + 1) fr) (ent S (v + 1) to) + wsum S v (ent S (v + 1) fr) (ent S (v + 1) to))))
    rw [Nat.add_assoc]
theorem weight_n (h : WF S) (al : Int32) {v p : Nat} (hv : v < S 2) (hp : p < S (3 + v)) : M_weight (nf S) al (nI v) (nI p) = some (nI (wgt S v p)) := by
  have h48 := h.1.2.1
  have h6 := h.1.1
  have hpg := (h.1.2.2 v hv).1
  have hle := hd_le h hv (show p ≤ p + 1 by omega) (show p + 1 ≤ S (3 + v) by omega)
  have hall := hd_le h hv (show p + 1 ≤ S (3 + v) by omega) (Nat.le_refl _)
  rw [hd_all h hv] at hall
  have key : ∀ (k : Int32 → Option Int32) (d e n : Nat), hd S v p + e + d = hd S v (p + 1) → d < n → M_weight_L13 (nf S) al (nI v) (nI p) k n (nI (hd S v p)) (nI (sumN (fun k => S (350 + (hd S v p + k))) e)) (nI (hd S v p + e)) = k (nI (sumN (fun k => S (350 + (hd S v p + k))) (hd S v (p + 1) - hd S v p))) := by
    intro k d
    induction d with
    | zero =>
      intro e n he hn
      obtain ⟨n, rfl⟩ : ∃ m, n = m + 1 := ⟨n - 1, by omega⟩
      rw [M_weight_L13, beneath_n h hv hp, bd1_in, nI_add, il (by omega) (by omega), if_pos (by omega), show hd S v (p + 1) - hd S v p = e by omega]
    | succ d ih =>
      intro e n he hn
      obtain ⟨n, rfl⟩ : ∃ m, n = m + 1 := ⟨n - 1, by omega⟩
      rw [M_weight_L13, beneath_n h hv hp, bd1_in, nI_add, il (by omega) (by omega), if_neg (by omega), len_n (by omega), bd1_in, nI_add, nI_p1]
      exact ih (e + 1) n (by omega) (by omega)
  unfold M_weight
  rw [headOf_n h.1 hv (by omega), bd1_in]
  refine (key _ (hd S v (p + 1) - hd S v p) 0 FU (by omega) (by have : FU = 20000 := rfl; omega)).trans ?_
  show M_weight_L54 (nf S) al (nI v) (nI p) _ FU (nI _) (nI p) (nI p + 1) (nI v) = _
  rw [nI_p1, wsum_L h al (nI v) (nI p) _ v p (p + 1) _ FU hv (by omega) (by omega) (by have : FU = 20000 := rfl; omega)]
  rfl
end
/-! the class -/
section
variable {a : Nat → Nat} {LW : List Nat} {S : Nat → Nat} {ch cf cl ca cp cc cpg clv cm cs : Nat → Int32} {cbits : Nat → Nat → Int64} {cw : Nat → Nat → Nat} {ce : Nat → Nat → Int32}
theorem endOf_c (h : WX S) (hc : Cpl LW S (a 14) cc cpg clv cm cs cbits cw ce) (hs : Stl S ch cf cl ca cp) {v p : Nat} (hv : v < S 2) (hp : p < S (3 + v)) : C0_endOf a ch cl cc cpg (nI (off S v + p)) = some (nI (hd S v (p + 1))) := by
  have ht := (tot_le h).1
  have h1 := off_tot (S := S) hv
  have hpn := pageno h hv hp
  unfold C0_endOf
  rw [hc.2.1, nI_p1, il (by omega) (by omega)]
  by_cases cn : p + 1 < S (3 + v)
  · have hpn2 := pageno h hv cn
    rw [if_neg (by omega), show off S v + p + 1 = off S v + (p + 1) by omega, levelAt_any hpn2, bd1_in, levelAt_any hpn, bd1_in, (hs.1 v hv (p + 1) cn).2.2.1, (hs.1 v hv p hp).2.2.1, if_pos rfl]
    unfold C0_endOf_J33
    rw [if_neg (by decide), nI_p1, show off S v + p + 1 = off S v + (p + 1) by omega, headOf_c (by omega) (hs.1 v hv (p + 1) cn).2.1, bd1_in]
  · have ep : p + 1 = S (3 + v) := by omega
    have eend : C0_endOf_J33 a ch cl cc cpg (nI (off S v + p)) 0 = some (nI (hd S v (p + 1))) := by
      unfold C0_endOf_J33
      rw [if_pos rfl, hc.1, ep, hd_all h.1 hv]
    by_cases c0 : v = 0
    · have et := tot_off (S := S) (by omega)
      rw [c0] at ep
      have : S (3 + 0) = S 3 := rfl
      rw [c0] at eend
      rw [c0, if_pos (by omega)]
      exact eend
    · obtain ⟨u, rfl⟩ : ∃ u, v = u + 1 := ⟨v - 1, by omega⟩
      have eo := off_step (S := S) (v := u) hv
      have e43 : 4 + u = 3 + (u + 1) := by omega
      rw [e43] at eo
      have hu := h.1.2.1 u (by omega)
      have hl := (hs.1 u (by omega) 0 (by omega)).2.2.1
      have hpn2 := pageno h (show u < S 2 by omega) (show 0 < S (3 + u) by omega)
      have h2 := off_tot (S := S) (show u < S 2 by omega)
      rw [if_neg (by omega), show off S (u + 1) + p + 1 = off S u + 0 by omega, levelAt_any hpn2, bd1_in, levelAt_any hpn, bd1_in, hl, (hs.1 (u + 1) hv p hp).2.2.1, ie (by have := h.1.1.1; omega) (by have := h.1.1.1; omega), if_neg (by omega)]
      exact eend
theorem weightOf_c (h : WX S) (hc : Cpl LW S (a 14) cc cpg clv cm cs cbits cw ce) (hs : Stl S ch cf cl ca cp) {v p : Nat} (hv : v < S 2) (hp : p < S (3 + v)) : C0_weightOf a LW ch cf cl cs cc cpg cw (nI (off S v + p)) = some (nI (wgt S v p)) := by
  have ht := (tot_le h).1
  have hpn := pageno h hv hp
  have h48 := h.1.1.2.1
  have hle := hd_le h.1 hv (show p ≤ p + 1 by omega) (show p + 1 ≤ S (3 + v) by omega)
  have hall := hd_le h.1 hv (show p + 1 ≤ S (3 + v) by omega) (Nat.le_refl _)
  rw [hd_all h.1 hv] at hall
  have hH : ∀ v, v < S 2 → ∀ p, p < S (3 + v) → unf ch (off S v + p) = hd S v p := fun v hv p hp => unf_n (hs.1 v hv p hp).2.1 (by have := hd_lt0 h.1 hv hp; omega)
  have key1 : ∀ (k : Int32 → Int32 → Int32 → Option Int32) (d e n : Nat), hd S v p + e + d = hd S v (p + 1) → d < n → C0_weightOf_L18 a LW ch cf cl cs cc cpg cw (nI (off S v + p)) k n (nI (hd S v p)) (nI (hd S v (p + 1))) (nI (sumN (fun k => S (350 + (hd S v p + k))) e)) (nI (hd S v p + e)) = k (nI (hd S v p)) (nI (hd S v (p + 1))) (nI (sumN (fun k => S (350 + (hd S v p + k))) (hd S v (p + 1) - hd S v p))) := by
    intro k d
    induction d with
    | zero =>
      intro e n he hn
      obtain ⟨n, rfl⟩ : ∃ m, n = m + 1 := ⟨n - 1, by omega⟩
      rw [C0_weightOf_L18, il (by omega) (by omega), if_pos (by omega), show hd S v (p + 1) - hd S v p = e by omega]
    | succ d ih =>
      intro e n he hn
      obtain ⟨n, rfl⟩ : ∃ m, n = m + 1 := ⟨n - 1, by omega⟩
      have hm := hc.2.2.2.2.2.1 (hd S v p + e) (by omega)
      rw [C0_weightOf_L18, il (by omega) (by omega), if_neg (by omega), wordAt_n (by omega) hm, bd1_in, gm_in hm, (hc.2.2.2.2.2.2.2 (hd S v p + e) (by omega)).1, nI_add, nI_p1]
      exact ih (e + 1) n (by omega) (by omega)
  have key2 : ∀ (acc x d t n : Nat), x + t + d = tot S → d < n → C0_weightOf_L54 a LW ch cf cl cs cc cpg cw (nI (off S v + p)) (fun v4 => some v4) n (nI (hd S v p)) (nI (hd S v (p + 1))) (nI (acc + sumN (fun t => if hd S v p ≤ unf ch (x + t) ∧ unf ch (x + t) < hd S v (p + 1) then S (350 + unf ch (x + t)) else 0) t)) (nI (x + t)) = some (nI (acc + sumN (fun t => if hd S v p ≤ unf ch (x + t) ∧ unf ch (x + t) < hd S v (p + 1) then S (350 + unf ch (x + t)) else 0) (tot S - x))) := by
    intro acc x d
    induction d with
    | zero =>
      intro t n he hn
      obtain ⟨n, rfl⟩ : ∃ m, n = m + 1 := ⟨n - 1, by omega⟩
      rw [C0_weightOf_L54, hc.2.1, il (by omega) (by omega), if_pos (by omega), show tot S - x = t by omega]
    | succ d ih =>
      intro t n he hn
      obtain ⟨n, rfl⟩ : ∃ m, n = m + 1 := ⟨n - 1, by omega⟩
      obtain ⟨u, q, hu, hq, eq⟩ := page_of h.1 (show x + t < tot S by omega)
      have hch := (hs.1 u hu q hq).2.1
      have hun := hH u hu q hq
      have hlt := hd_lt0 h.1 hu hq
      have hpq := pageno h hu hq
      rw [← eq] at hch hun hpq
      have ih := ih (t + 1) n (by omega) (by omega)
      rw [sumN, hun] at ih
      rw [C0_weightOf_L54, hc.2.1, il (by omega) (by omega), if_neg (by omega), headOf_c (by omega) hch, bd1_in, ilt (by omega) (by omega), nI_p1]
      by_cases c1 : hd S u q < hd S v p
      · rw [if_neg (by omega), Nat.add_zero] at ih
        rw [if_pos c1]
        exact ih
      · rw [if_neg c1, bd1_in, il (by omega) (by omega)]
        by_cases c2 : hd S v (p + 1) ≤ hd S u q
        · rw [if_neg (by omega), Nat.add_zero] at ih
          rw [if_pos c2]
          exact ih
        · have hm := hc.2.2.2.2.2.1 (hd S u q) (by omega)
          rw [if_pos (by omega)] at ih
          rw [if_neg c2, headWord_n (by omega) hch (by omega) hm, bd1_in, gm_in hm, (hc.2.2.2.2.2.2.2 _ hlt).1, nI_add, Nat.add_assoc]
          exact ih
  unfold C0_weightOf
  rw [headOf_c (by omega) (hs.1 v hv p hp).2.1, bd1_in, endOf_c h hc hs hv hp, bd1_in]
  refine (key1 _ (hd S v (p + 1) - hd S v p) 0 FU (by omega) (by have : FU = 20000 := rfl; omega)).trans ?_
  show bd1 (C0_firstOf cf (nI (off S v + p))) _ = _
  rw [firstOf_n hpn (hs.1 v hv p hp).1, bd1_in]
  by_cases cx : nd S v (ent S v p) ≤ tot S
  · refine (key2 _ (nd S v (ent S v p)) (tot S - nd S v (ent S v p)) 0 FU (by omega) (by have : FU = 20000 := rfl; omega)).trans ?_
    rw [wsum_s h.1 hH v p (p + 1) (nd S v (ent S v p)) hv (by omega) (by omega) (by
      have := nd_add S v 0 (ent S v p)
      rw [Nat.zero_add] at this
      omega) (Nat.le_refl _)]
    rfl
  · have hws : wsum S v p (p + 1) = 0 := by
      have := wsum_s h.1 hH v p (p + 1) (nd S v (ent S v p)) hv (by omega) (by omega) (by
        have := nd_add S v 0 (ent S v p)
        rw [Nat.zero_add] at this
        omega) (Nat.le_refl _)
      rw [show tot S - nd S v (ent S v p) = 0 by omega] at this
      exact this.symm
    have hnd := (nd_le h hv (e := ent S v p) (by have := pgv h.1 hv hp; omega)).1
    have : FU = 19999 + 1 := rfl
    rw [this, C0_weightOf_L54, hc.2.1, il (by omega) (by omega), if_pos (by omega)]
    unfold wgt
    rw [hws]
    rfl
end
