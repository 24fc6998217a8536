/-! an entry fewer: the reference's and the class's loops side by side -/
/-- the flat row, but for one page that has an entry more there -/
def FlatP (S E : Nat → Nat) (v p : Nat) : Prop := ∀ u, u < S 2 → ∀ q, q < S (3 + u) → E (off S u + q) = S (12 + 48 * u + q) + (if u = v ∧ q = p then 1 else 0)
section
variable {S E : Nat → Nat} {v p : Nat}
theorem off_inj {u q : Nat} (hu : u < S 2) (hq : q < S (3 + u)) (hv : v < S 2) (hp : p < S (3 + v)) (h : off S u + q = off S v + p) : u = v ∧ q = p := by
  rcases Nat.lt_trichotomy u v with y | y | y
  · have := off_lt (S := S) y hv; omega
  · subst y; exact ⟨rfl, by omega⟩
  · have := off_lt (S := S) y hu; omega
theorem flatP_set (hv : v < S 2) (hp : p < S (3 + v)) (h : FlatP S E v p) : Flat S (un E (off S v + p) (S (12 + 48 * v + p))) := by
  intro u hu q hq
  by_cases c : u = v ∧ q = p
  · rw [c.1, c.2, un_s]
  · rw [un_n (fun z => c (off_inj hu hq hv hp z)), h u hu q hq, if_neg c, Nat.add_zero]
theorem flat_share {f x y : Nat} (h6 : S 2 ≤ 6) (hv : v < S 2) (hf : f + 1 < S (3 + v)) (hpg : ∀ u, u < S 2 → S (3 + u) ≤ 48) (h : Flat S E) {S2 : Nat → Nat} (hlo : ∀ j, j < 12 → S2 j = S j) (hsz : ∀ u q, q < 48 → S2 (12 + 48 * u + q) = if u = v ∧ q = f then x else if u = v ∧ q = f + 1 then y else S (12 + 48 * u + q)) : Flat S2 (un (un E (off S v + f) x) (off S v + f + 1) y) := by
  intro u hu q hq
  rw [hlo 2 (by decide)] at hu
  rw [hlo (3 + u) (by omega)] at hq
  have hp := hpg u hu
  have ho : off S2 u = off S u := off_eq (fun j h1 h2 => hlo j (by omega)) h6 u
  rw [ho, hsz u q (by omega)]
  by_cases c2 : u = v ∧ q = f + 1
  · rw [if_neg (by omega), if_pos c2, c2.1, c2.2, show off S v + (f + 1) = off S v + f + 1 by omega, un_s]
  · rw [un_n (fun z => c2 (off_inj hu hq hv hf (by omega)))]
    by_cases c1 : u = v ∧ q = f
    · rw [if_pos c1, c1.1, c1.2, un_s]
    · rw [un_n (fun z => c1 (off_inj hu hq hv (by omega) z)), if_neg c1, if_neg c2]
      exact h u hu q hq
end
section
variable {a : Nat → Nat} {LK : List Nat} {S E : Nat → Nat} {M : Nat} {cf cm cpg : Nat → Int32} {ce : Nat → Nat → Int32}
theorem joins_c {v p up f : Nat} (hcm : cm (a 14) = nI M) (hM : M ≤ 8) (hcp : cpg (a 14) = nI (tot S)) (ht : tot S ≤ 48) (hce : ce (a 14) = nf E) (hE : Flat S E) (hv : v + 1 < S 2) (hup : up < S (3 + (v + 1))) (hsz : ∀ u q, u < S 2 → q < S (3 + u) → S (12 + 48 * u + q) ≤ M) (hcf : cf (off S (v + 1) + up) = nI (off S v + ent S (v + 1) up)) (hent : ent S (v + 1) (up + 1) ≤ 48) (h2 : 2 ≤ S (12 + 48 * (v + 1) + up)) (hp1 : ent S (v + 1) up ≤ p) (hp2 : p < ent S (v + 1) (up + 1)) (hf : f = if p + 1 = ent S (v + 1) (up + 1) then p - 1 else p) (hfp : f + 1 < S (3 + v)) :
    C0_joins a cf cm cpg ce (nI (off S v + p)) (nI (off S (v + 1) + up)) = if M < S (12 + 48 * v + f) + S (12 + 48 * v + (f + 1)) then some (0, cpg, va_up ce (a 14) (nf (un (un E (off S v + f) ((S (12 + 48 * v + f) + S (12 + 48 * v + (f + 1)) + 1) / 2)) (off S v + f + 1) ((S (12 + 48 * v + f) + S (12 + 48 * v + (f + 1))) / 2)))) else some (1, va_up cpg (a 14) (nI (tot S - 1)), va_up ce (a 14) (nf (shl (un E (off S v + f) (S (12 + 48 * v + f) + S (12 + 48 * v + (f + 1)))) (off S v + f + 1) (tot S - 1)))) := by
  have hov := off_tot (S := S) (v := v) (by omega)
  have hou := off_tot (S := S) (v := v + 1) hv
  have hzu := hsz (v + 1) up hv hup
  have hz1 := hsz v f (by omega) (by omega)
  have hz2 := hsz v (f + 1) (by omega) hfp
  have hpS : p < S (3 + v) := by
    by_cases c : p + 1 = ent S (v + 1) (up + 1)
    · rw [if_pos c] at hf; omega
    · rw [if_neg c] at hf; omega
  have key : C0_joins_J37 a cf cm (nI (off S v + p)) (nI (off S (v + 1) + up)) cpg ce (nI (off S v + f)) = if M < S (12 + 48 * v + f) + S (12 + 48 * v + (f + 1)) then some (0, cpg, va_up ce (a 14) (nf (un (un E (off S v + f) ((S (12 + 48 * v + f) + S (12 + 48 * v + (f + 1)) + 1) / 2)) (off S v + f + 1) ((S (12 + 48 * v + f) + S (12 + 48 * v + (f + 1))) / 2)))) else some (1, va_up cpg (a 14) (nI (tot S - 1)), va_up ce (a 14) (nf (shl (un E (off S v + f) (S (12 + 48 * v + f) + S (12 + 48 * v + (f + 1)))) (off S v + f + 1) (tot S - 1)))) := by
    have e1 : ce (a 14) (off S v + f) = nI (S (12 + 48 * v + f)) := by rw [hce, nf_a, hE v (by omega) f (by omega)]
    have e2 : ce (a 14) (off S v + f + 1) = nI (S (12 + 48 * v + (f + 1))) := by rw [hce, nf_a, show off S v + f + 1 = off S v + (f + 1) by omega, hE v (by omega) (f + 1) hfp]
    unfold C0_joins_J37
    rw [entriesOf_n hcp (by omega) ht e1, bd1_in, nI_p1, entriesOf_n hcp (by omega) ht e2, bd1_in, hcm, nI_add, ilt (by omega) (by omega)]
    by_cases c : M < S (12 + 48 * v + f) + S (12 + 48 * v + (f + 1))
    · rw [if_pos c, if_pos c, nI_l2, pk_div (by omega) (by decide) (by decide), pk_sub (by omega), setEntries_n (E := E) hcp (by omega) ht hce, bd1_in, setEntries_n (E := un E (off S v + f) _) hcp (by omega) ht vu_s, bd1_in, bx_uu, show S (12 + 48 * v + f) + S (12 + 48 * v + (f + 1)) - (S (12 + 48 * v + f) + S (12 + 48 * v + (f + 1))) / 2 = (S (12 + 48 * v + f) + S (12 + 48 * v + (f + 1)) + 1) / 2 by omega]
    · rw [if_neg c, if_neg c, setEntries_n (E := E) hcp (by omega) ht hce, bd1_in, removePage_n (E := un E (off S v + f) _) hcp (by omega) ht vu_s, bd2_in, bx_uu]
  have e3 : ce (a 14) (off S (v + 1) + up) = nI (S (12 + 48 * (v + 1) + up)) := by rw [hce, nf_a, hE (v + 1) hv up hup]
  unfold C0_joins
  rw [firstOf_n (by omega) hcf, bd1_in, entriesOf_n hcp (by omega) ht e3, bd1_in, nI_add]
  have e4 : nI (off S v + ent S (v + 1) up + S (12 + 48 * (v + 1) + up)) - 1 = nI (off S v + ent S (v + 1) up + S (12 + 48 * (v + 1) + up) - 1) := pk_sub (b := 1) (by omega)
  have e5 := ent_s S (v + 1) up
  rw [e4, ie (by omega) (by omega)]
  by_cases c : p + 1 = ent S (v + 1) (up + 1)
  · rw [if_pos c] at hf
    rw [if_pos (by omega)]
    unfold C0_joins_J25
    rw [if_neg (by decide)]
    have e6 : nI (off S v + p) - 1 = nI (off S v + f) := by
      rw [hf, show off S v + (p - 1) = off S v + p - 1 by omega]
      exact pk_sub (b := 1) (by omega)
    rw [e6]
    exact key
  · rw [if_neg c] at hf
    rw [if_neg (by omega)]
    unfold C0_joins_J25
    rw [if_pos rfl, ← hf]
    rw [← hf] at key
    exact key
theorem shrink_n (hk : LKok a LK) (hM4 : 4 ≤ M) (hM8 : M ≤ 8) (wp : Nat → Nat) {clv cpage : Nat → Int32} (hcm : cm (a 14) = nI M) (ma : Nat → Int32) (mal : Int32) (h1 f1 f2 f3 w1 w2 w3 w4 w5 w6 : Nat → Int32) (e1 e2 e3 e4 e5 e6 : Int32) (k : (Nat → Int32) → (Nat → Int32) → (Nat → Int32) → (Nat → Int32) → (Nat → Int32) → (Nat → Int32) → (Nat → Int32) → (Nat → Int32) → (Nat → Int32) → (Nat → Int32) → (Nat → Int32) → Int32 → Int32 → Int32 → Int32 → Int32 → Int32 → Option ((Nat → Int32) × (Nat → Int32) × (Nat → Int32) × (Nat → Int32) × (Nat → Int32) × (Nat → Int32) × (Nat → Int32) × (Nat → Int32) × (Nat → Int32) × (Nat → Int32) × (Nat → Int32) × Int32 × Int32 × Int32 × Int32 × Int32 × Int32)) :
    ∀ (d v n m : Nat) (S E : Nat → Nat) (cpg : Nat → Int32) (ce : Nat → Nat → Int32), v + d + 1 = S 2 → SHR S v (wp v) → S 1 = M → wp v < S (3 + v) → (∀ u q, u < S 2 → q < S (3 + u) → S (12 + 48 * u + q) ≤ M) → (∀ u, v ≤ u → u + 1 < S 2 → wp (u + 1) < S (3 + (u + 1)) ∧ ent S (u + 1) (wp (u + 1)) ≤ wp u ∧ wp u < ent S (u + 1) (wp (u + 1) + 1)) → FlatP S E v (wp v) → cpg (a 14) = nI (tot S) → tot S ≤ 48 → clv (a 14) = nI (S 2) → ce (a 14) = nf E → (∀ u, v ≤ u → u < S 2 → cpage (a (30 + u)) = nI (off S u + wp u)) → (∀ u, v ≤ u → u + 1 < S 2 → cf (off S (u + 1) + wp (u + 1)) = nI (off S u + ent S (u + 1) (wp (u + 1)))) → d + 2 < n → d + 2 < m →
    ∃ (S' E' : Nat → Nat) (cpg' : Nat → Int32) (ce' : Nat → Nat → Int32), M_takes_L147 ma mal k n (nf S) h1 f1 f2 f3 w1 w2 w3 w4 w5 w6 e1 e2 e3 e4 e5 e6 (nI (wp v)) (nI v) 1 = k (nf S') h1 f1 f2 f3 w1 w2 w3 w4 w5 w6 e1 e2 e3 e4 e5 e6 ∧ C0_shrinkUpwards_L4 a LK cf clv cm cpage (fun c_pages c_entries => some (c_pages, c_entries)) m cpg ce 1 (nI v) = some (cpg', ce') ∧ SHD S' ∧ S' 2 = S 2 ∧ (∀ u q, u < S' 2 → q < S' (3 + u) → S' (12 + 48 * u + q) ≤ M) ∧ (∀ j, j < 3 ∨ 348 ≤ j → S' j = S j) ∧ cpg' (a 14) = nI (tot S') ∧ tot S' ≤ 48 ∧ ce' (a 14) = nf E' ∧ Flat S' E' ∧ ∀ z, z ≠ a 14 → cpg' z = cpg z ∧ ce' z = ce z := by
  intro d
  induction d with
  | zero =>
    intro v n m S E cpg ce hv hS hS1 hp hsz hpar hF hcp ht hcl hce hpa hcf hn hm
    obtain ⟨n, rfl⟩ : ∃ t, n = t + 2 := ⟨n - 2, by omega⟩
    obtain ⟨m, rfl⟩ : ∃ t, m = t + 2 := ⟨m - 2, by omega⟩
    have h6 := hS.1.1
    have hot := off_tot (S := S) (v := v) (by omega)
    have hEp := hF v (by omega) _ hp
    rw [if_pos ⟨rfl, rfl⟩] at hEp
    have hzv := hsz v (wp v) (by omega) hp
    refine ⟨S, un E (off S v + wp v) (S (12 + 48 * v + wp v)), cpg, va_up ce (a 14) (nf (un E (off S v + wp v) (S (12 + 48 * v + wp v)))), ?_, ?_, shr_end hS (fun q => absurd q (by omega)), rfl, hsz, fun _ _ => rfl, hcp, ht, vu_s, flatP_set (by omega) hp hF, fun z hz => ⟨rfl, vu_n hz⟩⟩
    · rw [M_takes_L147, if_neg (by decide), topLevel_n (by omega), bd1_in, il (by omega) (by omega), if_pos (by omega)]
    · have e9 : nI (S (12 + 48 * v + wp v) + 1) - 1 = nI (S (12 + 48 * v + wp v)) := pk_sub (b := 1) (by omega)
      have e10 : nI (S 2) - 1 = nI (S 2 - 1) := pk_sub (b := 1) (by omega)
      rw [C0_shrinkUpwards_L4, hcl, il (by omega) (by omega), if_neg (by omega), if_neg (by decide), lookOf_n hk (by omega), bd1_in, gm_in (hk.1 v (by omega)), hpa v (Nat.le_refl _) (by omega), entriesOf_n (x := S (12 + 48 * v + wp v) + 1) hcp (by omega) (by omega) (by rw [hce, nf_a, hEp]), bd1_in, e9, setEntries_n (E := E) hcp (by omega) (by omega) hce, bd1_in, e10, ie (by omega) (by omega), if_pos (by omega), C0_shrinkUpwards_J68, if_neg (by decide), nI_p1, C0_shrinkUpwards_L4, hcl, il (by omega) (by omega), if_pos (by omega)]
  | succ d ih =>
    intro v n m S E cpg ce hv hS hS1 hp hsz hpar hF hcp ht hcl hce hpa hcf hn hm
    obtain ⟨n, rfl⟩ : ∃ t, n = t + 2 := ⟨n - 2, by omega⟩
    obtain ⟨m, rfl⟩ : ∃ t, m = t + 2 := ⟨m - 2, by omega⟩
    have h6 := hS.1.1
    have hot := off_tot (S := S) (v := v) (by omega)
    have hou := off_tot (S := S) (v := v + 1) (by omega)
    have hEp := hF v (by omega) _ hp
    rw [if_pos ⟨rfl, rfl⟩] at hEp
    have hzv := hsz v (wp v) (by omega) hp
    have hFl := flatP_set (by omega) hp hF
    have hpg48 : ∀ u, u < S 2 → S (3 + u) ≤ 48 := fun u hu => (hS.1.2.2 u hu).1
    have e9 : nI (S (12 + 48 * v + wp v) + 1) - 1 = nI (S (12 + 48 * v + wp v)) := pk_sub (b := 1) (by omega)
    have e10 : nI (S 2) - 1 = nI (S 2 - 1) := pk_sub (b := 1) (by omega)
    have e11 : nI M / 2 = nI (M / 2) := pk_div (d := 2) (by omega) (by decide) (by decide)
    have hCrun : C0_shrinkUpwards_L4 a LK cf clv cm cpage (fun c_pages c_entries => some (c_pages, c_entries)) (m + 2) cpg ce 1 (nI v) = C0_shrinkUpwards_J68 a LK cf clv cm cpage (C0_shrinkUpwards_L4 a LK cf clv cm cpage (fun c_pages c_entries => some (c_pages, c_entries)) (m + 1)) (fun c_pages c_entries => some (c_pages, c_entries)) cpg (va_up ce (a 14) (nf (un E (off S v + wp v) (S (12 + 48 * v + wp v))))) (nI v) (nI (off S v + wp v)) (nI (S (12 + 48 * v + wp v))) 0 := by
      rw [C0_shrinkUpwards_L4, hcl, il (by omega) (by omega), if_neg (by omega), if_neg (by decide), lookOf_n hk (by omega), bd1_in, gm_in (hk.1 v (by omega)), hpa v (Nat.le_refl _) (by omega), entriesOf_n (x := S (12 + 48 * v + wp v) + 1) hcp (by omega) (by omega) (by rw [hce, nf_a, hEp]), bd1_in, e9, setEntries_n (E := E) hcp (by omega) (by omega) hce, bd1_in, e10, ie (by omega) (by omega), if_neg (by omega)]
    rw [hCrun, C0_shrinkUpwards_J68, if_pos rfl, hcm, e11, il (by omega) (by omega), M_takes_L147, if_neg (by decide), topLevel_n (by omega), bd1_in, il (by omega) (by omega), if_neg (by omega), sizeOf_n (by omega), bd1_in, nf_a, hS1, e11, il (by omega) (by omega)]
    by_cases hc : M / 2 ≤ S (12 + 48 * v + wp v)
    · refine ⟨S, un E (off S v + wp v) (S (12 + 48 * v + wp v)), cpg, va_up ce (a 14) (nf (un E (off S v + wp v) (S (12 + 48 * v + wp v)))), by rw [if_pos hc], ?_, shr_end hS (fun _ => by omega), rfl, hsz, fun _ _ => rfl, hcp, ht, vu_s, hFl, fun z hz => ⟨rfl, vu_n hz⟩⟩
      rw [if_pos hc, nI_p1, C0_shrinkUpwards_L4, hcl, il (by omega) (by omega), if_neg (by omega), if_pos rfl]
    · rw [if_neg hc, if_neg hc]
      obtain ⟨hup, ho1, ho2⟩ := hpar v (Nat.le_refl _) (by omega)
      have hpu := hpg48 (v + 1) (by omega)
      have hpv := hpg48 v (by omega)
      have hentb := ent_le hS.1 (v := v + 1) (p := wp (v + 1) + 1) (by omega) (by omega)
      have hbelb := bel_le hS.1 (v := v + 1) (by omega)
      have hbel : bel S (v + 1) = S (3 + v) := by unfold bel; rw [if_neg (by omega)]; rfl
      have hes := ent_s S (v + 1) (wp (v + 1))
      have hupz : 2 ≤ S (12 + 48 * (v + 1) + wp (v + 1)) := by
        by_cases c : v + 1 + 1 = S 2
        · have h5 := hS.2.2.2.2 (by omega) (by omega)
          have h3 := hS.2.2.1
          rw [show S 2 - 1 = v + 1 by omega] at h3 h5
          rw [show wp (v + 1) = 0 by omega]
          exact h5
        · exact hS.2.2.2.1 (v + 1) (by omega) _ hup (by omega)
      obtain ⟨f, hf⟩ : ∃ f, f = if wp v + 1 = ent S (v + 1) (wp (v + 1) + 1) then wp v - 1 else wp v := ⟨_, rfl⟩
      have hfp : f + 1 < S (3 + v) ∧ (wp v = f ∨ wp v = f + 1) := by
        by_cases c : wp v + 1 = ent S (v + 1) (wp (v + 1) + 1)
        · rw [if_pos c] at hf; omega
        · rw [if_neg c] at hf; omega
      have hz1 := hsz v f (by omega) (by omega)
      have hz2 := hsz v (f + 1) (by omega) hfp.1
      have hg1 := hS.2.1 (by omega) v (by omega) f (by omega)
      have hg2 := hS.2.1 (by omega) v (by omega) (f + 1) hfp.1
      have hJ := joins_c (a := a) (S := S) (E := un E (off S v + wp v) (S (12 + 48 * v + wp v))) (cf := cf) (cm := cm) (cpg := cpg) (ce := va_up ce (a 14) (nf (un E (off S v + wp v) (S (12 + 48 * v + wp v))))) hcm hM8 hcp ht vu_s hFl (by omega) hup hsz (hcf v (Nat.le_refl _) (by omega)) (by omega) hupz ho1 ho2 hf hfp.1
      -- the reference up to the two sizes
      have hM1 : ∀ N, bd1 (M_over (nf S) (nI v) (nI (wp v))) (fun r180 => bd1 (M_entriesAhead (nf S) (nI v + 1) (r180 + 1)) fun r196 => if (nI (wp v) + 1) = r196 then (M_takes_J207 ma mal (M_takes_L147 ma mal k N) k (nf S) h1 f1 f2 f3 w1 w2 w3 w4 w5 w6 e1 e2 e3 e4 e5 e6 (nI (wp v)) (nI v) r180 1) else (M_takes_J207 ma mal (M_takes_L147 ma mal k N) k (nf S) h1 f1 f2 f3 w1 w2 w3 w4 w5 w6 e1 e2 e3 e4 e5 e6 (nI (wp v)) (nI v) r180 0)) = M_takes_J221 ma mal (M_takes_L147 ma mal k N) k (nf S) h1 f1 f2 f3 w1 w2 w3 w4 w5 w6 e1 e2 e3 e4 e5 e6 (nI v) (nI (wp (v + 1))) (nI f) := by
        intro N
        rw [over_n (by omega) (by omega) ho1 ho2 (by omega), bd1_in, nI_p1, nI_p1, entriesAhead_n (by omega) (by omega), bd1_in, nI_p1, ie (by omega) (by omega)]
        by_cases c : wp v + 1 = ent S (v + 1) (wp (v + 1) + 1)
        · rw [if_pos c] at hf
          have e12 : nI (wp v) - 1 = nI f := by rw [hf]; exact pk_sub (b := 1) (by omega)
          rw [if_pos c, M_takes_J207, if_neg (by decide), e12]
        · rw [if_neg c] at hf
          rw [if_neg c, M_takes_J207, if_pos rfl, hf]
      have hall : nI (S (12 + 48 * v + f)) + nI (S (12 + 48 * v + (f + 1))) = nI (S (12 + 48 * v + f) + S (12 + 48 * v + (f + 1))) := nI_add _ _
      rw [hM1, M_takes_J221, sizeOf_n (by omega), bd1_in, nI_p1, sizeOf_n (by omega), bd1_in, hall, nf_a, hS1, ilt (by omega) (by omega), nI_p1, lookOf_n hk (by omega), bd1_in, gm_in (hk.1 (v + 1) (by omega)), hpa (v + 1) (by omega) (by omega), hJ]
      by_cases hj : M < S (12 + 48 * v + f) + S (12 + 48 * v + (f + 1))
      · -- shared out
        obtain ⟨s1, s2⟩ := shr_share (f := f) (x := (S (12 + 48 * v + f) + S (12 + 48 * v + (f + 1)) + 1) / 2) (y := (S (12 + 48 * v + f) + S (12 + 48 * v + (f + 1))) / 2) hS (by omega) hfp.1 hfp.2 (by omega) (by omega) (by omega)
        obtain ⟨b1, b2, b3⟩ := un_pg (S := un S (12 + 48 * v + f) ((S (12 + 48 * v + f) + S (12 + 48 * v + (f + 1)) + 1) / 2)) (v := v) (p := f + 1) (z := (S (12 + 48 * v + f) + S (12 + 48 * v + (f + 1))) / 2) (by omega)
        obtain ⟨a1, a2, a3⟩ := un_pg (S := S) (v := v) (p := f) (z := (S (12 + 48 * v + f) + S (12 + 48 * v + (f + 1)) + 1) / 2) (by omega)
        have lo : ∀ j, j < 12 → un (un S (12 + 48 * v + f) ((S (12 + 48 * v + f) + S (12 + 48 * v + (f + 1)) + 1) / 2)) (12 + 48 * v + (f + 1)) ((S (12 + 48 * v + f) + S (12 + 48 * v + (f + 1))) / 2) j = S j := fun j hj => by rw [b1 j hj, a1 j hj]
        have hto := tot_eq (S := S) (fun j _ q2 => lo j (by omega)) h6
        refine ⟨un (un S (12 + 48 * v + f) ((S (12 + 48 * v + f) + S (12 + 48 * v + (f + 1)) + 1) / 2)) (12 + 48 * v + (f + 1)) ((S (12 + 48 * v + f) + S (12 + 48 * v + (f + 1))) / 2), un (un (un E (off S v + wp v) (S (12 + 48 * v + wp v))) (off S v + f) ((S (12 + 48 * v + f) + S (12 + 48 * v + (f + 1)) + 1) / 2)) (off S v + f + 1) ((S (12 + 48 * v + f) + S (12 + 48 * v + (f + 1))) / 2), cpg, va_up ce (a 14) (nf (un (un (un E (off S v + wp v) (S (12 + 48 * v + wp v))) (off S v + f) ((S (12 + 48 * v + f) + S (12 + 48 * v + (f + 1)) + 1) / 2)) (off S v + f + 1) ((S (12 + 48 * v + f) + S (12 + 48 * v + (f + 1))) / 2))), ?_, ?_, s1, lo 2 (by decide), fun u q hu hq => ?_, fun j hj2 => ?_, by rw [hto]; exact hcp, by rw [hto]; exact ht, vu_s, flat_share h6 (by omega) hfp.1 hpg48 hFl lo s2, fun z hz => ⟨rfl, vu_n hz⟩⟩
        · have e13 : (nI (S (12 + 48 * v + f) + S (12 + 48 * v + (f + 1))) + 1) / 2 = nI ((S (12 + 48 * v + f) + S (12 + 48 * v + (f + 1)) + 1) / 2) := by
            rw [nI_p1]; exact pk_div (d := 2) (by omega) (by decide) (by decide)
          have e14 : nI (S (12 + 48 * v + f) + S (12 + 48 * v + (f + 1))) / 2 = nI ((S (12 + 48 * v + f) + S (12 + 48 * v + (f + 1))) / 2) := pk_div (d := 2) (by omega) (by decide) (by decide)
          rw [if_pos hj, M_takes_J258, if_pos rfl, M_takes_J280, e13, e14, nI_p1, setSize_n (by omega), bd1_in, setSize_n (by omega), bd1_in, if_pos rfl, M_takes_L147, if_pos rfl]
        · rw [if_pos hj, bd3_in, if_pos rfl, C0_shrinkUpwards_L4, hcl, il (by omega) (by omega), if_neg (by omega), if_pos rfl, bx_uu]
        · rw [lo 2 (by decide)] at hu
          rw [lo (3 + u) (by omega)] at hq
          have := hpg48 u hu
          rw [s2 u q (by omega)]
          by_cases c1 : u = v ∧ q = f
          · rw [if_pos c1]; omega
          · rw [if_neg c1]
            by_cases c2 : u = v ∧ q = f + 1
            · rw [if_pos c2]; omega
            · rw [if_neg c2]; exact hsz u q hu hq
        · rcases hj2 with q | q
          · exact lo j (by omega)
          · rw [b2 j q (by omega), a2 j q (by omega)]
      · -- joined
        have hS2 := shr_join (f := f) (y := (S (12 + 48 * v + f) + S (12 + 48 * v + (f + 1))) / 2) hS (by omega) hfp.1 hfp.2 hup rfl
        obtain ⟨z1, z2, z3⟩ := un_pg (S := jn S v f (S (12 + 48 * v + f) + S (12 + 48 * v + (f + 1))) ((S (12 + 48 * v + f) + S (12 + 48 * v + (f + 1))) / 2)) (v := v + 1) (p := wp (v + 1)) (z := S (12 + 48 * (v + 1) + wp (v + 1)) - 1) (by omega)
        have j2 : jn S v f (S (12 + 48 * v + f) + S (12 + 48 * v + (f + 1))) ((S (12 + 48 * v + f) + S (12 + 48 * v + (f + 1))) / 2) 2 = S 2 := jn_low 2 (Or.inl (by decide)) (by omega) hfp.1 hpv
        have zoff := off_un (S := jn S v f (S (12 + 48 * v + f) + S (12 + 48 * v + (f + 1))) ((S (12 + 48 * v + f) + S (12 + 48 * v + (f + 1))) / 2)) (v := v + 1) (p := wp (v + 1)) (z := S (12 + 48 * (v + 1) + wp (v + 1)) - 1) (by omega) (by omega)
        have ztot := tot_un (S := jn S v f (S (12 + 48 * v + f) + S (12 + 48 * v + (f + 1))) ((S (12 + 48 * v + f) + S (12 + 48 * v + (f + 1))) / 2)) (v := v + 1) (p := wp (v + 1)) (z := S (12 + 48 * (v + 1) + wp (v + 1)) - 1) (by omega) (by omega)
        have jtot := tot_jn (x := S (12 + 48 * v + f) + S (12 + 48 * v + (f + 1))) (y := (S (12 + 48 * v + f) + S (12 + 48 * v + (f + 1))) / 2) (show v < S 2 by omega) h6 hfp.1 hpv
        have joff := off_jn (x := S (12 + 48 * v + f) + S (12 + 48 * v + (f + 1))) (y := (S (12 + 48 * v + f) + S (12 + 48 * v + (f + 1))) / 2) (show v < S 2 by omega) h6 hfp.1 hpv
        have jflat := flat_jn (x := S (12 + 48 * v + f) + S (12 + 48 * v + (f + 1))) (y := (S (12 + 48 * v + f) + S (12 + 48 * v + (f + 1))) / 2) (show v < S 2 by omega) h6 hfp.1 hpg48 hFl
        have jsz : jn S v f (S (12 + 48 * v + f) + S (12 + 48 * v + (f + 1))) ((S (12 + 48 * v + f) + S (12 + 48 * v + (f + 1))) / 2) (12 + 48 * (v + 1) + wp (v + 1)) = S (12 + 48 * (v + 1) + wp (v + 1)) := by
          rw [jn_sz (by omega) hfp.1 hpv (v + 1) _ (by omega) (by omega) (fun q => absurd q (by omega)), if_neg (by omega)]
        have hMrun : M_takes_J258 ma mal (M_takes_L147 ma mal k (n + 1)) k (nf S) h1 f1 f2 f3 w1 w2 w3 w4 w5 w6 e1 e2 e3 e4 e5 e6 (nI v) (nI (wp (v + 1))) (nI f) (nI (S (12 + 48 * v + f) + S (12 + 48 * v + (f + 1)))) 1 = M_takes_L147 ma mal k (n + 1) (nf (un (jn S v f (S (12 + 48 * v + f) + S (12 + 48 * v + (f + 1))) ((S (12 + 48 * v + f) + S (12 + 48 * v + (f + 1))) / 2)) (12 + 48 * (v + 1) + wp (v + 1)) (S (12 + 48 * (v + 1) + wp (v + 1)) - 1))) h1 f1 f2 f3 w1 w2 w3 w4 w5 w6 e1 e2 e3 e4 e5 e6 (nI (wp (v + 1))) (nI (v + 1)) 1 := by
          have e14 : nI (S (12 + 48 * v + f) + S (12 + 48 * v + (f + 1))) / 2 = nI ((S (12 + 48 * v + f) + S (12 + 48 * v + (f + 1))) / 2) := pk_div (d := 2) (by omega) (by decide) (by decide)
          have e15 : nI (S (12 + 48 * (v + 1) + wp (v + 1))) - 1 = nI (S (12 + 48 * (v + 1) + wp (v + 1)) - 1) := pk_sub (b := 1) (by omega)
          have e16 : un (un S (12 + 48 * v + f) (S (12 + 48 * v + f) + S (12 + 48 * v + (f + 1)))) (12 + 48 * v + (f + 1)) ((S (12 + 48 * v + f) + S (12 + 48 * v + (f + 1))) / 2) (3 + v) = S (3 + v) := by rw [un_n (by omega), un_n (by omega)]
          rw [M_takes_J258, if_neg (by decide), M_takes_J280, e14, nI_p1, setSize_n (by omega), bd1_in, setSize_n (by omega), bd1_in, if_neg (by decide), shutsPage_n (by omega) (by rw [e16]; exact hfp.1) (by rw [e16]; exact hpv), bd1_in, e16]
          show bd1 (M_sizeOf (nf (jn S v f (S (12 + 48 * v + f) + S (12 + 48 * v + (f + 1))) ((S (12 + 48 * v + f) + S (12 + 48 * v + (f + 1))) / 2))) (nI v + 1) (nI (wp (v + 1)))) (fun r322 => bd1 (M_setSize (nf (jn S v f (S (12 + 48 * v + f) + S (12 + 48 * v + (f + 1))) ((S (12 + 48 * v + f) + S (12 + 48 * v + (f + 1))) / 2))) (nI v + 1) (nI (wp (v + 1))) (r322 - 1)) fun m_s_327 => M_takes_L147 ma mal k (n + 1) m_s_327 h1 f1 f2 f3 w1 w2 w3 w4 w5 w6 e1 e2 e3 e4 e5 e6 (nI (wp (v + 1))) (nI v + 1) 1) = _
          rw [nI_p1, sizeOf_n (by omega), bd1_in, jsz, e15, setSize_n (by omega), bd1_in]
        have jpg : ∀ u, u < S 2 → jn S v f (S (12 + 48 * v + f) + S (12 + 48 * v + (f + 1))) ((S (12 + 48 * v + f) + S (12 + 48 * v + (f + 1))) / 2) (3 + u) ≤ 48 ∧ (u = v → jn S v f (S (12 + 48 * v + f) + S (12 + 48 * v + (f + 1))) ((S (12 + 48 * v + f) + S (12 + 48 * v + (f + 1))) / 2) (3 + u) = S (3 + v) - 1) ∧ (u ≠ v → jn S v f (S (12 + 48 * v + f) + S (12 + 48 * v + (f + 1))) ((S (12 + 48 * v + f) + S (12 + 48 * v + (f + 1))) / 2) (3 + u) = S (3 + u)) := fun u hu => by
          have := hpg48 u hu
          rw [jn_pg (by omega) u (by omega)]
          by_cases c : u = v
          · rw [if_pos c]; exact ⟨by omega, fun _ => rfl, fun q => absurd c q⟩
          · rw [if_neg c]; exact ⟨by omega, fun q => absurd q c, fun _ => rfl⟩
        have zent : ∀ u q, v + 1 < u → u ≤ 6 → q ≤ 48 → ent (un (jn S v f (S (12 + 48 * v + f) + S (12 + 48 * v + (f + 1))) ((S (12 + 48 * v + f) + S (12 + 48 * v + (f + 1))) / 2)) (12 + 48 * (v + 1) + wp (v + 1)) (S (12 + 48 * (v + 1) + wp (v + 1)) - 1)) u q = ent S u q := fun u q hu h6 hq => ent_oth (fun r hr => by
          rw [z3 u r hr, if_neg (by omega), jn_sz (by omega) hfp.1 hpv u r (by omega) hr (fun q => absurd q (by omega)), if_neg (by omega)]) hq
        rw [if_neg hj, hMrun, if_neg hj, bd3_in, if_neg (by decide), bx_uu]
        have hoffv : ∀ u, v ≤ u → u < S 2 → off (un (jn S v f (S (12 + 48 * v + f) + S (12 + 48 * v + (f + 1))) ((S (12 + 48 * v + f) + S (12 + 48 * v + (f + 1))) / 2)) (12 + 48 * (v + 1) + wp (v + 1)) (S (12 + 48 * (v + 1) + wp (v + 1)) - 1)) u = off S u := fun u q1 q2 => by
          have := joff u q2
          rw [if_neg (by omega)] at this
          rw [zoff]
          exact this
        obtain ⟨S', E', cpg', ce', r1, r2, r3, r4, r5, r6, r7, r8, r9, r10, r11⟩ := ih (v + 1) (n + 1) (m + 1) _ (shl (un (un E (off S v + wp v) (S (12 + 48 * v + wp v))) (off S v + f) (S (12 + 48 * v + f) + S (12 + 48 * v + (f + 1)))) (off S v + f + 1) (tot S - 1)) (va_up cpg (a 14) (nI (tot S - 1))) (va_up ce (a 14) (nf (shl (un (un E (off S v + wp v) (S (12 + 48 * v + wp v))) (off S v + f) (S (12 + 48 * v + f) + S (12 + 48 * v + (f + 1)))) (off S v + f + 1) (tot S - 1))))
          (show v + 1 + d + 1 = un _ _ _ 2 by rw [z1 2 (by decide), j2]; omega) hS2 (by rw [z1 1 (by decide), jn_low 1 (Or.inl (by decide)) (by omega) hfp.1 hpv]; exact hS1)
          (by rw [z1 _ (by omega), (jpg (v + 1) (by omega)).2.2 (by omega)]; exact hup)
          (fun u q hu hq => by
            rw [z1 2 (by decide), j2] at hu
            rw [z1 _ (by omega)] at hq
            obtain ⟨q1, q2, q3⟩ := jpg u hu
            rw [z3 u q (by omega)]
            by_cases c : u = v + 1 ∧ q = wp (v + 1)
            · rw [if_pos c]
              have := hsz (v + 1) (wp (v + 1)) (by omega) hup
              omega
            · rw [if_neg c, jn_sz (by omega) hfp.1 hpv u q (by omega) (by omega) (fun z => by have := q2 z; omega)]
              by_cases c2 : u = v
              · have := q2 c2
                rw [if_pos c2]
                by_cases c3 : q < f
                · rw [if_pos c3]; exact hsz v q (by omega) (by omega)
                · rw [if_neg c3]
                  by_cases c4 : q = f
                  · rw [if_pos c4]; omega
                  · rw [if_neg c4]; exact hsz v (q + 1) (by omega) (by omega)
              · rw [if_neg c2]
                have := q3 c2
                exact hsz u q hu (by omega))
          (fun u hu hu2 => by
            rw [z1 2 (by decide), j2] at hu2
            obtain ⟨q1, q2, q3⟩ := hpar u (by omega) hu2
            have := hpg48 (u + 1) hu2
            rw [z1 _ (by omega), (jpg (u + 1) hu2).2.2 (by omega), zent (u + 1) _ (by omega) (by omega) (by omega), zent (u + 1) _ (by omega) (by omega) (by omega)]
            exact ⟨q1, q2, q3⟩)
          (fun u hu q hq => by
            rw [z1 2 (by decide), j2] at hu
            rw [z1 _ (by omega)] at hq
            have hq48 := (jpg u hu).1
            rw [zoff, jflat u hu q hq, z3 u q (by omega)]
            by_cases z : u = v + 1 ∧ q = wp (v + 1)
            · rw [if_pos z, if_pos z, z.1, z.2, jsz]; omega
            · rw [if_neg z, if_neg z]; rfl)
          (by rw [ztot, vu_s, show tot S - 1 = tot (jn S v f (S (12 + 48 * v + f) + S (12 + 48 * v + (f + 1))) ((S (12 + 48 * v + f) + S (12 + 48 * v + (f + 1))) / 2)) by omega]) (by rw [ztot]; omega) (by rw [z1 2 (by decide), j2]; exact hcl) vu_s
          (fun u hu hu2 => by
            rw [z1 2 (by decide), j2] at hu2
            rw [hoffv u (by omega) hu2]
            exact hpa u (by omega) hu2)
          (fun u hu hu2 => by
            rw [z1 2 (by decide), j2] at hu2
            obtain ⟨q1, _, _⟩ := hpar u (by omega) hu2
            have := hpg48 (u + 1) hu2
            rw [hoffv u (by omega) (by omega), hoffv (u + 1) (by omega) hu2, zent (u + 1) _ (by omega) (by omega) (by omega)]
            exact hcf u (by omega) hu2) (by omega) (by omega)
        refine ⟨S', E', cpg', ce', r1, r2, r3, by rw [r4, z1 2 (by decide), j2], r5, fun j hj2 => ?_, r7, r8, r9, r10, fun z hz => ?_⟩
        · rw [r6 j hj2]
          rcases hj2 with q | q
          · rw [z1 j (by omega)]; exact jn_low j (Or.inl q) (by omega) hfp.1 hpv
          · rw [z2 j q (by omega)]; exact jn_low j (Or.inr q) (by omega) hfp.1 hpv
        · obtain ⟨q1, q2⟩ := r11 z hz
          exact ⟨q1.trans (vu_n hz), q2.trans (vu_n hz)⟩
end
