/-! dealt anew -/
def dsz (b g q : Nat) : Nat := b / g + (if q < b % g then 1 else 0)
def dl (S : Nat → Nat) (L b g : Nat) : Nat → Nat := un (fun j => if 12 + 48 * L ≤ j ∧ j < 12 + 48 * L + g then dsz b g (j - (12 + 48 * L)) else S j) (3 + L) g
def dlp (S : Nat → Nat) (L b g i : Nat) : Nat → Nat := fun j => if 12 + 48 * L ≤ j ∧ j < 12 + 48 * L + i then dsz b g (j - (12 + 48 * L)) else S j
theorem dsz_n {b g q : Nat} (hb : b ≤ 48) (hg : 0 < g) (hg2 : g ≤ 48) (hq : q < g) : (if nI b - nI b / nI g * nI g ≤ nI q then nI b / nI g + 0 else nI b / nI g + 1) = nI (dsz b g q) := by
  have hm := Nat.mod_lt b hg
  rw [pk_rem (by omega) hg (by omega), pk_div (by omega) hg (by omega), il (by omega) (by omega)]
  unfold dsz
  by_cases c : b % g ≤ q
  · rw [if_pos c, if_neg (by omega), nI_z0, nI_add]
  · rw [if_neg c, if_pos (by omega), nI_p1]
theorem gz_n {α : Type} {g : Nat} {x : Option α} (h0 : 0 < g) (hg : g ≤ 48) : gz (nI g) x = x := gz_in (fun q => absurd ((nI_eq (a := g) (b := 0) (by omega) (by decide)).mp q) (by omega))
theorem dealt_L {S : Nat → Nat} {L b g : Nat} (hL : L ≤ 5) (hb : b ≤ 48) (h0 : 0 < g) (hg : g ≤ 48) (k : (Nat → Int32) → Int32 → Option (Int32 × (Nat → Int32))) : ∀ (d i n : Nat), i + d = g → d < n → M_dealt_L21 (nI L) (nI b) k n (nf (dlp S L b g i)) (nI g) (nI i) = k (nf (dlp S L b g g)) (nI g) := by
  intro d
  induction d with
  | zero =>
    intro i n hi hn
    obtain ⟨n, rfl⟩ : ∃ m, n = m + 1 := ⟨n - 1, by omega⟩
    rw [M_dealt_L21, il (by omega) (by omega), if_pos (by omega), show i = g by omega]
  | succ d ih =>
    intro i n hi hn
    obtain ⟨n, rfl⟩ : ∃ m, n = m + 1 := ⟨n - 1, by omega⟩
    have hz := dsz_n (q := i) hb h0 hg (by omega)
    have key : M_dealt_L21 (nI L) (nI b) k n (nf (un (dlp S L b g i) (12 + 48 * L + i) (dsz b g i))) (nI g) (nI i + 1) = k (nf (dlp S L b g g)) (nI g) := by
      have e : un (dlp S L b g i) (12 + 48 * L + i) (dsz b g i) = dlp S L b g (i + 1) := by
        funext j
        unfold un dlp
        by_cases q : j = 12 + 48 * L + i
        · rw [if_pos q, if_pos (by omega), q, show 12 + 48 * L + i - (12 + 48 * L) = i by omega]
        · rw [if_neg q]
          by_cases q2 : 12 + 48 * L ≤ j ∧ j < 12 + 48 * L + i
          · rw [if_pos q2, if_pos (by omega)]
          · rw [if_neg q2, if_neg (by omega)]
      rw [e, nI_p1]
      exact ih (i + 1) n (by omega) (by omega)
    rw [M_dealt_L21, il (by omega) (by omega), if_neg (by omega), gz_n h0 hg, gz_n h0 hg]
    by_cases c : nI b - nI b / nI g * nI g ≤ nI i
    · rw [if_pos c] at hz ⊢
      rw [M_dealt_J47, hz, setSize_n (by omega), bd1_in]
      exact key
    · rw [if_neg c] at hz ⊢
      rw [M_dealt_J47, hz, setSize_n (by omega), bd1_in]
      exact key
/-- how many pages so many entries want -/
def npg (b m : Nat) : Nat := (b + m - 1) / m
theorem npg_s {b m : Nat} (hm : 4 ≤ m) (hb : 1 ≤ b) : 1 ≤ npg b m ∧ (2 ≤ b → 2 * npg b m ≤ b) ∧ b ≤ npg b m * m ∧ (b ≤ m → npg b m = 1) ∧ (m < b → 2 ≤ npg b m) := by
  unfold npg
  have h1 : (b + m - 1) / m = (b - 1) / m + 1 := by
    rw [show b + m - 1 = b - 1 + m by omega, Nat.add_div_right _ (by omega)]
  have h2 := Nat.div_add_mod (b - 1) m
  have h3 := Nat.mod_lt (b - 1) (show 0 < m by omega)
  rw [h1]
  have h4 : m * ((b - 1) / m) + m = ((b - 1) / m + 1) * m := by rw [Nat.add_mul, Nat.one_mul, Nat.mul_comm]
  have h5 : 4 * ((b - 1) / m) ≤ m * ((b - 1) / m) := Nat.mul_le_mul_right _ hm
  refine ⟨by omega, by omega, by omega, fun h => ?_, fun h => ?_⟩
  · rw [Nat.div_eq_of_lt (by omega)]
  · have : 1 ≤ (b - 1) / m := (Nat.le_div_iff_mul_le (by omega)).mpr (by omega)
    omega
theorem dsz_s {b g m : Nat} (hg : 1 ≤ g) (hm : 1 ≤ m) (h1 : b ≤ g * m) : (∀ q, dsz b g q ≤ m) ∧ (g ≤ b → ∀ q, 1 ≤ dsz b g q) ∧ (2 * g ≤ b → ∀ q, 2 ≤ dsz b g q) ∧ (∀ n, n ≤ g → sumN (dsz b g) n = n * (b / g) + (if n < b % g then n else b % g)) := by
  have hd := Nat.div_add_mod b g
  have hr := Nat.mod_lt b hg
  refine ⟨fun q => ?_, fun h q => ?_, fun h q => ?_, fun n => ?_⟩
  · unfold dsz
    have hle : b / g ≤ m := Nat.div_le_of_le_mul (by rw [Nat.mul_comm]; rw [Nat.mul_comm] at h1; exact (Nat.mul_comm g m) ▸ (by rw [Nat.mul_comm]; exact h1))
    by_cases e : b / g = m
    · have : b % g = 0 := by
        rw [e] at hd
        omega
      rw [this, if_neg (by omega)]
      omega
    · by_cases c : q < b % g
      · rw [if_pos c]; omega
      · rw [if_neg c]; omega
  · have : 1 ≤ b / g := (Nat.le_div_iff_mul_le (by omega)).mpr (by omega)
    unfold dsz
    omega
  · have : 2 ≤ b / g := (Nat.le_div_iff_mul_le (by omega)).mpr (by omega)
    unfold dsz
    omega
  · induction n with
    | zero =>
      intro _
      show 0 = _
      rw [Nat.zero_mul]
      by_cases c : 0 < b % g
      · rw [if_pos c]
      · rw [if_neg c]; omega
    | succ n ih =>
      intro hn
      show sumN (dsz b g) n + dsz b g n = _
      rw [ih (by omega), Nat.succ_mul]
      unfold dsz
      by_cases c : n < b % g
      · rw [if_pos c, if_pos c]
        by_cases c2 : n + 1 < b % g
        · rw [if_pos c2]; omega
        · rw [if_neg c2]; omega
      · rw [if_neg c, if_neg c, if_neg (by omega)]
        omega
theorem dsz_sum {b g : Nat} (hg : 1 ≤ g) : sumN (dsz b g) g = b := by
  have h1 : b ≤ g * (b + 1) := by
    have := Nat.mul_le_mul_right (b + 1) hg
    omega
  rw [(dsz_s hg (show 1 ≤ b + 1 by omega) h1).2.2.2 g (Nat.le_refl _)]
  have hd := Nat.div_add_mod b g
  have hr := Nat.mod_lt b hg
  rw [if_neg (by omega)]
  exact hd
theorem dealt_n {S : Nat → Nat} {L b m : Nat} (h1 : S 1 = m) (hm : 4 ≤ m) (hm8 : m ≤ 8) (hL : L ≤ 5) (hb : 1 ≤ b) (hb2 : b ≤ 48) : M_dealt (nf S) (nI L) (nI b) = some (nI (npg b m), nf (dl S L b (npg b m))) := by
  obtain ⟨n1, n2, n3, n4, n5⟩ := npg_s hm hb
  have hle : npg b m ≤ 48 := by
    by_cases c : 2 ≤ b
    · have := n2 c; omega
    · rw [n4 (by omega)]; decide
  unfold M_dealt
  have e1 : (nI b + nI m - 1) / nI m = nI (npg b m) := by
    have e0 : nI (b + m) - 1 = nI (b + m - 1) := pk_sub (b := 1) (by omega)
    rw [nI_add, e0, pk_div (by omega) (by omega) (by omega)]
    rfl
  rw [nf_a, h1, gz_n (by omega) (by omega), e1]
  have hs : nf S = nf (dlp S L b (npg b m) 0) := by
    congr 1
    funext j
    unfold dlp
    rw [if_neg (by omega)]
  rw [hs]
  refine (dealt_L hL hb2 (by omega) hle _ (npg b m) 0 FU (by omega) (Nat.lt_of_le_of_lt hle (by decide))).trans ?_
  show ga (nI 3 + nI L) 1552 (some (nI (npg b m), upd (nf (dlp S L b (npg b m) (npg b m))) (nI 3 + nI L).toNatClampNeg (nI (npg b m)))) = _
  rw [nI_add, ga_n (by omega) (by decide), nI_clamp (by omega), nf_upd]
  rfl
/-- the class deals a level to the front -/
theorem dealLevel_n {cpg : Nat → Int32} {ce : Nat → Nat → Int32} {E : Nat → Nat} {st P b g : Nat} (hP : P + g ≤ 48) (hb : b ≤ 48) (h0 : 0 < g) (h1 : cpg st = nI P) (hE : ce st = nf E) : ∃ cpg' ce' E', C3_dealLevel cpg ce st (nI b) (nI g) = some (cpg', ce') ∧ cpg' st = nI (P + g) ∧ ce' st = nf E' ∧ (∀ j, j < g → E' j = dsz b g j) ∧ (∀ j, j < P → E' (g + j) = E j) ∧ ∀ z, z ≠ st → cpg' z = cpg z ∧ ce' z = ce z := by
  have key : ∀ (d i n : Nat) (cp1 : Nat → Int32) (ce1 : Nat → Nat → Int32) (E1 : Nat → Nat), i + d = g → d < n → cp1 st = nI (P + i) → ce1 st = nf E1 → (∀ j, j < i → E1 j = dsz b g j) → (∀ j, j < P → E1 (i + j) = E j) → ∃ cpg' ce' E', C3_dealLevel_L8 st (nI b) (nI g) (fun c_pages c_entries => some (c_pages, c_entries)) n cp1 ce1 (nI i) = some (cpg', ce') ∧ cpg' st = nI (P + g) ∧ ce' st = nf E' ∧ (∀ j, j < g → E' j = dsz b g j) ∧ (∀ j, j < P → E' (g + j) = E j) ∧ ∀ z, z ≠ st → cpg' z = cp1 z ∧ ce' z = ce1 z := by
    intro d
    induction d with
    | zero =>
      intro i n cp1 ce1 E1 hi hn q1 q2 q3 q4
      obtain ⟨n, rfl⟩ : ∃ m, n = m + 1 := ⟨n - 1, by omega⟩
      have hig : i = g := by omega
      subst hig
      refine ⟨cp1, ce1, E1, ?_, q1, q2, q3, q4, fun z _ => ⟨rfl, rfl⟩⟩
      rw [C3_dealLevel_L8, il (by omega) (by omega), if_pos (Nat.le_refl _)]
    | succ d ih =>
      intro i n cp1 ce1 E1 hi hn q1 q2 q3 q4
      obtain ⟨n, rfl⟩ : ∃ m, n = m + 1 := ⟨n - 1, by omega⟩
      have hz := dsz_n (q := i) hb h0 (by omega) (show i < g by omega)
      have hi2 := insertPage_n (x := dsz b g i) q1 (show i ≤ P + i by omega) (by omega) q2
      obtain ⟨cpg', ce', E', r1, r2, r3, r4, r5, r6⟩ := ih (i + 1) n (va_up cp1 st (nI (P + i + 1))) (va_up ce1 st (nf (un (shr E1 i (P + i)) i (dsz b g i)))) (un (shr E1 i (P + i)) i (dsz b g i)) (by omega) (by omega) vu_s vu_s (fun j hj => by
        unfold un shr
        by_cases c : j = i
        · rw [if_pos c, c]
        · rw [if_neg c, if_neg (by omega)]; exact q3 j (by omega)) (fun j hj => by
        unfold un shr
        rw [if_neg (by omega), if_pos (by omega), show i + 1 + j - 1 = i + j by omega]
        exact q4 j hj)
      refine ⟨cpg', ce', E', ?_, r2, r3, r4, r5, fun z hz => ⟨(r6 z hz).1.trans (vu_n hz), (r6 z hz).2.trans (vu_n hz)⟩⟩
      rw [C3_dealLevel_L8, il (by omega) (by omega), if_neg (by omega), gz_n h0 (by omega), gz_n h0 (by omega)]
      by_cases c : nI b - nI b / nI g * nI g ≤ nI i
      · rw [if_pos c] at hz ⊢
        rw [C3_dealLevel_J30, hz, hi2, bd2_in, nI_p1]
        exact r1
      · rw [if_neg c] at hz ⊢
        rw [C3_dealLevel_J30, hz, hi2, bd2_in, nI_p1]
        exact r1
  unfold C3_dealLevel
  rw [show (1 : Int32) = nI 1 from rfl, il (by decide) (by omega), if_pos (by omega)]
  exact key g 0 FU cpg ce E (by omega) (Nat.lt_of_le_of_lt (show g ≤ 48 by omega) (by decide)) h1 hE (fun j hj => absurd hj (by omega)) (fun j hj => by rw [Nat.zero_add])
