/-! the reference's changes of its row -/
theorem setSize_n {S : Nat → Nat} {v p x : Nat} (h : 12 + 48 * v + p < 1552) : M_setSize (nf S) (nI v) (nI p) (nI x) = some (nf (un S (12 + 48 * v + p) x)) := by
  unfold M_setSize
  show ga (nI 12 + nI 48 * nI v + nI p) 1552 (some (upd (nf S) (nI 12 + nI 48 * nI v + nI p).toNatClampNeg (nI x))) = _
  rw [pk_mul, nI_add, nI_add, ga_n h (by decide), nI_clamp (by omega), nf_upd]
/-- a stretch moves one place on -/
def shr (S : Nat → Nat) (lo hi : Nat) : Nat → Nat := fun j => if lo < j ∧ j ≤ hi then S (j - 1) else S j
/-- a stretch moves one place back -/
def shl (S : Nat → Nat) (lo hi : Nat) : Nat → Nat := fun j => if lo ≤ j ∧ j < hi then S (j + 1) else S j
theorem shr_self (S : Nat → Nat) (k : Nat) : shr S k k = S := by
  funext j
  unfold shr
  rw [if_neg (by omega)]
theorem shl_self (S : Nat → Nat) (k : Nat) : shl S k k = S := by
  funext j
  unfold shl
  rw [if_neg (by omega)]
theorem shr_step {S : Nat → Nat} {k hi : Nat} (h : k + 1 ≤ hi) : un (shr S (k + 1) hi) (k + 1) (S k) = shr S k hi := by
  funext j
  unfold un shr
  by_cases h1 : j = k + 1
  · rw [if_pos h1, if_pos (by omega), h1]
    rfl
  · rw [if_neg h1]
    by_cases h2 : k + 1 < j ∧ j ≤ hi
    · rw [if_pos h2, if_pos (by omega)]
    · rw [if_neg h2, if_neg (by omega)]
theorem shl_step {S : Nat → Nat} {lo k : Nat} (h : lo ≤ k) : un (shl S lo k) k (S (k + 1)) = shl S lo (k + 1) := by
  funext j
  unfold un shl
  by_cases h1 : j = k
  · rw [if_pos h1, if_pos (by omega), h1]
  · rw [if_neg h1]
    by_cases h2 : lo ≤ j ∧ j < k
    · rw [if_pos h2, if_pos (by omega)]
    · rw [if_neg h2, if_neg (by omega)]
theorem opensPage_n {S : Nat → Nat} {v p : Nat} (hv : v ≤ 6) (hp : p ≤ S (3 + v)) (hpg : S (3 + v) ≤ 47) : M_opensPage (nf S) (nI v) (nI p) = some (nf (un (shr S (12 + 48 * v + p) (12 + 48 * v + S (3 + v))) (3 + v) (S (3 + v) + 1))) := by
  have key : ∀ (d k n : Nat) (kk : (Nat → Int32) → Option (Nat → Int32)), p + d = k → k ≤ S (3 + v) → d < n → M_opensPage_L9 (nI v) (nI p) kk n (nf (shr S (12 + 48 * v + k) (12 + 48 * v + S (3 + v)))) (nI k) = kk (nf (shr S (12 + 48 * v + p) (12 + 48 * v + S (3 + v)))) := by
    intro d
    induction d with
    | zero =>
      intro k n kk hk hkp hn
      obtain ⟨n, rfl⟩ : ∃ m, n = m + 1 := ⟨n - 1, by omega⟩
      rw [M_opensPage_L9, il (by omega) (by omega), if_pos (by omega), show k = p by omega]
    | succ d ih =>
      intro k n kk hk hkp hn
      obtain ⟨n, rfl⟩ : ∃ m, n = m + 1 := ⟨n - 1, by omega⟩
      obtain ⟨t, rfl⟩ : ∃ t, k = t + 1 := ⟨k - 1, by omega⟩
      have ih := ih t n kk (by omega) (by omega) (by omega)
      rw [← shr_step (by omega)] at ih
      rw [M_opensPage_L9, il (by omega) (by omega), if_neg (by omega)]
      show bd1 (M_sizeOf _ (nI v) (nI (t + 1) - nI 1)) _ = _
      rw [pk_sub (by omega), Nat.add_sub_cancel, sizeOf_n (by omega), bd1_in, setSize_n (by omega), bd1_in, pk_m1]
      have e : shr S (12 + 48 * v + (t + 1)) (12 + 48 * v + S (3 + v)) (12 + 48 * v + t) = S (12 + 48 * v + t) := if_neg (by omega)
      rw [e]
      exact ih
  unfold M_opensPage
  show ga (nI 3 + nI v) 1552 (M_opensPage_L9 (nI v) (nI p) (fun m_s => ga (nI 3 + nI v) 1552 (ga (nI 3 + nI v) 1552 (some (upd m_s (nI 3 + nI v).toNatClampNeg ((m_s (nI 3 + nI v).toNatClampNeg) + nI 1))))) FU (nf S) (nf S (nI 3 + nI v).toNatClampNeg)) = _
  rw [nI_add, ga_n (by omega) (by decide), nI_clamp (by omega), nf_a]
  have := key (S (3 + v) - p) (S (3 + v)) FU (fun m_s => ga (nI (3 + v)) 1552 (ga (nI (3 + v)) 1552 (some (upd m_s (3 + v) ((m_s (3 + v)) + nI 1))))) (by omega) (Nat.le_refl _) (Nat.lt_of_le_of_lt (show S (3 + v) - p ≤ 48 by omega) (by decide))
  rw [shr_self] at this
  rw [this, ga_n (by omega) (by decide), ga_n (by omega) (by decide), nf_a, nI_add, nf_upd]
  have e : shr S (12 + 48 * v + p) (12 + 48 * v + S (3 + v)) (3 + v) = S (3 + v) := if_neg (by omega)
  rw [e]
theorem shutsPage_n {S : Nat → Nat} {v p : Nat} (hv : v ≤ 6) (hp : p < S (3 + v)) (hpg : S (3 + v) ≤ 48) : M_shutsPage (nf S) (nI v) (nI p) = some (nf (un (shl S (12 + 48 * v + p) (12 + 48 * v + (S (3 + v) - 1))) (3 + v) (S (3 + v) - 1))) := by
  have key : ∀ (d k n : Nat) (S1 : Nat → Nat), k + d = S (3 + v) - 1 → p ≤ k → d < n → S1 = un (shl S (12 + 48 * v + p) (12 + 48 * v + k)) (3 + v) (S (3 + v) - 1) → M_shutsPage_L14 (nI v) (nI p) (fun m_s => some m_s) n (nf S1) (nI k) = some (nf (un (shl S (12 + 48 * v + p) (12 + 48 * v + (S (3 + v) - 1))) (3 + v) (S (3 + v) - 1))) := by
    intro d
    induction d with
    | zero =>
      intro k n S1 hk hkp hn hS
      obtain ⟨n, rfl⟩ : ∃ m, n = m + 1 := ⟨n - 1, by omega⟩
      have e : S1 (3 + v) = S (3 + v) - 1 := by rw [hS]; exact un_s
      rw [M_shutsPage_L14]
      show ga (nI 3 + nI v) 1552 (if nf S1 (nI 3 + nI v).toNatClampNeg ≤ nI k then _ else _) = _
      rw [nI_add, ga_n (by omega) (by decide), nI_clamp (by omega), nf_a, e, il (by omega) (by omega), if_pos (by omega), hS, show k = S (3 + v) - 1 by omega]
    | succ d ih =>
      intro k n S1 hk hkp hn hS
      obtain ⟨n, rfl⟩ : ∃ m, n = m + 1 := ⟨n - 1, by omega⟩
      have e : S1 (3 + v) = S (3 + v) - 1 := by rw [hS]; exact un_s
      have e2 : S1 (12 + 48 * v + (k + 1)) = S (12 + 48 * v + (k + 1)) := by
        rw [hS, un_n (by omega)]
        exact if_neg (by omega)
      rw [M_shutsPage_L14]
      show ga (nI 3 + nI v) 1552 (if nf S1 (nI 3 + nI v).toNatClampNeg ≤ nI k then _ else bd1 (M_sizeOf (nf S1) (nI v) (nI k + nI 1)) fun r34 => bd1 (M_setSize (nf S1) (nI v) (nI k) r34) fun m_s_37 => M_shutsPage_L14 (nI v) (nI p) _ n m_s_37 (nI k + nI 1)) = _
      rw [nI_add, ga_n (by omega) (by decide), nI_clamp (by omega), nf_a, e, il (by omega) (by omega), if_neg (by omega), nI_add, sizeOf_n (by omega), bd1_in, setSize_n (by omega), bd1_in]
      refine ih (k + 1) n _ (by omega) (by omega) (by omega) ?_
      rw [e2, hS, show 12 + 48 * v + (k + 1) = 12 + 48 * v + k + 1 by omega, ← shl_step (by omega)]
      funext j
      unfold un
      by_cases q1 : j = 12 + 48 * v + k
      · rw [if_pos q1, if_neg (by omega), if_pos q1]
      · rw [if_neg q1, if_neg q1]
  unfold M_shutsPage
  show ga (nI 3 + nI v) 1552 (ga (nI 3 + nI v) 1552 (M_shutsPage_L14 (nI v) (nI p) (fun m_s => some m_s) FU (upd (nf S) (nI 3 + nI v).toNatClampNeg ((nf S (nI 3 + nI v).toNatClampNeg) - nI 1)) (nI p))) = _
  rw [nI_add, ga_n (by omega) (by decide), ga_n (by omega) (by decide), nI_clamp (by omega), nf_a, pk_sub (by omega), nf_upd]
  exact key (S (3 + v) - 1 - p) p FU _ (by omega) (Nat.le_refl _) (Nat.lt_of_le_of_lt (show S (3 + v) - 1 - p ≤ 48 by omega) (by decide)) (by rw [shl_self])
theorem opensLevel_n {S : Nat → Nat} {x : Nat} (h : S 2 ≤ 6) : M_opensLevel (nf S) (nI x) = some (nf (un (un (un S (3 + S 2) 1) (12 + 48 * S 2) x) 2 (S 2 + 1))) := by
  unfold M_opensLevel
  show ga (nI 3 + nf S 2) 1552 (bd1 (M_setSize (upd (nf S) (nI 3 + nf S 2).toNatClampNeg (nI 1)) ((upd (nf S) (nI 3 + nf S 2).toNatClampNeg (nI 1)) 2) (nI 0) (nI x)) fun m_s_23 => some (upd m_s_23 2 ((m_s_23 2) + nI 1))) = _
  rw [nf_a, nI_add, ga_n (by omega) (by decide), nI_clamp (by omega), nf_upd, nf_a, un_n (by omega), setSize_n (by omega), bd1_in, Nat.add_zero, nf_a, un_n (by omega), un_n (by omega), nI_add, nf_upd]
/-! a word comes to a place -/
/-- words from a place on move one on: lengths and signs -/
def wsh (S : Nat → Nat) (w n : Nat) : Nat → Nat := fun j => if 350 + w < j ∧ j ≤ 350 + n then S (j - 1) else if 400 + 24 * (w + 1) ≤ j ∧ j < 400 + 24 * (n + 1) then S (j - 24) else S j
theorem wsh_self (S : Nat → Nat) (n : Nat) : wsh S n n = S := by
  funext j
  unfold wsh
  rw [if_neg (by omega), if_neg (by omega)]
/-- one word's row, of which so many signs are told -/
def wsh1 (S : Nat → Nat) (w n i : Nat) : Nat → Nat := fun j => if 400 + 24 * (w + 1) ≤ j ∧ j < 400 + 24 * (w + 1) + i then S (j - 24) else if j = 350 + (w + 1) then S (350 + w) else wsh S (w + 1) n j
theorem wsh1_end {S : Nat → Nat} {w n : Nat} (h : w + 1 ≤ n) (hn : n ≤ 47) : wsh1 S w n 24 = wsh S w n := by
  funext j
  unfold wsh1 wsh
  by_cases h1 : 400 + 24 * (w + 1) ≤ j ∧ j < 400 + 24 * (w + 1) + 24
  · rw [if_pos h1, if_neg (by omega), if_pos (by omega)]
  · rw [if_neg h1]
    by_cases h2 : j = 350 + (w + 1)
    · rw [if_pos h2, if_pos (by omega), h2]
      rfl
    · rw [if_neg h2]
      by_cases h3 : 350 + (w + 1) < j ∧ j ≤ 350 + n
      · rw [if_pos h3, if_pos (by omega)]
      · rw [if_neg h3, if_neg (show ¬ (350 + w < j ∧ j ≤ 350 + n) by omega)]
        by_cases h4 : 400 + 24 * (w + 1 + 1) ≤ j ∧ j < 400 + 24 * (n + 1)
        · rw [if_pos h4, if_pos (by omega)]
        · rw [if_neg h4, if_neg (by omega)]
theorem puts_L36 {S : Nat → Nat} {w n : Nat} (h : w + 1 ≤ n) (hn : n ≤ 47) (ma : Nat → Int32) (mal v1 : Int32) (k : (Nat → Int32) → Int32 → Option (Nat → Int32)) : ∀ (d i m : Nat), i + d = 24 → d < m → M_puts_L36 ma mal v1 k m (nf (wsh1 S w n i)) (nI (w + 1)) (nI i) = k (nf (wsh S w n)) (nI (w + 1)) := by
  intro d
  induction d with
  | zero =>
    intro i m hi hm
    obtain ⟨m, rfl⟩ : ∃ t, m = t + 1 := ⟨m - 1, by omega⟩
    rw [M_puts_L36]
    show (if nI 24 ≤ nI i then _ else _) = _
    rw [il (by decide) (by omega), if_pos (by omega), show i = 24 by omega, wsh1_end h hn]
  | succ d ih =>
    intro i m hi hm
    obtain ⟨m, rfl⟩ : ∃ t, m = t + 1 := ⟨m - 1, by omega⟩
    rw [M_puts_L36]
    show (if nI 24 ≤ nI i then _ else ga (((nI 400 + (nI 24 * nI (w + 1))) - nI 24) + nI i) 1552 (ga ((nI 400 + (nI 24 * nI (w + 1))) + nI i) 1552 (M_puts_L36 ma mal v1 k m (upd (nf (wsh1 S w n i)) ((nI 400 + (nI 24 * nI (w + 1))) + nI i).toNatClampNeg (nf (wsh1 S w n i) (((nI 400 + (nI 24 * nI (w + 1))) - nI 24) + nI i).toNatClampNeg)) (nI (w + 1)) (nI i + nI 1)))) = _
    rw [il (by decide) (by omega), if_neg (by omega), pk_mul, nI_add, pk_sub (by omega), nI_add, nI_add, nI_add, ga_n (by omega) (by decide), ga_n (by omega) (by decide), nI_clamp (by omega), nI_clamp (by omega), nf_a, nf_upd]
    have e : un (wsh1 S w n i) (400 + 24 * (w + 1) + i) (wsh1 S w n i (400 + 24 * (w + 1) - 24 + i)) = wsh1 S w n (i + 1) := by
      have e1 : wsh1 S w n i (400 + 24 * (w + 1) - 24 + i) = S (400 + 24 * (w + 1) + i - 24) := by
        unfold wsh1 wsh
        rw [if_neg (by omega), if_neg (by omega), if_neg (by omega), if_neg (by omega), show 400 + 24 * (w + 1) - 24 + i = 400 + 24 * (w + 1) + i - 24 by omega]
      rw [e1]
      funext j
      unfold un wsh1
      by_cases q : j = 400 + 24 * (w + 1) + i
      · rw [if_pos q, if_pos (by omega), q]
      · rw [if_neg q]
        by_cases q2 : 400 + 24 * (w + 1) ≤ j ∧ j < 400 + 24 * (w + 1) + i
        · rw [if_pos q2, if_pos (by omega)]
        · rw [if_neg q2, if_neg (show ¬ (400 + 24 * (w + 1) ≤ j ∧ j < 400 + 24 * (w + 1) + (i + 1)) by omega)]
    rw [e]
    exact ih (i + 1) m (by omega) (by omega)
theorem puts_L7 {S : Nat → Nat} {at0 n : Nat} (hn : n ≤ 47) (ma : Nat → Int32) (mal : Int32) (k : (Nat → Int32) → Option (Nat → Int32)) : ∀ (d w m : Nat), at0 + d = w → w ≤ n → d < m → M_puts_L7 ma mal (nI at0) k m (nf (wsh S w n)) (nI w) = k (nf (wsh S at0 n)) := by
  intro d
  induction d with
  | zero =>
    intro w m hw hwn hm
    obtain ⟨m, rfl⟩ : ∃ t, m = t + 1 := ⟨m - 1, by omega⟩
    rw [M_puts_L7, il (by omega) (by omega), if_pos (by omega), show w = at0 by omega]
  | succ d ih =>
    intro w m hw hwn hm
    obtain ⟨m, rfl⟩ : ∃ t, m = t + 1 := ⟨m - 1, by omega⟩
    obtain ⟨t, rfl⟩ : ∃ t, w = t + 1 := ⟨w - 1, by omega⟩
    rw [M_puts_L7, il (by omega) (by omega), if_neg (by omega)]
    show ga ((nI 350 + nI (t + 1)) - nI 1) 1552 (ga (nI 350 + nI (t + 1)) 1552 (M_puts_L36 ma mal (nI at0) (fun m_s v2 => M_puts_L7 ma mal (nI at0) k m m_s (v2 + (-1))) FU (upd (nf (wsh S (t + 1) n)) (nI 350 + nI (t + 1)).toNatClampNeg (nf (wsh S (t + 1) n) ((nI 350 + nI (t + 1)) - nI 1).toNatClampNeg)) (nI (t + 1)) (nI 0))) = _
    rw [nI_add, pk_sub (by omega), ga_n (by omega) (by decide), ga_n (by omega) (by decide), nI_clamp (by omega), nI_clamp (by omega), nf_a, nf_upd]
    have e : un (wsh S (t + 1) n) (350 + (t + 1)) (wsh S (t + 1) n (350 + (t + 1) - 1)) = wsh1 S t n 0 := by
      have e1 : wsh S (t + 1) n (350 + (t + 1) - 1) = S (350 + t) := by
        unfold wsh
        rw [if_neg (by omega), if_neg (by omega)]
        rfl
      rw [e1]
      funext j
      unfold un wsh1
      rw [if_neg (show ¬ (400 + 24 * (t + 1) ≤ j ∧ j < 400 + 24 * (t + 1) + 0) by omega)]
    rw [e]
    refine (puts_L36 (by omega) hn ma mal (nI at0) _ 24 0 FU (by omega) (by decide)).trans ?_
    show M_puts_L7 ma mal (nI at0) k m (nf (wsh S t n)) (nI (t + 1) + (-1)) = _
    rw [pk_m1]
    exact ih t m (by omega) (by omega) (by omega)
/-- the row with the word put in -/
def ins (S ak : Nat → Nat) (al at0 : Nat) : Nat → Nat := fun j => if j = 0 then S 0 + 1 else if j = 350 + at0 then al else if 400 + 24 * at0 ≤ j ∧ j < 400 + 24 * at0 + al then ak (j - (400 + 24 * at0)) else wsh S at0 (S 0) j
theorem puts_n {S ak : Nat → Nat} {al at0 : Nat} (hn : S 0 ≤ 47) (hat : at0 ≤ S 0) (hal : al ≤ 24) : M_puts (nf ak) (nI al) (nf S) (nI at0) = some (nf (ins S ak al at0)) := by
  unfold M_puts
  rw [nf_a]
  have h7 := fun k => puts_L7 (S := S) (at0 := at0) hn (nf ak) (nI al) k (S 0 - at0) (S 0) FU (by omega) (Nat.le_refl _) (Nat.lt_of_le_of_lt (show S 0 - at0 ≤ 48 by omega) (by decide))
  rw [wsh_self] at h7
  rw [h7]
  show ga (nI 350 + nI at0) 1552 (M_puts_L103 (nf ak) (nI al) (nI at0) (fun m_s => some (upd m_s 0 ((m_s 0) + nI 1))) FU (upd (nf (wsh S at0 (S 0))) (nI 350 + nI at0).toNatClampNeg (nI al)) (nI 0)) = _
  rw [nI_add, ga_n (by omega) (by decide), nI_clamp (by omega), nf_upd]
  have key : ∀ (d i m : Nat) (S1 : Nat → Nat), i + d = al → d < m → S1 = (fun j => if 400 + 24 * at0 ≤ j ∧ j < 400 + 24 * at0 + i then ak (j - (400 + 24 * at0)) else un (wsh S at0 (S 0)) (350 + at0) al j) → M_puts_L103 (nf ak) (nI al) (nI at0) (fun m_s => some (upd m_s 0 ((m_s 0) + nI 1))) m (nf S1) (nI i) = some (nf (ins S ak al at0)) := by
    intro d
    induction d with
    | zero =>
      intro i m S1 hi hm hS
      obtain ⟨m, rfl⟩ : ∃ t, m = t + 1 := ⟨m - 1, by omega⟩
      rw [M_puts_L103, il (by omega) (by omega), if_pos (by omega), nf_a, nI_add, nf_upd]
      have hia : i = al := by omega
      subst hia
      have e : un S1 0 (S1 0 + 1) = ins S ak i at0 := by
        have e0 : S1 0 = S 0 := by
          rw [hS]
          show (if _ then _ else un (wsh S at0 (S 0)) (350 + at0) i 0) = _
          rw [if_neg (by omega), un_n (by omega)]
          unfold wsh
          rw [if_neg (by omega), if_neg (by omega)]
        funext j
        unfold un ins
        by_cases q : j = 0
        · rw [if_pos q, if_pos q, e0]
        · rw [if_neg q, if_neg q, hS]
          show (if _ then _ else un (wsh S at0 (S 0)) (350 + at0) i j) = _
          unfold un
          by_cases q2 : 400 + 24 * at0 ≤ j ∧ j < 400 + 24 * at0 + i
          · rw [if_pos q2, if_neg (by omega), if_pos q2]
          · rw [if_neg q2]
            by_cases q3 : j = 350 + at0
            · rw [if_pos q3, if_pos q3]
            · rw [if_neg q3, if_neg q3, if_neg q2]
      rw [e]
    | succ d ih =>
      intro i m S1 hi hm hS
      obtain ⟨m, rfl⟩ : ∃ t, m = t + 1 := ⟨m - 1, by omega⟩
      rw [M_puts_L103, il (by omega) (by omega), if_neg (by omega)]
      show ga (nI i) 24 (ga ((nI 400 + (nI 24 * nI at0)) + nI i) 1552 (M_puts_L103 (nf ak) (nI al) (nI at0) _ m (upd (nf S1) ((nI 400 + (nI 24 * nI at0)) + nI i).toNatClampNeg (nf ak (nI i).toNatClampNeg)) (nI i + nI 1))) = _
      rw [pk_mul, nI_add, nI_add, nI_add, ga_n (by omega) (by decide), ga_n (by omega) (by decide), nI_clamp (by omega), nI_clamp (by omega), nf_a, nf_upd]
      refine ih (i + 1) m _ (by omega) (by omega) ?_
      funext j
      unfold un
      by_cases q : j = 400 + 24 * at0 + i
      · rw [if_pos q, if_pos (by omega), q, Nat.add_sub_cancel_left]
      · rw [if_neg q, hS]
        by_cases q2 : 400 + 24 * at0 ≤ j ∧ j < 400 + 24 * at0 + i
        · show (if _ then _ else _) = _
          rw [if_pos q2, if_pos (by omega)]
        · show (if _ then _ else _) = _
          rw [if_neg q2, if_neg (show ¬ (400 + 24 * at0 ≤ j ∧ j < 400 + 24 * at0 + (i + 1)) by omega)]
          rfl
  refine key al 0 FU _ (by omega) (Nat.lt_of_le_of_lt hal (by decide)) ?_
  funext j
  rw [if_neg (by omega)]
