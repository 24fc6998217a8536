/-! the worlds made, in the law's order -/
noncomputable def cn {α : Type} (x : α) (L : List α) : Nat := @List.count α (@instBEqOfDecidableEq α (fun a b => Classical.propDecidable (a = b))) x L
theorem cn_app {α : Type} (x : α) (L M : List α) : cn x (L ++ M) = cn x L + cn x M := by
  letI : DecidableEq α := fun a b => Classical.propDecidable (a = b)
  exact List.count_append
theorem cn_cons {α : Type} (x y : α) (L : List α) : cn x (y :: L) = cn x [y] + cn x L := cn_app x [y] L
theorem cn_nil {α : Type} (x : α) : cn x ([] : List α) = 0 := by
  letI : DecidableEq α := fun a b => Classical.propDecidable (a = b)
  exact List.count_nil
theorem pm_of {α : Type} {L M : List α} (h : ∀ x, cn x L = cn x M) : List.Perm L M := by
  letI : DecidableEq α := fun a b => Classical.propDecidable (a = b)
  exact List.perm_iff_count.mpr (fun x => h x)
theorem cn_fm {α β : Type} (x : α) (f g : β → List α) : ∀ L : List β, cn x (L.flatMap (fun k => f k ++ g k)) = cn x (L.flatMap f) + cn x (L.flatMap g)
  | [] => by simp only [List.flatMap_nil, cn_nil]
  | y :: L => by
    rw [List.flatMap_cons, List.flatMap_cons, List.flatMap_cons, cn_app, cn_app, cn_app, cn_app, cn_fm x f g L]
    omega
theorem fm_one {α β : Type} (f : β → α) : ∀ L : List β, L.flatMap (fun k => [f k]) = L.map f
  | [] => rfl
  | y :: L => by rw [List.flatMap_cons, List.map_cons, fm_one f L]; rfl
theorem cn_fm2 {α β : Type} (x : α) (f g : β → α) (L : List β) : cn x (L.flatMap (fun k => [f k, g k])) = cn x (L.map f) + cn x (L.map g) := by
  rw [← fm_one f, ← fm_one g, ← cn_fm]
  rfl
theorem fm_map {α β γ : Type} (h : α → γ) (f : β → List α) : ∀ L : List β, (L.flatMap f).map h = L.flatMap (fun k => (f k).map h)
  | [] => rfl
  | y :: L => by rw [List.flatMap_cons, List.map_append, List.flatMap_cons, fm_map h f L]
/-- by address -/
def asc {α : Type} (d : α) : List (Nat × α) → Nat → α
  | [], _ => d
  | q :: L, y => if y = q.1 then q.2 else asc d L y
theorem asc_in {α : Type} (d : α) : ∀ {L : List (Nat × α)}, (L.map Prod.fst).Nodup → ∀ q ∈ L, asc d L q.1 = q.2
  | [], _, q, h => by cases h
  | x :: L, hn, q, h => by
    rw [List.map_cons] at hn
    obtain ⟨h1, h2⟩ := List.nodup_cons.mp hn
    show (if q.1 = x.1 then x.2 else asc d L q.1) = q.2
    rcases List.mem_cons.mp h with e | hq
    · rw [e, if_pos rfl]
    · rw [if_neg (fun e => h1 (by rw [← e]; exact List.mem_map.mpr ⟨q, hq, rfl⟩))]
      exact asc_in d h2 q hq
theorem asc_map {α β : Type} (d : α) {L : List (Nat × α)} (hn : (L.map Prod.fst).Nodup) (F : Nat → α → β) : (L.map Prod.fst).map (fun y => F y (asc d L y)) = L.map (fun q => F q.1 q.2) := by
  rw [List.map_map]
  refine List.map_congr_left (fun q hq => ?_)
  show F q.1 (asc d L q.1) = F q.1 q.2
  rw [asc_in d hn q hq]
theorem nd_fm {f : Nat → List Nat} : ∀ {n : Nat}, ((List.range n).flatMap f).Nodup → ∀ i i', i < n → i' < n → ∀ x, x ∈ f i → x ∈ f i' → i = i'
  | 0, _, i, _, hi, _, _, _, _ => by omega
  | n + 1, h, i, i', hi, hi', x, hx, hx' => by
    rw [List.range_succ, List.flatMap_append, List.flatMap_cons, List.flatMap_nil, List.append_nil] at h
    obtain ⟨h1, h2, h3⟩ := List.nodup_append.mp h
    have hm : ∀ j, j < n → x ∈ f j → x ∈ (List.range n).flatMap f := fun j hj hx => List.mem_flatMap.mpr ⟨j, List.mem_range.mpr hj, hx⟩
    by_cases a1 : i < n
    · by_cases a2 : i' < n
      · exact nd_fm h1 i i' a1 a2 x hx hx'
      · have e : i' = n := by omega
        rw [e] at hx'
        exact absurd rfl (h3 x (hm i a1 hx) x hx')
    · have e : i = n := by omega
      by_cases a2 : i' < n
      · rw [e] at hx
        exact absurd rfl (h3 x (hm i' a2 hx') x hx)
      · omega
theorem nd_mp {g : Nat → Nat} {n : Nat} (h : ((List.range n).map g).Nodup) {j k : Nat} (hj : j < n) (hk : k < n) (e : g j = g k) : j = k := by
  rw [← fm_one] at h
  exact nd_fm h j k hj hk (g j) (List.mem_singleton.mpr rfl) (List.mem_singleton.mpr e)
theorem nd_in {f : Nat → List Nat} : ∀ {n : Nat}, ((List.range n).flatMap f).Nodup → ∀ i, i < n → (f i).Nodup
  | 0, _, i, hi => by omega
  | n + 1, h, i, hi => by
    rw [List.range_succ, List.flatMap_append, List.flatMap_cons, List.flatMap_nil, List.append_nil] at h
    obtain ⟨h1, h2, h3⟩ := List.nodup_append.mp h
    by_cases a1 : i < n
    · exact nd_in h1 i a1
    · have e : i = n := by omega
      rw [e]
      exact h2
/-- rows of references, filled beyond their end -/
def gr : Nat × va_E → Nat × va_E
  | (q, .inl (c, n, .inr (.inr (.inr (.inr f))))) => (q, .inl (c, n, .inr (.inr (.inr (.inr (fun k => if k < n then f k else some 0))))))
  | x => x
theorem gr_1 (x : Nat × va_E) : (gr x).1 = x.1 := by
  obtain ⟨q, e⟩ := x
  rcases e with ⟨c, n, f⟩ | o
  · rcases f with f | f | f | f | f <;> rfl
  · rfl
theorem gr_row (c : ClassId) (n : Nat) (f g : Nat → Option Nat) (h : ∀ k, k < n → f k = g k) : vp_cell c (n, .inr (.inr (.inr (.inr f)))) = vp_cell c (n, .inr (.inr (.inr (.inr g)))) := by
  rw [vp_cell_q, vp_cell_q]
  unfold arrV
  congr 2
  refine funext fun k => ?_
  show va_rf (f k.1) = va_rf (g k.1)
  rw [h k.1 k.2]
theorem gr_at {D : va_G} {H : Heap} {x : Nat × va_E} (h : va_at D vwCl x H) : va_at D vwCl (gr x) H := by
  obtain ⟨q, e⟩ := x
  rcases e with ⟨c, n, f⟩ | o
  · rcases f with f | f | f | f | f
    · exact h
    · exact h
    · exact h
    · exact h
    · show H[q]? = some (vp_cell c (n, .inr (.inr (.inr (.inr (fun k => if k < n then f k else some 0))))))
      rw [gr_row c n _ f (fun k hk => if_pos hk)]
      exact h
  · exact h
theorem gr_P {D : va_G} {H : Heap} {w : va_W} (h : va_P D vwCl w H) : va_P D vwCl (w.map gr) H := fun k q hq => by
  rw [List.getElem?_map] at hq
  cases hw : w[k]? with
  | none => rw [hw] at hq; cases hq
  | some x =>
    rw [hw] at hq
    cases hq
    exact gr_at (h k x hw)
theorem gr_D {A : Nat → Prop} {w : va_W} (h : va_D A w) : va_D A (w.map gr) := va_D_re h (by
  rw [List.map_map]
  refine List.map_congr_left (fun x _ => ?_)
  first | exact gr_1 x | exact (gr_1 x).symm)
def gw (w : Nat → Nat) (n : Nat) : Nat → Option Nat := fun k => some (if k < n then w k else 0)
theorem gw_of (w : Nat → Nat) (n : Nat) : (fun k => if k < n then fw w n k else some 0) = gw w n := by
  funext k
  unfold gw fw
  by_cases h : k < n
  · rw [if_pos h, if_pos h, if_pos h]
  · rw [if_neg h, if_neg h]
theorem gr_I (cI cL : ClassId) (b n0 a1 a2 a3 a4 tr tp ar : Nat) (lk : Nat → Nat) : (I0 cI cL b n0 a1 a2 a3 a4 tr tp ar (fw lk 6)).map gr = I0 cI cL b n0 a1 a2 a3 a4 tr tp ar (gw lk 6) := by
  rw [← gw_of]
  rfl
theorem gr_S (cI cW : ClassId) (b sw se : Nat) (w : Nat → Nat) : (S3 cI cW b sw se (fw w 48)).map gr = S3 cI cW b sw se (gw w 48) := by
  rw [← gw_of]
  rfl
theorem gr_W (cJ : ClassId) (w bq : Nat → Nat) (n : Nat) : (W6 cJ w bq n).map gr = W6 cJ w bq n := by
  unfold W6
  rw [fm_map]
  rfl
theorem gr_L (lk : Nat → Nat) (n : Nat) : (L1 lk n).map gr = L1 lk n := by
  unfold L1
  rw [fm_map]
  rfl
theorem gr_2 (cS : ClassId) (b ar : Nat) (st : Nat → Nat) : (P2 cS b ar (fw st 6)).map gr = P2 cS b ar (gw st 6) := by
  rw [← gw_of]
  rfl
theorem gr_B (cI cJ cW : ClassId) (st sw se : Nat → Nat) (w bq : Nat → Nat → Nat) (n : Nat) : (B3 cI cJ cW st sw se w bq n).map gr = (List.range n).flatMap (fun i => S3 cI cW (st i) (sw i) (se i) (gw (w i) 48) ++ W6 cJ (w i) (bq i) 48) := by
  unfold B3
  rw [fm_map]
  refine fm_congr (fun k _ => ?_)
  rw [List.map_append, gr_S, gr_W]
theorem va_P_set {D : va_G} {H : Heap} {w : va_W} {k : Nat} {x' : Nat × va_E} (hP : va_P D vwCl w H) (h : va_at D vwCl x' H) : va_P D vwCl (w.set k x') H := fun j q hq => by
  by_cases e : k = j
  · rw [e, List.getElem?_set_self'] at hq
    cases hw : w[j]? with
    | none => rw [hw] at hq; cases hq
    | some x => rw [hw] at hq; cases hq; exact h
  · rw [List.getElem?_set_ne e] at hq
    exact hP j q hq
