section
variable {cI cJ cB cL cS cW : ClassId} {b tx tb wd wbq ix pa lo n0 a1 a2 a3 a4 tr tp ar sw se : Nat} {w bq lk : Nat → Nat} {pr : Nat} {st sws ses : Nat → Nat} {ws bqs : Nat → Nat → Nat}
theorem LW_nd {LW : List (Nat × Nat)} {LS : List (Nat × Nat × Nat × (Nat → Nat))} {LK : List Nat} {f10 f12 : Nat → Option Nat} {A : Nat → Prop} {wm : va_W} (hD : va_D A (TG cI cJ cB cL cS cW b tx tb wd ix pa lo n0 a1 a2 a3 a4 tr tp ar pr f10 f12 LW LS LK ++ wm)) : (LW.map Prod.fst).Nodup ∧ (LS.map Prod.fst).Nodup ∧ LK.Nodup := by
  have h := (va_D_nd (va_D_l hD)).1
  unfold TG at h
  rw [List.map_append, List.map_append, List.map_append, List.map_append, List.map_append, List.map_append, List.map_map, List.map_map, List.map_map, List.map_map, List.map_map, List.map_map] at h
  have h0 := (List.nodup_append.mp h).2.1
  have h1 := List.nodup_append.mp h0
  have h2 := List.nodup_append.mp h1.2.1
  have h3 := List.nodup_append.mp h2.2.1
  have h4 := List.nodup_append.mp h3.2.1
  have h5 := List.nodup_append.mp h4.2.1
  refine ⟨h1.1, h3.1, ?_⟩
  have h6 := h5.2.1
  rw [show (Prod.fst ∘ fun y : Nat => ((y, .inr (1, [.int 0, .int 0, .int 0, .int 0, .int 0, .int 0])) : Nat × va_E)) = id from rfl, List.map_id] at h6
  exact h6
theorem LW_mem {i k : Nat} (hk : k < 48) (hi : i < 6) : ws i k ∈ (LWp wd wbq w bq ws bqs).map Prod.fst := by
  refine List.mem_map.mpr ⟨(ws i k, bqs i k), ?_, rfl⟩
  refine List.mem_cons_of_mem _ (List.mem_append_right _ (List.mem_flatMap.mpr ⟨i, List.mem_range.mpr hi, List.mem_map.mpr ⟨k, List.mem_range.mpr hk, rfl⟩⟩))
theorem LW_mem' {k : Nat} (hk : k < 48) : w k ∈ (LWp wd wbq w bq ws bqs).map Prod.fst := by
  refine List.mem_map.mpr ⟨(w k, bq k), ?_, rfl⟩
  exact List.mem_cons_of_mem _ (List.mem_append_left _ (List.mem_map.mpr ⟨k, List.mem_range.mpr hk, rfl⟩))
theorem LW_eq : (LWp wd wbq w bq ws bqs).map Prod.fst = wd :: ((List.range 48).map w ++ (List.range 6).flatMap (fun i => (List.range 48).map (ws i))) := by
  unfold LWp
  rw [List.map_cons, List.map_append, List.map_map, fm_map]
  congr 2
theorem LS_eq : (LSp n0 sw se w st sws ses ws).map Prod.fst = n0 :: (List.range 6).map st := by
  unfold LSp
  rw [List.map_cons, List.map_map]
  rfl
def cwF (n0 sw se : Nat) (w : Nat → Nat) (st sws ses : Nat → Nat) (ws : Nat → Nat → Nat) : Nat → Nat → Nat := fun y => (asc (0, 0, fun _ => 0) (LSp n0 sw se w st sws ses ws) y).2.2
theorem cw_n (hn : ((LSp n0 sw se w st sws ses ws).map Prod.fst).Nodup) {k : Nat} (hk : k < 48) : cwF n0 sw se w st sws ses ws n0 k = w k := by
  unfold cwF
  rw [show n0 = ((n0, sw, se, z48 w) : Nat × Nat × Nat × (Nat → Nat)).1 from rfl, asc_in _ hn _ List.mem_cons_self]
  exact if_pos hk
theorem cw_i (hn : ((LSp n0 sw se w st sws ses ws).map Prod.fst).Nodup) {i k : Nat} (hi : i < 6) (hk : k < 48) : cwF n0 sw se w st sws ses ws (st i) k = ws i k := by
  unfold cwF
  have := asc_in (0, 0, fun _ => 0) hn (st i, sws i, ses i, z48 (ws i)) (List.mem_cons_of_mem _ (List.mem_map.mpr ⟨i, List.mem_range.mpr hi, rfl⟩))
  rw [this]
  exact if_pos hk
theorem ws_apart (hn : ((LWp wd wbq w bq ws bqs).map Prod.fst).Nodup) : (∀ k, k < 48 → w k ≠ wd) ∧ (∀ i k, i < 6 → k < 48 → ws i k ≠ wd) ∧ (∀ j k, j < 48 → k < 48 → w j = w k → j = k) ∧ (∀ i j k, i < 6 → j < 48 → k < 48 → w j ≠ ws i k) ∧ ∀ i i' j k, i < 6 → i' < 6 → j < 48 → k < 48 → ws i j = ws i' k → i = i' ∧ j = k := by
  rw [LW_eq] at hn
  obtain ⟨h1, h2⟩ := List.nodup_cons.mp hn
  obtain ⟨h3, h4, h5⟩ := List.nodup_append.mp h2
  have m1 : ∀ k, k < 48 → w k ∈ (List.range 48).map w := fun k hk => List.mem_map.mpr ⟨k, List.mem_range.mpr hk, rfl⟩
  have m2 : ∀ i k, k < 48 → ws i k ∈ (List.range 48).map (ws i) := fun i k hk => List.mem_map.mpr ⟨k, List.mem_range.mpr hk, rfl⟩
  have m3 : ∀ i k, i < 6 → k < 48 → ws i k ∈ (List.range 6).flatMap (fun i => (List.range 48).map (ws i)) := fun i k hi hk => List.mem_flatMap.mpr ⟨i, List.mem_range.mpr hi, m2 i k hk⟩
  refine ⟨fun k hk e => h1 (by rw [← e]; exact List.mem_append_left _ (m1 k hk)), fun i k hi hk e => h1 (by rw [← e]; exact List.mem_append_right _ (m3 i k hi hk)), fun j k hj hk e => nd_mp h3 hj hk e, fun i j k hi hj hk e => h5 _ (m1 j hj) _ (m3 i k hi hk) e, fun i i' j k hi hi' hj hk e => ?_⟩
  have ei : i = i' := nd_fm h4 i i' hi hi' (ws i j) (m2 i j hj) (by rw [e]; exact m2 i' k hk)
  subst ei
  exact ⟨rfl, nd_mp (nd_in h4 i hi) hj hk e⟩
theorem D_left {A : Nat → Prop} {x x' y : va_W} (h : va_D A (x ++ y)) (e : x'.map Prod.fst = x.map Prod.fst) : va_D A (x' ++ y) := va_D_re h (by rw [List.map_append, List.map_append, e])
theorem gr_fst (x : va_W) : (x.map gr).map Prod.fst = x.map Prod.fst := by
  rw [List.map_map]
  exact List.map_congr_left (fun x _ => gr_1 x)
theorem WCe {a wb sw se : Nat → Nat} {LW LS LK : List Nat} {cm : Nat → Int32} {cw : Nat → Nat → Nat} : (WC0 a wb sw se LW LS LK cI cJ cB cL cS cW).map Prod.fst = (WC a wb sw se LW LS LK cI cJ cB cL cS cW (fun _ => 0) (fun _ => 0) (fun _ => 0) (fun _ => 0) (fun _ => 0) (fun _ => 0) (fun _ => 0) (fun _ => 0) (fun _ => 0) (fun _ => 0) cm (fun _ => 0) (fun _ => 0) (fun _ => 0) (fun _ => 0) (fun _ => 0) (fun _ => 0) (fun _ _ => 0) cw (fun _ _ => 0) 0 0 0 0 0 0 0 0 0 0 0 0).map Prod.fst := by
  unfold WC0 WC
  simp only [List.map_append, List.map_cons, List.map_nil, List.map_map]
  rfl
theorem TGe {LW : List (Nat × Nat)} {LS : List (Nat × Nat × Nat × (Nat → Nat))} {LK : List Nat} {f10 f12 g10 g12 : Nat → Option Nat} : (TG cI cJ cB cL cS cW b tx tb wd ix pa lo n0 a1 a2 a3 a4 tr tp ar pr f10 f12 LW LS LK).map Prod.fst = (TG cI cJ cB cL cS cW b tx tb wd ix pa lo n0 a1 a2 a3 a4 tr tp ar pr g10 g12 LW LS LK).map Prod.fst := by
  unfold TG
  simp only [List.map_append, List.map_cons, List.map_nil, List.map_map]
/-- the class's world in the law's form -/
theorem w_C {A : Nat → Prop} {D : va_G} {H : Heap} {wm : va_W} (hP : va_P D vwCl (N7 cI cJ cB cL cS cW b tx tb wd wbq ix pa lo n0 a1 a2 a3 a4 tr tp ar sw se w bq lk pr st sws ses ws bqs ++ wm) H) (hD : va_D A (N7 cI cJ cB cL cS cW b tx tb wd wbq ix pa lo n0 a1 a2 a3 a4 tr tp ar sw se w bq lk pr st sws ses ws bqs ++ wm)) :
    ∃ (a wb sw se : Nat → Nat) (LW LS LK : List Nat) (cw : Nat → Nat → Nat), a 0 = b ∧ kG a LW LS LK ∧ Ax a LS LK ∧ Wds a LW cw ∧ va_P D vwCl (WC a wb sw se LW LS LK cI cJ cB cL cS cW (fun _ => 0) (fun _ => 0) (fun _ => 0) (fun _ => 0) (fun _ => 0) (fun _ => 0) (fun _ => 0) (fun _ => 0) (fun _ => 0) (fun _ => 0) (fun _ => 4) (fun _ => 0) (fun _ => 0) (fun _ => 0) (fun _ => 0) (fun _ => 0) (fun _ => 0) (fun _ _ => 0) cw (fun _ _ => 0) 0 0 0 0 0 0 0 0 0 0 0 0) H ∧ va_P D vwCl wm H ∧ va_D A (WC0 a wb sw se LW LS LK cI cJ cB cL cS cW ++ wm) := by
  have hPm : va_P D vwCl wm H := fun k q hq => hP ((N7 cI cJ cB cL cS cW b tx tb wd wbq ix pa lo n0 a1 a2 a3 a4 tr tp ar sw se w bq lk pr st sws ses ws bqs).length + k) q (by rw [List.getElem?_append_right (by omega), Nat.add_sub_cancel_left]; exact hq)
  have hP1 : va_P D vwCl (N7 cI cJ cB cL cS cW b tx tb wd wbq ix pa lo n0 a1 a2 a3 a4 tr tp ar sw se w bq lk pr st sws ses ws bqs) H := fun k q hq => hP k q (by rw [List.getElem?_append_left (List.getElem?_eq_some_iff.mp hq).1]; exact hq)
  have hD1 : va_D A ((N7 cI cJ cB cL cS cW b tx tb wd wbq ix pa lo n0 a1 a2 a3 a4 tr tp ar sw se w bq lk pr st sws ses ws bqs).map gr ++ wm) := D_left hD (gr_fst _)
  have pm := TG_pm cI cJ cB cL cS cW b tx tb wd wbq ix pa lo n0 a1 a2 a3 a4 tr tp ar sw se w bq lk pr st sws ses ws bqs
  obtain ⟨hPt, -⟩ := nw_perm pm (gr_P hP1) (va_D_l hD1)
  obtain ⟨-, hDt⟩ := nw_perm (pm.append_right wm) ((gr_P hP1).app hPm) hD1
  obtain ⟨nW, nS, nK⟩ := LW_nd hDt
  obtain ⟨p1, p2, p3, p4, p5⟩ := ws_apart nW
  have eS := LS_eq (n0 := n0) (sw := sw) (se := se) (w := w) (st := st) (sws := sws) (ses := ses) (ws := ws)
  have nS2 := nS
  rw [eS] at nS2
  obtain ⟨s1, s2⟩ := List.nodup_cons.mp nS2
  obtain ⟨k1, k2⟩ := List.nodup_cons.mp nK
  have hst : ∀ i, i < 6 → st i ∈ (List.range 6).map st := fun i hi => List.mem_map.mpr ⟨i, List.mem_range.mpr hi, rfl⟩
  have eq0 : WC (aF [b, tx, tb, ix, a1, a2, a3, a4, tr, tp, ar, pa, pr, wd, n0, lo] st lk) (asc 0 (LWp wd wbq w bq ws bqs)) (fun y => (asc (0, 0, fun _ => 0) (LSp n0 sw se w st sws ses ws) y).1) (fun y => (asc (0, 0, fun _ => 0) (LSp n0 sw se w st sws ses ws) y).2.1) ((LWp wd wbq w bq ws bqs).map Prod.fst) ((LSp n0 sw se w st sws ses ws).map Prod.fst) (lo :: (List.range 6).map lk) cI cJ cB cL cS cW (fun _ => 0) (fun _ => 0) (fun _ => 0) (fun _ => 0) (fun _ => 0) (fun _ => 0) (fun _ => 0) (fun _ => 0) (fun _ => 0) (fun _ => 0) (fun _ => 4) (fun _ => 0) (fun _ => 0) (fun _ => 0) (fun _ => 0) (fun _ => 0) (fun _ => 0) (fun _ _ => 0) (cwF n0 sw se w st sws ses ws) (fun _ _ => 0) 0 0 0 0 0 0 0 0 0 0 0 0 = TG cI cJ cB cL cS cW b tx tb wd ix pa lo n0 a1 a2 a3 a4 tr tp ar pr (fun k => some ((aF [b, tx, tb, ix, a1, a2, a3, a4, tr, tp, ar, pa, pr, wd, n0, lo] st lk) (30 + k))) (fun k => some ((aF [b, tx, tb, ix, a1, a2, a3, a4, tr, tp, ar, pa, pr, wd, n0, lo] st lk) (20 + k))) (LWp wd wbq w bq ws bqs) (LSp n0 sw se w st sws ses ws) (lo :: (List.range 6).map lk) := by
    unfold WC cwF
    rw [asc_map 0 nW (fun y v => ((y, .inr (6, [.ref v, .int 0])) : Nat × va_E)), asc_map 0 nW (fun y v => ((v, .inl (cJ, 3, .inr (.inl (fun _ => 0)))) : Nat × va_E)), asc_map (0, 0, fun _ => 0) nS (fun y v => ((y, .inr (3, [.ref v.1, .ref v.2.1, .int 0, .int 0, .int 0, .int 4])) : Nat × va_E)), asc_map (0, 0, fun _ => 0) nS (fun y v => ((v.1, .inl (cW, 48, .inr (.inr (.inr (.inr (fun k => some (v.2.2 k))))))) : Nat × va_E)), asc_map (0, 0, fun _ => 0) nS (fun y v => ((v.2.1, .inl (cI, 48, .inl (fun _ => 0))) : Nat × va_E))]
    rfl
  refine ⟨aF [b, tx, tb, ix, a1, a2, a3, a4, tr, tp, ar, pa, pr, wd, n0, lo] st lk, asc 0 (LWp wd wbq w bq ws bqs), fun y => (asc (0, 0, fun _ => 0) (LSp n0 sw se w st sws ses ws) y).1, fun y => (asc (0, 0, fun _ => 0) (LSp n0 sw se w st sws ses ws) y).2.1, (LWp wd wbq w bq ws bqs).map Prod.fst, (LSp n0 sw se w st sws ses ws).map Prod.fst, lo :: (List.range 6).map lk, cwF n0 sw se w st sws ses ws, rfl, ⟨nW, nS, nK, ?_, ?_, List.mem_cons_self⟩, ⟨fun i hi => ?_, fun i j hi hj e => ?_, fun i hi e => ?_, fun i hi => ?_, fun i j hi hj e => ?_⟩, ⟨fun i hi k hk => ?_, fun i i' j k hi hi' hj hk e => ?_⟩, ?_, hPm, ?_⟩
  · rw [LW_eq]; exact List.mem_cons_self
  · rw [eS]; exact List.mem_cons_self
  · rw [aF_20 _ _ _ hi, eS]; exact List.mem_cons_of_mem _ (hst i hi)
  · rw [aF_20 _ _ _ hi, aF_20 _ _ _ hj] at e
    exact nd_mp s2 hi hj e
  · rw [aF_20 _ _ _ hi] at e
    exact s1 (by rw [show n0 = st i from e.symm]; exact hst i hi)
  · rw [aF_30]; exact List.mem_cons_of_mem _ (List.mem_map.mpr ⟨i, List.mem_range.mpr hi, rfl⟩)
  · rw [aF_30, aF_30] at e
    exact nd_mp k2 hi hj e
  · by_cases h6 : i < 6
    · rw [zz_l _ h6, aF_20 _ _ _ h6, cw_i nS h6 hk]
      exact ⟨LW_mem hk h6, p2 i k h6 hk⟩
    · have e6 : i = 6 := by omega
      rw [e6, zz_6]
      show cwF n0 sw se w st sws ses ws n0 k ∈ _ ∧ cwF n0 sw se w st sws ses ws n0 k ≠ wd
      rw [cw_n nS hk]
      exact ⟨LW_mem' hk, p1 k hk⟩
  · have ez : ∀ i, i < 7 → ∀ k, k < 48 → cwF n0 sw se w st sws ses ws (zz (aF [b, tx, tb, ix, a1, a2, a3, a4, tr, tp, ar, pa, pr, wd, n0, lo] st lk) i) k = if i < 6 then ws i k else w k := fun i hi k hk => by
      by_cases h6 : i < 6
      · rw [if_pos h6, zz_l _ h6, aF_20 _ _ _ h6, cw_i nS h6 hk]
      · have e6 : i = 6 := by omega
        rw [if_neg h6, e6, zz_6]
        exact cw_n nS hk
    rw [ez i hi j hj, ez i' hi' k hk] at e
    by_cases h6 : i < 6
    · by_cases h7 : i' < 6
      · rw [if_pos h6, if_pos h7] at e
        exact p5 i i' j k h6 h7 hj hk e
      · rw [if_pos h6, if_neg h7] at e
        exact absurd e.symm (p4 i k j h6 hk hj)
    · by_cases h7 : i' < 6
      · rw [if_neg h6, if_pos h7] at e
        exact absurd e (p4 i' j k h7 hj hk)
      · rw [if_neg h6, if_neg h7] at e
        exact ⟨by omega, p3 j k hj hk e⟩
  · have hs := va_P_set (k := 12) (va_P_set (k := 10) hPt (x' := (ar, .inl (cL, 6, .inr (.inr (.inr (.inr (fun k => some ((aF [b, tx, tb, ix, a1, a2, a3, a4, tr, tp, ar, pa, pr, wd, n0, lo] st lk) (30 + k))))))))) (by
        have h := hPt 10 _ rfl
        show H[ar]? = some (vp_cell cL (6, .inr (.inr (.inr (.inr _)))))
        rw [gr_row cL 6 _ (gw lk 6) (fun k hk => by rw [aF_30]; exact congrArg some (if_pos hk).symm)]
        exact h)) (x' := (pr, .inl (cS, 6, .inr (.inr (.inr (.inr (fun k => some ((aF [b, tx, tb, ix, a1, a2, a3, a4, tr, tp, ar, pa, pr, wd, n0, lo] st lk) (20 + k))))))))) (by
        have h := hPt 12 _ rfl
        show H[pr]? = some (vp_cell cS (6, .inr (.inr (.inr (.inr _)))))
        rw [gr_row cS 6 _ (gw st 6) (fun k hk => by rw [aF_20 _ _ _ hk]; exact congrArg some (if_pos hk).symm)]
        exact h)
    rw [eq0]
    exact hs
  · refine D_left (D_left hDt TGe) ((WCe).trans (congrArg (List.map Prod.fst) eq0))
end
