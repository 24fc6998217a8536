/-! the class's world, in the law's order -/
def aF (L16 : List Nat) (st lk : Nat → Nat) (k : Nat) : Nat := if 30 ≤ k then lk (k - 30) else if 20 ≤ k then st (k - 20) else L16.getD k 0
theorem aF_30 (L16 : List Nat) (st lk : Nat → Nat) (k : Nat) : aF L16 st lk (30 + k) = lk k := by
  unfold aF
  rw [if_pos (by omega), Nat.add_sub_cancel_left]
theorem aF_20 (L16 : List Nat) (st lk : Nat → Nat) {k : Nat} (h : k < 6) : aF L16 st lk (20 + k) = st k := by
  unfold aF
  rw [if_neg (by omega), if_pos (by omega), Nat.add_sub_cancel_left]
def z48 (w : Nat → Nat) : Nat → Nat := fun k => if k < 48 then w k else 0
def LWp (wd wbq : Nat) (w bq : Nat → Nat) (ws bqs : Nat → Nat → Nat) : List (Nat × Nat) := (wd, wbq) :: ((List.range 48).map (fun k => (w k, bq k)) ++ (List.range 6).flatMap (fun i => (List.range 48).map (fun k => (ws i k, bqs i k))))
def LSp (n0 sw se : Nat) (w : Nat → Nat) (st sws ses : Nat → Nat) (ws : Nat → Nat → Nat) : List (Nat × Nat × Nat × (Nat → Nat)) := (n0, sw, se, z48 w) :: (List.range 6).map (fun i => (st i, sws i, ses i, z48 (ws i)))
def TG (cI cJ cB cL cS cW : ClassId) (b tx tb wd ix pa lo n0 a1 a2 a3 a4 tr tp ar pr : Nat) (f10 f12 : Nat → Option Nat) (LW : List (Nat × Nat)) (LS : List (Nat × Nat × Nat × (Nat → Nat))) (LK : List Nat) : va_W := [(b, .inr (7, [.ref tx, .ref wd, .ref ix, .ref pa, .ref lo, .int 0, .int 0, .int 0])), (tx, .inr (4, [.ref tb, .int 0])), (tb, .inl (cB, 120, .inl (fun _ => 0))), (ix, .inr (0, [.ref n0, .ref a1, .ref a2, .ref a3, .ref a4, .ref tr, .ref ar])), (a1, .inl (cI, 96, .inl (fun _ => 0))), (a2, .inl (cI, 48, .inl (fun _ => 0))), (a3, .inl (cI, 48, .inl (fun _ => 0))), (a4, .inl (cI, 48, .inl (fun _ => 0))), (tr, .inr (5, [.ref tp, .int 0, .int 0, .int 0, .int 0, .int 0, .int 0])), (tp, .inl (cI, 96, .inl (fun _ => 0))), (ar, .inl (cL, 6, .inr (.inr (.inr (.inr f10))))), (pa, .inr (2, [.ref pr, .int 0, .int 0])), (pr, .inl (cS, 6, .inr (.inr (.inr (.inr f12)))))] ++ (LW.map (fun q => (q.1, .inr (6, [.ref q.2, .int 0]))) ++ (LW.map (fun q => (q.2, .inl (cJ, 3, .inr (.inl (fun _ => 0))))) ++ (LS.map (fun q => (q.1, .inr (3, [.ref q.2.1, .ref q.2.2.1, .int 0, .int 0, .int 0, .int 4]))) ++ (LS.map (fun q => (q.2.1, .inl (cW, 48, .inr (.inr (.inr (.inr (fun k => some (q.2.2.2 k)))))))) ++ (LS.map (fun q => (q.2.2.1, .inl (cI, 48, .inl (fun _ => 0)))) ++ (LK.map (fun y => (y, .inr (1, [.int 0, .int 0, .int 0, .int 0, .int 0, .int 0])))))))))
abbrev N7 (cI cJ cB cL cS cW : ClassId) (b tx tb wd wbq ix pa lo n0 a1 a2 a3 a4 tr tp ar sw se : Nat) (w bq lk : Nat → Nat) (pr : Nat) (st sws ses : Nat → Nat) (ws bqs : Nat → Nat → Nat) : va_W := (([(b, .inr (7, [.ref tx, .ref wd, .ref ix, .ref pa, .ref lo, .int 0, .int 0, .int 0])), (tx, .inr (4, [.ref tb, .int 0])), (tb, .inl (cB, 120, .inl (fun _ => 0))), (wd, .inr (6, [.ref wbq, .int 0])), (wbq, .inl (cJ, 3, .inr (.inl (fun _ => 0))))] ++ ((I0 cI cL ix n0 a1 a2 a3 a4 tr tp ar (fw lk 6) ++ (S3 cI cW n0 sw se (fw w 48) ++ W6 cJ w bq 48)) ++ L1 lk 6)) ++ (P2 cS pa pr (fw st 6) ++ B3 cI cJ cW st sws ses ws bqs 6)) ++ [(lo, .inr (1, [.int 0, .int 0, .int 0, .int 0, .int 0, .int 0]))]
theorem cn_S3 (x : Nat × va_E) (cI cW : ClassId) (b sw se : Nat) (f : Nat → Option Nat) : cn x (S3 cI cW b sw se f) = cn x [(b, .inr (3, [.ref sw, .ref se, .int 0, .int 0, .int 0, .int 4]))] + (cn x [(sw, .inl (cW, 48, .inr (.inr (.inr (.inr f)))))] + cn x [(se, .inl (cI, 48, .inl (fun _ => 0)))]) := by
  rw [← cn_app, ← cn_app]
  rfl
theorem cn_BB (x : Nat × va_E) (cI cJ cW : ClassId) (st sw se : Nat → Nat) (w bq : Nat → Nat → Nat) (n : Nat) : cn x ((List.range n).flatMap (fun i => S3 cI cW (st i) (sw i) (se i) (gw (w i) 48) ++ W6 cJ (w i) (bq i) 48)) = (cn x ((List.range n).map (fun i => (st i, .inr (3, [.ref (sw i), .ref (se i), .int 0, .int 0, .int 0, .int 4])))) + (cn x ((List.range n).map (fun i => (sw i, .inl (cW, 48, .inr (.inr (.inr (.inr (fun k => some (z48 (w i) k))))))))) + cn x ((List.range n).map (fun i => (se i, .inl (cI, 48, .inl (fun _ => 0))))))) + (cn x ((List.range n).flatMap (fun i => (List.range 48).map (fun k => (w i k, .inr (6, [.ref (bq i k), .int 0]))))) + cn x ((List.range n).flatMap (fun i => (List.range 48).map (fun k => (bq i k, .inl (cJ, 3, .inr (.inl (fun _ => 0)))))))) := by
  rw [cn_fm x (fun i => S3 cI cW (st i) (sw i) (se i) (gw (w i) 48)) (fun i => W6 cJ (w i) (bq i) 48)]
  congr 1
  · rw [← fm_one, ← fm_one, ← fm_one, ← cn_fm, ← cn_fm]
    rfl
  · generalize List.range n = L
    induction L with
    | nil => simp only [List.flatMap_nil, cn_nil]
    | cons i L ih =>
      rw [List.flatMap_cons, List.flatMap_cons, List.flatMap_cons, cn_app, cn_app, cn_app, ih]
      unfold W6
      rw [cn_fm2]
      omega
theorem TG_pm (cI cJ cB cL cS cW : ClassId) (b tx tb wd wbq ix pa lo n0 a1 a2 a3 a4 tr tp ar sw se : Nat) (w bq lk : Nat → Nat) (pr : Nat) (st sws ses : Nat → Nat) (ws bqs : Nat → Nat → Nat) : List.Perm ((N7 cI cJ cB cL cS cW b tx tb wd wbq ix pa lo n0 a1 a2 a3 a4 tr tp ar sw se w bq lk pr st sws ses ws bqs).map gr) (TG cI cJ cB cL cS cW b tx tb wd ix pa lo n0 a1 a2 a3 a4 tr tp ar pr (gw lk 6) (gw st 6) (LWp wd wbq w bq ws bqs) (LSp n0 sw se w st sws ses ws) (lo :: (List.range 6).map lk)) := by
  refine pm_of (fun x => ?_)
  unfold N7
  rw [List.map_append, List.map_append, List.map_append, List.map_append, List.map_append, List.map_append, List.map_append, gr_I, gr_S, gr_W, gr_L, gr_2, gr_B]
  rw [cn_app, cn_app, cn_app, cn_app, cn_app, cn_app, cn_app, cn_S3, cn_BB]
  unfold W6 L1
  rw [cn_fm2, fm_one]
  unfold TG LWp LSp I0 P2
  simp only [List.map_cons, List.map_nil, List.map_append, List.map_map, fm_map, cn_app]
  simp only [cn_cons x _ (_ :: _)]
  simp only [cn_cons x _ (List.map _ _), cn_cons x _ (_ ++ _), cn_app]
  simp only [show ∀ (q : Nat) (o : Nat × List Value), gr (q, .inr o) = (q, .inr o) from fun _ _ => rfl, show ∀ (q : Nat) (c : ClassId) (n : Nat) (f : Nat → Int32), gr (q, .inl (c, n, .inl f)) = (q, .inl (c, n, .inl f)) from fun _ _ _ _ => rfl, show ∀ (q : Nat) (c : ClassId) (n : Nat) (f : Nat → Int64), gr (q, .inl (c, n, .inr (.inl f))) = (q, .inl (c, n, .inr (.inl f))) from fun _ _ _ _ => rfl]
  rw [show gw w 48 = fun k => some (z48 w k) from rfl]
  simp only [Function.comp_def]
  omega
