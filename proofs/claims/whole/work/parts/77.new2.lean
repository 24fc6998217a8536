/-! worlds in another order; a state is made -/
theorem va_D_nd {A : Nat → Prop} : ∀ {w : va_W}, va_D A w → (w.map Prod.fst).Nodup ∧ ∀ x ∈ w, A x.1
  | [], _ => ⟨List.nodup_nil, fun x h => by cases h⟩
  | x :: w, h => by
    have hw : va_D A w := ⟨fun i j p q hi hj e => by
      have := h.1 (i + 1) (j + 1) p q (by rw [List.getElem?_cons_succ]; exact hi) (by rw [List.getElem?_cons_succ]; exact hj) e
      omega, fun k q hk => h.2 (k + 1) q (by rw [List.getElem?_cons_succ]; exact hk)⟩
    obtain ⟨h1, h2⟩ := va_D_nd hw
    refine ⟨?_, fun y hy => ?_⟩
    · rw [List.map_cons]
      refine List.nodup_cons.mpr ⟨fun hm => ?_, h1⟩
      obtain ⟨y, hy, e⟩ := List.mem_map.mp hm
      obtain ⟨j, hj⟩ := List.mem_iff_getElem?.mp hy
      have := h.1 0 (j + 1) x y rfl (by rw [List.getElem?_cons_succ]; exact hj) e.symm
      omega
    · rcases List.mem_cons.mp hy with e | hy
      · rw [e]; exact h.2 0 x rfl
      · exact h2 y hy
theorem va_D_of {A : Nat → Prop} : ∀ {w : va_W}, (w.map Prod.fst).Nodup → (∀ x ∈ w, A x.1) → va_D A w
  | [], _, _ => ⟨fun i j p q hi => by simp at hi, fun k q hk => by simp at hk⟩
  | x :: w, h1, h2 => by
    rw [List.map_cons] at h1
    obtain ⟨g1, g2⟩ := List.nodup_cons.mp h1
    have hw : va_D A w := va_D_of g2 (fun y hy => h2 y (List.mem_cons_of_mem _ hy))
    refine ⟨fun i j p q hi hj e => ?_, fun k q hk => h2 q (List.mem_of_getElem? hk)⟩
    cases i with
    | zero =>
      cases j with
      | zero => rfl
      | succ j =>
        rw [List.getElem?_cons_zero] at hi
        rw [List.getElem?_cons_succ] at hj
        cases hi
        exact absurd (List.mem_map.mpr ⟨q, List.mem_of_getElem? hj, e.symm⟩) g1
    | succ i =>
      cases j with
      | zero =>
        rw [List.getElem?_cons_zero] at hj
        rw [List.getElem?_cons_succ] at hi
        cases hj
        exact absurd (List.mem_map.mpr ⟨p, List.mem_of_getElem? hi, e⟩) g1
      | succ j =>
        rw [List.getElem?_cons_succ] at hi hj
        rw [hw.1 i j p q hi hj e]
theorem nw_perm {A : Nat → Prop} {D : va_G} {w w' : va_W} {H : Heap} (h : List.Perm w w') (hP : va_P D vwCl w H) (hD : va_D A w) : va_P D vwCl w' H ∧ va_D A w' := by
  obtain ⟨h1, h2⟩ := va_D_nd hD
  refine ⟨fun k q hq => ?_, va_D_of ((h.map Prod.fst).nodup_iff.mp h1) (fun x hx => h2 x (h.mem_iff.mpr hx))⟩
  obtain ⟨i, hi⟩ := List.mem_iff_getElem?.mp (h.mem_iff.mpr (List.mem_of_getElem? hq))
  exact hP i q hi
theorem nw_swap {A : Nat → Prop} {D : va_G} {F w y : va_W} {H : Heap} (hP : va_P D vwCl ((F ++ w) ++ y) H) (hD : va_D A ((F ++ w) ++ y)) : va_P D vwCl ((F ++ y) ++ w) H ∧ va_D A ((F ++ y) ++ w) := by
  refine nw_perm ?_ hP hD
  rw [List.append_assoc, List.append_assoc]
  exact List.Perm.append_left F List.perm_append_comm
/-- the words of a state -/
def W6 (cJ : ClassId) (w bq : Nat → Nat) (n : Nat) : va_W := (List.range n).flatMap (fun k => [(w k, .inr (6, [.ref (bq k), .int 0])), (bq k, .inl (cJ, 3, .inr (.inl (fun _ => 0))))])
def S3 (cI cW : ClassId) (b sw se : Nat) (f : Nat → Option Nat) : va_W := [(b, .inr (3, [.ref sw, .ref se, .int 0, .int 0, .int 0, .int 4])), (sw, .inl (cW, 48, .inr (.inr (.inr (.inr f))))), (se, .inl (cI, 48, .inl (fun _ => 0)))]
def fw (w : Nat → Nat) (n : Nat) : Nat → Option Nat := fun j => if j < n then some (w j) else none
theorem fm_congr {α β : Type} {f g : α → List β} : ∀ {L : List α}, (∀ x ∈ L, f x = g x) → L.flatMap f = L.flatMap g
  | [], _ => rfl
  | x :: L, h => by
    rw [List.flatMap_cons, List.flatMap_cons, h x List.mem_cons_self, fm_congr (fun y hy => h y (List.mem_cons_of_mem _ hy))]
theorem W6_s (cJ : ClassId) (w bq : Nat → Nat) (n q r : Nat) : W6 cJ (va_up w n q) (va_up bq n r) (n + 1) = W6 cJ w bq n ++ [(q, .inr (6, [.ref r, .int 0])), (r, .inl (cJ, 3, .inr (.inl (fun _ => 0))))] := by
  unfold W6
  rw [List.range_succ, List.flatMap_append, List.flatMap_cons, List.flatMap_nil, List.append_nil, vu_s, vu_s]
  congr 1
  refine fm_congr (fun k hk => ?_)
  have := List.mem_range.mp hk
  rw [vu_n (show k ≠ n by omega), vu_n (show k ≠ n by omega)]
theorem fw_s (w : Nat → Nat) (n q : Nat) : va_up (fw w n) n (some q) = fw (va_up w n q) (n + 1) := by
  funext j
  unfold fw
  by_cases c : j = n
  · rw [c, vu_s, if_pos (by omega), vu_s]
  · rw [vu_n c]
    by_cases c2 : j < n
    · rw [if_pos c2, if_pos (by omega), vu_n c]
    · rw [if_neg c2, if_neg (by omega)]
theorem fw_0 (w : Nat → Nat) : (fun _ => none) = fw w 0 := by
  funext j
  unfold fw
  rw [if_neg (by omega)]
theorem n_X3_L {l : Launch} {D : va_G} {cI cJ cB cL cS cW : ClassId} {b sw se : Nat} {p : Program} {e : Env} {s : State} {m : MethodId} {args : Array Value} {below : List Frame} {meth : Method} {c : Code} {A : Nat → Prop} {Q : State → Prop} (C : k_C3 p s m args meth c cX3_init 2 RX3 wsX3_init D (kT cI cJ cB cL cS cW) A)
    (hret : ∀ (H : Heap) (locs : List Loc) (pc : Nat) (ls : Array Slot) (w2 : va_W), decode cX3_init pc = .ok (.return_, 1) → (∃ sw se w bq, w2 = S3 cI cW b sw se (fw w 48) ++ W6 cJ w bq 48) → va_P D vwCl w2 H → va_D A w2 → va_S A s.heap H locs → W p l e { frames := 2, cells := 98, slots := 336, locals := 32 } s m args below meth c H locs 98 336 Q (F0 m pc ls [])) :
    ∀ (d k : Nat) (H : Heap) (locs : List Loc) (ls : Array Slot) (w bq : Nat → Nat), k + d = 48 → va_P D vwCl (S3 cI cW b sw se (fw w k) ++ W6 cJ w bq k) H → va_D A (S3 cI cW b sw se (fw w k) ++ W6 cJ w bq k) → va_S A s.heap H locs → lv_has ls 2 [(1, .int (nI k)), (0, .ref b)] → W p l e { frames := 2, cells := 98, slots := 336, locals := 32 } s m args below meth c H locs (2 + 2 * k) (96 + 5 * k) Q (F0 m 28 ls []) := by
  obtain ⟨hx, hb, hml, hin, hown, hts, hK, hA, hN⟩ := id C
  intro d
  induction d with
  | zero =>
    intro k H locs ls w bq hk hP hD hS hl
    have e : k = 48 := by omega
    subst e
    refine lv_iload_n hx hb dX3_init_28 rfl (lv_at hl 0 rfl) ?_
    refine lv_aload_n hx hb dX3_init_29 rfl (lv_at hl 1 rfl) ?_
    refine kg (v := .ref sw) hx hb hts (by decide +kernel) hown hK hP 0 rfl rfl 0 (by decide) (by decide +kernel) rfl rfl dX3_init_30 ?_
    refine va_alen (v := 48) hx hb hK hP 1 5 rfl rfl rfl dX3_init_33 ?_
    refine lv_icmp_ge (tgt := 56) hx hb dX3_init_34 (by decide) (fun hc => ?_) (fun hc => absurd (show nI 48 ≤ nI 48 by decide) hc)
    exact hret H locs 56 ls _ dX3_init_56 ⟨sw, se, w, bq, rfl⟩ hP hD hS
  | succ d ih =>
    intro k H locs ls w bq hk hP hD hS hl
    refine lv_iload_n hx hb dX3_init_28 rfl (lv_at hl 0 rfl) ?_
    refine lv_aload_n hx hb dX3_init_29 rfl (lv_at hl 1 rfl) ?_
    refine kg (v := .ref sw) hx hb hts (by decide +kernel) hown hK hP 0 rfl rfl 0 (by decide) (by decide +kernel) rfl rfl dX3_init_30 ?_
    refine va_alen (v := 48) hx hb hK hP 1 5 rfl rfl rfl dX3_init_33 ?_
    refine lv_icmp_ge (tgt := 56) hx hb dX3_init_34 (by decide) (fun hc => absurd hc (show ¬ nI 48 ≤ nI k from nI_ge (by omega) (by decide))) (fun hc => ?_)
    refine lv_aload_n hx hb dX3_init_37 rfl (lv_at hl 1 rfl) ?_
    refine kg (v := .ref sw) hx hb hts (by decide +kernel) hown hK hP 0 rfl rfl 0 (by decide) (by decide +kernel) rfl rfl dX3_init_38 ?_
    refine lv_iload_n hx hb dX3_init_41 rfl (lv_at hl 0 rfl) ?_
    refine va_new (ci := 6) (fs := [.null, .int 0]) (C := RX6) (T := TX6) (N := 2) hx hb hts (by decide +kernel) tyX6 tyX6_ok hown (hts (.classLink RX3 9 RX6) (by decide +kernel)) (hts (.instantiable RX6 2) (by decide +kernel)) (hts (.initialized RX6) (by decide +kernel)) hK hP hD hS hA rfl (fun j hj => by rcases (show j = 0 ∨ j = 1 by omega) with rfl | rfl <;> rfl) (by show 2 + 2 * k + 1 ≤ 98; omega) (by show 96 + 5 * k + 2 ≤ 336; omega) dX3_init_42 (fun q H hP hD hS => ?_)
    refine lv_dup hx hb dX3_init_45 rfl ?_
    refine k_callIN (host := RX7) ⟨hx, hb, hml, hown, hts⟩ hK hA hN (n_X6 q) ⟨va_cnB (host := RX7) 0 hts gX3_init_X6_init_n25 rfl rfl rfl hN.2.2.2.2.1 (hts (.initialized RX6) (by decide +kernel)) (by decide +kernel) ⟨Nat.le_of_ble_eq_true rfl, Nat.le_of_ble_eq_true rfl⟩, rfl, hts (.instanceMethod yX6_init) (by decide +kernel)⟩ hP hD hS hl.1 (Nat.le_of_ble_eq_true rfl) ⟨by show 2 + 2 * k + 1 + 1 ≤ 98; omega, by show 96 + 5 * k + 2 + 3 ≤ 336; omega⟩ dX3_init_46 (fun H locs w1 hw1 hP hD hS => ?_)
    obtain ⟨r, rfl⟩ := hw1
    refine va_astq (r := (RX6, TX6, 2)) (n := 48) (f := fw w k) (i := nI k) hx hb hK hP hD hS 1 5 (S3 cI cW b sw se (fw w k) ++ W6 cJ w bq k).length 6 rfl rfl (by rw [List.getElem?_append_right (Nat.le_refl _), Nat.sub_self]; rfl) rfl (vp_in_nI (by omega) (by decide)) dX3_init_49 (fun H locs hP hD hS => ?_)
    rw [nI_clamp (by omega), fw_s] at hP hD
    have hP : va_P D vwCl ((S3 cI cW b sw se (fw (va_up w k q) (k + 1)) ++ W6 cJ w bq k) ++ [(q, .inr (6, [.ref r, .int 0])), (r, .inl (cJ, 3, .inr (.inl (fun _ => 0))))]) H := hP
    have hD : va_D A ((S3 cI cW b sw se (fw (va_up w k q) (k + 1)) ++ W6 cJ w bq k) ++ [(q, .inr (6, [.ref r, .int 0])), (r, .inl (cJ, 3, .inr (.inl (fun _ => 0))))]) := hD
    rw [List.append_assoc, ← W6_s] at hP hD
    refine lv_iinc (v := nI (k + 1)) (lv' := [(1, .int (nI (k + 1))), (0, .ref b)]) hx hb dX3_init_50 hl (k := 0) rfl (nI_p1 (x := k)) (by decide) rfl (fun ls hl => ?_)
    refine lv_goto (tgt := 28) hx hb dX3_init_53 (by decide) ?_
    have := ih (k + 1) H locs ls (va_up w k q) (va_up bq k r) (by omega) hP hD hS hl
    rw [show 2 + 2 * (k + 1) = 2 + 2 * k + 1 + 1 by omega, show 96 + 5 * (k + 1) = 96 + 5 * k + 2 + 3 by omega] at this
    exact this
theorem n_X3 {l : Launch} {D : va_G} {cI cJ cB cL cS cW : ClassId} (b : Nat) : k_I l yX3_init wsX3_init { frames := 2, cells := 98, slots := 336, locals := 32 } D (kT cI cJ cB cL cS cW) b [(b, .inr (3, [.null, .null, .int 0, .int 0, .int 0, .int 0]))] 98 336 (fun w2 => ∃ sw se w bq, w2 = S3 cI cW b sw se (fw w 48) ++ W6 cJ w bq 48) := by
  refine k_ofN (cc := cX3_init) (maxL := 2) (own := RX3) (by decide) rfl rfl rfl (Nat.le_of_ble_eq_true rfl) ?_
  intro p e s m args below meth c A Q ls C hP hD hl hret
  have hS : va_S A s.heap s.heap [] := va_S.rf
  obtain ⟨hx, hb, hml, hin, hown, hts, hK, hA, hN⟩ := id C
  refine lv_aload_n hx hb dX3_init_0 rfl (lv_at hl 0 rfl) ?_
  refine W.objInit hx hb hown (hts (.methodLink RX3 3 objectInit) (by decide +kernel)) (hts (.instanceMethod objectInit) (by decide +kernel)) (hts _ (List.mem_of_getElem? (i := 3) rfl)) rfl (by rw [hml]; exact hl.1) rfl dX3_init_1 (Nat.le_of_ble_eq_true rfl) (Nat.le_of_ble_eq_true rfl) ?_
  refine W.eq (g2 := F0 m 4 ls []) rfl ?_
  refine lv_aload_n hx hb dX3_init_4 rfl (lv_at hl 0 rfl) ?_
  refine lv_bipush (v := 48) hx hb dX3_init_5 rfl ?_
  refine k_newq (N' := 48) hx hb hown (hts (.classLink RX3 9 RX6) (by decide +kernel)) hN.2.2.2.2.2.2.2.2.1 hK 5 rfl hP hD hS hA (by decide) (by decide) (by decide) (Nat.le_of_ble_eq_true rfl) (Nat.le_of_ble_eq_true rfl) dX3_init_7 (fun sw H hP hD hS => ?_)
  refine va_putF (D := D) (ci := 3) (v := .ref sw) (ty := .array (.object "BlindPages$Word")) (C := RX3) (T := TX3) (N := 6) hx hb hts (by decide +kernel) tyX3 tyX3_ok nmX3 hown hK hP hD hS 0 rfl rfl 0 (by decide) (hts (.fieldLink RX3 11 "BlindPages$State" "words" "[LBlindPages$Word;") (by decide +kernel)) (fun _ h9 => h9) rfl hin rfl (by decide +kernel) rfl rfl (Nat.le_of_ble_eq_true rfl) dX3_init_10 (fun H locs hP hD hS => ?_)
  refine lv_aload_n hx hb dX3_init_13 rfl (lv_at hl 0 rfl) ?_
  refine lv_bipush (v := 48) hx hb dX3_init_14 rfl ?_
  refine k_newa (atype := .int) (ty := .int) (a0 := (48, .inl (fun _ => 0))) hx hb (hts (.arrayClass .int) (by decide +kernel)) rfl hK 0 rfl u_int hP hD hS hA (fun _ => rfl) (by decide) (by decide) (by decide) (Nat.le_of_ble_eq_true rfl) (Nat.le_of_ble_eq_true rfl) dX3_init_16 (fun se H hP hD hS => ?_)
  refine va_putF (D := D) (ci := 3) (v := .ref se) (ty := .array .int) (C := RX3) (T := TX3) (N := 6) hx hb hts (by decide +kernel) tyX3 tyX3_ok nmX3 hown hK hP hD hS 0 rfl rfl 1 (by decide) (hts (.fieldLink RX3 17 "BlindPages$State" "entries" "[I") (by decide +kernel)) (fun _ h9 => h9) rfl hin rfl (by decide +kernel) rfl rfl (Nat.le_of_ble_eq_true rfl) dX3_init_18 (fun H locs hP hD hS => ?_)
  refine lv_aload_n hx hb dX3_init_21 rfl (lv_at hl 0 rfl) ?_
  refine lv_iconst (v := 4) hx hb dX3_init_22 (by decide) ?_
  refine va_put (D := D) (ci := 3) (v := .int 4) (ty := .int) (C := RX3) (T := TX3) (N := 6) hx hb hts (by decide +kernel) tyX3 tyX3_ok nmX3 hown hK hP hD hS 0 rfl rfl 5 (by decide) (hts (.fieldLink RX3 21 "BlindPages$State" "most" "I") (by decide +kernel)) (fun _ h9 => h9) rfl (by decide +kernel) rfl rfl (Nat.le_of_ble_eq_true rfl) dX3_init_23 (fun H locs hP hD hS => ?_)
  refine lv_iconst (v := 0) hx hb dX3_init_26 (by decide) ?_
  refine lv_istore_n (lv' := [(1, .int 0), (0, .ref b)]) hx hb dX3_init_27 rfl hl (by decide) rfl (fun ls hl => ?_)
  refine n_X3_L (sw := sw) (se := se) C hret 48 0 H locs ls (fun _ => 0) (fun _ => 0) rfl ?_ ?_ hS hl
  · rw [← fw_0]; exact hP
  · rw [← fw_0]; exact hD
