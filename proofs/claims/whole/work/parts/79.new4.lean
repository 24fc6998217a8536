/-! the index is made -/
def I0 (cI cL : ClassId) (b n0 a1 a2 a3 a4 tr tp ar : Nat) (f : Nat → Option Nat) : va_W := [(b, .inr (0, [.ref n0, .ref a1, .ref a2, .ref a3, .ref a4, .ref tr, .ref ar])), (a1, .inl (cI, 96, .inl (fun _ => 0))), (a2, .inl (cI, 48, .inl (fun _ => 0))), (a3, .inl (cI, 48, .inl (fun _ => 0))), (a4, .inl (cI, 48, .inl (fun _ => 0))), (tr, .inr (5, [.ref tp, .int 0, .int 0, .int 0, .int 0, .int 0, .int 0])), (tp, .inl (cI, 96, .inl (fun _ => 0))), (ar, .inl (cL, 6, .inr (.inr (.inr (.inr f)))))]
def L1 (lk : Nat → Nat) (n : Nat) : va_W := (List.range n).flatMap (fun k => [(lk k, .inr (1, [.int 0, .int 0, .int 0, .int 0, .int 0, .int 0]))])
theorem L1_s (lk : Nat → Nat) (n q : Nat) : L1 (va_up lk n q) (n + 1) = L1 lk n ++ [(q, .inr (1, [.int 0, .int 0, .int 0, .int 0, .int 0, .int 0]))] := by
  unfold L1
  rw [List.range_succ, List.flatMap_append, List.flatMap_cons, List.flatMap_nil, List.append_nil, vu_s]
  congr 1
  refine fm_congr (fun k hk => ?_)
  have := List.mem_range.mp hk
  rw [vu_n (show k ≠ n by omega)]
theorem n_X0_L {l : Launch} {D : va_G} {cI cJ cB cL cS cW : ClassId} {b n0 a1 a2 a3 a4 tr tp ar : Nat} {w1 : va_W} {p : Program} {e : Env} {s : State} {m : MethodId} {args : Array Value} {below : List Frame} {meth : Method} {c : Code} {A : Nat → Prop} {Q : State → Prop} (C : k_C3 p s m args meth c cX0_init 2 RX0 wsX0_init D (kT cI cJ cB cL cS cW) A)
    (hret : ∀ (H : Heap) (locs : List Loc) (pc : Nat) (ls : Array Slot) (lk : Nat → Nat), decode cX0_init pc = .ok (.return_, 1) → va_P D vwCl ((I0 cI cL b n0 a1 a2 a3 a4 tr tp ar (fw lk 6) ++ w1) ++ L1 lk 6) H → va_D A ((I0 cI cL b n0 a1 a2 a3 a4 tr tp ar (fw lk 6) ++ w1) ++ L1 lk 6) → va_S A s.heap H locs → W p l e { frames := 3, cells := 112, slots := 727, locals := 53 } s m args below meth c H locs 112 727 Q (F0 m pc ls [])) :
    ∀ (d k : Nat) (H : Heap) (locs : List Loc) (ls : Array Slot) (lk : Nat → Nat), k + d = 6 → va_P D vwCl ((I0 cI cL b n0 a1 a2 a3 a4 tr tp ar (fw lk k) ++ w1) ++ L1 lk k) H → va_D A ((I0 cI cL b n0 a1 a2 a3 a4 tr tp ar (fw lk k) ++ w1) ++ L1 lk k) → va_S A s.heap H locs → lv_has ls 2 [(1, .int (nI k)), (0, .ref b)] → W p l e { frames := 3, cells := 112, slots := 727, locals := 53 } s m args below meth c H locs (106 + k) (691 + 6 * k) Q (F0 m 69 ls []) := by
  obtain ⟨hx, hb, hml, hin, hown, hts, hK, hA, hN⟩ := id C
  intro d
  induction d with
  | zero =>
    intro k H locs ls lk hk hP hD hS hl
    have e : k = 6 := by omega
    subst e
    refine lv_iload_n hx hb dX0_init_69 rfl (lv_at hl 0 rfl) ?_
    refine lv_aload_n hx hb dX0_init_70 rfl (lv_at hl 1 rfl) ?_
    refine kg (v := .ref ar) hx hb hts (by decide +kernel) hown hK hP 0 rfl rfl 6 (by decide) (by decide +kernel) rfl rfl dX0_init_71 ?_
    refine va_alen (v := 6) hx hb hK hP 7 3 rfl rfl rfl dX0_init_74 ?_
    refine lv_icmp_ge (tgt := 97) hx hb dX0_init_75 (by decide) (fun hc => ?_) (fun hc => absurd (show nI 6 ≤ nI 6 by decide) hc)
    exact hret H locs 97 ls lk dX0_init_97 hP hD hS
  | succ d ih =>
    intro k H locs ls lk hk hP hD hS hl
    refine lv_iload_n hx hb dX0_init_69 rfl (lv_at hl 0 rfl) ?_
    refine lv_aload_n hx hb dX0_init_70 rfl (lv_at hl 1 rfl) ?_
    refine kg (v := .ref ar) hx hb hts (by decide +kernel) hown hK hP 0 rfl rfl 6 (by decide) (by decide +kernel) rfl rfl dX0_init_71 ?_
    refine va_alen (v := 6) hx hb hK hP 7 3 rfl rfl rfl dX0_init_74 ?_
    refine lv_icmp_ge (tgt := 97) hx hb dX0_init_75 (by decide) (fun hc => absurd hc (show ¬ nI 6 ≤ nI k from nI_ge (by omega) (by decide))) (fun hc => ?_)
    refine lv_aload_n hx hb dX0_init_78 rfl (lv_at hl 1 rfl) ?_
    refine kg (v := .ref ar) hx hb hts (by decide +kernel) hown hK hP 0 rfl rfl 6 (by decide) (by decide +kernel) rfl rfl dX0_init_79 ?_
    refine lv_iload_n hx hb dX0_init_82 rfl (lv_at hl 0 rfl) ?_
    refine va_new (ci := 1) (fs := [.int 0, .int 0, .int 0, .int 0, .int 0, .int 0]) (C := RX1) (T := TX1) (N := 6) hx hb hts (by decide +kernel) tyX1 tyX1_ok hown (hts (.classLink RX0 38 RX1) (by decide +kernel)) (hts (.instantiable RX1 6) (by decide +kernel)) (hts (.initialized RX1) (by decide +kernel)) hK hP hD hS hA rfl (fun j hj => by rcases (show j = 0 ∨ j = 1 ∨ j = 2 ∨ j = 3 ∨ j = 4 ∨ j = 5 by omega) with rfl | rfl | rfl | rfl | rfl | rfl <;> rfl) (by show 106 + k + 1 ≤ 112; omega) (by show 691 + 6 * k + 6 ≤ 727; omega) dX0_init_83 (fun q H hP hD hS => ?_)
    refine lv_dup hx hb dX0_init_86 rfl ?_
    refine k_callIN (host := RX7) ⟨hx, hb, hml, hown, hts⟩ hK hA hN (n_X1 q) ⟨va_cnB (host := RX7) 0 hts gX0_init_X1_init_n44 rfl rfl rfl hN.2.2.2.2.2.2.1 (hts (.initialized RX1) (by decide +kernel)) (by decide +kernel) ⟨Nat.le_of_ble_eq_true rfl, Nat.le_of_ble_eq_true rfl⟩, rfl, hts (.instanceMethod yX1_init) (by decide +kernel)⟩ hP hD hS hl.1 (Nat.le_of_ble_eq_true rfl) ⟨by show 106 + k + 1 + 0 ≤ 112; omega, by show 691 + 6 * k + 6 + 0 ≤ 727; omega⟩ dX0_init_87 (fun H locs w2 hw2 hP hD hS => ?_)
    subst hw2
    refine va_astq (r := (RX1, TX1, 6)) (n := 6) (f := fw lk k) (i := nI k) hx hb hK hP hD hS 7 3 ((I0 cI cL b n0 a1 a2 a3 a4 tr tp ar (fw lk k) ++ w1) ++ L1 lk k).length 1 rfl rfl (by rw [List.getElem?_append_right (Nat.le_refl _), Nat.sub_self]; rfl) rfl (vp_in_nI (by omega) (by decide)) dX0_init_90 (fun H locs hP hD hS => ?_)
    rw [nI_clamp (by omega), fw_s] at hP hD
    have hP : va_P D vwCl (((I0 cI cL b n0 a1 a2 a3 a4 tr tp ar (fw (va_up lk k q) (k + 1)) ++ w1) ++ L1 lk k) ++ [(q, .inr (1, [.int 0, .int 0, .int 0, .int 0, .int 0, .int 0]))]) H := hP
    have hD : va_D A (((I0 cI cL b n0 a1 a2 a3 a4 tr tp ar (fw (va_up lk k q) (k + 1)) ++ w1) ++ L1 lk k) ++ [(q, .inr (1, [.int 0, .int 0, .int 0, .int 0, .int 0, .int 0]))]) := hD
    rw [List.append_assoc (_ ++ w1), ← L1_s] at hP hD
    refine lv_iinc (v := nI (k + 1)) (lv' := [(1, .int (nI (k + 1))), (0, .ref b)]) hx hb dX0_init_91 hl (k := 0) rfl (nI_p1 (x := k)) (by decide) rfl (fun ls hl => ?_)
    refine lv_goto (tgt := 69) hx hb dX0_init_94 (by decide) ?_
    have := ih (k + 1) H locs ls (va_up lk k q) (by omega) hP hD hS hl
    rw [show 106 + (k + 1) = 106 + k + 1 + 0 by omega, show 691 + 6 * (k + 1) = 691 + 6 * k + 6 + 0 by omega] at this
    exact this
theorem n_X0 {l : Launch} {D : va_G} {cI cJ cB cL cS cW : ClassId} (b : Nat) : k_I l yX0_init wsX0_init { frames := 3, cells := 112, slots := 727, locals := 53 } D (kT cI cJ cB cL cS cW) b [(b, .inr (0, [.null, .null, .null, .null, .null, .null, .null]))] 112 727 (fun w2 => ∃ n0 a1 a2 a3 a4 tr tp ar sw se w bq lk, w2 = (I0 cI cL b n0 a1 a2 a3 a4 tr tp ar (fw lk 6) ++ (S3 cI cW n0 sw se (fw w 48) ++ W6 cJ w bq 48)) ++ L1 lk 6) := by
  refine k_ofN (cc := cX0_init) (maxL := 2) (own := RX0) (by decide) rfl rfl rfl (Nat.le_of_ble_eq_true rfl) ?_
  intro p e s m args below meth c A Q ls C hP hD hl hret
  have hS : va_S A s.heap s.heap [] := va_S.rf
  obtain ⟨hx, hb, hml, hin, hown, hts, hK, hA, hN⟩ := id C
  refine lv_aload_n hx hb dX0_init_0 rfl (lv_at hl 0 rfl) ?_
  refine W.objInit hx hb hown (hts (.methodLink RX0 3 objectInit) (by decide +kernel)) (hts (.instanceMethod objectInit) (by decide +kernel)) (hts _ (List.mem_of_getElem? (i := 3) rfl)) rfl (by rw [hml]; exact hl.1) rfl dX0_init_1 (Nat.le_of_ble_eq_true rfl) (Nat.le_of_ble_eq_true rfl) ?_
  refine W.eq (g2 := F0 m 4 ls []) rfl ?_
  refine lv_aload_n hx hb dX0_init_4 rfl (lv_at hl 0 rfl) ?_
  refine va_new (ci := 3) (fs := [.null, .null, .int 0, .int 0, .int 0, .int 0]) (C := RX3) (T := TX3) (N := 6) hx hb hts (by decide +kernel) tyX3 tyX3_ok hown (hts (.classLink RX0 9 RX3) (by decide +kernel)) (hts (.instantiable RX3 6) (by decide +kernel)) (hts (.initialized RX3) (by decide +kernel)) hK hP hD hS hA rfl (fun j hj => by rcases (show j = 0 ∨ j = 1 ∨ j = 2 ∨ j = 3 ∨ j = 4 ∨ j = 5 by omega) with rfl | rfl | rfl | rfl | rfl | rfl <;> rfl) (Nat.le_of_ble_eq_true rfl) (Nat.le_of_ble_eq_true rfl) dX0_init_5 (fun n0 H hP hD hS => ?_)
  refine lv_dup hx hb dX0_init_8 rfl ?_
  refine k_callI ⟨hx, hb, hml, hown, hts⟩ hK hA hN (n_X3 n0) (cwI 0 hts gX0_init_X3_init rfl rfl rfl (hts (.initialized RX3) (by decide +kernel)) (hts (.methodLink RX0 11 yX3_init) (by decide +kernel)) (hts (.instanceMethod yX3_init) (by decide +kernel)) rfl (by decide +kernel) ⟨Nat.le_of_ble_eq_true rfl, Nat.le_of_ble_eq_true rfl⟩) hP hD hS hl.1 (Nat.le_of_ble_eq_true rfl) ⟨Nat.le_of_ble_eq_true rfl, Nat.le_of_ble_eq_true rfl⟩ dX0_init_9 (fun H locs w1 hw1 hP hD hS => ?_)
  obtain ⟨sw, se, w, bq, hw1⟩ := hw1
  refine va_putF (D := D) (ci := 0) (v := .ref n0) (ty := .object "BlindPages$State") (C := RX0) (T := TX0) (N := 7) hx hb hts (by decide +kernel) tyX0 tyX0_ok nmX0 hown hK hP hD hS 0 rfl rfl 0 (by decide) (hts (.fieldLink RX0 12 "BlindPages$Index" "now" "LBlindPages$State;") (by decide +kernel)) (fun _ h9 => h9) rfl hin rfl (by decide +kernel) rfl rfl (Nat.le_of_ble_eq_true rfl) dX0_init_12 (fun H locs hP hD hS => ?_)
  have hP : va_P D vwCl ([(b, .inr (0, [.ref n0, .null, .null, .null, .null, .null, .null]))] ++ w1) H := hP
  have hD : va_D A ([(b, .inr (0, [.ref n0, .null, .null, .null, .null, .null, .null]))] ++ w1) := hD
  refine lv_aload_n hx hb dX0_init_15 rfl (lv_at hl 0 rfl) ?_
  refine lv_bipush (v := 96) hx hb dX0_init_16 rfl ?_
  refine k_newa (atype := .int) (ty := .int) (a0 := (96, .inl (fun _ => 0))) hx hb (hts (.arrayClass .int) (by decide +kernel)) rfl hK 0 rfl u_int hP hD hS hA (fun _ => rfl) (by decide) (by decide) (by decide) (Nat.le_of_ble_eq_true rfl) (Nat.le_of_ble_eq_true rfl) dX0_init_18 (fun a1 H hP hD hS => ?_)
  obtain ⟨hP, hD⟩ := nw_swap hP hD
  refine va_putF (D := D) (ci := 0) (v := .ref a1) (ty := .array .int) (C := RX0) (T := TX0) (N := 7) hx hb hts (by decide +kernel) tyX0 tyX0_ok nmX0 hown hK hP hD hS 0 rfl rfl 1 (by decide) (hts (.fieldLink RX0 18 "BlindPages$Index" "heads" "[I") (by decide +kernel)) (fun _ h9 => h9) rfl hin rfl (by decide +kernel) rfl rfl (Nat.le_of_ble_eq_true rfl) dX0_init_20 (fun H locs hP hD hS => ?_)
  have hP : va_P D vwCl ([(b, .inr (0, [.ref n0, .ref a1, .null, .null, .null, .null, .null])), (a1, .inl (cI, 96, .inl (fun _ => 0)))] ++ w1) H := hP
  have hD : va_D A ([(b, .inr (0, [.ref n0, .ref a1, .null, .null, .null, .null, .null])), (a1, .inl (cI, 96, .inl (fun _ => 0)))] ++ w1) := hD
  refine lv_aload_n hx hb dX0_init_23 rfl (lv_at hl 0 rfl) ?_
  refine lv_bipush (v := 48) hx hb dX0_init_24 rfl ?_
  refine k_newa (atype := .int) (ty := .int) (a0 := (48, .inl (fun _ => 0))) hx hb (hts (.arrayClass .int) (by decide +kernel)) rfl hK 0 rfl u_int hP hD hS hA (fun _ => rfl) (by decide) (by decide) (by decide) (Nat.le_of_ble_eq_true rfl) (Nat.le_of_ble_eq_true rfl) dX0_init_26 (fun a2 H hP hD hS => ?_)
  obtain ⟨hP, hD⟩ := nw_swap hP hD
  refine va_putF (D := D) (ci := 0) (v := .ref a2) (ty := .array .int) (C := RX0) (T := TX0) (N := 7) hx hb hts (by decide +kernel) tyX0 tyX0_ok nmX0 hown hK hP hD hS 0 rfl rfl 2 (by decide) (hts (.fieldLink RX0 22 "BlindPages$Index" "firsts" "[I") (by decide +kernel)) (fun _ h9 => h9) rfl hin rfl (by decide +kernel) rfl rfl (Nat.le_of_ble_eq_true rfl) dX0_init_28 (fun H locs hP hD hS => ?_)
  have hP : va_P D vwCl ([(b, .inr (0, [.ref n0, .ref a1, .ref a2, .null, .null, .null, .null])), (a1, .inl (cI, 96, .inl (fun _ => 0))), (a2, .inl (cI, 48, .inl (fun _ => 0)))] ++ w1) H := hP
  have hD : va_D A ([(b, .inr (0, [.ref n0, .ref a1, .ref a2, .null, .null, .null, .null])), (a1, .inl (cI, 96, .inl (fun _ => 0))), (a2, .inl (cI, 48, .inl (fun _ => 0)))] ++ w1) := hD
  refine lv_aload_n hx hb dX0_init_31 rfl (lv_at hl 0 rfl) ?_
  refine lv_bipush (v := 48) hx hb dX0_init_32 rfl ?_
  refine k_newa (atype := .int) (ty := .int) (a0 := (48, .inl (fun _ => 0))) hx hb (hts (.arrayClass .int) (by decide +kernel)) rfl hK 0 rfl u_int hP hD hS hA (fun _ => rfl) (by decide) (by decide) (by decide) (Nat.le_of_ble_eq_true rfl) (Nat.le_of_ble_eq_true rfl) dX0_init_34 (fun a3 H hP hD hS => ?_)
  obtain ⟨hP, hD⟩ := nw_swap hP hD
  refine va_putF (D := D) (ci := 0) (v := .ref a3) (ty := .array .int) (C := RX0) (T := TX0) (N := 7) hx hb hts (by decide +kernel) tyX0 tyX0_ok nmX0 hown hK hP hD hS 0 rfl rfl 3 (by decide) (hts (.fieldLink RX0 25 "BlindPages$Index" "levelOf" "[I") (by decide +kernel)) (fun _ h9 => h9) rfl hin rfl (by decide +kernel) rfl rfl (Nat.le_of_ble_eq_true rfl) dX0_init_36 (fun H locs hP hD hS => ?_)
  have hP : va_P D vwCl ([(b, .inr (0, [.ref n0, .ref a1, .ref a2, .ref a3, .null, .null, .null])), (a1, .inl (cI, 96, .inl (fun _ => 0))), (a2, .inl (cI, 48, .inl (fun _ => 0))), (a3, .inl (cI, 48, .inl (fun _ => 0)))] ++ w1) H := hP
  have hD : va_D A ([(b, .inr (0, [.ref n0, .ref a1, .ref a2, .ref a3, .null, .null, .null])), (a1, .inl (cI, 96, .inl (fun _ => 0))), (a2, .inl (cI, 48, .inl (fun _ => 0))), (a3, .inl (cI, 48, .inl (fun _ => 0)))] ++ w1) := hD
  refine lv_aload_n hx hb dX0_init_39 rfl (lv_at hl 0 rfl) ?_
  refine lv_bipush (v := 48) hx hb dX0_init_40 rfl ?_
  refine k_newa (atype := .int) (ty := .int) (a0 := (48, .inl (fun _ => 0))) hx hb (hts (.arrayClass .int) (by decide +kernel)) rfl hK 0 rfl u_int hP hD hS hA (fun _ => rfl) (by decide) (by decide) (by decide) (Nat.le_of_ble_eq_true rfl) (Nat.le_of_ble_eq_true rfl) dX0_init_42 (fun a4 H hP hD hS => ?_)
  obtain ⟨hP, hD⟩ := nw_swap hP hD
  refine va_putF (D := D) (ci := 0) (v := .ref a4) (ty := .array .int) (C := RX0) (T := TX0) (N := 7) hx hb hts (by decide +kernel) tyX0 tyX0_ok nmX0 hown hK hP hD hS 0 rfl rfl 4 (by decide) (hts (.fieldLink RX0 28 "BlindPages$Index" "aboveOf" "[I") (by decide +kernel)) (fun _ h9 => h9) rfl hin rfl (by decide +kernel) rfl rfl (Nat.le_of_ble_eq_true rfl) dX0_init_44 (fun H locs hP hD hS => ?_)
  have hP : va_P D vwCl ([(b, .inr (0, [.ref n0, .ref a1, .ref a2, .ref a3, .ref a4, .null, .null])), (a1, .inl (cI, 96, .inl (fun _ => 0))), (a2, .inl (cI, 48, .inl (fun _ => 0))), (a3, .inl (cI, 48, .inl (fun _ => 0))), (a4, .inl (cI, 48, .inl (fun _ => 0)))] ++ w1) H := hP
  have hD : va_D A ([(b, .inr (0, [.ref n0, .ref a1, .ref a2, .ref a3, .ref a4, .null, .null])), (a1, .inl (cI, 96, .inl (fun _ => 0))), (a2, .inl (cI, 48, .inl (fun _ => 0))), (a3, .inl (cI, 48, .inl (fun _ => 0))), (a4, .inl (cI, 48, .inl (fun _ => 0)))] ++ w1) := hD
  refine lv_aload_n hx hb dX0_init_47 rfl (lv_at hl 0 rfl) ?_
  refine va_new (ci := 5) (fs := [.null, .int 0, .int 0, .int 0, .int 0, .int 0, .int 0]) (C := RX5) (T := TX5) (N := 7) hx hb hts (by decide +kernel) tyX5 tyX5_ok hown (hts (.classLink RX0 31 RX5) (by decide +kernel)) (hts (.instantiable RX5 7) (by decide +kernel)) (hts (.initialized RX5) (by decide +kernel)) hK hP hD hS hA rfl (fun j hj => by rcases (show j = 0 ∨ j = 1 ∨ j = 2 ∨ j = 3 ∨ j = 4 ∨ j = 5 ∨ j = 6 by omega) with rfl | rfl | rfl | rfl | rfl | rfl | rfl <;> rfl) (Nat.le_of_ble_eq_true rfl) (Nat.le_of_ble_eq_true rfl) dX0_init_48 (fun tr H hP hD hS => ?_)
  refine lv_dup hx hb dX0_init_51 rfl ?_
  refine k_callIN (host := RX7) ⟨hx, hb, hml, hown, hts⟩ hK hA hN (n_X5 tr) ⟨va_cnB (host := RX7) 0 hts gX0_init_X5_init_n33 rfl rfl rfl hN.2.2.2.2.2.1 (hts (.initialized RX5) (by decide +kernel)) (by decide +kernel) ⟨Nat.le_of_ble_eq_true rfl, Nat.le_of_ble_eq_true rfl⟩, rfl, hts (.instanceMethod yX5_init) (by decide +kernel)⟩ hP hD hS hl.1 (Nat.le_of_ble_eq_true rfl) ⟨Nat.le_of_ble_eq_true rfl, Nat.le_of_ble_eq_true rfl⟩ dX0_init_52 (fun H locs w2 hw2 hP hD hS => ?_)
  obtain ⟨tp, rfl⟩ := hw2
  obtain ⟨hP, hD⟩ := nw_swap hP hD
  refine va_putF (D := D) (ci := 0) (v := .ref tr) (ty := .object "BlindPages$Tree") (C := RX0) (T := TX0) (N := 7) hx hb hts (by decide +kernel) tyX0 tyX0_ok nmX0 hown hK hP hD hS 0 rfl rfl 5 (by decide) (hts (.fieldLink RX0 34 "BlindPages$Index" "tree" "LBlindPages$Tree;") (by decide +kernel)) (fun _ h9 => h9) rfl hin rfl (by decide +kernel) rfl rfl (Nat.le_of_ble_eq_true rfl) dX0_init_55 (fun H locs hP hD hS => ?_)
  have hP : va_P D vwCl ([(b, .inr (0, [.ref n0, .ref a1, .ref a2, .ref a3, .ref a4, .ref tr, .null])), (a1, .inl (cI, 96, .inl (fun _ => 0))), (a2, .inl (cI, 48, .inl (fun _ => 0))), (a3, .inl (cI, 48, .inl (fun _ => 0))), (a4, .inl (cI, 48, .inl (fun _ => 0))), (tr, .inr (5, [.ref tp, .int 0, .int 0, .int 0, .int 0, .int 0, .int 0])), (tp, .inl (cI, 96, .inl (fun _ => 0)))] ++ w1) H := hP
  have hD : va_D A ([(b, .inr (0, [.ref n0, .ref a1, .ref a2, .ref a3, .ref a4, .ref tr, .null])), (a1, .inl (cI, 96, .inl (fun _ => 0))), (a2, .inl (cI, 48, .inl (fun _ => 0))), (a3, .inl (cI, 48, .inl (fun _ => 0))), (a4, .inl (cI, 48, .inl (fun _ => 0))), (tr, .inr (5, [.ref tp, .int 0, .int 0, .int 0, .int 0, .int 0, .int 0])), (tp, .inl (cI, 96, .inl (fun _ => 0)))] ++ w1) := hD
  refine lv_aload_n hx hb dX0_init_58 rfl (lv_at hl 0 rfl) ?_
  refine lv_bipush (v := 6) hx hb dX0_init_59 rfl ?_
  refine k_newq (N' := 6) hx hb hown (hts (.classLink RX0 38 RX1) (by decide +kernel)) hN.2.2.2.2.2.2.2.2.2 hK 3 rfl hP hD hS hA (by decide) (by decide) (by decide) (Nat.le_of_ble_eq_true rfl) (Nat.le_of_ble_eq_true rfl) dX0_init_61 (fun ar H hP hD hS => ?_)
  obtain ⟨hP, hD⟩ := nw_swap hP hD
  refine va_putF (D := D) (ci := 0) (v := .ref ar) (ty := .array (.object "BlindPages$Look")) (C := RX0) (T := TX0) (N := 7) hx hb hts (by decide +kernel) tyX0 tyX0_ok nmX0 hown hK hP hD hS 0 rfl rfl 6 (by decide) (hts (.fieldLink RX0 40 "BlindPages$Index" "steps" "[LBlindPages$Look;") (by decide +kernel)) (fun _ h9 => h9) rfl hin rfl (by decide +kernel) rfl rfl (Nat.le_of_ble_eq_true rfl) dX0_init_64 (fun H locs hP hD hS => ?_)
  refine lv_iconst (v := 0) hx hb dX0_init_67 (by decide) ?_
  refine lv_istore_n (lv' := [(1, .int 0), (0, .ref b)]) hx hb dX0_init_68 rfl hl (by decide) rfl (fun ls hl => ?_)
  refine n_X0_L (n0 := n0) (a1 := a1) (a2 := a2) (a3 := a3) (a4 := a4) (tr := tr) (tp := tp) (ar := ar) (w1 := w1) C (fun H locs pc ls lk hd hP hD hS => hret H locs pc ls _ hd ⟨n0, a1, a2, a3, a4, tr, tp, ar, sw, se, w, bq, lk, by rw [← hw1]⟩ hP hD hS) 6 0 H locs ls (fun _ => 0) rfl ?_ ?_ hS hl
  · rw [← fw_0, show L1 (fun _ => 0) 0 = [] from rfl, List.append_nil]; exact hP
  · rw [← fw_0, show L1 (fun _ => 0) 0 = [] from rfl, List.append_nil]; exact hD
