/-! the states that are kept are made -/
def B3 (cI cJ cW : ClassId) (st sw se : Nat → Nat) (w bq : Nat → Nat → Nat) (n : Nat) : va_W := (List.range n).flatMap (fun i => S3 cI cW (st i) (sw i) (se i) (fw (w i) 48) ++ W6 cJ (w i) (bq i) 48)
def P2 (cS : ClassId) (b ar : Nat) (f : Nat → Option Nat) : va_W := [(b, .inr (2, [.ref ar, .int 0, .int 0])), (ar, .inl (cS, 6, .inr (.inr (.inr (.inr f)))))]
theorem B3_s (cI cJ cW : ClassId) (st sw se : Nat → Nat) (w bq : Nat → Nat → Nat) (n q a b : Nat) (w0 b0 : Nat → Nat) : B3 cI cJ cW (va_up st n q) (va_up sw n a) (va_up se n b) (va_up w n w0) (va_up bq n b0) (n + 1) = B3 cI cJ cW st sw se w bq n ++ (S3 cI cW q a b (fw w0 48) ++ W6 cJ w0 b0 48) := by
  unfold B3
  rw [List.range_succ, List.flatMap_append, List.flatMap_cons, List.flatMap_nil, List.append_nil, vu_s, vu_s, vu_s, vu_s, vu_s]
  congr 1
  refine fm_congr (fun k hk => ?_)
  have := List.mem_range.mp hk
  rw [vu_n (show k ≠ n by omega), vu_n (show k ≠ n by omega), vu_n (show k ≠ n by omega), vu_n (show k ≠ n by omega), vu_n (show k ≠ n by omega)]
theorem n_X2_L {l : Launch} {D : va_G} {cI cJ cB cL cS cW : ClassId} {b ar : Nat} {p : Program} {e : Env} {s : State} {m : MethodId} {args : Array Value} {below : List Frame} {meth : Method} {c : Code} {A : Nat → Prop} {Q : State → Prop} (C : k_C3 p s m args meth c cX2_init 2 RX2 wsX2_init D (kT cI cJ cB cL cS cW) A)
    (hret : ∀ (H : Heap) (locs : List Loc) (pc : Nat) (ls : Array Slot) (w2 : va_W), decode cX2_init pc = .ok (.return_, 1) → (∃ ar st sw se w bq, w2 = P2 cS b ar (fw st 6) ++ B3 cI cJ cW st sw se w bq 6) → va_P D vwCl w2 H → va_D A w2 → va_S A s.heap H locs → W p l e { frames := 3, cells := 595, slots := 2058, locals := 53 } s m args below meth c H locs 595 2058 Q (F0 m pc ls [])) :
    ∀ (d k : Nat) (H : Heap) (locs : List Loc) (ls : Array Slot) (st sw se : Nat → Nat) (w bq : Nat → Nat → Nat), k + d = 6 → va_P D vwCl (P2 cS b ar (fw st k) ++ B3 cI cJ cW st sw se w bq k) H → va_D A (P2 cS b ar (fw st k) ++ B3 cI cJ cW st sw se w bq k) → va_S A s.heap H locs → lv_has ls 2 [(1, .int (nI k)), (0, .ref b)] → W p l e { frames := 3, cells := 595, slots := 2058, locals := 53 } s m args below meth c H locs (1 + 99 * k) (6 + 342 * k) Q (F0 m 15 ls []) := by
  obtain ⟨hx, hb, hml, hin, hown, hts, hK, hA, hN⟩ := id C
  intro d
  induction d with
  | zero =>
    intro k H locs ls st sw se w bq hk hP hD hS hl
    have e : k = 6 := by omega
    subst e
    refine lv_iload_n hx hb dX2_init_15 rfl (lv_at hl 0 rfl) ?_
    refine lv_aload_n hx hb dX2_init_16 rfl (lv_at hl 1 rfl) ?_
    refine kg (v := .ref ar) hx hb hts (by decide +kernel) hown hK hP 0 rfl rfl 0 (by decide) (by decide +kernel) rfl rfl dX2_init_17 ?_
    refine va_alen (v := 6) hx hb hK hP 1 4 rfl rfl rfl dX2_init_20 ?_
    refine lv_icmp_ge (tgt := 43) hx hb dX2_init_21 (by decide) (fun hc => ?_) (fun hc => absurd (show nI 6 ≤ nI 6 by decide) hc)
    exact hret H locs 43 ls _ dX2_init_43 ⟨ar, st, sw, se, w, bq, rfl⟩ hP hD hS
  | succ d ih =>
    intro k H locs ls st sw se w bq hk hP hD hS hl
    refine lv_iload_n hx hb dX2_init_15 rfl (lv_at hl 0 rfl) ?_
    refine lv_aload_n hx hb dX2_init_16 rfl (lv_at hl 1 rfl) ?_
    refine kg (v := .ref ar) hx hb hts (by decide +kernel) hown hK hP 0 rfl rfl 0 (by decide) (by decide +kernel) rfl rfl dX2_init_17 ?_
    refine va_alen (v := 6) hx hb hK hP 1 4 rfl rfl rfl dX2_init_20 ?_
    refine lv_icmp_ge (tgt := 43) hx hb dX2_init_21 (by decide) (fun hc => absurd hc (show ¬ nI 6 ≤ nI k from nI_ge (by omega) (by decide))) (fun hc => ?_)
    refine lv_aload_n hx hb dX2_init_24 rfl (lv_at hl 1 rfl) ?_
    refine kg (v := .ref ar) hx hb hts (by decide +kernel) hown hK hP 0 rfl rfl 0 (by decide) (by decide +kernel) rfl rfl dX2_init_25 ?_
    refine lv_iload_n hx hb dX2_init_28 rfl (lv_at hl 0 rfl) ?_
    refine va_new (ci := 3) (fs := [.null, .null, .int 0, .int 0, .int 0, .int 0]) (C := RX3) (T := TX3) (N := 6) hx hb hts (by decide +kernel) tyX3 tyX3_ok hown (hts (.classLink RX2 9 RX3) (by decide +kernel)) (hts (.instantiable RX3 6) (by decide +kernel)) (hts (.initialized RX3) (by decide +kernel)) hK hP hD hS hA rfl (fun j hj => by rcases (show j = 0 ∨ j = 1 ∨ j = 2 ∨ j = 3 ∨ j = 4 ∨ j = 5 by omega) with rfl | rfl | rfl | rfl | rfl | rfl <;> rfl) (by show 1 + 99 * k + 1 ≤ 595; omega) (by show 6 + 342 * k + 6 ≤ 2058; omega) dX2_init_29 (fun q H hP hD hS => ?_)
    refine lv_dup hx hb dX2_init_32 rfl ?_
    refine k_callI ⟨hx, hb, hml, hown, hts⟩ hK hA hN (n_X3 q) (cwI 0 hts gX2_init_X3_init rfl rfl rfl (hts (.initialized RX3) (by decide +kernel)) (hts (.methodLink RX2 17 yX3_init) (by decide +kernel)) (hts (.instanceMethod yX3_init) (by decide +kernel)) rfl (by decide +kernel) ⟨Nat.le_of_ble_eq_true rfl, Nat.le_of_ble_eq_true rfl⟩) hP hD hS hl.1 (Nat.le_of_ble_eq_true rfl) ⟨by show 1 + 99 * k + 1 + 98 ≤ 595; omega, by show 6 + 342 * k + 6 + 336 ≤ 2058; omega⟩ dX2_init_33 (fun H locs w1 hw1 hP hD hS => ?_)
    obtain ⟨s1, s2, w0, b0, rfl⟩ := hw1
    refine va_astq (r := (RX3, TX3, 6)) (n := 6) (f := fw st k) (i := nI k) hx hb hK hP hD hS 1 4 (P2 cS b ar (fw st k) ++ B3 cI cJ cW st sw se w bq k).length 3 rfl rfl (by rw [List.getElem?_append_right (Nat.le_refl _), Nat.sub_self]; rfl) rfl (vp_in_nI (by omega) (by decide)) dX2_init_36 (fun H locs hP hD hS => ?_)
    rw [nI_clamp (by omega), fw_s] at hP hD
    have hP : va_P D vwCl ((P2 cS b ar (fw (va_up st k q) (k + 1)) ++ B3 cI cJ cW st sw se w bq k) ++ (S3 cI cW q s1 s2 (fw w0 48) ++ W6 cJ w0 b0 48)) H := hP
    have hD : va_D A ((P2 cS b ar (fw (va_up st k q) (k + 1)) ++ B3 cI cJ cW st sw se w bq k) ++ (S3 cI cW q s1 s2 (fw w0 48) ++ W6 cJ w0 b0 48)) := hD
    rw [List.append_assoc, ← B3_s] at hP hD
    refine lv_iinc (v := nI (k + 1)) (lv' := [(1, .int (nI (k + 1))), (0, .ref b)]) hx hb dX2_init_37 hl (k := 0) rfl (nI_p1 (x := k)) (by decide) rfl (fun ls hl => ?_)
    refine lv_goto (tgt := 15) hx hb dX2_init_40 (by decide) ?_
    have := ih (k + 1) H locs ls (va_up st k q) (va_up sw k s1) (va_up se k s2) (va_up w k w0) (va_up bq k b0) (by omega) hP hD hS hl
    rw [show 1 + 99 * (k + 1) = 1 + 99 * k + 1 + 98 by omega, show 6 + 342 * (k + 1) = 6 + 342 * k + 6 + 336 by omega] at this
    exact this
theorem n_X2 {l : Launch} {D : va_G} {cI cJ cB cL cS cW : ClassId} (b : Nat) : k_I l yX2_init wsX2_init { frames := 3, cells := 595, slots := 2058, locals := 53 } D (kT cI cJ cB cL cS cW) b [(b, .inr (2, [.null, .int 0, .int 0]))] 595 2058 (fun w2 => ∃ ar st sw se w bq, w2 = P2 cS b ar (fw st 6) ++ B3 cI cJ cW st sw se w bq 6) := by
  refine k_ofN (cc := cX2_init) (maxL := 2) (own := RX2) (by decide) rfl rfl rfl (Nat.le_of_ble_eq_true rfl) ?_
  intro p e s m args below meth c A Q ls C hP hD hl hret
  have hS : va_S A s.heap s.heap [] := va_S.rf
  obtain ⟨hx, hb, hml, hin, hown, hts, hK, hA, hN⟩ := id C
  refine lv_aload_n hx hb dX2_init_0 rfl (lv_at hl 0 rfl) ?_
  refine W.objInit hx hb hown (hts (.methodLink RX2 3 objectInit) (by decide +kernel)) (hts (.instanceMethod objectInit) (by decide +kernel)) (hts _ (List.mem_of_getElem? (i := 3) rfl)) rfl (by rw [hml]; exact hl.1) rfl dX2_init_1 (Nat.le_of_ble_eq_true rfl) (Nat.le_of_ble_eq_true rfl) ?_
  refine W.eq (g2 := F0 m 4 ls []) rfl ?_
  refine lv_aload_n hx hb dX2_init_4 rfl (lv_at hl 0 rfl) ?_
  refine lv_bipush (v := 6) hx hb dX2_init_5 rfl ?_
  refine k_newq (N' := 6) hx hb hown (hts (.classLink RX2 9 RX3) (by decide +kernel)) hN.2.2.2.2.2.2.2.1 hK 4 rfl hP hD hS hA (by decide) (by decide) (by decide) (Nat.le_of_ble_eq_true rfl) (Nat.le_of_ble_eq_true rfl) dX2_init_7 (fun ar H hP hD hS => ?_)
  refine va_putF (D := D) (ci := 2) (v := .ref ar) (ty := .array (.object "BlindPages$State")) (C := RX2) (T := TX2) (N := 3) hx hb hts (by decide +kernel) tyX2 tyX2_ok nmX2 hown hK hP hD hS 0 rfl rfl 0 (by decide) (hts (.fieldLink RX2 11 "BlindPages$Past" "states" "[LBlindPages$State;") (by decide +kernel)) (fun _ h9 => h9) rfl hin rfl (by decide +kernel) rfl rfl (Nat.le_of_ble_eq_true rfl) dX2_init_10 (fun H locs hP hD hS => ?_)
  refine lv_iconst (v := 0) hx hb dX2_init_13 (by decide) ?_
  refine lv_istore_n (lv' := [(1, .int 0), (0, .ref b)]) hx hb dX2_init_14 rfl hl (by decide) rfl (fun ls hl => ?_)
  refine n_X2_L (ar := ar) C hret 6 0 H locs ls (fun _ => 0) (fun _ => 0) (fun _ => 0) (fun _ _ => 0) (fun _ _ => 0) rfl ?_ ?_ hS hl
  · rw [← fw_0]; exact hP
  · rw [← fw_0]; exact hD
