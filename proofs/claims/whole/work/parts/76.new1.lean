/-! constructors without calls: a word, a look, a text, a tree -/
theorem n_X6 {l : Launch} {D : va_G} {cI cJ cB cL cS cW : ClassId} (b : Nat) : k_I l yX6_init wsX6_init { frames := 1, cells := 1, slots := 3, locals := 12 } D (kT cI cJ cB cL cS cW) b [(b, .inr (6, [.null, .int 0]))] 1 3 (fun w2 => ∃ q, w2 = [(b, .inr (6, [.ref q, .int 0])), (q, .inl (cJ, 3, .inr (.inl (fun _ => 0))))]) := by
  refine k_ofN (cc := cX6_init) (maxL := 1) (own := RX6) (by decide) rfl rfl rfl (Nat.le_of_ble_eq_true rfl) ?_
  intro p e s m args below meth c A Q ls C hP hD hl hret
  have hS : va_S A s.heap s.heap [] := va_S.rf
  obtain ⟨hx, hb, hml, hin, hown, hts, hK, hA, hN⟩ := id C
  refine lv_aload_n hx hb dX6_init_0 rfl (lv_at hl 0 rfl) ?_
  refine W.objInit hx hb hown (hts (.methodLink RX6 3 objectInit) (by decide +kernel)) (hts (.instanceMethod objectInit) (by decide +kernel)) (hts _ (List.mem_of_getElem? (i := 3) rfl)) rfl (by rw [hml]; exact hl.1) rfl dX6_init_1 (Nat.le_of_ble_eq_true rfl) (Nat.le_of_ble_eq_true rfl) ?_
  refine W.eq (g2 := F0 m 4 ls []) rfl ?_
  refine lv_aload_n hx hb dX6_init_4 rfl (lv_at hl 0 rfl) ?_
  refine lv_iconst (v := 3) hx hb dX6_init_5 (by decide) ?_
  refine k_newa (atype := .long) (ty := .long) (a0 := (3, .inr (.inl (fun _ => 0)))) hx hb (hts (.arrayClass .long) (by decide +kernel)) rfl hK 1 rfl u_long hP hD hS hA (fun _ => rfl) (by decide) (by decide) (by decide) (Nat.le_of_ble_eq_true rfl) (Nat.le_of_ble_eq_true rfl) dX6_init_6 (fun q H hP hD hS => ?_)
  refine va_putF (D := D) (ci := 6) (v := .ref q) (ty := .array .long) (C := RX6) (T := TX6) (N := 2) hx hb hts (by decide +kernel) tyX6 tyX6_ok nmX6 hown hK hP hD hS 0 rfl rfl 0 (by decide) (hts (.fieldLink RX6 9 "BlindPages$Word" "bits" "[J") (by decide +kernel)) (fun _ h9 => h9) rfl hin rfl (by decide +kernel) rfl rfl (Nat.le_of_ble_eq_true rfl) dX6_init_8 (fun H locs hP hD hS => ?_)
  exact hret H locs 11 ls _ dX6_init_11 ⟨q, rfl⟩ hP hD hS
theorem n_X1 {l : Launch} {D : va_G} {tys : List (ClassId × FieldType)} (b : Nat) : k_I l yX1_init wsX1_init { frames := 1, cells := 0, slots := 0, locals := 12 } D tys b [(b, .inr (1, [.int 0, .int 0, .int 0, .int 0, .int 0, .int 0]))] 0 0 (fun w2 => w2 = [(b, .inr (1, [.int 0, .int 0, .int 0, .int 0, .int 0, .int 0]))]) := by
  refine k_ofN (cc := cX1_init) (maxL := 1) (own := RX1) (by decide) rfl rfl rfl (Nat.le_of_ble_eq_true rfl) ?_
  intro p e s m args below meth c A Q ls C hP hD hl hret
  have hS : va_S A s.heap s.heap [] := va_S.rf
  obtain ⟨hx, hb, hml, hin, hown, hts, hK, hA, hN⟩ := id C
  refine lv_aload_n hx hb dX1_init_0 rfl (lv_at hl 0 rfl) ?_
  refine W.objInit hx hb hown (hts (.methodLink RX1 1 objectInit) (by decide +kernel)) (hts (.instanceMethod objectInit) (by decide +kernel)) (hts _ (List.mem_of_getElem? (i := 3) rfl)) rfl (by rw [hml]; exact hl.1) rfl dX1_init_1 (Nat.le_of_ble_eq_true rfl) (Nat.le_of_ble_eq_true rfl) ?_
  refine W.eq (g2 := F0 m 4 ls []) rfl ?_
  exact hret s.heap [] 4 ls _ dX1_init_4 rfl hP hD hS
theorem n_X4 {l : Launch} {D : va_G} {cI cJ cB cL cS cW : ClassId} (b : Nat) : k_I l yX4_init wsX4_init { frames := 1, cells := 1, slots := 120, locals := 12 } D (kT cI cJ cB cL cS cW) b [(b, .inr (4, [.null, .int 0]))] 1 120 (fun w2 => ∃ q, w2 = [(b, .inr (4, [.ref q, .int 0])), (q, .inl (cB, 120, .inl (fun _ => 0)))]) := by
  refine k_ofN (cc := cX4_init) (maxL := 1) (own := RX4) (by decide) rfl rfl rfl (Nat.le_of_ble_eq_true rfl) ?_
  intro p e s m args below meth c A Q ls C hP hD hl hret
  have hS : va_S A s.heap s.heap [] := va_S.rf
  obtain ⟨hx, hb, hml, hin, hown, hts, hK, hA, hN⟩ := id C
  refine lv_aload_n hx hb dX4_init_0 rfl (lv_at hl 0 rfl) ?_
  refine W.objInit hx hb hown (hts (.methodLink RX4 3 objectInit) (by decide +kernel)) (hts (.instanceMethod objectInit) (by decide +kernel)) (hts _ (List.mem_of_getElem? (i := 3) rfl)) rfl (by rw [hml]; exact hl.1) rfl dX4_init_1 (Nat.le_of_ble_eq_true rfl) (Nat.le_of_ble_eq_true rfl) ?_
  refine W.eq (g2 := F0 m 4 ls []) rfl ?_
  refine lv_aload_n hx hb dX4_init_4 rfl (lv_at hl 0 rfl) ?_
  refine lv_bipush (v := 120) hx hb dX4_init_5 rfl ?_
  refine k_newa (atype := .byte) (ty := .byte) (a0 := (120, .inl (fun _ => 0))) hx hb (hts (.arrayClass .byte) (by decide +kernel)) rfl hK 2 rfl u_byte hP hD hS hA (fun _ => rfl) (by decide) (by decide) (by decide) (Nat.le_of_ble_eq_true rfl) (Nat.le_of_ble_eq_true rfl) dX4_init_7 (fun q H hP hD hS => ?_)
  refine va_putF (D := D) (ci := 4) (v := .ref q) (ty := .array .byte) (C := RX4) (T := TX4) (N := 2) hx hb hts (by decide +kernel) tyX4 tyX4_ok nmX4 hown hK hP hD hS 0 rfl rfl 0 (by decide) (hts (.fieldLink RX4 9 "BlindPages$Text" "bytes" "[B") (by decide +kernel)) (fun _ h9 => h9) rfl hin rfl (by decide +kernel) rfl rfl (Nat.le_of_ble_eq_true rfl) dX4_init_9 (fun H locs hP hD hS => ?_)
  exact hret H locs 12 ls _ dX4_init_12 ⟨q, rfl⟩ hP hD hS
theorem n_X5 {l : Launch} {D : va_G} {cI cJ cB cL cS cW : ClassId} (b : Nat) : k_I l yX5_init wsX5_init { frames := 1, cells := 1, slots := 96, locals := 12 } D (kT cI cJ cB cL cS cW) b [(b, .inr (5, [.null, .int 0, .int 0, .int 0, .int 0, .int 0, .int 0]))] 1 96 (fun w2 => ∃ q, w2 = [(b, .inr (5, [.ref q, .int 0, .int 0, .int 0, .int 0, .int 0, .int 0])), (q, .inl (cI, 96, .inl (fun _ => 0)))]) := by
  refine k_ofN (cc := cX5_init) (maxL := 1) (own := RX5) (by decide) rfl rfl rfl (Nat.le_of_ble_eq_true rfl) ?_
  intro p e s m args below meth c A Q ls C hP hD hl hret
  have hS : va_S A s.heap s.heap [] := va_S.rf
  obtain ⟨hx, hb, hml, hin, hown, hts, hK, hA, hN⟩ := id C
  refine lv_aload_n hx hb dX5_init_0 rfl (lv_at hl 0 rfl) ?_
  refine W.objInit hx hb hown (hts (.methodLink RX5 3 objectInit) (by decide +kernel)) (hts (.instanceMethod objectInit) (by decide +kernel)) (hts _ (List.mem_of_getElem? (i := 3) rfl)) rfl (by rw [hml]; exact hl.1) rfl dX5_init_1 (Nat.le_of_ble_eq_true rfl) (Nat.le_of_ble_eq_true rfl) ?_
  refine W.eq (g2 := F0 m 4 ls []) rfl ?_
  refine lv_aload_n hx hb dX5_init_4 rfl (lv_at hl 0 rfl) ?_
  refine lv_bipush (v := 96) hx hb dX5_init_5 rfl ?_
  refine k_newa (atype := .int) (ty := .int) (a0 := (96, .inl (fun _ => 0))) hx hb (hts (.arrayClass .int) (by decide +kernel)) rfl hK 0 rfl u_int hP hD hS hA (fun _ => rfl) (by decide) (by decide) (by decide) (Nat.le_of_ble_eq_true rfl) (Nat.le_of_ble_eq_true rfl) dX5_init_7 (fun q H hP hD hS => ?_)
  refine va_putF (D := D) (ci := 5) (v := .ref q) (ty := .array .int) (C := RX5) (T := TX5) (N := 7) hx hb hts (by decide +kernel) tyX5 tyX5_ok nmX5 hown hK hP hD hS 0 rfl rfl 0 (by decide) (hts (.fieldLink RX5 9 "BlindPages$Tree" "partings" "[I") (by decide +kernel)) (fun _ h9 => h9) rfl hin rfl (by decide +kernel) rfl rfl (Nat.le_of_ble_eq_true rfl) dX5_init_9 (fun H locs hP hD hS => ?_)
  exact hret H locs 12 ls _ dX5_init_12 ⟨q, rfl⟩ hP hD hS
