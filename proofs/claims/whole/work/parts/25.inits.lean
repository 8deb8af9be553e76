set_option maxHeartbeats 4000000 in
set_option maxRecDepth 100000 in
theorem kX0_init (l : Launch) (dC : Nat → ClassId) (dI : Nat → Nat → Nat) (h0 sz : Nat) : Met l yX0_init wsX0_init ({ frames := 5, cells := 3, slots := 8228, locals := 108 }) (va_Pc [.ref h0] (fun U => U.heap.size = sz ∧ va_P (dC, dI) vwCl (wz0 h0) U.heap ∧ va_K (dC, dI) vwCl [] U ∧ va_D (fun _ => True) (wz0 h0))) (va_Qv (fun u : (Nat × Nat × Nat) × (ClassId × ClassId × ClassId) × Int × (Int → Int) × (Int → Int) × (Int → Int) => gs_st 5 1 1 u.2.2.1 u.2.2.2.1 u.2.2.2.2.1) (fun u t => va_P (dC, dI) vwCl (ww0 h0 u.1.1 u.1.2.1 u.1.2.2 u.2.1.1 u.2.1.2.1 u.2.1.2.2 5 1 1 u.2.2.1 u.2.2.2.1 u.2.2.2.2.1 u.2.2.2.2.2) t.heap ∧ va_K (dC, dI) vwCl (tt0 u.2.1.1 u.2.1.2.1 u.2.1.2.2) t ∧ va_D (va_A (wz0 h0) sz) (ww0 h0 u.1.1 u.1.2.1 u.1.2.2 u.2.1.1 u.2.1.2.1 u.2.1.2.2 5 1 1 u.2.2.1 u.2.2.2.1 u.2.2.2.2.1 u.2.2.2.2.2)) (va_A (wz0 h0) sz)) 3 8228 (va_A (wz0 h0) sz) := by
  refine Met.ofW (cc := cX0_init) (maxL := 1) (ret := none) (by decide) rfl ?_
  intro pp e s m args below meth c s₁ B hml hv
  obtain ⟨rfl, hsz, hP, hK, hD0⟩ := hv
  have hx := B.exec
  have hb := B.bytes
  have hr := B.returns
  have hts := atoms_spec (ws := wsX0_init) B.pre
  have hown : s.vm.findClass RX0 = some m.cls := findClass_of_methodNamed B.named
  have hlocks := B.notSynchronized
  have hin : meth.name = "<init>" := (name_of_methodNamed B.named B.method).1
  have hin0 : ∀ w ∈ u_ws RX0 TX0 7, w ∈ wsX0_init := by decide +kernel
  subst hsz
  have hD := hD0.self (sz := s.heap.size)
  generalize hAe : va_A (wz0 h0) s.heap.size = A at hD ⊢
  have hA : ∀ q : Nat, s.heap.size ≤ q → A q := fun q h => by rw [← hAe]; exact Or.inr h
  have hS : va_S A s.heap s.heap [] := va_S.rf
  have hl := lv_entry ([.ref h0]) (n := 1) (Nat.le_of_ble_eq_true rfl)
  rw [lg_entry_eq]
  generalize (lg_sl ([.ref h0]) ++ List.replicate (1 - (lg_sl ([.ref h0])).length) Slot.unset).toArray = ls at hl ⊢
  have hl : lv_has ls 1 [(0, .ref h0)] := hl
  refine lv_aload_n hx hb dX0_init_0 rfl (lv_at hl 0 rfl) ?_
  refine W.objInit hx hb hown (hts (.methodLink RX0 1 objectInit) (by decide +kernel)) (hts (.instanceMethod objectInit) (by decide +kernel)) (hts _ (List.mem_cons_of_mem _ (List.mem_append_left _ (List.mem_append_left _ (List.mem_of_getElem? (i := 2) rfl))))) rfl (by rw [hml]; exact hl.1) rfl dX0_init_1 (Nat.le_of_ble_eq_true rfl) (Nat.le_of_ble_eq_true rfl) ?_
  refine W.eq (g2 := F0 m 4 ls []) rfl ?_
  refine lv_aload_n hx hb dX0_init_4 rfl (lv_at hl 0 rfl) ?_
  refine lv_sipush (v := zI 4093) hx hb dX0_init_5 (by decide +kernel) ?_
  refine va_newa (D := (dC, dI)) (atype := .int) (ty := .int) (a0 := (4093, .inl (zA zz))) (N' := 4093) hx hb (hts (.arrayClass .int) (by decide +kernel)) rfl hK hP hD hS hA (fun cA => rfl) (by decide +kernel) (by decide +kernel) (by decide) (Nat.le_of_ble_eq_true rfl) (Nat.le_of_ble_eq_true rfl) dX0_init_8 (fun q1 c1 H hK hP hD hS => ?_)
  have hK : va_K (dC, dI) vwCl [(c1, .int)] s := hK
  have hP : va_P (dC, dI) vwCl [(h0, .inr (0, [.int 0, .int 0, .int 0, .int 0, .null, .null, .null])), (q1, .inl (c1, 4093, .inl (zA zz)))] H := hP
  have hD : va_D A [(h0, .inr (0, [.int 0, .int 0, .int 0, .int 0, .null, .null, .null])), (q1, .inl (c1, 4093, .inl (zA zz)))] := hD
  refine va_putF (D := (dC, dI)) (ci := 0) (v := .ref q1) (ty := .array .int) (C := RX0) (T := TX0) (N := 7) hx hb hts hin0 tyX0 tyX0_ok nmX0 hown hK hP hD hS 0 rfl rfl 4 (by decide) (hts (.fieldLink RX0 9 "CurveDesk" "lesserRoot" "[I") (by decide +kernel)) (fun _ h9 => h9) rfl hin rfl (by decide +kernel) rfl rfl (Nat.le_of_ble_eq_true rfl) dX0_init_10 (fun H locs hP hD hS => ?_)
  have hP : va_P (dC, dI) vwCl [(h0, .inr (0, [.int 0, .int 0, .int 0, .int 0, .ref q1, .null, .null])), (q1, .inl (c1, 4093, .inl (zA zz)))] H := hP
  have hD : va_D A [(h0, .inr (0, [.int 0, .int 0, .int 0, .int 0, .ref q1, .null, .null])), (q1, .inl (c1, 4093, .inl (zA zz)))] := hD
  refine lv_aload_n hx hb dX0_init_13 rfl (lv_at hl 0 rfl) ?_
  refine lv_sipush (v := zI 4094) hx hb dX0_init_14 (by decide +kernel) ?_
  refine va_newa (D := (dC, dI)) (atype := .int) (ty := .int) (a0 := (4094, .inl (zA zz))) (N' := 4094) hx hb (hts (.arrayClass .int) (by decide +kernel)) rfl hK hP hD hS hA (fun cA => rfl) (by decide +kernel) (by decide +kernel) (by decide) (Nat.le_of_ble_eq_true rfl) (Nat.le_of_ble_eq_true rfl) dX0_init_17 (fun q2 c2 H hK hP hD hS => ?_)
  have hK : va_K (dC, dI) vwCl [(c1, .int), (c2, .int)] s := hK
  have hP : va_P (dC, dI) vwCl [(h0, .inr (0, [.int 0, .int 0, .int 0, .int 0, .ref q1, .null, .null])), (q1, .inl (c1, 4093, .inl (zA zz))), (q2, .inl (c2, 4094, .inl (zA zz)))] H := hP
  have hD : va_D A [(h0, .inr (0, [.int 0, .int 0, .int 0, .int 0, .ref q1, .null, .null])), (q1, .inl (c1, 4093, .inl (zA zz))), (q2, .inl (c2, 4094, .inl (zA zz)))] := hD
  refine va_putF (D := (dC, dI)) (ci := 0) (v := .ref q2) (ty := .array .int) (C := RX0) (T := TX0) (N := 7) hx hb hts hin0 tyX0 tyX0_ok nmX0 hown hK hP hD hS 0 rfl rfl 5 (by decide) (hts (.fieldLink RX0 13 "CurveDesk" "pointsBefore" "[I") (by decide +kernel)) (fun _ h9 => h9) rfl hin rfl (by decide +kernel) rfl rfl (Nat.le_of_ble_eq_true rfl) dX0_init_19 (fun H locs hP hD hS => ?_)
  have hP : va_P (dC, dI) vwCl [(h0, .inr (0, [.int 0, .int 0, .int 0, .int 0, .ref q1, .ref q2, .null])), (q1, .inl (c1, 4093, .inl (zA zz))), (q2, .inl (c2, 4094, .inl (zA zz)))] H := hP
  have hD : va_D A [(h0, .inr (0, [.int 0, .int 0, .int 0, .int 0, .ref q1, .ref q2, .null])), (q1, .inl (c1, 4093, .inl (zA zz))), (q2, .inl (c2, 4094, .inl (zA zz)))] := hD
  refine lv_aload_n hx hb dX0_init_22 rfl (lv_at hl 0 rfl) ?_
  refine lv_bipush (v := zI 41) hx hb dX0_init_23 (by decide +kernel) ?_
  refine va_newa (D := (dC, dI)) (atype := .int) (ty := .int) (a0 := (41, .inl (zA zz))) (N' := 41) hx hb (hts (.arrayClass .int) (by decide +kernel)) rfl hK hP hD hS hA (fun cA => rfl) (by decide +kernel) (by decide +kernel) (by decide) (Nat.le_of_ble_eq_true rfl) (Nat.le_of_ble_eq_true rfl) dX0_init_25 (fun q3 c3 H hK hP hD hS => ?_)
  have hK : va_K (dC, dI) vwCl [(c1, .int), (c2, .int), (c3, .int)] s := hK
  have hP : va_P (dC, dI) vwCl [(h0, .inr (0, [.int 0, .int 0, .int 0, .int 0, .ref q1, .ref q2, .null])), (q1, .inl (c1, 4093, .inl (zA zz))), (q2, .inl (c2, 4094, .inl (zA zz))), (q3, .inl (c3, 41, .inl (zA zz)))] H := hP
  have hD : va_D A [(h0, .inr (0, [.int 0, .int 0, .int 0, .int 0, .ref q1, .ref q2, .null])), (q1, .inl (c1, 4093, .inl (zA zz))), (q2, .inl (c2, 4094, .inl (zA zz))), (q3, .inl (c3, 41, .inl (zA zz)))] := hD
  refine va_putF (D := (dC, dI)) (ci := 0) (v := .ref q3) (ty := .array .int) (C := RX0) (T := TX0) (N := 7) hx hb hts hin0 tyX0 tyX0_ok nmX0 hown hK hP hD hS 0 rfl rfl 6 (by decide) (hts (.fieldLink RX0 16 "CurveDesk" "divisionValue" "[I") (by decide +kernel)) (fun _ h9 => h9) rfl hin rfl (by decide +kernel) rfl rfl (Nat.le_of_ble_eq_true rfl) dX0_init_27 (fun H locs hP hD hS => ?_)
  have hP : va_P (dC, dI) vwCl [(h0, .inr (0, [.int 0, .int 0, .int 0, .int 0, .ref q1, .ref q2, .ref q3])), (q1, .inl (c1, 4093, .inl (zA zz))), (q2, .inl (c2, 4094, .inl (zA zz))), (q3, .inl (c3, 41, .inl (zA zz)))] H := hP
  have hD : va_D A [(h0, .inr (0, [.int 0, .int 0, .int 0, .int 0, .ref q1, .ref q2, .ref q3])), (q1, .inl (c1, 4093, .inl (zA zz))), (q2, .inl (c2, 4094, .inl (zA zz))), (q3, .inl (c3, 41, .inl (zA zz)))] := hD
  have hP : va_P (dC, dI) vwCl (ww0 h0 q1 q2 q3 c1 c2 c3 0 0 0 0 zz zz zz) H := hP
  have hD : va_D A (ww0 h0 q1 q2 q3 c1 c2 c3 0 0 0 0 zz zz zz) := hD
  refine lv_aload_n hx hb dX0_init_30 rfl (lv_at hl 0 rfl) ?_
  refine lv_iconst (v := zI 5) hx hb dX0_init_31 rfl ?_
  refine lv_iconst (v := zI 1) hx hb dX0_init_32 rfl ?_
  refine lv_iconst (v := zI 1) hx hb dX0_init_33 rfl ?_
  refine zz_callWv (wr := []) h0 [.int (zI 5), .int (zI 1), .int (zI 1)] [] [0, 1, 2, 3] [] ⟨hx, hb, hml, hown, hts⟩ (kX0_setPresent l dC dI h0 q1 q2 q3 c1 c2 c3 0 0 0 0 zz zz zz H.size 5 1 1 gs_cv511) (cwV 3 hts gX0_init_X0_setPresent rfl rfl rfl (by decide +kernel) ⟨Nat.le_of_ble_eq_true rfl, Nat.le_of_ble_eq_true rfl⟩) hK 0 rfl rfl rfl hP hD hS hA rfl rfl (by decide) rfl (by decide) (by decide) rfl hl.1 rfl (Nat.le_of_ble_eq_true rfl) dX0_init_34 ⟨Nat.le_of_ble_eq_true rfl, Nat.le_of_ble_eq_true rfl⟩ (fun u H locs hw hP hD hS => ?_)
  have hP : va_P (dC, dI) vwCl (ww0 h0 q1 q2 q3 c1 c2 c3 5 1 1 u.1 u.2.1 u.2.2 zz) H := hP
  have hD : va_D A (ww0 h0 q1 q2 q3 c1 c2 c3 5 1 1 u.1 u.2.1 u.2.2 zz) := hD
  subst hAe
  refine W.widen (k := 3) (n := 8228) (by decide) (by decide) ?_
  exact W.vret hx hb hr (fun t ht hW => ⟨⟨((q1, q2, q3), (c1, c2, c3), u.1, u.2.1, u.2.2, zz), rfl, hw, by rw [ht]; exact hP, va_K.moved hW.alike hK, hD⟩, hS.F ht⟩) hS.2.2 dX0_init_37
set_option maxHeartbeats 4000000 in
set_option maxRecDepth 100000 in
theorem kX1_init (l : Launch) (dC : Nat → ClassId) (dI : Nat → Nat → Nat) (k0 sz : Nat) : Met l yX1_init wsX1_init ({ frames := 1, cells := 2, slots := 4144, locals := 16 }) (va_Pc [.ref k0] (fun U => U.heap.size = sz ∧ va_P (dC, dI) vwCl (wz1 k0) U.heap ∧ va_K (dC, dI) vwCl [] U ∧ va_D (fun _ => True) (wz1 k0))) (va_Qv (fun u : (Nat × Nat) × (ClassId × ClassId) => True) (fun u t => va_P (dC, dI) vwCl (ww1 k0 u.1.1 u.1.2 u.2.1 u.2.2 5 1 1 zz zz) t.heap ∧ va_K (dC, dI) vwCl (tt1 u.2.1 u.2.2) t ∧ va_D (va_A (wz1 k0) sz) (ww1 k0 u.1.1 u.1.2 u.2.1 u.2.2 5 1 1 zz zz)) (va_A (wz1 k0) sz)) 2 4144 (va_A (wz1 k0) sz) := by
  refine Met.ofW (cc := cX1_init) (maxL := 1) (ret := none) (by decide) rfl ?_
  intro pp e s m args below meth c s₁ B hml hv
  obtain ⟨rfl, hsz, hP, hK, hD0⟩ := hv
  have hx := B.exec
  have hb := B.bytes
  have hr := B.returns
  have hts := atoms_spec (ws := wsX1_init) B.pre
  have hown : s.vm.findClass RX1 = some m.cls := findClass_of_methodNamed B.named
  have hlocks := B.notSynchronized
  have hin : meth.name = "<init>" := (name_of_methodNamed B.named B.method).1
  have hin0 : ∀ w ∈ u_ws RX1 TX1 5, w ∈ wsX1_init := by decide +kernel
  subst hsz
  have hD := hD0.self (sz := s.heap.size)
  generalize hAe : va_A (wz1 k0) s.heap.size = A at hD ⊢
  have hA : ∀ q : Nat, s.heap.size ≤ q → A q := fun q h => by rw [← hAe]; exact Or.inr h
  have hS : va_S A s.heap s.heap [] := va_S.rf
  have hl := lv_entry ([.ref k0]) (n := 1) (Nat.le_of_ble_eq_true rfl)
  rw [lg_entry_eq]
  generalize (lg_sl ([.ref k0]) ++ List.replicate (1 - (lg_sl ([.ref k0])).length) Slot.unset).toArray = ls at hl ⊢
  have hl : lv_has ls 1 [(0, .ref k0)] := hl
  refine lv_aload_n hx hb dX1_init_0 rfl (lv_at hl 0 rfl) ?_
  refine W.objInit hx hb hown (hts (.methodLink RX1 1 objectInit) (by decide +kernel)) (hts (.instanceMethod objectInit) (by decide +kernel)) (hts _ (List.mem_cons_of_mem _ (List.mem_append_left _ (List.mem_of_getElem? (i := 2) rfl)))) rfl (by rw [hml]; exact hl.1) rfl dX1_init_1 (Nat.le_of_ble_eq_true rfl) (Nat.le_of_ble_eq_true rfl) ?_
  refine W.eq (g2 := F0 m 4 ls []) rfl ?_
  refine lv_aload_n hx hb dX1_init_4 rfl (lv_at hl 0 rfl) ?_
  refine lv_iconst (v := zI 5) hx hb dX1_init_5 rfl ?_
  refine va_put (D := (dC, dI)) (ci := 1) (v := .int (zI 5)) (ty := .int) (C := RX1) (T := TX1) (N := 5) hx hb hts hin0 tyX1 tyX1_ok nmX1 hown hK hP hD hS 0 rfl rfl 0 (by decide) (hts (.fieldLink RX1 7 "CurveDeskModel" "p" "I") (by decide +kernel)) (fun _ h9 => h9) rfl (by decide +kernel) rfl rfl (Nat.le_of_ble_eq_true rfl) dX1_init_6 (fun H locs hP hD hS => ?_)
  have hP : va_P (dC, dI) vwCl [(k0, .inr (1, [.int (zI 5), .int 0, .int 0, .null, .null]))] H := hP
  have hD : va_D A [(k0, .inr (1, [.int (zI 5), .int 0, .int 0, .null, .null]))] := hD
  refine lv_aload_n hx hb dX1_init_9 rfl (lv_at hl 0 rfl) ?_
  refine lv_iconst (v := zI 1) hx hb dX1_init_10 rfl ?_
  refine va_put (D := (dC, dI)) (ci := 1) (v := .int (zI 1)) (ty := .int) (C := RX1) (T := TX1) (N := 5) hx hb hts hin0 tyX1 tyX1_ok nmX1 hown hK hP hD hS 0 rfl rfl 1 (by decide) (hts (.fieldLink RX1 13 "CurveDeskModel" "a" "I") (by decide +kernel)) (fun _ h9 => h9) rfl (by decide +kernel) rfl rfl (Nat.le_of_ble_eq_true rfl) dX1_init_11 (fun H locs hP hD hS => ?_)
  have hP : va_P (dC, dI) vwCl [(k0, .inr (1, [.int (zI 5), .int (zI 1), .int 0, .null, .null]))] H := hP
  have hD : va_D A [(k0, .inr (1, [.int (zI 5), .int (zI 1), .int 0, .null, .null]))] := hD
  refine lv_aload_n hx hb dX1_init_14 rfl (lv_at hl 0 rfl) ?_
  refine lv_iconst (v := zI 1) hx hb dX1_init_15 rfl ?_
  refine va_put (D := (dC, dI)) (ci := 1) (v := .int (zI 1)) (ty := .int) (C := RX1) (T := TX1) (N := 5) hx hb hts hin0 tyX1 tyX1_ok nmX1 hown hK hP hD hS 0 rfl rfl 2 (by decide) (hts (.fieldLink RX1 16 "CurveDeskModel" "b" "I") (by decide +kernel)) (fun _ h9 => h9) rfl (by decide +kernel) rfl rfl (Nat.le_of_ble_eq_true rfl) dX1_init_16 (fun H locs hP hD hS => ?_)
  have hP : va_P (dC, dI) vwCl [(k0, .inr (1, [.int (zI 5), .int (zI 1), .int (zI 1), .null, .null]))] H := hP
  have hD : va_D A [(k0, .inr (1, [.int (zI 5), .int (zI 1), .int (zI 1), .null, .null]))] := hD
  refine lv_aload_n hx hb dX1_init_19 rfl (lv_at hl 0 rfl) ?_
  refine lv_sipush (v := zI 4096) hx hb dX1_init_20 (by decide +kernel) ?_
  refine va_newa (D := (dC, dI)) (atype := .int) (ty := .int) (a0 := (4096, .inl (zA zz))) (N' := 4096) hx hb (hts (.arrayClass .int) (by decide +kernel)) rfl hK hP hD hS hA (fun cA => rfl) (by decide +kernel) (by decide +kernel) (by decide) (Nat.le_of_ble_eq_true rfl) (Nat.le_of_ble_eq_true rfl) dX1_init_23 (fun r1 d1 H hK hP hD hS => ?_)
  have hK : va_K (dC, dI) vwCl [(d1, .int)] s := hK
  have hP : va_P (dC, dI) vwCl [(k0, .inr (1, [.int (zI 5), .int (zI 1), .int (zI 1), .null, .null])), (r1, .inl (d1, 4096, .inl (zA zz)))] H := hP
  have hD : va_D A [(k0, .inr (1, [.int (zI 5), .int (zI 1), .int (zI 1), .null, .null])), (r1, .inl (d1, 4096, .inl (zA zz)))] := hD
  refine va_putF (D := (dC, dI)) (ci := 1) (v := .ref r1) (ty := .array .int) (C := RX1) (T := TX1) (N := 5) hx hb hts hin0 tyX1 tyX1_ok nmX1 hown hK hP hD hS 0 rfl rfl 3 (by decide) (hts (.fieldLink RX1 19 "CurveDeskModel" "squares" "[I") (by decide +kernel)) (fun _ h9 => h9) rfl hin rfl (by decide +kernel) rfl rfl (Nat.le_of_ble_eq_true rfl) dX1_init_25 (fun H locs hP hD hS => ?_)
  have hP : va_P (dC, dI) vwCl [(k0, .inr (1, [.int (zI 5), .int (zI 1), .int (zI 1), .ref r1, .null])), (r1, .inl (d1, 4096, .inl (zA zz)))] H := hP
  have hD : va_D A [(k0, .inr (1, [.int (zI 5), .int (zI 1), .int (zI 1), .ref r1, .null])), (r1, .inl (d1, 4096, .inl (zA zz)))] := hD
  refine lv_aload_n hx hb dX1_init_28 rfl (lv_at hl 0 rfl) ?_
  refine lv_bipush (v := zI 48) hx hb dX1_init_29 (by decide +kernel) ?_
  refine va_newa (D := (dC, dI)) (atype := .int) (ty := .int) (a0 := (48, .inl (zA zz))) (N' := 48) hx hb (hts (.arrayClass .int) (by decide +kernel)) rfl hK hP hD hS hA (fun cA => rfl) (by decide +kernel) (by decide +kernel) (by decide) (Nat.le_of_ble_eq_true rfl) (Nat.le_of_ble_eq_true rfl) dX1_init_31 (fun r2 d2 H hK hP hD hS => ?_)
  have hK : va_K (dC, dI) vwCl [(d1, .int), (d2, .int)] s := hK
  have hP : va_P (dC, dI) vwCl [(k0, .inr (1, [.int (zI 5), .int (zI 1), .int (zI 1), .ref r1, .null])), (r1, .inl (d1, 4096, .inl (zA zz))), (r2, .inl (d2, 48, .inl (zA zz)))] H := hP
  have hD : va_D A [(k0, .inr (1, [.int (zI 5), .int (zI 1), .int (zI 1), .ref r1, .null])), (r1, .inl (d1, 4096, .inl (zA zz))), (r2, .inl (d2, 48, .inl (zA zz)))] := hD
  refine va_putF (D := (dC, dI)) (ci := 1) (v := .ref r2) (ty := .array .int) (C := RX1) (T := TX1) (N := 5) hx hb hts hin0 tyX1 tyX1_ok nmX1 hown hK hP hD hS 0 rfl rfl 4 (by decide) (hts (.fieldLink RX1 23 "CurveDeskModel" "f" "[I") (by decide +kernel)) (fun _ h9 => h9) rfl hin rfl (by decide +kernel) rfl rfl (Nat.le_of_ble_eq_true rfl) dX1_init_33 (fun H locs hP hD hS => ?_)
  have hP : va_P (dC, dI) vwCl [(k0, .inr (1, [.int (zI 5), .int (zI 1), .int (zI 1), .ref r1, .ref r2])), (r1, .inl (d1, 4096, .inl (zA zz))), (r2, .inl (d2, 48, .inl (zA zz)))] H := hP
  have hD : va_D A [(k0, .inr (1, [.int (zI 5), .int (zI 1), .int (zI 1), .ref r1, .ref r2])), (r1, .inl (d1, 4096, .inl (zA zz))), (r2, .inl (d2, 48, .inl (zA zz)))] := hD
  have hP : va_P (dC, dI) vwCl (ww1 k0 r1 r2 d1 d2 5 1 1 zz zz) H := hP
  have hD : va_D A (ww1 k0 r1 r2 d1 d2 5 1 1 zz zz) := hD
  subst hAe
  refine W.widen (k := 2) (n := 4144) (by decide) (by decide) ?_
  exact W.vret hx hb hr (fun t ht hW => ⟨⟨((r1, r2), (d1, d2)), rfl, trivial, by rw [ht]; exact hP, va_K.moved hW.alike hK, hD⟩, hS.F ht⟩) hS.2.2 dX1_init_36
