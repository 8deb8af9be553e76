set_option maxHeartbeats 4000000 in
set_option maxRecDepth 100000 in
theorem kX0_thirdDivisionValue (l : Launch) (dC : Nat → ClassId) (dI : Nat → Nat → Nat) (h0 q1 q2 q3 : Nat) (c1 c2 c3 : ClassId) (p a b n : Int) (g1 g2 g3 : Int → Int) (x : Int) (hp : 5 ≤ p ∧ p ≤ 4093) (ha : 0 ≤ a ∧ a < p) (hbb : 0 ≤ b ∧ b < p) (hx0 : 0 ≤ x ∧ x < p) : Met l yX0_thirdDivisionValue wsX0_thirdDivisionValue ({ frames := 2, cells := 0, slots := 0, locals := 43 }) (zPc (dC, dI) (ww0 h0 q1 q2 q3 c1 c2 c3 p a b n g1 g2 g3) (tt0 c1 c2 c3) [.ref h0, .int (zI (x))]) (zQi (zI (gs_f3 p a b x))) 0 0 zNo := by
  refine Met.ofW (cc := cX0_thirdDivisionValue) (maxL := 3) (ret := (some .int)) (by decide) rfl ?_
  intro pp e s m args below meth c s₁ B hml hv
  obtain ⟨rfl, hP, hK⟩ := hv
  have hx := B.exec
  have hb := B.bytes
  have hr := B.returns
  have hts := atoms_spec (ws := wsX0_thirdDivisionValue) B.pre
  have hown : s.vm.findClass RX0 = some m.cls := findClass_of_methodNamed B.named
  have hlocks := B.notSynchronized
  have hin0 : ∀ w ∈ u_ws RX0 TX0 7, w ∈ wsX0_thirdDivisionValue := by decide +kernel
  have hf35 := hts (.fieldLink RX0 35 "CurveDesk" "a" "I") (by decide +kernel)
  have hf38 := hts (.fieldLink RX0 38 "CurveDesk" "b" "I") (by decide +kernel)
  have hS : va_S (fun _ => False) s.heap s.heap [] := va_S.rf
  have hl := lv_entry ([.ref h0, .int (zI (x))]) (n := 3) (Nat.le_of_ble_eq_true rfl)
  rw [lg_entry_eq]
  generalize (lg_sl ([.ref h0, .int (zI (x))]) ++ List.replicate (3 - (lg_sl ([.ref h0, .int (zI (x))])).length) Slot.unset).toArray = ls at hl ⊢
  have hl : lv_has ls 3 [(0, .ref h0), (1, .int (zI (x)))] := hl
  skip
  have h1 := zz_p3 (x := x) (by omega)
  have h2 := zz_pr (x := a) (y := a) (by omega) (by omega)
  refine lv_aload_n hx hb dX0_thirdDivisionValue_0 rfl (lv_at hl 0 rfl) ?_
  refine lv_iconst (v := zI 3) hx hb dX0_thirdDivisionValue_1 rfl ?_
  refine lv_iload_n hx hb dX0_thirdDivisionValue_2 rfl (lv_at hl 1 rfl) ?_
  refine zz_imul hx hb dX0_thirdDivisionValue_3 ?_
  refine lv_iload_n hx hb dX0_thirdDivisionValue_4 rfl (lv_at hl 1 rfl) ?_
  refine zz_imul hx hb dX0_thirdDivisionValue_5 ?_
  refine lv_bipush (v := zI 6) hx hb dX0_thirdDivisionValue_6 (by decide +kernel) ?_
  refine lv_aload_n hx hb dX0_thirdDivisionValue_8 rfl (lv_at hl 0 rfl) ?_
  refine va_get (D := (dC, dI)) (ci := 0) (v := .int (zI (a))) (C := RX0) (T := TX0) (N := 7) hx hb hts hin0 hown hK hP 0 rfl rfl 1 (by decide) hf35 (fun _ h9 => h9) rfl dX0_thirdDivisionValue_9 ?_
  refine zz_imul hx hb dX0_thirdDivisionValue_12 ?_
  refine zz_iadd hx hb dX0_thirdDivisionValue_13 ?_
  refine zz_callV h0 [.int (zI (((3 * x) * x) + (6 * a)))] [] ⟨hx, hb, hml, hown, hts⟩ (kX0_modulo l dC dI h0 q1 q2 q3 c1 c2 c3 p a b n g1 g2 g3 (((3 * x) * x) + (6 * a)) (by omega) (by omega)) (cwV 1 hts gX0_thirdDivisionValue_X0_modulo rfl rfl rfl (by decide +kernel) ⟨Nat.le_of_ble_eq_true rfl, Nat.le_of_ble_eq_true rfl⟩) hK hP 0 rfl rfl rfl hP hS rfl hl.1 rfl (Nat.le_of_ble_eq_true rfl) dX0_thirdDivisionValue_14 ⟨Nat.le_of_ble_eq_true rfl, Nat.le_of_ble_eq_true rfl⟩ (fun H locs hP hS => ?_)
  refine zz_topi (fun va1 eva1 => ?_)
  refine lv_istore_n (lv' := [(2, .int (zI (va1))), (0, .ref h0), (1, .int (zI (x)))]) hx hb dX0_thirdDivisionValue_17 rfl hl (by decide) rfl (fun ls hl => ?_)
  have h3 : 0 ≤ va1 ∧ va1 < p := by rw [eva1]; exact zz_md (by omega)
  have h4 := zz_pr (x := va1) (y := x) (by omega) (by omega)
  refine lv_aload_n hx hb dX0_thirdDivisionValue_18 rfl (lv_at hl 1 rfl) ?_
  refine lv_iload_n hx hb dX0_thirdDivisionValue_19 rfl (lv_at hl 0 rfl) ?_
  refine lv_iload_n hx hb dX0_thirdDivisionValue_20 rfl (lv_at hl 2 rfl) ?_
  refine zz_imul hx hb dX0_thirdDivisionValue_21 ?_
  refine lv_bipush (v := zI 12) hx hb dX0_thirdDivisionValue_22 (by decide +kernel) ?_
  refine lv_aload_n hx hb dX0_thirdDivisionValue_24 rfl (lv_at hl 1 rfl) ?_
  refine va_get (D := (dC, dI)) (ci := 0) (v := .int (zI (b))) (C := RX0) (T := TX0) (N := 7) hx hb hts hin0 hown hK hP 0 rfl rfl 2 (by decide) hf38 (fun _ h9 => h9) rfl dX0_thirdDivisionValue_25 ?_
  refine zz_imul hx hb dX0_thirdDivisionValue_28 ?_
  refine zz_iadd hx hb dX0_thirdDivisionValue_29 ?_
  refine zz_callV h0 [.int (zI ((va1 * x) + (12 * b)))] [] ⟨hx, hb, hml, hown, hts⟩ (kX0_modulo l dC dI h0 q1 q2 q3 c1 c2 c3 p a b n g1 g2 g3 ((va1 * x) + (12 * b)) (by omega) (by omega)) (cwV 1 hts gX0_thirdDivisionValue_X0_modulo rfl rfl rfl (by decide +kernel) ⟨Nat.le_of_ble_eq_true rfl, Nat.le_of_ble_eq_true rfl⟩) hK hP 0 rfl rfl rfl hP hS rfl hl.1 rfl (Nat.le_of_ble_eq_true rfl) dX0_thirdDivisionValue_30 ⟨Nat.le_of_ble_eq_true rfl, Nat.le_of_ble_eq_true rfl⟩ (fun H locs hP hS => ?_)
  refine zz_topi (fun va2 eva2 => ?_)
  refine lv_istore_n (lv' := [(2, .int (zI (va2))), (0, .ref h0), (1, .int (zI (x)))]) hx hb dX0_thirdDivisionValue_33 rfl hl (by decide) rfl (fun ls hl => ?_)
  have h5 : 0 ≤ va2 ∧ va2 < p := by rw [eva2]; exact zz_md (by omega)
  have h6 := zz_pr (x := va2) (y := x) (by omega) (by omega)
  refine lv_aload_n hx hb dX0_thirdDivisionValue_34 rfl (lv_at hl 1 rfl) ?_
  refine lv_iload_n hx hb dX0_thirdDivisionValue_35 rfl (lv_at hl 0 rfl) ?_
  refine lv_iload_n hx hb dX0_thirdDivisionValue_36 rfl (lv_at hl 2 rfl) ?_
  refine zz_imul hx hb dX0_thirdDivisionValue_37 ?_
  refine lv_aload_n hx hb dX0_thirdDivisionValue_38 rfl (lv_at hl 1 rfl) ?_
  refine va_get (D := (dC, dI)) (ci := 0) (v := .int (zI (a))) (C := RX0) (T := TX0) (N := 7) hx hb hts hin0 hown hK hP 0 rfl rfl 1 (by decide) hf35 (fun _ h9 => h9) rfl dX0_thirdDivisionValue_39 ?_
  refine lv_aload_n hx hb dX0_thirdDivisionValue_42 rfl (lv_at hl 1 rfl) ?_
  refine va_get (D := (dC, dI)) (ci := 0) (v := .int (zI (a))) (C := RX0) (T := TX0) (N := 7) hx hb hts hin0 hown hK hP 0 rfl rfl 1 (by decide) hf35 (fun _ h9 => h9) rfl dX0_thirdDivisionValue_43 ?_
  refine zz_imul hx hb dX0_thirdDivisionValue_46 ?_
  refine zz_isub hx hb dX0_thirdDivisionValue_47 ?_
  refine zz_callV h0 [.int (zI ((va2 * x) - (a * a)))] [] ⟨hx, hb, hml, hown, hts⟩ (kX0_modulo l dC dI h0 q1 q2 q3 c1 c2 c3 p a b n g1 g2 g3 ((va2 * x) - (a * a)) (by omega) (by omega)) (cwV 1 hts gX0_thirdDivisionValue_X0_modulo rfl rfl rfl (by decide +kernel) ⟨Nat.le_of_ble_eq_true rfl, Nat.le_of_ble_eq_true rfl⟩) hK hP 0 rfl rfl rfl hP hS rfl hl.1 rfl (Nat.le_of_ble_eq_true rfl) dX0_thirdDivisionValue_48 ⟨Nat.le_of_ble_eq_true rfl, Nat.le_of_ble_eq_true rfl⟩ (fun H locs hP hS => ?_)
  have hpost : (((va2 * x) - (a * a)) % p : Int) = gs_f3 p a b x := by
    rw [eva2, eva1]
    exact gs_t3 p a b x
  exact W.iret (v := zI (((va2 * x) - (a * a)) % p)) hx hb hr (fun t ht hW => ⟨⟨_, (), rfl, congrArg zI hpost, trivial⟩, hS.F ht⟩) hS.2.2 dX0_thirdDivisionValue_51

set_option maxHeartbeats 4000000 in
set_option maxRecDepth 100000 in
theorem kX0_fourthDivisionValue (l : Launch) (dC : Nat → ClassId) (dI : Nat → Nat → Nat) (h0 q1 q2 q3 : Nat) (c1 c2 c3 : ClassId) (p a b n : Int) (g1 g2 g3 : Int → Int) (x : Int) (hp : 5 ≤ p ∧ p ≤ 4093) (ha : 0 ≤ a ∧ a < p) (hbb : 0 ≤ b ∧ b < p) (hx0 : 0 ≤ x ∧ x < p) : Met l yX0_fourthDivisionValue wsX0_fourthDivisionValue ({ frames := 2, cells := 0, slots := 0, locals := 43 }) (zPc (dC, dI) (ww0 h0 q1 q2 q3 c1 c2 c3 p a b n g1 g2 g3) (tt0 c1 c2 c3) [.ref h0, .int (zI (x))]) (zQi (zI (gs_f4 p a b x))) 0 0 zNo := by
  refine Met.ofW (cc := cX0_fourthDivisionValue) (maxL := 3) (ret := (some .int)) (by decide) rfl ?_
  intro pp e s m args below meth c s₁ B hml hv
  obtain ⟨rfl, hP, hK⟩ := hv
  have hx := B.exec
  have hb := B.bytes
  have hr := B.returns
  have hts := atoms_spec (ws := wsX0_fourthDivisionValue) B.pre
  have hown : s.vm.findClass RX0 = some m.cls := findClass_of_methodNamed B.named
  have hlocks := B.notSynchronized
  have hin0 : ∀ w ∈ u_ws RX0 TX0 7, w ∈ wsX0_fourthDivisionValue := by decide +kernel
  have hf35 := hts (.fieldLink RX0 35 "CurveDesk" "a" "I") (by decide +kernel)
  have hf38 := hts (.fieldLink RX0 38 "CurveDesk" "b" "I") (by decide +kernel)
  have hS : va_S (fun _ => False) s.heap s.heap [] := va_S.rf
  have hl := lv_entry ([.ref h0, .int (zI (x))]) (n := 3) (Nat.le_of_ble_eq_true rfl)
  rw [lg_entry_eq]
  generalize (lg_sl ([.ref h0, .int (zI (x))]) ++ List.replicate (3 - (lg_sl ([.ref h0, .int (zI (x))])).length) Slot.unset).toArray = ls at hl ⊢
  have hl : lv_has ls 3 [(0, .ref h0), (1, .int (zI (x)))] := hl
  skip
  have h1 := zz_pr (x := x) (y := x) (by omega) (by omega)
  have h2 := zz_kp (k := 5) (x := a) (y := a) (by omega) (by omega) (by omega)
  have h3 := zz_kp (k := 4) (x := a) (y := b) (by omega) (by omega) (by omega)
  have h4 := zz_kp (k := 8) (x := b) (y := b) (by omega) (by omega) (by omega)
  have h5 := zz_pr (x := a) (y := a) (by omega) (by omega)
  have h6 := zz_md (v := a * a) (p := p) (by omega)
  have h7 := zz_pr (x := a * a % p) (y := a) (by omega) (by omega)
  refine lv_aload_n hx hb dX0_fourthDivisionValue_0 rfl (lv_at hl 0 rfl) ?_
  refine lv_iload_n hx hb dX0_fourthDivisionValue_1 rfl (lv_at hl 1 rfl) ?_
  refine lv_iload_n hx hb dX0_fourthDivisionValue_2 rfl (lv_at hl 1 rfl) ?_
  refine zz_imul hx hb dX0_fourthDivisionValue_3 ?_
  refine lv_iconst (v := zI 5) hx hb dX0_fourthDivisionValue_4 rfl ?_
  refine lv_aload_n hx hb dX0_fourthDivisionValue_5 rfl (lv_at hl 0 rfl) ?_
  refine va_get (D := (dC, dI)) (ci := 0) (v := .int (zI (a))) (C := RX0) (T := TX0) (N := 7) hx hb hts hin0 hown hK hP 0 rfl rfl 1 (by decide) hf35 (fun _ h9 => h9) rfl dX0_fourthDivisionValue_6 ?_
  refine zz_imul hx hb dX0_fourthDivisionValue_9 ?_
  refine zz_iadd hx hb dX0_fourthDivisionValue_10 ?_
  refine zz_callV h0 [.int (zI ((x * x) + (5 * a)))] [] ⟨hx, hb, hml, hown, hts⟩ (kX0_modulo l dC dI h0 q1 q2 q3 c1 c2 c3 p a b n g1 g2 g3 ((x * x) + (5 * a)) (by omega) (by omega)) (cwV 1 hts gX0_fourthDivisionValue_X0_modulo rfl rfl rfl (by decide +kernel) ⟨Nat.le_of_ble_eq_true rfl, Nat.le_of_ble_eq_true rfl⟩) hK hP 0 rfl rfl rfl hP hS rfl hl.1 rfl (Nat.le_of_ble_eq_true rfl) dX0_fourthDivisionValue_11 ⟨Nat.le_of_ble_eq_true rfl, Nat.le_of_ble_eq_true rfl⟩ (fun H locs hP hS => ?_)
  refine zz_topi (fun va1 eva1 => ?_)
  refine lv_istore_n (lv' := [(2, .int (zI (va1))), (0, .ref h0), (1, .int (zI (x)))]) hx hb dX0_fourthDivisionValue_14 rfl hl (by decide) rfl (fun ls hl => ?_)
  have i1 : 0 ≤ va1 ∧ va1 < p := by rw [eva1]; exact zz_md (by omega)
  have j1 := zz_pr (x := va1) (y := x) (by omega) (by omega)
  refine lv_aload_n hx hb dX0_fourthDivisionValue_15 rfl (lv_at hl 1 rfl) ?_
  refine lv_iload_n hx hb dX0_fourthDivisionValue_16 rfl (lv_at hl 0 rfl) ?_
  refine lv_iload_n hx hb dX0_fourthDivisionValue_17 rfl (lv_at hl 2 rfl) ?_
  refine zz_imul hx hb dX0_fourthDivisionValue_18 ?_
  refine lv_bipush (v := zI 20) hx hb dX0_fourthDivisionValue_19 (by decide +kernel) ?_
  refine lv_aload_n hx hb dX0_fourthDivisionValue_21 rfl (lv_at hl 1 rfl) ?_
  refine va_get (D := (dC, dI)) (ci := 0) (v := .int (zI (b))) (C := RX0) (T := TX0) (N := 7) hx hb hts hin0 hown hK hP 0 rfl rfl 2 (by decide) hf38 (fun _ h9 => h9) rfl dX0_fourthDivisionValue_22 ?_
  refine zz_imul hx hb dX0_fourthDivisionValue_25 ?_
  refine zz_iadd hx hb dX0_fourthDivisionValue_26 ?_
  refine zz_callV h0 [.int (zI ((va1 * x) + (20 * b)))] [] ⟨hx, hb, hml, hown, hts⟩ (kX0_modulo l dC dI h0 q1 q2 q3 c1 c2 c3 p a b n g1 g2 g3 ((va1 * x) + (20 * b)) (by omega) (by omega)) (cwV 1 hts gX0_fourthDivisionValue_X0_modulo rfl rfl rfl (by decide +kernel) ⟨Nat.le_of_ble_eq_true rfl, Nat.le_of_ble_eq_true rfl⟩) hK hP 0 rfl rfl rfl hP hS rfl hl.1 rfl (Nat.le_of_ble_eq_true rfl) dX0_fourthDivisionValue_27 ⟨Nat.le_of_ble_eq_true rfl, Nat.le_of_ble_eq_true rfl⟩ (fun H locs hP hS => ?_)
  refine zz_topi (fun va2 eva2 => ?_)
  refine lv_istore_n (lv' := [(2, .int (zI (va2))), (0, .ref h0), (1, .int (zI (x)))]) hx hb dX0_fourthDivisionValue_30 rfl hl (by decide) rfl (fun ls hl => ?_)
  have i2 : 0 ≤ va2 ∧ va2 < p := by rw [eva2]; exact zz_md (by omega)
  have j2 := zz_pr (x := va2) (y := x) (by omega) (by omega)
  refine lv_aload_n hx hb dX0_fourthDivisionValue_31 rfl (lv_at hl 1 rfl) ?_
  refine lv_iload_n hx hb dX0_fourthDivisionValue_32 rfl (lv_at hl 0 rfl) ?_
  refine lv_iload_n hx hb dX0_fourthDivisionValue_33 rfl (lv_at hl 2 rfl) ?_
  refine zz_imul hx hb dX0_fourthDivisionValue_34 ?_
  refine lv_iconst (v := zI 5) hx hb dX0_fourthDivisionValue_35 rfl ?_
  refine lv_aload_n hx hb dX0_fourthDivisionValue_36 rfl (lv_at hl 1 rfl) ?_
  refine va_get (D := (dC, dI)) (ci := 0) (v := .int (zI (a))) (C := RX0) (T := TX0) (N := 7) hx hb hts hin0 hown hK hP 0 rfl rfl 1 (by decide) hf35 (fun _ h9 => h9) rfl dX0_fourthDivisionValue_37 ?_
  refine zz_imul hx hb dX0_fourthDivisionValue_40 ?_
  refine lv_aload_n hx hb dX0_fourthDivisionValue_41 rfl (lv_at hl 1 rfl) ?_
  refine va_get (D := (dC, dI)) (ci := 0) (v := .int (zI (a))) (C := RX0) (T := TX0) (N := 7) hx hb hts hin0 hown hK hP 0 rfl rfl 1 (by decide) hf35 (fun _ h9 => h9) rfl dX0_fourthDivisionValue_42 ?_
  refine zz_imul hx hb dX0_fourthDivisionValue_45 ?_
  refine zz_isub hx hb dX0_fourthDivisionValue_46 ?_
  refine zz_callV h0 [.int (zI ((va2 * x) - ((5 * a) * a)))] [] ⟨hx, hb, hml, hown, hts⟩ (kX0_modulo l dC dI h0 q1 q2 q3 c1 c2 c3 p a b n g1 g2 g3 ((va2 * x) - ((5 * a) * a)) (by omega) (by omega)) (cwV 1 hts gX0_fourthDivisionValue_X0_modulo rfl rfl rfl (by decide +kernel) ⟨Nat.le_of_ble_eq_true rfl, Nat.le_of_ble_eq_true rfl⟩) hK hP 0 rfl rfl rfl hP hS rfl hl.1 rfl (Nat.le_of_ble_eq_true rfl) dX0_fourthDivisionValue_47 ⟨Nat.le_of_ble_eq_true rfl, Nat.le_of_ble_eq_true rfl⟩ (fun H locs hP hS => ?_)
  refine zz_topi (fun va3 eva3 => ?_)
  refine lv_istore_n (lv' := [(2, .int (zI (va3))), (0, .ref h0), (1, .int (zI (x)))]) hx hb dX0_fourthDivisionValue_50 rfl hl (by decide) rfl (fun ls hl => ?_)
  have i3 : 0 ≤ va3 ∧ va3 < p := by rw [eva3]; exact zz_md (by omega)
  have j3 := zz_pr (x := va3) (y := x) (by omega) (by omega)
  refine lv_aload_n hx hb dX0_fourthDivisionValue_51 rfl (lv_at hl 1 rfl) ?_
  refine lv_iload_n hx hb dX0_fourthDivisionValue_52 rfl (lv_at hl 0 rfl) ?_
  refine lv_iload_n hx hb dX0_fourthDivisionValue_53 rfl (lv_at hl 2 rfl) ?_
  refine zz_imul hx hb dX0_fourthDivisionValue_54 ?_
  refine lv_iconst (v := zI 4) hx hb dX0_fourthDivisionValue_55 rfl ?_
  refine lv_aload_n hx hb dX0_fourthDivisionValue_56 rfl (lv_at hl 1 rfl) ?_
  refine va_get (D := (dC, dI)) (ci := 0) (v := .int (zI (a))) (C := RX0) (T := TX0) (N := 7) hx hb hts hin0 hown hK hP 0 rfl rfl 1 (by decide) hf35 (fun _ h9 => h9) rfl dX0_fourthDivisionValue_57 ?_
  refine zz_imul hx hb dX0_fourthDivisionValue_60 ?_
  refine lv_aload_n hx hb dX0_fourthDivisionValue_61 rfl (lv_at hl 1 rfl) ?_
  refine va_get (D := (dC, dI)) (ci := 0) (v := .int (zI (b))) (C := RX0) (T := TX0) (N := 7) hx hb hts hin0 hown hK hP 0 rfl rfl 2 (by decide) hf38 (fun _ h9 => h9) rfl dX0_fourthDivisionValue_62 ?_
  refine zz_imul hx hb dX0_fourthDivisionValue_65 ?_
  refine zz_isub hx hb dX0_fourthDivisionValue_66 ?_
  refine zz_callV h0 [.int (zI ((va3 * x) - ((4 * a) * b)))] [] ⟨hx, hb, hml, hown, hts⟩ (kX0_modulo l dC dI h0 q1 q2 q3 c1 c2 c3 p a b n g1 g2 g3 ((va3 * x) - ((4 * a) * b)) (by omega) (by omega)) (cwV 1 hts gX0_fourthDivisionValue_X0_modulo rfl rfl rfl (by decide +kernel) ⟨Nat.le_of_ble_eq_true rfl, Nat.le_of_ble_eq_true rfl⟩) hK hP 0 rfl rfl rfl hP hS rfl hl.1 rfl (Nat.le_of_ble_eq_true rfl) dX0_fourthDivisionValue_67 ⟨Nat.le_of_ble_eq_true rfl, Nat.le_of_ble_eq_true rfl⟩ (fun H locs hP hS => ?_)
  refine zz_topi (fun va4 eva4 => ?_)
  refine lv_istore_n (lv' := [(2, .int (zI (va4))), (0, .ref h0), (1, .int (zI (x)))]) hx hb dX0_fourthDivisionValue_70 rfl hl (by decide) rfl (fun ls hl => ?_)
  have i4 : 0 ≤ va4 ∧ va4 < p := by rw [eva4]; exact zz_md (by omega)
  have j4 := zz_pr (x := va4) (y := x) (by omega) (by omega)
  refine lv_aload_n hx hb dX0_fourthDivisionValue_71 rfl (lv_at hl 1 rfl) ?_
  refine lv_iload_n hx hb dX0_fourthDivisionValue_72 rfl (lv_at hl 0 rfl) ?_
  refine lv_iload_n hx hb dX0_fourthDivisionValue_73 rfl (lv_at hl 2 rfl) ?_
  refine zz_imul hx hb dX0_fourthDivisionValue_74 ?_
  refine lv_bipush (v := zI 8) hx hb dX0_fourthDivisionValue_75 (by decide +kernel) ?_
  refine lv_aload_n hx hb dX0_fourthDivisionValue_77 rfl (lv_at hl 1 rfl) ?_
  refine va_get (D := (dC, dI)) (ci := 0) (v := .int (zI (b))) (C := RX0) (T := TX0) (N := 7) hx hb hts hin0 hown hK hP 0 rfl rfl 2 (by decide) hf38 (fun _ h9 => h9) rfl dX0_fourthDivisionValue_78 ?_
  refine zz_imul hx hb dX0_fourthDivisionValue_81 ?_
  refine lv_aload_n hx hb dX0_fourthDivisionValue_82 rfl (lv_at hl 1 rfl) ?_
  refine va_get (D := (dC, dI)) (ci := 0) (v := .int (zI (b))) (C := RX0) (T := TX0) (N := 7) hx hb hts hin0 hown hK hP 0 rfl rfl 2 (by decide) hf38 (fun _ h9 => h9) rfl dX0_fourthDivisionValue_83 ?_
  refine zz_imul hx hb dX0_fourthDivisionValue_86 ?_
  refine zz_isub hx hb dX0_fourthDivisionValue_87 ?_
  refine lv_aload_n hx hb dX0_fourthDivisionValue_88 rfl (lv_at hl 1 rfl) ?_
  refine lv_aload_n hx hb dX0_fourthDivisionValue_89 rfl (lv_at hl 1 rfl) ?_
  refine va_get (D := (dC, dI)) (ci := 0) (v := .int (zI (a))) (C := RX0) (T := TX0) (N := 7) hx hb hts hin0 hown hK hP 0 rfl rfl 1 (by decide) hf35 (fun _ h9 => h9) rfl dX0_fourthDivisionValue_90 ?_
  refine lv_aload_n hx hb dX0_fourthDivisionValue_93 rfl (lv_at hl 1 rfl) ?_
  refine va_get (D := (dC, dI)) (ci := 0) (v := .int (zI (a))) (C := RX0) (T := TX0) (N := 7) hx hb hts hin0 hown hK hP 0 rfl rfl 1 (by decide) hf35 (fun _ h9 => h9) rfl dX0_fourthDivisionValue_94 ?_
  refine zz_imul hx hb dX0_fourthDivisionValue_97 ?_
  refine zz_callV h0 [.int (zI (a * a))] [.int (zI ((va4 * x) - ((8 * b) * b))), .ref h0] ⟨hx, hb, hml, hown, hts⟩ (kX0_modulo l dC dI h0 q1 q2 q3 c1 c2 c3 p a b n g1 g2 g3 (a * a) (by omega) (by omega)) (cwV 1 hts gX0_fourthDivisionValue_X0_modulo rfl rfl rfl (by decide +kernel) ⟨Nat.le_of_ble_eq_true rfl, Nat.le_of_ble_eq_true rfl⟩) hK hP 0 rfl rfl rfl hP hS rfl hl.1 rfl (Nat.le_of_ble_eq_true rfl) dX0_fourthDivisionValue_98 ⟨Nat.le_of_ble_eq_true rfl, Nat.le_of_ble_eq_true rfl⟩ (fun H locs hP hS => ?_)
  refine lv_aload_n hx hb dX0_fourthDivisionValue_101 rfl (lv_at hl 1 rfl) ?_
  refine va_get (D := (dC, dI)) (ci := 0) (v := .int (zI (a))) (C := RX0) (T := TX0) (N := 7) hx hb hts hin0 hown hK hP 0 rfl rfl 1 (by decide) hf35 (fun _ h9 => h9) rfl dX0_fourthDivisionValue_102 ?_
  refine zz_imul hx hb dX0_fourthDivisionValue_105 ?_
  refine zz_isub hx hb dX0_fourthDivisionValue_106 ?_
  refine zz_callV h0 [.int (zI (((va4 * x) - ((8 * b) * b)) - (((a * a) % p) * a)))] [] ⟨hx, hb, hml, hown, hts⟩ (kX0_modulo l dC dI h0 q1 q2 q3 c1 c2 c3 p a b n g1 g2 g3 (((va4 * x) - ((8 * b) * b)) - (((a * a) % p) * a)) (by omega) (by omega)) (cwV 1 hts gX0_fourthDivisionValue_X0_modulo rfl rfl rfl (by decide +kernel) ⟨Nat.le_of_ble_eq_true rfl, Nat.le_of_ble_eq_true rfl⟩) hK hP 0 rfl rfl rfl hP hS rfl hl.1 rfl (Nat.le_of_ble_eq_true rfl) dX0_fourthDivisionValue_107 ⟨Nat.le_of_ble_eq_true rfl, Nat.le_of_ble_eq_true rfl⟩ (fun H locs hP hS => ?_)
  refine zz_topi (fun va5 eva5 => ?_)
  refine lv_istore_n (lv' := [(2, .int (zI (va5))), (0, .ref h0), (1, .int (zI (x)))]) hx hb dX0_fourthDivisionValue_110 rfl hl (by decide) rfl (fun ls hl => ?_)
  have i5 : 0 ≤ va5 ∧ va5 < p := by rw [eva5]; exact zz_md (by omega)
  refine lv_aload_n hx hb dX0_fourthDivisionValue_111 rfl (lv_at hl 1 rfl) ?_
  refine lv_iconst (v := zI 2) hx hb dX0_fourthDivisionValue_112 rfl ?_
  refine lv_iload_n hx hb dX0_fourthDivisionValue_113 rfl (lv_at hl 0 rfl) ?_
  refine zz_imul hx hb dX0_fourthDivisionValue_114 ?_
  refine zz_callV h0 [.int (zI (2 * va5))] [] ⟨hx, hb, hml, hown, hts⟩ (kX0_modulo l dC dI h0 q1 q2 q3 c1 c2 c3 p a b n g1 g2 g3 (2 * va5) (by omega) (by omega)) (cwV 1 hts gX0_fourthDivisionValue_X0_modulo rfl rfl rfl (by decide +kernel) ⟨Nat.le_of_ble_eq_true rfl, Nat.le_of_ble_eq_true rfl⟩) hK hP 0 rfl rfl rfl hP hS rfl hl.1 rfl (Nat.le_of_ble_eq_true rfl) dX0_fourthDivisionValue_115 ⟨Nat.le_of_ble_eq_true rfl, Nat.le_of_ble_eq_true rfl⟩ (fun H locs hP hS => ?_)
  have hpost : ((2 * va5) % p : Int) = gs_f4 p a b x := by
    rw [eva5, eva4, eva3, eva2, eva1]
    exact gs_t4 p a b x
  exact W.iret (v := zI ((2 * va5) % p)) hx hb hr (fun t ht hW => ⟨⟨_, (), rfl, congrArg zI hpost, trivial⟩, hS.F ht⟩) hS.2.2 dX0_fourthDivisionValue_118

set_option maxHeartbeats 4000000 in
set_option maxRecDepth 100000 in
theorem kX0_cube (l : Launch) (dC : Nat → ClassId) (dI : Nat → Nat → Nat) (h0 q1 q2 q3 : Nat) (c1 c2 c3 : ClassId) (p a b n : Int) (g1 g2 g3 : Int → Int) (v : Int) (hp : 5 ≤ p ∧ p ≤ 4093) (hv : 0 ≤ v ∧ v < p) : Met l yX0_cube wsX0_cube ({ frames := 2, cells := 0, slots := 0, locals := 43 }) (zPc (dC, dI) (ww0 h0 q1 q2 q3 c1 c2 c3 p a b n g1 g2 g3) (tt0 c1 c2 c3) [.ref h0, .int (zI (v))]) (zQi (zI (gs_cub p v))) 0 0 zNo := by
  refine Met.ofW (cc := cX0_cube) (maxL := 2) (ret := (some .int)) (by decide) rfl ?_
  intro pp e s m args below meth c s₁ B hml hv
  obtain ⟨rfl, hP, hK⟩ := hv
  have hx := B.exec
  have hb := B.bytes
  have hr := B.returns
  have hts := atoms_spec (ws := wsX0_cube) B.pre
  have hown : s.vm.findClass RX0 = some m.cls := findClass_of_methodNamed B.named
  have hlocks := B.notSynchronized
  have hS : va_S (fun _ => False) s.heap s.heap [] := va_S.rf
  have hl := lv_entry ([.ref h0, .int (zI (v))]) (n := 2) (Nat.le_of_ble_eq_true rfl)
  rw [lg_entry_eq]
  generalize (lg_sl ([.ref h0, .int (zI (v))]) ++ List.replicate (2 - (lg_sl ([.ref h0, .int (zI (v))])).length) Slot.unset).toArray = ls at hl ⊢
  have hl : lv_has ls 2 [(0, .ref h0), (1, .int (zI (v)))] := hl
  skip
  have h1 := zz_pr (x := v) (y := v) (by omega) (by omega)
  have h2 := zz_md (v := v * v) (p := p) (by omega)
  have h3 := zz_pr (x := v * v % p) (y := v) (by omega) (by omega)
  refine lv_aload_n hx hb dX0_cube_0 rfl (lv_at hl 0 rfl) ?_
  refine lv_aload_n hx hb dX0_cube_1 rfl (lv_at hl 0 rfl) ?_
  refine lv_iload_n hx hb dX0_cube_2 rfl (lv_at hl 1 rfl) ?_
  refine lv_iload_n hx hb dX0_cube_3 rfl (lv_at hl 1 rfl) ?_
  refine zz_imul hx hb dX0_cube_4 ?_
  refine zz_callV h0 [.int (zI (v * v))] [.ref h0] ⟨hx, hb, hml, hown, hts⟩ (kX0_modulo l dC dI h0 q1 q2 q3 c1 c2 c3 p a b n g1 g2 g3 (v * v) (by omega) (by omega)) (cwV 1 hts gX0_cube_X0_modulo rfl rfl rfl (by decide +kernel) ⟨Nat.le_of_ble_eq_true rfl, Nat.le_of_ble_eq_true rfl⟩) hK hP 0 rfl rfl rfl hP hS rfl hl.1 rfl (Nat.le_of_ble_eq_true rfl) dX0_cube_5 ⟨Nat.le_of_ble_eq_true rfl, Nat.le_of_ble_eq_true rfl⟩ (fun H locs hP hS => ?_)
  refine lv_iload_n hx hb dX0_cube_8 rfl (lv_at hl 1 rfl) ?_
  refine zz_imul hx hb dX0_cube_9 ?_
  refine zz_callV h0 [.int (zI (((v * v) % p) * v))] [] ⟨hx, hb, hml, hown, hts⟩ (kX0_modulo l dC dI h0 q1 q2 q3 c1 c2 c3 p a b n g1 g2 g3 (((v * v) % p) * v) (by omega) (by omega)) (cwV 1 hts gX0_cube_X0_modulo rfl rfl rfl (by decide +kernel) ⟨Nat.le_of_ble_eq_true rfl, Nat.le_of_ble_eq_true rfl⟩) hK hP 0 rfl rfl rfl hP hS rfl hl.1 rfl (Nat.le_of_ble_eq_true rfl) dX0_cube_10 ⟨Nat.le_of_ble_eq_true rfl, Nat.le_of_ble_eq_true rfl⟩ (fun H locs hP hS => ?_)
  have hpost : ((((v * v) % p) * v) % p : Int) = gs_cub p v := by
    rfl
  exact W.iret (v := zI ((((v * v) % p) * v) % p)) hx hb hr (fun t ht hW => ⟨⟨_, (), rfl, congrArg zI hpost, trivial⟩, hS.F ht⟩) hS.2.2 dX0_cube_13

set_option maxHeartbeats 4000000 in
set_option maxRecDepth 100000 in
theorem kX0_evenDivisionValue (l : Launch) (dC : Nat → ClassId) (dI : Nat → Nat → Nat) (h0 q1 q2 q3 : Nat) (c1 c2 c3 : ClassId) (p a b n : Int) (g1 g2 g3 : Int → Int) (j : Int) (hp : 5 ≤ p ∧ p ≤ 4093) (hj : 2 ≤ j ∧ j ≤ 38) (hg : ∀ i, 0 ≤ i → i ≤ j + 2 → 0 ≤ g3 i ∧ g3 i < p) : Met l yX0_evenDivisionValue wsX0_evenDivisionValue ({ frames := 2, cells := 0, slots := 0, locals := 43 }) (zPc (dC, dI) (ww0 h0 q1 q2 q3 c1 c2 c3 p a b n g1 g2 g3) (tt0 c1 c2 c3) [.ref h0, .int (zI (j))]) (zQi (zI (gs_ev p g3 j))) 0 0 zNo := by
  refine Met.ofW (cc := cX0_evenDivisionValue) (maxL := 5) (ret := (some .int)) (by decide) rfl ?_
  intro pp e s m args below meth c s₁ B hml hv
  obtain ⟨rfl, hP, hK⟩ := hv
  have hx := B.exec
  have hb := B.bytes
  have hr := B.returns
  have hts := atoms_spec (ws := wsX0_evenDivisionValue) B.pre
  have hown : s.vm.findClass RX0 = some m.cls := findClass_of_methodNamed B.named
  have hlocks := B.notSynchronized
  have hin0 : ∀ w ∈ u_ws RX0 TX0 7, w ∈ wsX0_evenDivisionValue := by decide +kernel
  have hf16 := hts (.fieldLink RX0 16 "CurveDesk" "divisionValue" "[I") (by decide +kernel)
  have hS : va_S (fun _ => False) s.heap s.heap [] := va_S.rf
  have hl := lv_entry ([.ref h0, .int (zI (j))]) (n := 5) (Nat.le_of_ble_eq_true rfl)
  rw [lg_entry_eq]
  generalize (lg_sl ([.ref h0, .int (zI (j))]) ++ List.replicate (5 - (lg_sl ([.ref h0, .int (zI (j))])).length) Slot.unset).toArray = ls at hl ⊢
  have hl : lv_has ls 5 [(0, .ref h0), (1, .int (zI (j)))] := hl
  skip
  have t1 := hg (j + 2) (by omega) (by omega)
  have t2 := hg (j - 1) (by omega) (by omega)
  have t3 := hg (j - 2) (by omega) (by omega)
  have t4 := hg (j + 1) (by omega) (by omega)
  have t5 := hg j (by omega) (by omega)
  have u1 := zz_pr (x := g3 (j - 1)) (y := g3 (j - 1)) (by omega) (by omega)
  have u2 := zz_md (v := g3 (j - 1) * g3 (j - 1)) (p := p) (by omega)
  have u3 := zz_pr (x := g3 (j + 2)) (y := g3 (j - 1) * g3 (j - 1) % p) (by omega) (by omega)
  have u4 := zz_md (v := g3 (j + 2) * (g3 (j - 1) * g3 (j - 1) % p)) (p := p) (by omega)
  have v1 := zz_pr (x := g3 (j + 1)) (y := g3 (j + 1)) (by omega) (by omega)
  have v2 := zz_md (v := g3 (j + 1) * g3 (j + 1)) (p := p) (by omega)
  have v3 := zz_pr (x := g3 (j - 2)) (y := g3 (j + 1) * g3 (j + 1) % p) (by omega) (by omega)
  have v4 := zz_md (v := g3 (j - 2) * (g3 (j + 1) * g3 (j + 1) % p)) (p := p) (by omega)
  refine lv_aload_n hx hb dX0_evenDivisionValue_0 rfl (lv_at hl 0 rfl) ?_
  refine va_get (D := (dC, dI)) (ci := 0) (v := .ref q3) (C := RX0) (T := TX0) (N := 7) hx hb hts hin0 hown hK hP 0 rfl rfl 6 (by decide) hf16 (fun _ h9 => h9) rfl dX0_evenDivisionValue_1 ?_
  refine lv_astore_n (lv' := [(2, .ref q3), (0, .ref h0), (1, .int (zI (j)))]) hx hb dX0_evenDivisionValue_4 rfl hl (by decide) rfl (fun ls hl => ?_)
  refine lv_aload_n hx hb dX0_evenDivisionValue_5 rfl (lv_at hl 1 rfl) ?_
  refine lv_aload_n hx hb dX0_evenDivisionValue_6 rfl (lv_at hl 0 rfl) ?_
  refine lv_iload_n hx hb dX0_evenDivisionValue_7 rfl (lv_at hl 2 rfl) ?_
  refine lv_iconst (v := zI 2) hx hb dX0_evenDivisionValue_8 rfl ?_
  refine zz_iadd hx hb dX0_evenDivisionValue_9 ?_
  refine zz_iald (g := g3) hx hb hK hP 3 2 rfl rfl (by omega) dX0_evenDivisionValue_10 ?_
  refine lv_aload_n hx hb dX0_evenDivisionValue_11 rfl (lv_at hl 1 rfl) ?_
  refine lv_aload_n hx hb dX0_evenDivisionValue_12 rfl (lv_at hl 0 rfl) ?_
  refine lv_iload_n hx hb dX0_evenDivisionValue_13 rfl (lv_at hl 2 rfl) ?_
  refine lv_iconst (v := zI 1) hx hb dX0_evenDivisionValue_14 rfl ?_
  refine zz_isub hx hb dX0_evenDivisionValue_15 ?_
  refine zz_iald (g := g3) hx hb hK hP 3 2 rfl rfl (by omega) dX0_evenDivisionValue_16 ?_
  refine lv_aload_n hx hb dX0_evenDivisionValue_17 rfl (lv_at hl 0 rfl) ?_
  refine lv_iload_n hx hb dX0_evenDivisionValue_18 rfl (lv_at hl 2 rfl) ?_
  refine lv_iconst (v := zI 1) hx hb dX0_evenDivisionValue_19 rfl ?_
  refine zz_isub hx hb dX0_evenDivisionValue_20 ?_
  refine zz_iald (g := g3) hx hb hK hP 3 2 rfl rfl (by omega) dX0_evenDivisionValue_21 ?_
  refine zz_imul hx hb dX0_evenDivisionValue_22 ?_
  refine zz_callV h0 [.int (zI ((g3 (j - 1)) * (g3 (j - 1))))] [.int (zI (g3 (j + 2))), .ref h0] ⟨hx, hb, hml, hown, hts⟩ (kX0_modulo l dC dI h0 q1 q2 q3 c1 c2 c3 p a b n g1 g2 g3 ((g3 (j - 1)) * (g3 (j - 1))) (by omega) (by omega)) (cwV 1 hts gX0_evenDivisionValue_X0_modulo rfl rfl rfl (by decide +kernel) ⟨Nat.le_of_ble_eq_true rfl, Nat.le_of_ble_eq_true rfl⟩) hK hP 0 rfl rfl rfl hP hS rfl hl.1 rfl (Nat.le_of_ble_eq_true rfl) dX0_evenDivisionValue_23 ⟨Nat.le_of_ble_eq_true rfl, Nat.le_of_ble_eq_true rfl⟩ (fun H locs hP hS => ?_)
  refine zz_imul hx hb dX0_evenDivisionValue_26 ?_
  refine zz_callV h0 [.int (zI ((g3 (j + 2)) * (((g3 (j - 1)) * (g3 (j - 1))) % p)))] [] ⟨hx, hb, hml, hown, hts⟩ (kX0_modulo l dC dI h0 q1 q2 q3 c1 c2 c3 p a b n g1 g2 g3 ((g3 (j + 2)) * (((g3 (j - 1)) * (g3 (j - 1))) % p)) (by omega) (by omega)) (cwV 1 hts gX0_evenDivisionValue_X0_modulo rfl rfl rfl (by decide +kernel) ⟨Nat.le_of_ble_eq_true rfl, Nat.le_of_ble_eq_true rfl⟩) hK hP 0 rfl rfl rfl hP hS rfl hl.1 rfl (Nat.le_of_ble_eq_true rfl) dX0_evenDivisionValue_27 ⟨Nat.le_of_ble_eq_true rfl, Nat.le_of_ble_eq_true rfl⟩ (fun H locs hP hS => ?_)
  refine zz_topi (fun lf elf => ?_)
  refine lv_istore_n (lv' := [(3, .int (zI (lf))), (2, .ref q3), (0, .ref h0), (1, .int (zI (j)))]) hx hb dX0_evenDivisionValue_30 rfl hl (by decide) rfl (fun ls hl => ?_)
  refine lv_aload_n hx hb dX0_evenDivisionValue_31 rfl (lv_at hl 2 rfl) ?_
  refine lv_aload_n hx hb dX0_evenDivisionValue_32 rfl (lv_at hl 1 rfl) ?_
  refine lv_iload_n hx hb dX0_evenDivisionValue_33 rfl (lv_at hl 3 rfl) ?_
  refine lv_iconst (v := zI 2) hx hb dX0_evenDivisionValue_34 rfl ?_
  refine zz_isub hx hb dX0_evenDivisionValue_35 ?_
  refine zz_iald (g := g3) hx hb hK hP 3 2 rfl rfl (by omega) dX0_evenDivisionValue_36 ?_
  refine lv_aload_n hx hb dX0_evenDivisionValue_37 rfl (lv_at hl 2 rfl) ?_
  refine lv_aload_n hx hb dX0_evenDivisionValue_38 rfl (lv_at hl 1 rfl) ?_
  refine lv_iload_n hx hb dX0_evenDivisionValue_39 rfl (lv_at hl 3 rfl) ?_
  refine lv_iconst (v := zI 1) hx hb dX0_evenDivisionValue_40 rfl ?_
  refine zz_iadd hx hb dX0_evenDivisionValue_41 ?_
  refine zz_iald (g := g3) hx hb hK hP 3 2 rfl rfl (by omega) dX0_evenDivisionValue_42 ?_
  refine lv_aload_n hx hb dX0_evenDivisionValue_43 rfl (lv_at hl 1 rfl) ?_
  refine lv_iload_n hx hb dX0_evenDivisionValue_44 rfl (lv_at hl 3 rfl) ?_
  refine lv_iconst (v := zI 1) hx hb dX0_evenDivisionValue_45 rfl ?_
  refine zz_iadd hx hb dX0_evenDivisionValue_46 ?_
  refine zz_iald (g := g3) hx hb hK hP 3 2 rfl rfl (by omega) dX0_evenDivisionValue_47 ?_
  refine zz_imul hx hb dX0_evenDivisionValue_48 ?_
  refine zz_callV h0 [.int (zI ((g3 (j + 1)) * (g3 (j + 1))))] [.int (zI (g3 (j - 2))), .ref h0] ⟨hx, hb, hml, hown, hts⟩ (kX0_modulo l dC dI h0 q1 q2 q3 c1 c2 c3 p a b n g1 g2 g3 ((g3 (j + 1)) * (g3 (j + 1))) (by omega) (by omega)) (cwV 1 hts gX0_evenDivisionValue_X0_modulo rfl rfl rfl (by decide +kernel) ⟨Nat.le_of_ble_eq_true rfl, Nat.le_of_ble_eq_true rfl⟩) hK hP 0 rfl rfl rfl hP hS rfl hl.1 rfl (Nat.le_of_ble_eq_true rfl) dX0_evenDivisionValue_49 ⟨Nat.le_of_ble_eq_true rfl, Nat.le_of_ble_eq_true rfl⟩ (fun H locs hP hS => ?_)
  refine zz_imul hx hb dX0_evenDivisionValue_52 ?_
  refine zz_callV h0 [.int (zI ((g3 (j - 2)) * (((g3 (j + 1)) * (g3 (j + 1))) % p)))] [] ⟨hx, hb, hml, hown, hts⟩ (kX0_modulo l dC dI h0 q1 q2 q3 c1 c2 c3 p a b n g1 g2 g3 ((g3 (j - 2)) * (((g3 (j + 1)) * (g3 (j + 1))) % p)) (by omega) (by omega)) (cwV 1 hts gX0_evenDivisionValue_X0_modulo rfl rfl rfl (by decide +kernel) ⟨Nat.le_of_ble_eq_true rfl, Nat.le_of_ble_eq_true rfl⟩) hK hP 0 rfl rfl rfl hP hS rfl hl.1 rfl (Nat.le_of_ble_eq_true rfl) dX0_evenDivisionValue_53 ⟨Nat.le_of_ble_eq_true rfl, Nat.le_of_ble_eq_true rfl⟩ (fun H locs hP hS => ?_)
  refine zz_topi (fun rt ert => ?_)
  refine lv_istore (lv' := [(4, .int (zI (rt))), (3, .int (zI (lf))), (2, .ref q3), (0, .ref h0), (1, .int (zI (j)))]) hx hb dX0_evenDivisionValue_56 hl (by decide) rfl (fun ls hl => ?_)
  have w1 := zz_md (v := lf - rt) (p := p) (by omega)
  have w2 := zz_pr (x := g3 j) (y := (lf - rt) % p) (by omega) (by omega)
  refine lv_aload_n hx hb dX0_evenDivisionValue_58 rfl (lv_at hl 3 rfl) ?_
  refine lv_aload_n hx hb dX0_evenDivisionValue_59 rfl (lv_at hl 2 rfl) ?_
  refine lv_iload_n hx hb dX0_evenDivisionValue_60 rfl (lv_at hl 4 rfl) ?_
  refine zz_iald (g := g3) hx hb hK hP 3 2 rfl rfl (by omega) dX0_evenDivisionValue_61 ?_
  refine lv_aload_n hx hb dX0_evenDivisionValue_62 rfl (lv_at hl 3 rfl) ?_
  refine lv_iload_n hx hb dX0_evenDivisionValue_63 rfl (lv_at hl 1 rfl) ?_
  refine lv_iload hx hb dX0_evenDivisionValue_64 (lv_at hl 0 rfl) ?_
  refine zz_isub hx hb dX0_evenDivisionValue_66 ?_
  refine zz_callV h0 [.int (zI (lf - rt))] [.int (zI (g3 j)), .ref h0] ⟨hx, hb, hml, hown, hts⟩ (kX0_modulo l dC dI h0 q1 q2 q3 c1 c2 c3 p a b n g1 g2 g3 (lf - rt) (by omega) (by omega)) (cwV 1 hts gX0_evenDivisionValue_X0_modulo rfl rfl rfl (by decide +kernel) ⟨Nat.le_of_ble_eq_true rfl, Nat.le_of_ble_eq_true rfl⟩) hK hP 0 rfl rfl rfl hP hS rfl hl.1 rfl (Nat.le_of_ble_eq_true rfl) dX0_evenDivisionValue_67 ⟨Nat.le_of_ble_eq_true rfl, Nat.le_of_ble_eq_true rfl⟩ (fun H locs hP hS => ?_)
  refine zz_imul hx hb dX0_evenDivisionValue_70 ?_
  refine zz_callV h0 [.int (zI ((g3 j) * ((lf - rt) % p)))] [] ⟨hx, hb, hml, hown, hts⟩ (kX0_modulo l dC dI h0 q1 q2 q3 c1 c2 c3 p a b n g1 g2 g3 ((g3 j) * ((lf - rt) % p)) (by omega) (by omega)) (cwV 1 hts gX0_evenDivisionValue_X0_modulo rfl rfl rfl (by decide +kernel) ⟨Nat.le_of_ble_eq_true rfl, Nat.le_of_ble_eq_true rfl⟩) hK hP 0 rfl rfl rfl hP hS rfl hl.1 rfl (Nat.le_of_ble_eq_true rfl) dX0_evenDivisionValue_71 ⟨Nat.le_of_ble_eq_true rfl, Nat.le_of_ble_eq_true rfl⟩ (fun H locs hP hS => ?_)
  have hpost : (((g3 j) * ((lf - rt) % p)) % p : Int) = gs_ev p g3 j := by
    unfold gs_ev
    rw [elf, ert]
  exact W.iret (v := zI (((g3 j) * ((lf - rt) % p)) % p)) hx hb hr (fun t ht hW => ⟨⟨_, (), rfl, congrArg zI hpost, trivial⟩, hS.F ht⟩) hS.2.2 dX0_evenDivisionValue_74

set_option maxHeartbeats 4000000 in
set_option maxRecDepth 100000 in
theorem kX0_oddDivisionValue (l : Launch) (dC : Nat → ClassId) (dI : Nat → Nat → Nat) (h0 q1 q2 q3 : Nat) (c1 c2 c3 : ClassId) (p a b n : Int) (g1 g2 g3 : Int → Int) (j : Int) (qq : Int) (hp : 5 ≤ p ∧ p ≤ 4093) (hj : 2 ≤ j ∧ j ≤ 38) (hqq : 0 ≤ qq ∧ qq < p) (hg : ∀ i, 0 ≤ i → i ≤ j + 2 → 0 ≤ g3 i ∧ g3 i < p) : Met l yX0_oddDivisionValue wsX0_oddDivisionValue ({ frames := 3, cells := 0, slots := 0, locals := 64 }) (zPc (dC, dI) (ww0 h0 q1 q2 q3 c1 c2 c3 p a b n g1 g2 g3) (tt0 c1 c2 c3) [.ref h0, .int (zI (j)), .int (zI (qq))]) (zQi (zI (gs_od p qq g3 j))) 0 0 zNo := by
  refine Met.ofW (cc := cX0_oddDivisionValue) (maxL := 6) (ret := (some .int)) (by decide) rfl ?_
  intro pp e s m args below meth c s₁ B hml hv
  obtain ⟨rfl, hP, hK⟩ := hv
  have hx := B.exec
  have hb := B.bytes
  have hr := B.returns
  have hts := atoms_spec (ws := wsX0_oddDivisionValue) B.pre
  have hown : s.vm.findClass RX0 = some m.cls := findClass_of_methodNamed B.named
  have hlocks := B.notSynchronized
  have hin0 : ∀ w ∈ u_ws RX0 TX0 7, w ∈ wsX0_oddDivisionValue := by decide +kernel
  have hf16 := hts (.fieldLink RX0 16 "CurveDesk" "divisionValue" "[I") (by decide +kernel)
  have hS : va_S (fun _ => False) s.heap s.heap [] := va_S.rf
  have hl := lv_entry ([.ref h0, .int (zI (j)), .int (zI (qq))]) (n := 6) (Nat.le_of_ble_eq_true rfl)
  rw [lg_entry_eq]
  generalize (lg_sl ([.ref h0, .int (zI (j)), .int (zI (qq))]) ++ List.replicate (6 - (lg_sl ([.ref h0, .int (zI (j)), .int (zI (qq))])).length) Slot.unset).toArray = ls at hl ⊢
  have hl : lv_has ls 6 [(0, .ref h0), (1, .int (zI (j))), (2, .int (zI (qq)))] := hl
  skip
  have t1 := hg (j + 2) (by omega) (by omega)
  have t2 := hg (j - 1) (by omega) (by omega)
  have t4 := hg (j + 1) (by omega) (by omega)
  have t5 := hg j (by omega) (by omega)
  have u1 := gs_cubR (p := p) (v := g3 j) (by omega)
  have u2 := zz_pr (x := g3 (j + 2)) (y := gs_cub p (g3 j)) (by omega) (by omega)
  have u3 := zz_md (v := g3 (j + 2) * gs_cub p (g3 j)) (p := p) (by omega)
  have v1 := gs_cubR (p := p) (v := g3 (j + 1)) (by omega)
  have v2 := zz_pr (x := g3 (j - 1)) (y := gs_cub p (g3 (j + 1))) (by omega) (by omega)
  have v3 := zz_md (v := g3 (j - 1) * gs_cub p (g3 (j + 1))) (p := p) (by omega)
  refine lv_aload_n hx hb dX0_oddDivisionValue_0 rfl (lv_at hl 0 rfl) ?_
  refine va_get (D := (dC, dI)) (ci := 0) (v := .ref q3) (C := RX0) (T := TX0) (N := 7) hx hb hts hin0 hown hK hP 0 rfl rfl 6 (by decide) hf16 (fun _ h9 => h9) rfl dX0_oddDivisionValue_1 ?_
  refine lv_astore_n (lv' := [(3, .ref q3), (0, .ref h0), (1, .int (zI (j))), (2, .int (zI (qq)))]) hx hb dX0_oddDivisionValue_4 rfl hl (by decide) rfl (fun ls hl => ?_)
  refine lv_aload_n hx hb dX0_oddDivisionValue_5 rfl (lv_at hl 1 rfl) ?_
  refine lv_aload_n hx hb dX0_oddDivisionValue_6 rfl (lv_at hl 0 rfl) ?_
  refine lv_iload_n hx hb dX0_oddDivisionValue_7 rfl (lv_at hl 2 rfl) ?_
  refine lv_iconst (v := zI 2) hx hb dX0_oddDivisionValue_8 rfl ?_
  refine zz_iadd hx hb dX0_oddDivisionValue_9 ?_
  refine zz_iald (g := g3) hx hb hK hP 3 2 rfl rfl (by omega) dX0_oddDivisionValue_10 ?_
  refine lv_aload_n hx hb dX0_oddDivisionValue_11 rfl (lv_at hl 1 rfl) ?_
  refine lv_aload_n hx hb dX0_oddDivisionValue_12 rfl (lv_at hl 0 rfl) ?_
  refine lv_iload_n hx hb dX0_oddDivisionValue_13 rfl (lv_at hl 2 rfl) ?_
  refine zz_iald (g := g3) hx hb hK hP 3 2 rfl rfl (by omega) dX0_oddDivisionValue_14 ?_
  refine zz_callV h0 [.int (zI (g3 j))] [.int (zI (g3 (j + 2))), .ref h0] ⟨hx, hb, hml, hown, hts⟩ (kX0_cube l dC dI h0 q1 q2 q3 c1 c2 c3 p a b n g1 g2 g3 (g3 j) (by omega) (by omega)) (cwV 1 hts gX0_oddDivisionValue_X0_cube rfl rfl rfl (by decide +kernel) ⟨Nat.le_of_ble_eq_true rfl, Nat.le_of_ble_eq_true rfl⟩) hK hP 0 rfl rfl rfl hP hS rfl hl.1 rfl (Nat.le_of_ble_eq_true rfl) dX0_oddDivisionValue_15 ⟨Nat.le_of_ble_eq_true rfl, Nat.le_of_ble_eq_true rfl⟩ (fun H locs hP hS => ?_)
  refine zz_imul hx hb dX0_oddDivisionValue_18 ?_
  refine zz_callV h0 [.int (zI ((g3 (j + 2)) * (gs_cub p (g3 j))))] [] ⟨hx, hb, hml, hown, hts⟩ (kX0_modulo l dC dI h0 q1 q2 q3 c1 c2 c3 p a b n g1 g2 g3 ((g3 (j + 2)) * (gs_cub p (g3 j))) (by omega) (by omega)) (cwV 1 hts gX0_oddDivisionValue_X0_modulo rfl rfl rfl (by decide +kernel) ⟨Nat.le_of_ble_eq_true rfl, Nat.le_of_ble_eq_true rfl⟩) hK hP 0 rfl rfl rfl hP hS rfl hl.1 rfl (Nat.le_of_ble_eq_true rfl) dX0_oddDivisionValue_19 ⟨Nat.le_of_ble_eq_true rfl, Nat.le_of_ble_eq_true rfl⟩ (fun H locs hP hS => ?_)
  refine zz_topi (fun lf elf => ?_)
  refine lv_istore (lv' := [(4, .int (zI (lf))), (3, .ref q3), (0, .ref h0), (1, .int (zI (j))), (2, .int (zI (qq)))]) hx hb dX0_oddDivisionValue_22 hl (by decide) rfl (fun ls hl => ?_)
  refine lv_aload_n hx hb dX0_oddDivisionValue_24 rfl (lv_at hl 2 rfl) ?_
  refine lv_aload_n hx hb dX0_oddDivisionValue_25 rfl (lv_at hl 1 rfl) ?_
  refine lv_iload_n hx hb dX0_oddDivisionValue_26 rfl (lv_at hl 3 rfl) ?_
  refine lv_iconst (v := zI 1) hx hb dX0_oddDivisionValue_27 rfl ?_
  refine zz_isub hx hb dX0_oddDivisionValue_28 ?_
  refine zz_iald (g := g3) hx hb hK hP 3 2 rfl rfl (by omega) dX0_oddDivisionValue_29 ?_
  refine lv_aload_n hx hb dX0_oddDivisionValue_30 rfl (lv_at hl 2 rfl) ?_
  refine lv_aload_n hx hb dX0_oddDivisionValue_31 rfl (lv_at hl 1 rfl) ?_
  refine lv_iload_n hx hb dX0_oddDivisionValue_32 rfl (lv_at hl 3 rfl) ?_
  refine lv_iconst (v := zI 1) hx hb dX0_oddDivisionValue_33 rfl ?_
  refine zz_iadd hx hb dX0_oddDivisionValue_34 ?_
  refine zz_iald (g := g3) hx hb hK hP 3 2 rfl rfl (by omega) dX0_oddDivisionValue_35 ?_
  refine zz_callV h0 [.int (zI (g3 (j + 1)))] [.int (zI (g3 (j - 1))), .ref h0] ⟨hx, hb, hml, hown, hts⟩ (kX0_cube l dC dI h0 q1 q2 q3 c1 c2 c3 p a b n g1 g2 g3 (g3 (j + 1)) (by omega) (by omega)) (cwV 1 hts gX0_oddDivisionValue_X0_cube rfl rfl rfl (by decide +kernel) ⟨Nat.le_of_ble_eq_true rfl, Nat.le_of_ble_eq_true rfl⟩) hK hP 0 rfl rfl rfl hP hS rfl hl.1 rfl (Nat.le_of_ble_eq_true rfl) dX0_oddDivisionValue_36 ⟨Nat.le_of_ble_eq_true rfl, Nat.le_of_ble_eq_true rfl⟩ (fun H locs hP hS => ?_)
  refine zz_imul hx hb dX0_oddDivisionValue_39 ?_
  refine zz_callV h0 [.int (zI ((g3 (j - 1)) * (gs_cub p (g3 (j + 1)))))] [] ⟨hx, hb, hml, hown, hts⟩ (kX0_modulo l dC dI h0 q1 q2 q3 c1 c2 c3 p a b n g1 g2 g3 ((g3 (j - 1)) * (gs_cub p (g3 (j + 1)))) (by omega) (by omega)) (cwV 1 hts gX0_oddDivisionValue_X0_modulo rfl rfl rfl (by decide +kernel) ⟨Nat.le_of_ble_eq_true rfl, Nat.le_of_ble_eq_true rfl⟩) hK hP 0 rfl rfl rfl hP hS rfl hl.1 rfl (Nat.le_of_ble_eq_true rfl) dX0_oddDivisionValue_40 ⟨Nat.le_of_ble_eq_true rfl, Nat.le_of_ble_eq_true rfl⟩ (fun H locs hP hS => ?_)
  refine zz_topi (fun rt ert => ?_)
  refine lv_istore (lv' := [(5, .int (zI (rt))), (4, .int (zI (lf))), (3, .ref q3), (0, .ref h0), (1, .int (zI (j))), (2, .int (zI (qq)))]) hx hb dX0_oddDivisionValue_43 hl (by decide) rfl (fun ls hl => ?_)
  have w1 : 0 ≤ lf ∧ lf < p := by rw [elf]; exact u3
  have w2 : 0 ≤ rt ∧ rt < p := by rw [ert]; exact v3
  have w3 := zz_pr (x := qq) (y := lf) (by omega) (by omega)
  have w4 := zz_pr (x := qq) (y := rt) (by omega) (by omega)
  refine lv_iload_n hx hb dX0_oddDivisionValue_45 rfl (lv_at hl 4 rfl) ?_
  refine lv_iconst (v := zI 2) hx hb dX0_oddDivisionValue_46 rfl ?_
  refine zz_irem hx hb dX0_oddDivisionValue_47 (by omega) ?_
  refine zz_if_ne (tgt := 65) hx hb dX0_oddDivisionValue_48 (by decide) (by omega) (fun hc_1 => ?_) (fun hc_1 => ?_)
  · refine lv_aload_n hx hb dX0_oddDivisionValue_65 rfl (lv_at hl 3 rfl) ?_
    refine lv_iload hx hb dX0_oddDivisionValue_66 (lv_at hl 1 rfl) ?_
    refine lv_iload_n hx hb dX0_oddDivisionValue_68 rfl (lv_at hl 5 rfl) ?_
    refine lv_iload hx hb dX0_oddDivisionValue_69 (lv_at hl 0 rfl) ?_
    refine zz_imul hx hb dX0_oddDivisionValue_71 ?_
    refine zz_isub hx hb dX0_oddDivisionValue_72 ?_
    refine zz_callV h0 [.int (zI (lf - (qq * rt)))] [] ⟨hx, hb, hml, hown, hts⟩ (kX0_modulo l dC dI h0 q1 q2 q3 c1 c2 c3 p a b n g1 g2 g3 (lf - (qq * rt)) (by omega) (by omega)) (cwV 1 hts gX0_oddDivisionValue_X0_modulo rfl rfl rfl (by decide +kernel) ⟨Nat.le_of_ble_eq_true rfl, Nat.le_of_ble_eq_true rfl⟩) hK hP 0 rfl rfl rfl hP hS rfl hl.1 rfl (Nat.le_of_ble_eq_true rfl) dX0_oddDivisionValue_73 ⟨Nat.le_of_ble_eq_true rfl, Nat.le_of_ble_eq_true rfl⟩ (fun H locs hP hS => ?_)
    have hpost : ((lf - (qq * rt)) % p : Int) = gs_od p qq g3 j := by
      unfold gs_od
      rw [elf, ert, if_neg (by omega)]
    exact W.iret (v := zI ((lf - (qq * rt)) % p)) hx hb hr (fun t ht hW => ⟨⟨_, (), rfl, congrArg zI hpost, trivial⟩, hS.F ht⟩) hS.2.2 dX0_oddDivisionValue_76
  · refine lv_aload_n hx hb dX0_oddDivisionValue_51 rfl (lv_at hl 3 rfl) ?_
    refine lv_iload_n hx hb dX0_oddDivisionValue_52 rfl (lv_at hl 5 rfl) ?_
    refine lv_iload hx hb dX0_oddDivisionValue_53 (lv_at hl 1 rfl) ?_
    refine zz_imul hx hb dX0_oddDivisionValue_55 ?_
    refine lv_iload hx hb dX0_oddDivisionValue_56 (lv_at hl 0 rfl) ?_
    refine zz_isub hx hb dX0_oddDivisionValue_58 ?_
    refine zz_callV h0 [.int (zI ((qq * lf) - rt))] [] ⟨hx, hb, hml, hown, hts⟩ (kX0_modulo l dC dI h0 q1 q2 q3 c1 c2 c3 p a b n g1 g2 g3 ((qq * lf) - rt) (by omega) (by omega)) (cwV 1 hts gX0_oddDivisionValue_X0_modulo rfl rfl rfl (by decide +kernel) ⟨Nat.le_of_ble_eq_true rfl, Nat.le_of_ble_eq_true rfl⟩) hK hP 0 rfl rfl rfl hP hS rfl hl.1 rfl (Nat.le_of_ble_eq_true rfl) dX0_oddDivisionValue_59 ⟨Nat.le_of_ble_eq_true rfl, Nat.le_of_ble_eq_true rfl⟩ (fun H locs hP hS => ?_)
    refine lv_goto (tgt := 76) hx hb dX0_oddDivisionValue_62 (by decide) ?_
    have hpost : (((qq * lf) - rt) % p : Int) = gs_od p qq g3 j := by
      unfold gs_od
      rw [elf, ert, if_pos (by omega)]
    exact W.iret (v := zI (((qq * lf) - rt) % p)) hx hb hr (fun t ht hW => ⟨⟨_, (), rfl, congrArg zI hpost, trivial⟩, hS.F ht⟩) hS.2.2 dX0_oddDivisionValue_76

set_option maxHeartbeats 4000000 in
set_option maxRecDepth 100000 in
theorem kX0_fillFirstDivisionValues (l : Launch) (dC : Nat → ClassId) (dI : Nat → Nat → Nat) (h0 q1 q2 q3 : Nat) (c1 c2 c3 : ClassId) (p a b n : Int) (g1 g2 g3 : Int → Int) (sz : Nat) (x : Int) (hp : 5 ≤ p ∧ p ≤ 4093) (ha : 0 ≤ a ∧ a < p) (hbb : 0 ≤ b ∧ b < p) (hx0 : 0 ≤ x ∧ x < p) : Met l yX0_fillFirstDivisionValues wsX0_fillFirstDivisionValues ({ frames := 3, cells := 0, slots := 0, locals := 65 }) (zPw (dC, dI) (ww0 h0 q1 q2 q3 c1 c2 c3 p a b n g1 g2 g3) (tt0 c1 c2 c3) sz [.ref h0, .int (zI (x))]) (zQwv (dC, dI) (ww0 h0 q1 q2 q3 c1 c2 c3 p a b n g1 g2 g3) sz (fun g : Int → Int => ww0 h0 q1 q2 q3 c1 c2 c3 p a b n g1 g2 g) (fun g : Int → Int => ∀ j, 0 ≤ j → j ≤ 4 → g j = gs_F p a b x j)) 0 0 (va_A (ww0 h0 q1 q2 q3 c1 c2 c3 p a b n g1 g2 g3) sz) := by
  refine Met.ofW (cc := cX0_fillFirstDivisionValues) (maxL := 2) (ret := none) (by decide) rfl ?_
  intro pp e s m args below meth c s₁ B hml hv
  obtain ⟨rfl, hsz, hP, hK, hD0⟩ := hv
  have hx := B.exec
  have hb := B.bytes
  have hr := B.returns
  have hts := atoms_spec (ws := wsX0_fillFirstDivisionValues) B.pre
  have hown : s.vm.findClass RX0 = some m.cls := findClass_of_methodNamed B.named
  have hlocks := B.notSynchronized
  have hin0 : ∀ w ∈ u_ws RX0 TX0 7, w ∈ wsX0_fillFirstDivisionValues := by decide +kernel
  have hf16 := hts (.fieldLink RX0 16 "CurveDesk" "divisionValue" "[I") (by decide +kernel)
  subst hsz
  have hD := hD0.self (sz := s.heap.size)
  generalize hAe : va_A (ww0 h0 q1 q2 q3 c1 c2 c3 p a b n g1 g2 g3) s.heap.size = A at hD ⊢
  have hA : ∀ q : Nat, s.heap.size ≤ q → A q := fun q h => by rw [← hAe]; exact Or.inr h
  have hS : va_S A s.heap s.heap [] := va_S.rf
  have hl := lv_entry ([.ref h0, .int (zI (x))]) (n := 2) (Nat.le_of_ble_eq_true rfl)
  rw [lg_entry_eq]
  generalize (lg_sl ([.ref h0, .int (zI (x))]) ++ List.replicate (2 - (lg_sl ([.ref h0, .int (zI (x))])).length) Slot.unset).toArray = ls at hl ⊢
  have hl : lv_has ls 2 [(0, .ref h0), (1, .int (zI (x)))] := hl
  skip
  refine lv_aload_n hx hb dX0_fillFirstDivisionValues_0 rfl (lv_at hl 0 rfl) ?_
  refine va_get (D := (dC, dI)) (ci := 0) (v := .ref q3) (C := RX0) (T := TX0) (N := 7) hx hb hts hin0 hown hK hP 0 rfl rfl 6 (by decide) hf16 (fun _ h9 => h9) rfl dX0_fillFirstDivisionValues_1 ?_
  refine lv_iconst (v := zI 0) hx hb dX0_fillFirstDivisionValues_4 rfl ?_
  refine lv_iconst (v := zI 0) hx hb dX0_fillFirstDivisionValues_5 rfl ?_
  refine zz_iast (g := g3) hx hb hK hP hD hS 3 2 rfl rfl (by omega) dX0_fillFirstDivisionValues_6 (fun H locs hP hD hS => ?_)
  have hP : va_P (dC, dI) vwCl (ww0 h0 q1 q2 q3 c1 c2 c3 p a b n g1 g2 (zU g3 0 0)) H := hP
  have hD : va_D A (ww0 h0 q1 q2 q3 c1 c2 c3 p a b n g1 g2 (zU g3 0 0)) := hD
  refine lv_aload_n hx hb dX0_fillFirstDivisionValues_7 rfl (lv_at hl 0 rfl) ?_
  refine va_get (D := (dC, dI)) (ci := 0) (v := .ref q3) (C := RX0) (T := TX0) (N := 7) hx hb hts hin0 hown hK hP 0 rfl rfl 6 (by decide) hf16 (fun _ h9 => h9) rfl dX0_fillFirstDivisionValues_8 ?_
  refine lv_iconst (v := zI 1) hx hb dX0_fillFirstDivisionValues_11 rfl ?_
  refine lv_iconst (v := zI 1) hx hb dX0_fillFirstDivisionValues_12 rfl ?_
  refine zz_iast (g := zU g3 0 0) hx hb hK hP hD hS 3 2 rfl rfl (by omega) dX0_fillFirstDivisionValues_13 (fun H locs hP hD hS => ?_)
  have hP : va_P (dC, dI) vwCl (ww0 h0 q1 q2 q3 c1 c2 c3 p a b n g1 g2 (zU (zU g3 0 0) 1 1)) H := hP
  have hD : va_D A (ww0 h0 q1 q2 q3 c1 c2 c3 p a b n g1 g2 (zU (zU g3 0 0) 1 1)) := hD
  refine lv_aload_n hx hb dX0_fillFirstDivisionValues_14 rfl (lv_at hl 0 rfl) ?_
  refine va_get (D := (dC, dI)) (ci := 0) (v := .ref q3) (C := RX0) (T := TX0) (N := 7) hx hb hts hin0 hown hK hP 0 rfl rfl 6 (by decide) hf16 (fun _ h9 => h9) rfl dX0_fillFirstDivisionValues_15 ?_
  refine lv_iconst (v := zI 2) hx hb dX0_fillFirstDivisionValues_18 rfl ?_
  refine lv_iconst (v := zI 1) hx hb dX0_fillFirstDivisionValues_19 rfl ?_
  refine zz_iast (g := zU (zU g3 0 0) 1 1) hx hb hK hP hD hS 3 2 rfl rfl (by omega) dX0_fillFirstDivisionValues_20 (fun H locs hP hD hS => ?_)
  have hP : va_P (dC, dI) vwCl (ww0 h0 q1 q2 q3 c1 c2 c3 p a b n g1 g2 (zU (zU (zU g3 0 0) 1 1) 2 1)) H := hP
  have hD : va_D A (ww0 h0 q1 q2 q3 c1 c2 c3 p a b n g1 g2 (zU (zU (zU g3 0 0) 1 1) 2 1)) := hD
  refine lv_aload_n hx hb dX0_fillFirstDivisionValues_21 rfl (lv_at hl 0 rfl) ?_
  refine va_get (D := (dC, dI)) (ci := 0) (v := .ref q3) (C := RX0) (T := TX0) (N := 7) hx hb hts hin0 hown hK hP 0 rfl rfl 6 (by decide) hf16 (fun _ h9 => h9) rfl dX0_fillFirstDivisionValues_22 ?_
  refine lv_iconst (v := zI 3) hx hb dX0_fillFirstDivisionValues_25 rfl ?_
  refine lv_aload_n hx hb dX0_fillFirstDivisionValues_26 rfl (lv_at hl 0 rfl) ?_
  refine lv_iload_n hx hb dX0_fillFirstDivisionValues_27 rfl (lv_at hl 1 rfl) ?_
  refine zz_callV h0 [.int (zI (x))] [.int (zI (3)), .ref q3] ⟨hx, hb, hml, hown, hts⟩ (kX0_thirdDivisionValue l dC dI h0 q1 q2 q3 c1 c2 c3 p a b n g1 g2 (zU (zU (zU g3 0 0) 1 1) 2 1) x (by omega) (by omega) (by omega) (by omega)) (cwV 1 hts gX0_fillFirstDivisionValues_X0_thirdDivisionValue rfl rfl rfl (by decide +kernel) ⟨Nat.le_of_ble_eq_true rfl, Nat.le_of_ble_eq_true rfl⟩) hK hP 0 rfl rfl rfl hP hS rfl hl.1 rfl (Nat.le_of_ble_eq_true rfl) dX0_fillFirstDivisionValues_28 ⟨Nat.le_of_ble_eq_true rfl, Nat.le_of_ble_eq_true rfl⟩ (fun H locs hP hS => ?_)
  refine zz_iast (g := zU (zU (zU g3 0 0) 1 1) 2 1) hx hb hK hP hD hS 3 2 rfl rfl (by omega) dX0_fillFirstDivisionValues_31 (fun H locs hP hD hS => ?_)
  have hP : va_P (dC, dI) vwCl (ww0 h0 q1 q2 q3 c1 c2 c3 p a b n g1 g2 (zU (zU (zU (zU g3 0 0) 1 1) 2 1) 3 (gs_f3 p a b x))) H := hP
  have hD : va_D A (ww0 h0 q1 q2 q3 c1 c2 c3 p a b n g1 g2 (zU (zU (zU (zU g3 0 0) 1 1) 2 1) 3 (gs_f3 p a b x))) := hD
  refine lv_aload_n hx hb dX0_fillFirstDivisionValues_32 rfl (lv_at hl 0 rfl) ?_
  refine va_get (D := (dC, dI)) (ci := 0) (v := .ref q3) (C := RX0) (T := TX0) (N := 7) hx hb hts hin0 hown hK hP 0 rfl rfl 6 (by decide) hf16 (fun _ h9 => h9) rfl dX0_fillFirstDivisionValues_33 ?_
  refine lv_iconst (v := zI 4) hx hb dX0_fillFirstDivisionValues_36 rfl ?_
  refine lv_aload_n hx hb dX0_fillFirstDivisionValues_37 rfl (lv_at hl 0 rfl) ?_
  refine lv_iload_n hx hb dX0_fillFirstDivisionValues_38 rfl (lv_at hl 1 rfl) ?_
  refine zz_callV h0 [.int (zI (x))] [.int (zI (4)), .ref q3] ⟨hx, hb, hml, hown, hts⟩ (kX0_fourthDivisionValue l dC dI h0 q1 q2 q3 c1 c2 c3 p a b n g1 g2 (zU (zU (zU (zU g3 0 0) 1 1) 2 1) 3 (gs_f3 p a b x)) x (by omega) (by omega) (by omega) (by omega)) (cwV 1 hts gX0_fillFirstDivisionValues_X0_fourthDivisionValue rfl rfl rfl (by decide +kernel) ⟨Nat.le_of_ble_eq_true rfl, Nat.le_of_ble_eq_true rfl⟩) hK hP 0 rfl rfl rfl hP hS rfl hl.1 rfl (Nat.le_of_ble_eq_true rfl) dX0_fillFirstDivisionValues_39 ⟨Nat.le_of_ble_eq_true rfl, Nat.le_of_ble_eq_true rfl⟩ (fun H locs hP hS => ?_)
  refine zz_iast (g := zU (zU (zU (zU g3 0 0) 1 1) 2 1) 3 (gs_f3 p a b x)) hx hb hK hP hD hS 3 2 rfl rfl (by omega) dX0_fillFirstDivisionValues_42 (fun H locs hP hD hS => ?_)
  have hP : va_P (dC, dI) vwCl (ww0 h0 q1 q2 q3 c1 c2 c3 p a b n g1 g2 (zU (zU (zU (zU (zU g3 0 0) 1 1) 2 1) 3 (gs_f3 p a b x)) 4 (gs_f4 p a b x))) H := hP
  have hD : va_D A (ww0 h0 q1 q2 q3 c1 c2 c3 p a b n g1 g2 (zU (zU (zU (zU (zU g3 0 0) 1 1) 2 1) 3 (gs_f3 p a b x)) 4 (gs_f4 p a b x))) := hD
  have hpost : ∀ j, 0 ≤ j → j ≤ 4 → ((zU (zU (zU (zU (zU g3 0 0) 1 1) 2 1) 3 (gs_f3 p a b x)) 4 (gs_f4 p a b x))) j = gs_F p a b x j := by
    intro j h1 h2
    rcases (show j = 0 ∨ j = 1 ∨ j = 2 ∨ j = 3 ∨ j = 4 by omega) with h | h | h | h | h
    · subst h; rw [gs_F0]; rfl
    · subst h; rw [gs_F1]; rfl
    · subst h; rw [gs_F2]; rfl
    · subst h; rw [gs_F3]; rfl
    · subst h; rw [gs_F4]; rfl
  subst hAe
  exact W.vret hx hb hr (fun t ht hW => ⟨⟨(zU (zU (zU (zU (zU g3 0 0) 1 1) 2 1) 3 (gs_f3 p a b x)) 4 (gs_f4 p a b x)), rfl, hpost, by rw [ht]; exact hP, hD⟩, hS.F ht⟩) hS.2.2 dX0_fillFirstDivisionValues_43

set_option maxHeartbeats 4000000 in
set_option maxRecDepth 100000 in
theorem kX0_division (l : Launch) (dC : Nat → ClassId) (dI : Nat → Nat → Nat) (h0 q1 q2 q3 : Nat) (c1 c2 c3 : ClassId) (p a b n : Int) (g1 g2 g3 : Int → Int) (sz : Nat) (k : Int) (x : Int) (hcv : gs_cv p a b) (hrk : -2147483648 ≤ k ∧ k < 2147483648) (hrx : -2147483648 ≤ x ∧ x < 2147483648) : Met l yX0_division wsX0_division ({ frames := 4, cells := 0, slots := 0, locals := 89 }) (zPw (dC, dI) (ww0 h0 q1 q2 q3 c1 c2 c3 p a b n g1 g2 g3) (tt0 c1 c2 c3) sz [.ref h0, .int (zI (k)), .int (zI (x))]) (zQwi (dC, dI) (ww0 h0 q1 q2 q3 c1 c2 c3 p a b n g1 g2 g3) sz (fun g : Int → Int => ww0 h0 q1 q2 q3 c1 c2 c3 p a b n g1 g2 g) (fun (r : Int32) (_ : Int → Int) => r = zI (gs_aDiv p a b k x))) 0 0 (va_A (ww0 h0 q1 q2 q3 c1 c2 c3 p a b n g1 g2 g3) sz) := by
  obtain ⟨hp1, hp2, hpp, ha, hbb, hdd⟩ := id hcv
  have hp : 5 ≤ p ∧ p ≤ 4093 := ⟨hp1, hp2⟩
  refine Met.ofW (cc := cX0_division) (maxL := 6) (ret := (some .int)) (by decide) rfl ?_
  intro pp e s m args below meth c s₁ B hml hv
  obtain ⟨rfl, hsz, hP, hK, hD0⟩ := hv
  have hx := B.exec
  have hb := B.bytes
  have hr := B.returns
  have hts := atoms_spec (ws := wsX0_division) B.pre
  have hown : s.vm.findClass RX0 = some m.cls := findClass_of_methodNamed B.named
  have hlocks := B.notSynchronized
  have hin0 : ∀ w ∈ u_ws RX0 TX0 7, w ∈ wsX0_division := by decide +kernel
  have hf16 := hts (.fieldLink RX0 16 "CurveDesk" "divisionValue" "[I") (by decide +kernel)
  subst hsz
  have hD := hD0.self (sz := s.heap.size)
  generalize hAe : va_A (ww0 h0 q1 q2 q3 c1 c2 c3 p a b n g1 g2 g3) s.heap.size = A at hD ⊢
  have hA : ∀ q : Nat, s.heap.size ≤ q → A q := fun q h => by rw [← hAe]; exact Or.inr h
  have hS : va_S A s.heap s.heap [] := va_S.rf
  have hl := lv_entry ([.ref h0, .int (zI (k)), .int (zI (x))]) (n := 6) (Nat.le_of_ble_eq_true rfl)
  rw [lg_entry_eq]
  generalize (lg_sl ([.ref h0, .int (zI (k)), .int (zI (x))]) ++ List.replicate (6 - (lg_sl ([.ref h0, .int (zI (k)), .int (zI (x))])).length) Slot.unset).toArray = ls at hl ⊢
  have hl : lv_has ls 6 [(0, .ref h0), (1, .int (zI (k))), (2, .int (zI (x)))] := hl
  skip
  refine lv_iload_n hx hb dX0_division_0 rfl (lv_at hl 1 rfl) ?_
  refine zz_if_lt (tgt := 18) hx hb dX0_division_1 (by decide) (by omega) (fun hc_1 => ?_) (fun hc_1 => ?_)
  · refine lv_iconst (v := zI (-1)) hx hb dX0_division_18 rfl ?_
    have hpost : zI ((-1)) = zI (gs_aDiv p a b k x) := by
      unfold gs_aDiv
      rw [if_neg (by omega)]
    subst hAe
    exact W.iret (v := zI ((-1))) hx hb hr (fun t ht hW => ⟨⟨_, (g3), rfl, hpost, by rw [ht]; exact hP, hD⟩, hS.F ht⟩) hS.2.2 dX0_division_19
  · refine lv_iload_n hx hb dX0_division_4 rfl (lv_at hl 1 rfl) ?_
    refine lv_bipush (v := zI 40) hx hb dX0_division_5 (by decide +kernel) ?_
    refine zz_icmp_gt (tgt := 18) hx hb dX0_division_7 (by decide) (by omega) ⟨by decide, by decide⟩ (fun hc_2 => ?_) (fun hc_2 => ?_)
    · refine lv_iconst (v := zI (-1)) hx hb dX0_division_18 rfl ?_
      have hpost : zI ((-1)) = zI (gs_aDiv p a b k x) := by
        unfold gs_aDiv
        rw [if_neg (by omega)]
      subst hAe
      exact W.iret (v := zI ((-1))) hx hb hr (fun t ht hW => ⟨⟨_, (g3), rfl, hpost, by rw [ht]; exact hP, hD⟩, hS.F ht⟩) hS.2.2 dX0_division_19
    · refine lv_aload_n hx hb dX0_division_10 rfl (lv_at hl 0 rfl) ?_
      refine lv_iload_n hx hb dX0_division_11 rfl (lv_at hl 2 rfl) ?_
      refine zz_callV h0 [.int (zI (x))] [] ⟨hx, hb, hml, hown, hts⟩ (kX0_isNumber l dC dI h0 q1 q2 q3 c1 c2 c3 p a b n g1 g2 g3 x (by omega) (by omega)) (cwV 1 hts gX0_division_X0_isNumber rfl rfl rfl (by decide +kernel) ⟨Nat.le_of_ble_eq_true rfl, Nat.le_of_ble_eq_true rfl⟩) hK hP 0 rfl rfl rfl hP hS rfl hl.1 rfl (Nat.le_of_ble_eq_true rfl) dX0_division_12 ⟨Nat.le_of_ble_eq_true rfl, Nat.le_of_ble_eq_true rfl⟩ (fun H locs hP hS => ?_)
      refine zz_if_ne (tgt := 20) hx hb dX0_division_15 (by decide) (by have hzb := zB_r (0 ≤ x ∧ x < p); omega) (fun hc_3 => ?_) (fun hc_3 => ?_)
      · have hc_3 := zB_1.mp hc_3
        refine lv_aload_n hx hb dX0_division_20 rfl (lv_at hl 0 rfl) ?_
        refine lv_iload_n hx hb dX0_division_21 rfl (lv_at hl 2 rfl) ?_
        refine zz_callWv (wr := []) h0 [.int (zI (x))] [] [0, 1, 2, 3] [] ⟨hx, hb, hml, hown, hts⟩ (kX0_fillFirstDivisionValues l dC dI h0 q1 q2 q3 c1 c2 c3 p a b n g1 g2 g3 H.size x (by omega) (by omega) (by omega) (by omega)) (cwV 1 hts gX0_division_X0_fillFirstDivisionValues rfl rfl rfl (by decide +kernel) ⟨Nat.le_of_ble_eq_true rfl, Nat.le_of_ble_eq_true rfl⟩) hK 0 rfl rfl rfl hP hD hS hA rfl rfl (by decide) rfl (by decide) (by decide) rfl hl.1 rfl (Nat.le_of_ble_eq_true rfl) dX0_division_22 ⟨Nat.le_of_ble_eq_true rfl, Nat.le_of_ble_eq_true rfl⟩ (fun u_4 H locs hw_5 hP hD hS => ?_)
        have hP : va_P (dC, dI) vwCl (ww0 h0 q1 q2 q3 c1 c2 c3 p a b n g1 g2 u_4) H := hP
        have hD : va_D A (ww0 h0 q1 q2 q3 c1 c2 c3 p a b n g1 g2 u_4) := hD
        have h1 := zz_md (v := gs_rhs a b x) (p := p) (by omega)
        refine lv_aload_n hx hb dX0_division_25 rfl (lv_at hl 0 rfl) ?_
        refine lv_iconst (v := zI 4) hx hb dX0_division_26 rfl ?_
        refine lv_aload_n hx hb dX0_division_27 rfl (lv_at hl 0 rfl) ?_
        refine lv_iload_n hx hb dX0_division_28 rfl (lv_at hl 2 rfl) ?_
        refine zz_callV h0 [.int (zI (x))] [.int (zI (4)), .ref h0] ⟨hx, hb, hml, hown, hts⟩ (kX0_rightSide l dC dI h0 q1 q2 q3 c1 c2 c3 p a b n g1 g2 u_4 x (by omega) (by omega) (by omega) (by omega)) (cwV 1 hts gX0_division_X0_rightSide rfl rfl rfl (by decide +kernel) ⟨Nat.le_of_ble_eq_true rfl, Nat.le_of_ble_eq_true rfl⟩) hK hP 0 rfl rfl rfl hP hS rfl hl.1 rfl (Nat.le_of_ble_eq_true rfl) dX0_division_29 ⟨Nat.le_of_ble_eq_true rfl, Nat.le_of_ble_eq_true rfl⟩ (fun H locs hP hS => ?_)
        refine zz_imul hx hb dX0_division_32 ?_
        refine zz_callV h0 [.int (zI (4 * (gs_rhs a b x % p)))] [] ⟨hx, hb, hml, hown, hts⟩ (kX0_modulo l dC dI h0 q1 q2 q3 c1 c2 c3 p a b n g1 g2 u_4 (4 * (gs_rhs a b x % p)) (by omega) (by omega)) (cwV 1 hts gX0_division_X0_modulo rfl rfl rfl (by decide +kernel) ⟨Nat.le_of_ble_eq_true rfl, Nat.le_of_ble_eq_true rfl⟩) hK hP 0 rfl rfl rfl hP hS rfl hl.1 rfl (Nat.le_of_ble_eq_true rfl) dX0_division_33 ⟨Nat.le_of_ble_eq_true rfl, Nat.le_of_ble_eq_true rfl⟩ (fun H locs hP hS => ?_)
        refine zz_topi (fun qa eqa => ?_)
        refine lv_istore_n (lv' := [(3, .int (zI (qa))), (0, .ref h0), (1, .int (zI (k))), (2, .int (zI (x)))]) hx hb dX0_division_36 rfl hl (by decide) rfl (fun ls hl => ?_)
        have h2 : 0 ≤ qa ∧ qa < p := by rw [eqa]; exact zz_md (by omega)
        have h3 := zz_pr (x := qa) (y := qa) (by omega) (by omega)
        refine lv_aload_n hx hb dX0_division_37 rfl (lv_at hl 1 rfl) ?_
        refine lv_iload_n hx hb dX0_division_38 rfl (lv_at hl 0 rfl) ?_
        refine lv_iload_n hx hb dX0_division_39 rfl (lv_at hl 0 rfl) ?_
        refine zz_imul hx hb dX0_division_40 ?_
        refine zz_callV h0 [.int (zI (qa * qa))] [] ⟨hx, hb, hml, hown, hts⟩ (kX0_modulo l dC dI h0 q1 q2 q3 c1 c2 c3 p a b n g1 g2 u_4 (qa * qa) (by omega) (by omega)) (cwV 1 hts gX0_division_X0_modulo rfl rfl rfl (by decide +kernel) ⟨Nat.le_of_ble_eq_true rfl, Nat.le_of_ble_eq_true rfl⟩) hK hP 0 rfl rfl rfl hP hS rfl hl.1 rfl (Nat.le_of_ble_eq_true rfl) dX0_division_41 ⟨Nat.le_of_ble_eq_true rfl, Nat.le_of_ble_eq_true rfl⟩ (fun H locs hP hS => ?_)
        refine zz_topi (fun qb eqb => ?_)
        refine lv_istore (lv' := [(4, .int (zI (qb))), (3, .int (zI (qa))), (0, .ref h0), (1, .int (zI (k))), (2, .int (zI (x)))]) hx hb dX0_division_44 hl (by decide) rfl (fun ls hl => ?_)
        have h4 : 0 ≤ qb ∧ qb < p := by rw [eqb]; exact zz_md (by omega)
        have h5 : qb = gs_qq p a b x := by rw [eqb, eqa]; rfl
        refine lv_iconst (v := zI 5) hx hb dX0_division_46 rfl ?_
        refine lv_istore (lv' := [(5, .int (zI (5))), (4, .int (zI (qb))), (3, .int (zI (qa))), (0, .ref h0), (1, .int (zI (k))), (2, .int (zI (x)))]) hx hb dX0_division_47 hl (by decide) rfl (fun ls hl => ?_)
        have hi_49 : 5 ≤ (5 : Int) ∧ (5 : Int) ≤ 41 ∧ ∀ j, 0 ≤ j → j < (5 : Int) → u_4 j = gs_F p a b x j := by
          exact ⟨by omega, by omega, fun j h1 h2 => hw_5 j h1 (by omega)⟩
        refine zz_loopW (σ := Int × (Int → Int)) (fun zs => 5 ≤ zs.1 ∧ zs.1 ≤ 41 ∧ ∀ j, 0 ≤ j → j < zs.1 → zs.2 j = gs_F p a b x j) (fun zs => (41 - zs.1).toNat) (fun zs => [(5, .int (zI (zs.1))), (4, .int (zI (qb))), (3, .int (zI (qa))), (0, .ref h0), (1, .int (zI (k))), (2, .int (zI (x)))]) (fun zs => (ww0 h0 q1 q2 q3 c1 c2 c3 p a b n g1 g2 zs.2)) ?_ (5, u_4) hi_49 _ _ _ hP hD hS (lv_sub hl [0, 1, 2, 3, 4, 5] rfl)
        intro zs hI_49 ih_49 H locs ls hP hD hS hl
        clear hi_49
        obtain ⟨ic, gc⟩ := zs
        have hI_49 : 5 ≤ ic ∧ ic ≤ 41 ∧ ∀ j, 0 ≤ j → j < ic → gc j = gs_F p a b x j := hI_49
        have hl : lv_has ls 6 [(5, .int (zI (ic))), (4, .int (zI (qb))), (3, .int (zI (qa))), (0, .ref h0), (1, .int (zI (k))), (2, .int (zI (x)))] := hl
        have hP : va_P (dC, dI) vwCl (ww0 h0 q1 q2 q3 c1 c2 c3 p a b n g1 g2 gc) H := hP
        have hD : va_D A (ww0 h0 q1 q2 q3 c1 c2 c3 p a b n g1 g2 gc) := hD
        obtain ⟨i1, i2, i3⟩ := hI_49
        refine lv_iload hx hb dX0_division_49 (lv_at hl 0 rfl) ?_
        refine lv_iload_n hx hb dX0_division_51 rfl (lv_at hl 4 rfl) ?_
        refine zz_icmp_gt (tgt := 96) hx hb dX0_division_52 (by decide) (by omega) (by omega) (fun hc_7 => ?_) (fun hc_7 => ?_)
        · refine lv_aload_n hx hb dX0_division_96 rfl (lv_at hl 3 rfl) ?_
          refine va_get (D := (dC, dI)) (ci := 0) (v := .ref q3) (C := RX0) (T := TX0) (N := 7) hx hb hts hin0 hown hK hP 0 rfl rfl 6 (by decide) hf16 (fun _ h9 => h9) rfl dX0_division_97 ?_
          refine lv_iload_n hx hb dX0_division_100 rfl (lv_at hl 4 rfl) ?_
          refine zz_iald (g := gc) hx hb hK hP 3 2 rfl rfl (by omega) dX0_division_101 ?_
          have hpost : zI (gc k) = zI (gs_aDiv p a b k x) := by
            unfold gs_aDiv
            rw [if_pos (by omega), i3 k (by omega) (by omega)]
          subst hAe
          exact W.iret (v := zI (gc k)) hx hb hr (fun t ht hW => ⟨⟨_, (gc), rfl, hpost, by rw [ht]; exact hP, hD⟩, hS.F ht⟩) hS.2.2 dX0_division_102
        · refine lv_aload_n hx hb dX0_division_55 rfl (lv_at hl 3 rfl) ?_
          refine va_get (D := (dC, dI)) (ci := 0) (v := .ref q3) (C := RX0) (T := TX0) (N := 7) hx hb hts hin0 hown hK hP 0 rfl rfl 6 (by decide) hf16 (fun _ h9 => h9) rfl dX0_division_56 ?_
          refine lv_iload hx hb dX0_division_59 (lv_at hl 0 rfl) ?_
          refine lv_iload hx hb dX0_division_61 (lv_at hl 0 rfl) ?_
          refine lv_iconst (v := zI 2) hx hb dX0_division_63 rfl ?_
          refine zz_irem hx hb dX0_division_64 (by omega) ?_
          refine zz_if_ne (tgt := 79) hx hb dX0_division_65 (by decide) (by omega) (fun hc_8 => ?_) (fun hc_8 => ?_)
          · have hge : ∀ i, 0 ≤ i → i ≤ ic / 2 + 2 → 0 ≤ gc i ∧ gc i < p := fun i q1 q2 => by rw [i3 i q1 (by omega)]; exact gs_FR (by omega) q1
            refine lv_aload_n hx hb dX0_division_79 rfl (lv_at hl 3 rfl) ?_
            refine lv_iload hx hb dX0_division_80 (lv_at hl 0 rfl) ?_
            refine lv_iconst (v := zI 2) hx hb dX0_division_82 rfl ?_
            refine zz_idiv hx hb dX0_division_83 (by omega) ?_
            refine lv_iload hx hb dX0_division_84 (lv_at hl 1 rfl) ?_
            refine zz_callV h0 [.int (zI (ic / 2)), .int (zI (qb))] [.int (zI (ic)), .ref q3] ⟨hx, hb, hml, hown, hts⟩ (kX0_oddDivisionValue l dC dI h0 q1 q2 q3 c1 c2 c3 p a b n g1 g2 gc (ic / 2) qb hp (by omega) h4 hge) (cwV 2 hts gX0_division_X0_oddDivisionValue rfl rfl rfl (by decide +kernel) ⟨Nat.le_of_ble_eq_true rfl, Nat.le_of_ble_eq_true rfl⟩) hK hP 0 rfl rfl rfl hP hS rfl hl.1 rfl (Nat.le_of_ble_eq_true rfl) dX0_division_86 ⟨Nat.le_of_ble_eq_true rfl, Nat.le_of_ble_eq_true rfl⟩ (fun H locs hP hS => ?_)
            refine zz_iast (g := gc) hx hb hK hP hD hS 3 2 rfl rfl (by omega) dX0_division_89 (fun H locs hP hD hS => ?_)
            have hP : va_P (dC, dI) vwCl (ww0 h0 q1 q2 q3 c1 c2 c3 p a b n g1 g2 (zU gc ic (gs_od p qb gc (ic / 2)))) H := hP
            have hD : va_D A (ww0 h0 q1 q2 q3 c1 c2 c3 p a b n g1 g2 (zU gc ic (gs_od p qb gc (ic / 2)))) := hD
            obtain ⟨id2, eid2⟩ : ∃ y : Int, y = ic + 1 := ⟨_, rfl⟩
            refine zz_iinc (v := id2) (lv' := [(5, .int (zI (id2))), (4, .int (zI (qb))), (3, .int (zI (qa))), (0, .ref h0), (1, .int (zI (k))), (2, .int (zI (x)))]) hx hb dX0_division_90 hl (k := 0) rfl eid2 (by decide) rfl (fun ls hl => ?_)
            refine lv_goto (tgt := 49) hx hb dX0_division_93 (by decide) ?_
            have hn_49 : 5 ≤ id2 ∧ id2 ≤ 41 ∧ ∀ j, 0 ≤ j → j < id2 → (zU gc ic (gs_od p qb gc (ic / 2))) j = gs_F p a b x j := by
              refine ⟨by omega, by omega, fun j q1 q2 => ?_⟩
              by_cases hj : j = ic
              · subst hj
                rw [zU_eq, gs_FS p a b x i1]
                unfold gs_stp
                rw [if_neg (by omega), h5]
                exact gs_odC (fun i q3 q4 => i3 i (by omega) (by omega))
              · rw [zU_ne _ _ _ hj]
                exact i3 j q1 (by omega)
            have hm_49 : (41 - id2).toNat < (41 - ic).toNat := by
              omega
            exact ih_49 (id2, zU gc ic (gs_od p qb gc (ic / 2))) hn_49 hm_49 _ _ _ hP hD hS (lv_sub hl [0, 1, 2, 3, 4, 5] rfl)
          · have hge : ∀ i, 0 ≤ i → i ≤ ic / 2 + 2 → 0 ≤ gc i ∧ gc i < p := fun i q1 q2 => by rw [i3 i q1 (by omega)]; exact gs_FR (by omega) q1
            refine lv_aload_n hx hb dX0_division_68 rfl (lv_at hl 3 rfl) ?_
            refine lv_iload hx hb dX0_division_69 (lv_at hl 0 rfl) ?_
            refine lv_iconst (v := zI 2) hx hb dX0_division_71 rfl ?_
            refine zz_idiv hx hb dX0_division_72 (by omega) ?_
            refine zz_callV h0 [.int (zI (ic / 2))] [.int (zI (ic)), .ref q3] ⟨hx, hb, hml, hown, hts⟩ (kX0_evenDivisionValue l dC dI h0 q1 q2 q3 c1 c2 c3 p a b n g1 g2 gc (ic / 2) hp (by omega) hge) (cwV 1 hts gX0_division_X0_evenDivisionValue rfl rfl rfl (by decide +kernel) ⟨Nat.le_of_ble_eq_true rfl, Nat.le_of_ble_eq_true rfl⟩) hK hP 0 rfl rfl rfl hP hS rfl hl.1 rfl (Nat.le_of_ble_eq_true rfl) dX0_division_73 ⟨Nat.le_of_ble_eq_true rfl, Nat.le_of_ble_eq_true rfl⟩ (fun H locs hP hS => ?_)
            refine lv_goto (tgt := 89) hx hb dX0_division_76 (by decide) ?_
            refine zz_iast (g := gc) hx hb hK hP hD hS 3 2 rfl rfl (by omega) dX0_division_89 (fun H locs hP hD hS => ?_)
            have hP : va_P (dC, dI) vwCl (ww0 h0 q1 q2 q3 c1 c2 c3 p a b n g1 g2 (zU gc ic (gs_ev p gc (ic / 2)))) H := hP
            have hD : va_D A (ww0 h0 q1 q2 q3 c1 c2 c3 p a b n g1 g2 (zU gc ic (gs_ev p gc (ic / 2)))) := hD
            obtain ⟨id2, eid2⟩ : ∃ y : Int, y = ic + 1 := ⟨_, rfl⟩
            refine zz_iinc (v := id2) (lv' := [(5, .int (zI (id2))), (4, .int (zI (qb))), (3, .int (zI (qa))), (0, .ref h0), (1, .int (zI (k))), (2, .int (zI (x)))]) hx hb dX0_division_90 hl (k := 0) rfl eid2 (by decide) rfl (fun ls hl => ?_)
            refine lv_goto (tgt := 49) hx hb dX0_division_93 (by decide) ?_
            have hn_49 : 5 ≤ id2 ∧ id2 ≤ 41 ∧ ∀ j, 0 ≤ j → j < id2 → (zU gc ic (gs_ev p gc (ic / 2))) j = gs_F p a b x j := by
              refine ⟨by omega, by omega, fun j q1 q2 => ?_⟩
              by_cases hj : j = ic
              · subst hj
                rw [zU_eq, gs_FS p a b x i1]
                unfold gs_stp
                rw [if_pos (by omega)]
                exact gs_evC (fun i q3 q4 => i3 i (by omega) (by omega))
              · rw [zU_ne _ _ _ hj]
                exact i3 j q1 (by omega)
            have hm_49 : (41 - id2).toNat < (41 - ic).toNat := by
              omega
            exact ih_49 (id2, zU gc ic (gs_ev p gc (ic / 2))) hn_49 hm_49 _ _ _ hP hD hS (lv_sub hl [0, 1, 2, 3, 4, 5] rfl)
      · have hc_3 := zB_0.mp hc_3
        refine lv_iconst (v := zI (-1)) hx hb dX0_division_18 rfl ?_
        have hpost : zI ((-1)) = zI (gs_aDiv p a b k x) := by
          unfold gs_aDiv
          rw [if_neg (by omega)]
        subst hAe
        exact W.iret (v := zI ((-1))) hx hb hr (fun t ht hW => ⟨⟨_, (g3), rfl, hpost, by rw [ht]; exact hP, hD⟩, hS.F ht⟩) hS.2.2 dX0_division_19
