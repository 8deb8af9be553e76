set_option maxHeartbeats 4000000 in
set_option maxRecDepth 100000 in
theorem kX1_mod (l : Launch) (dC : Nat → ClassId) (dI : Nat → Nat → Nat) (k0 r1 r2 : Nat) (d1 d2 : ClassId) (p a b : Int) (s1 s2 : Int → Int) (v : Int) (hp : 5 ≤ p ∧ p ≤ 4093) (hrv : -2147483648 ≤ v ∧ v < 2147483648) : Met l yX1_mod wsX1_mod ({ frames := 0, cells := 0, slots := 0, locals := 0 }) (zPc (dC, dI) (ww1 k0 r1 r2 d1 d2 p a b s1 s2) (tt1 d1 d2) [.ref k0, .int (zI (v))]) (zQi (zI (v % p))) 0 0 zNo := by
  refine Met.ofW (cc := cX1_mod) (maxL := 3) (ret := (some .int)) (by decide) rfl ?_
  intro pp e s m args below meth c s₁ B hml hv
  obtain ⟨rfl, hP, hK⟩ := hv
  have hx := B.exec
  have hb := B.bytes
  have hr := B.returns
  have hts := atoms_spec (ws := wsX1_mod) B.pre
  have hown : s.vm.findClass RX1 = some m.cls := findClass_of_methodNamed B.named
  have hlocks := B.notSynchronized
  have hin0 : ∀ w ∈ u_ws RX1 TX1 5, w ∈ wsX1_mod := by decide +kernel
  have hf7 := hts (.fieldLink RX1 7 "CurveDeskModel" "p" "I") (by decide +kernel)
  have hS : va_S (fun _ => False) s.heap s.heap [] := va_S.rf
  have hl := lv_entry ([.ref k0, .int (zI (v))]) (n := 3) (Nat.le_of_ble_eq_true rfl)
  rw [lg_entry_eq]
  generalize (lg_sl ([.ref k0, .int (zI (v))]) ++ List.replicate (3 - (lg_sl ([.ref k0, .int (zI (v))])).length) Slot.unset).toArray = ls at hl ⊢
  have hl : lv_has ls 3 [(0, .ref k0), (1, .int (zI (v)))] := hl
  skip
  refine lv_iload_n hx hb dX1_mod_0 rfl (lv_at hl 1 rfl) ?_
  refine lv_aload_n hx hb dX1_mod_1 rfl (lv_at hl 0 rfl) ?_
  refine va_get (D := (dC, dI)) (ci := 1) (v := .int (zI (p))) (C := RX1) (T := TX1) (N := 5) hx hb hts hin0 hown hK hP 0 rfl rfl 0 (by decide) hf7 (fun _ h9 => h9) rfl dX1_mod_2 ?_
  refine zz_iremT hx hb dX1_mod_5 (by omega) ?_
  refine zz_topi (fun md emd => ?_)
  refine lv_istore_n (lv' := [(2, .int (zI (md))), (0, .ref k0), (1, .int (zI (v)))]) hx hb dX1_mod_6 rfl hl (by decide) rfl (fun ls hl => ?_)
  have hmm := Int.tmod_lt_of_pos v (show 0 < p by omega)
  have hmn := Int.lt_tmod_of_pos v (show 0 < p by omega)
  rw [← emd] at hmm hmn
  refine lv_iload_n hx hb dX1_mod_7 rfl (lv_at hl 0 rfl) ?_
  refine zz_if_ge (tgt := 20) hx hb dX1_mod_8 (by decide) (by omega) (fun hc_1 => ?_) (fun hc_1 => ?_)
  · refine lv_iload_n hx hb dX1_mod_20 rfl (lv_at hl 0 rfl) ?_
    have hpost : (md : Int) = v % p := by
      rw [emd]
      exact zz_fmP (by omega) (by rw [← emd]; omega)
    exact W.iret (v := zI (md)) hx hb hr (fun t ht hW => ⟨⟨_, (), rfl, congrArg zI hpost, trivial⟩, hS.F ht⟩) hS.2.2 dX1_mod_21
  · refine lv_iload_n hx hb dX1_mod_11 rfl (lv_at hl 0 rfl) ?_
    refine lv_aload_n hx hb dX1_mod_12 rfl (lv_at hl 1 rfl) ?_
    refine va_get (D := (dC, dI)) (ci := 1) (v := .int (zI (p))) (C := RX1) (T := TX1) (N := 5) hx hb hts hin0 hown hK hP 0 rfl rfl 0 (by decide) hf7 (fun _ h9 => h9) rfl dX1_mod_13 ?_
    refine zz_iadd hx hb dX1_mod_16 ?_
    refine lv_goto (tgt := 21) hx hb dX1_mod_17 (by decide) ?_
    have hpost : (md + p : Int) = v % p := by
      rw [emd]
      exact zz_fmN (by omega) (by rw [← emd]; omega)
    exact W.iret (v := zI (md + p)) hx hb hr (fun t ht hW => ⟨⟨_, (), rfl, congrArg zI hpost, trivial⟩, hS.F ht⟩) hS.2.2 dX1_mod_21

set_option maxHeartbeats 4000000 in
set_option maxRecDepth 100000 in
theorem kX1_right (l : Launch) (dC : Nat → ClassId) (dI : Nat → Nat → Nat) (k0 r1 r2 : Nat) (d1 d2 : ClassId) (p a b : Int) (s1 s2 : Int → Int) (x : Int) (hp : 5 ≤ p ∧ p ≤ 4093) (ha : 0 ≤ a ∧ a < p) (hbb : 0 ≤ b ∧ b < p) (hx0 : 0 ≤ x ∧ x < p) : Met l yX1_right wsX1_right ({ frames := 1, cells := 0, slots := 0, locals := 22 }) (zPc (dC, dI) (ww1 k0 r1 r2 d1 d2 p a b s1 s2) (tt1 d1 d2) [.ref k0, .int (zI (x))]) (zQi (zI (gs_rhs a b x % p))) 0 0 zNo := by
  refine Met.ofW (cc := cX1_right) (maxL := 2) (ret := (some .int)) (by decide) rfl ?_
  intro pp e s m args below meth c s₁ B hml hv
  obtain ⟨rfl, hP, hK⟩ := hv
  have hx := B.exec
  have hb := B.bytes
  have hr := B.returns
  have hts := atoms_spec (ws := wsX1_right) B.pre
  have hown : s.vm.findClass RX1 = some m.cls := findClass_of_methodNamed B.named
  have hlocks := B.notSynchronized
  have hin0 : ∀ w ∈ u_ws RX1 TX1 5, w ∈ wsX1_right := by decide +kernel
  have hf13 := hts (.fieldLink RX1 13 "CurveDeskModel" "a" "I") (by decide +kernel)
  have hf16 := hts (.fieldLink RX1 16 "CurveDeskModel" "b" "I") (by decide +kernel)
  have hS : va_S (fun _ => False) s.heap s.heap [] := va_S.rf
  have hl := lv_entry ([.ref k0, .int (zI (x))]) (n := 2) (Nat.le_of_ble_eq_true rfl)
  rw [lg_entry_eq]
  generalize (lg_sl ([.ref k0, .int (zI (x))]) ++ List.replicate (2 - (lg_sl ([.ref k0, .int (zI (x))])).length) Slot.unset).toArray = ls at hl ⊢
  have hl : lv_has ls 2 [(0, .ref k0), (1, .int (zI (x)))] := hl
  skip
  have h1 := zz_pr (x := x) (y := x) (by omega) (by omega)
  have h2 := zz_md (v := x * x) (p := p) (by omega)
  have h3 := zz_pr (x := x * x % p) (y := x) (by omega) (by omega)
  have h4 := zz_md (v := x * x % p * x) (p := p) (by omega)
  have h5 := zz_pr (x := a) (y := x) (by omega) (by omega)
  have h6 := zz_md (v := a * x) (p := p) (by omega)
  refine lv_aload_n hx hb dX1_right_0 rfl (lv_at hl 0 rfl) ?_
  refine lv_aload_n hx hb dX1_right_1 rfl (lv_at hl 0 rfl) ?_
  refine lv_aload_n hx hb dX1_right_2 rfl (lv_at hl 0 rfl) ?_
  refine lv_iload_n hx hb dX1_right_3 rfl (lv_at hl 1 rfl) ?_
  refine lv_iload_n hx hb dX1_right_4 rfl (lv_at hl 1 rfl) ?_
  refine zz_imul hx hb dX1_right_5 ?_
  refine zz_callV k0 [.int (zI (x * x))] [.ref k0, .ref k0] ⟨hx, hb, hml, hown, hts⟩ (kX1_mod l dC dI k0 r1 r2 d1 d2 p a b s1 s2 (x * x) (by omega) (by omega)) (cwV 1 hts gX1_right_X1_mod rfl rfl rfl (by decide +kernel) ⟨Nat.le_of_ble_eq_true rfl, Nat.le_of_ble_eq_true rfl⟩) hK hP 0 rfl rfl rfl hP hS rfl hl.1 rfl (Nat.le_of_ble_eq_true rfl) dX1_right_6 ⟨Nat.le_of_ble_eq_true rfl, Nat.le_of_ble_eq_true rfl⟩ (fun H locs hP hS => ?_)
  refine lv_iload_n hx hb dX1_right_9 rfl (lv_at hl 1 rfl) ?_
  refine zz_imul hx hb dX1_right_10 ?_
  refine zz_callV k0 [.int (zI (((x * x) % p) * x))] [.ref k0] ⟨hx, hb, hml, hown, hts⟩ (kX1_mod l dC dI k0 r1 r2 d1 d2 p a b s1 s2 (((x * x) % p) * x) (by omega) (by omega)) (cwV 1 hts gX1_right_X1_mod rfl rfl rfl (by decide +kernel) ⟨Nat.le_of_ble_eq_true rfl, Nat.le_of_ble_eq_true rfl⟩) hK hP 0 rfl rfl rfl hP hS rfl hl.1 rfl (Nat.le_of_ble_eq_true rfl) dX1_right_11 ⟨Nat.le_of_ble_eq_true rfl, Nat.le_of_ble_eq_true rfl⟩ (fun H locs hP hS => ?_)
  refine lv_aload_n hx hb dX1_right_14 rfl (lv_at hl 0 rfl) ?_
  refine lv_aload_n hx hb dX1_right_15 rfl (lv_at hl 0 rfl) ?_
  refine va_get (D := (dC, dI)) (ci := 1) (v := .int (zI (a))) (C := RX1) (T := TX1) (N := 5) hx hb hts hin0 hown hK hP 0 rfl rfl 1 (by decide) hf13 (fun _ h9 => h9) rfl dX1_right_16 ?_
  refine lv_iload_n hx hb dX1_right_19 rfl (lv_at hl 1 rfl) ?_
  refine zz_imul hx hb dX1_right_20 ?_
  refine zz_callV k0 [.int (zI (a * x))] [.int (zI ((((x * x) % p) * x) % p)), .ref k0] ⟨hx, hb, hml, hown, hts⟩ (kX1_mod l dC dI k0 r1 r2 d1 d2 p a b s1 s2 (a * x) (by omega) (by omega)) (cwV 1 hts gX1_right_X1_mod rfl rfl rfl (by decide +kernel) ⟨Nat.le_of_ble_eq_true rfl, Nat.le_of_ble_eq_true rfl⟩) hK hP 0 rfl rfl rfl hP hS rfl hl.1 rfl (Nat.le_of_ble_eq_true rfl) dX1_right_21 ⟨Nat.le_of_ble_eq_true rfl, Nat.le_of_ble_eq_true rfl⟩ (fun H locs hP hS => ?_)
  refine zz_iadd hx hb dX1_right_24 ?_
  refine lv_aload_n hx hb dX1_right_25 rfl (lv_at hl 0 rfl) ?_
  refine va_get (D := (dC, dI)) (ci := 1) (v := .int (zI (b))) (C := RX1) (T := TX1) (N := 5) hx hb hts hin0 hown hK hP 0 rfl rfl 2 (by decide) hf16 (fun _ h9 => h9) rfl dX1_right_26 ?_
  refine zz_iadd hx hb dX1_right_29 ?_
  refine zz_callV k0 [.int (zI ((((((x * x) % p) * x) % p) + ((a * x) % p)) + b))] [] ⟨hx, hb, hml, hown, hts⟩ (kX1_mod l dC dI k0 r1 r2 d1 d2 p a b s1 s2 ((((((x * x) % p) * x) % p) + ((a * x) % p)) + b) (by omega) (by omega)) (cwV 1 hts gX1_right_X1_mod rfl rfl rfl (by decide +kernel) ⟨Nat.le_of_ble_eq_true rfl, Nat.le_of_ble_eq_true rfl⟩) hK hP 0 rfl rfl rfl hP hS rfl hl.1 rfl (Nat.le_of_ble_eq_true rfl) dX1_right_30 ⟨Nat.le_of_ble_eq_true rfl, Nat.le_of_ble_eq_true rfl⟩ (fun H locs hP hS => ?_)
  have hpost : (((((((x * x) % p) * x) % p) + ((a * x) % p)) + b) % p : Int) = gs_rhs a b x % p := by
    exact gs_rs1 p a b x
  exact W.iret (v := zI (((((((x * x) % p) * x) % p) + ((a * x) % p)) + b) % p)) hx hb hr (fun t ht hW => ⟨⟨_, (), rfl, congrArg zI hpost, trivial⟩, hS.F ht⟩) hS.2.2 dX1_right_33

set_option maxHeartbeats 4000000 in
set_option maxRecDepth 100000 in
theorem kX1_curve (l : Launch) (dC : Nat → ClassId) (dI : Nat → Nat → Nat) (k0 r1 r2 : Nat) (d1 d2 : ClassId) (p a b : Int) (s1 s2 : Int → Int) (sz : Nat) (vp : Int) (va : Int) (vb : Int) (hrvp : -2147483648 ≤ vp ∧ vp < 2147483648) (hrva : -2147483648 ≤ va ∧ va < 2147483648) (hrvb : -2147483648 ≤ vb ∧ vb < 2147483648) : Met l yX1_curve wsX1_curve ({ frames := 0, cells := 0, slots := 0, locals := 0 }) (zPw (dC, dI) (ww1 k0 r1 r2 d1 d2 p a b s1 s2) (tt1 d1 d2) sz [.ref k0, .int (zI (vp)), .int (zI (va)), .int (zI (vb))]) (zQwi (dC, dI) (ww1 k0 r1 r2 d1 d2 p a b s1 s2) sz (fun u : Int × Int × Int => ww1 k0 r1 r2 d1 d2 u.1 u.2.1 u.2.2 s1 s2) (fun (r : Int32) (u : Int × Int × Int) => gs_curP r vp va vb p a b u)) 0 0 (va_A (ww1 k0 r1 r2 d1 d2 p a b s1 s2) sz) := by
  refine Met.ofW (cc := cX1_curve) (maxL := 5) (ret := (some .int)) (by decide) rfl ?_
  intro pp e s m args below meth c s₁ B hml hv
  obtain ⟨rfl, hsz, hP, hK, hD0⟩ := hv
  have hx := B.exec
  have hb := B.bytes
  have hr := B.returns
  have hts := atoms_spec (ws := wsX1_curve) B.pre
  have hown : s.vm.findClass RX1 = some m.cls := findClass_of_methodNamed B.named
  have hlocks := B.notSynchronized
  have hin0 : ∀ w ∈ u_ws RX1 TX1 5, w ∈ wsX1_curve := by decide +kernel
  have hf7 := hts (.fieldLink RX1 7 "CurveDeskModel" "p" "I") (by decide +kernel)
  have hf13 := hts (.fieldLink RX1 13 "CurveDeskModel" "a" "I") (by decide +kernel)
  have hf16 := hts (.fieldLink RX1 16 "CurveDeskModel" "b" "I") (by decide +kernel)
  subst hsz
  have hD := hD0.self (sz := s.heap.size)
  generalize hAe : va_A (ww1 k0 r1 r2 d1 d2 p a b s1 s2) s.heap.size = A at hD ⊢
  have hA : ∀ q : Nat, s.heap.size ≤ q → A q := fun q h => by rw [← hAe]; exact Or.inr h
  have hS : va_S A s.heap s.heap [] := va_S.rf
  have hl := lv_entry ([.ref k0, .int (zI (vp)), .int (zI (va)), .int (zI (vb))]) (n := 5) (Nat.le_of_ble_eq_true rfl)
  rw [lg_entry_eq]
  generalize (lg_sl ([.ref k0, .int (zI (vp)), .int (zI (va)), .int (zI (vb))]) ++ List.replicate (5 - (lg_sl ([.ref k0, .int (zI (vp)), .int (zI (va)), .int (zI (vb))])).length) Slot.unset).toArray = ls at hl ⊢
  have hl : lv_has ls 5 [(0, .ref k0), (1, .int (zI (vp))), (2, .int (zI (va))), (3, .int (zI (vb)))] := hl
  skip
  refine lv_iload_n hx hb dX1_curve_0 rfl (lv_at hl 1 rfl) ?_
  refine lv_iconst (v := zI 5) hx hb dX1_curve_1 rfl ?_
  refine zz_icmp_lt (tgt := 12) hx hb dX1_curve_2 (by decide) (by omega) ⟨by decide, by decide⟩ (fun hc_1 => ?_) (fun hc_1 => ?_)
  · have hno := hc_1
    refine lv_iconst (v := zI (-1)) hx hb dX1_curve_12 rfl ?_
    have hpost : gs_curP (zI ((-1))) vp va vb p a b (p, a, b) := by
      refine gs_curNo (gs_cur1 (fun q => ?_)) (by decide)
      omega
    subst hAe
    exact W.iret (v := zI ((-1))) hx hb hr (fun t ht hW => ⟨⟨_, (p, a, b), rfl, hpost, by rw [ht]; exact hP, hD⟩, hS.F ht⟩) hS.2.2 dX1_curve_13
  · refine lv_iload_n hx hb dX1_curve_5 rfl (lv_at hl 1 rfl) ?_
    refine lv_sipush (v := zI 4093) hx hb dX1_curve_6 (by decide +kernel) ?_
    refine zz_icmp_le (tgt := 14) hx hb dX1_curve_9 (by decide) (by omega) ⟨by decide, by decide⟩ (fun hc_2 => ?_) (fun hc_2 => ?_)
    · refine lv_iconst (v := zI 2) hx hb dX1_curve_14 rfl ?_
      refine lv_istore (lv' := [(4, .int (zI (2))), (0, .ref k0), (1, .int (zI (vp))), (2, .int (zI (va))), (3, .int (zI (vb)))]) hx hb dX1_curve_15 hl (by decide) rfl (fun ls hl => ?_)
      have hi_17 : 2 ≤ (2 : Int) ∧ (2 : Int) ≤ vp ∧ ∀ k : Nat, 2 ≤ k → (k : Int) < (2 : Int) → vp.toNat % k ≠ 0 := by
        exact ⟨by omega, by omega, fun k q1 q2 => by omega⟩
      refine zz_loopR (σ := Int) (fun zs => 2 ≤ zs ∧ zs ≤ vp ∧ ∀ k : Nat, 2 ≤ k → (k : Int) < zs → vp.toNat % k ≠ 0) (fun zs => (vp - zs).toNat) (fun zs => [(4, .int (zI (zs))), (0, .ref k0), (1, .int (zI (vp))), (2, .int (zI (va))), (3, .int (zI (vb)))]) ?_ 2 hi_17 _ _ _ hP hS (lv_sub hl [0, 1, 2, 3, 4] rfl)
      intro zs hI_17 ih_17 H locs ls hP hS hl
      clear hi_17
      obtain ⟨dc, rfl⟩ : ∃ y, y = zs := ⟨_, rfl⟩
      have hI_17 : 2 ≤ dc ∧ dc ≤ vp ∧ ∀ k : Nat, 2 ≤ k → (k : Int) < dc → vp.toNat % k ≠ 0 := hI_17
      have hl : lv_has ls 5 [(4, .int (zI (dc))), (0, .ref k0), (1, .int (zI (vp))), (2, .int (zI (va))), (3, .int (zI (vb)))] := hl
      have hP : va_P (dC, dI) vwCl (ww1 k0 r1 r2 d1 d2 p a b s1 s2) H := hP
      obtain ⟨i1, i2, i3⟩ := hI_17
      refine lv_iload hx hb dX1_curve_17 (lv_at hl 0 rfl) ?_
      refine lv_iload_n hx hb dX1_curve_19 rfl (lv_at hl 2 rfl) ?_
      refine zz_icmp_ge (tgt := 38) hx hb dX1_curve_20 (by decide) (by omega) (by omega) (fun hc_3 => ?_) (fun hc_3 => ?_)
      · have hpr : gp_prime vp.toNat := ⟨by omega, fun k q1 q2 => i3 k q1 (by omega)⟩
        refine lv_iload_n hx hb dX1_curve_38 rfl (lv_at hl 3 rfl) ?_
        refine zz_if_lt (tgt := 56) hx hb dX1_curve_39 (by decide) (by omega) (fun hc_4 => ?_) (fun hc_4 => ?_)
        · refine lv_bipush (v := zI (-2)) hx hb dX1_curve_56 (by decide +kernel) ?_
          have hpost : gs_curP (zI ((-2))) vp va vb p a b (p, a, b) := by
            exact gs_curNo (gs_cur2 (by omega) hpr (by omega)) (by decide)
          subst hAe
          exact W.iret (v := zI ((-2))) hx hb hr (fun t ht hW => ⟨⟨_, (p, a, b), rfl, hpost, by rw [ht]; exact hP, hD⟩, hS.F ht⟩) hS.2.2 dX1_curve_58
        · refine lv_iload_n hx hb dX1_curve_42 rfl (lv_at hl 3 rfl) ?_
          refine lv_iload_n hx hb dX1_curve_43 rfl (lv_at hl 2 rfl) ?_
          refine zz_icmp_ge (tgt := 56) hx hb dX1_curve_44 (by decide) (by omega) (by omega) (fun hc_5 => ?_) (fun hc_5 => ?_)
          · refine lv_bipush (v := zI (-2)) hx hb dX1_curve_56 (by decide +kernel) ?_
            have hpost : gs_curP (zI ((-2))) vp va vb p a b (p, a, b) := by
              exact gs_curNo (gs_cur2 (by omega) hpr (by omega)) (by decide)
            subst hAe
            exact W.iret (v := zI ((-2))) hx hb hr (fun t ht hW => ⟨⟨_, (p, a, b), rfl, hpost, by rw [ht]; exact hP, hD⟩, hS.F ht⟩) hS.2.2 dX1_curve_58
          · refine lv_iload_n hx hb dX1_curve_47 rfl (lv_at hl 4 rfl) ?_
            refine zz_if_lt (tgt := 56) hx hb dX1_curve_48 (by decide) (by omega) (fun hc_6 => ?_) (fun hc_6 => ?_)
            · refine lv_bipush (v := zI (-2)) hx hb dX1_curve_56 (by decide +kernel) ?_
              have hpost : gs_curP (zI ((-2))) vp va vb p a b (p, a, b) := by
                exact gs_curNo (gs_cur2 (by omega) hpr (by omega)) (by decide)
              subst hAe
              exact W.iret (v := zI ((-2))) hx hb hr (fun t ht hW => ⟨⟨_, (p, a, b), rfl, hpost, by rw [ht]; exact hP, hD⟩, hS.F ht⟩) hS.2.2 dX1_curve_58
            · refine lv_iload_n hx hb dX1_curve_51 rfl (lv_at hl 4 rfl) ?_
              refine lv_iload_n hx hb dX1_curve_52 rfl (lv_at hl 2 rfl) ?_
              refine zz_icmp_lt (tgt := 59) hx hb dX1_curve_53 (by decide) (by omega) (by omega) (fun hc_7 => ?_) (fun hc_7 => ?_)
              · have h1 := zz_pr (x := va) (y := va) (by omega) (by omega)
                have h2 := zz_md (v := va * va) (p := vp) (by omega)
                have h3 := zz_pr (x := va * va % vp) (y := va) (by omega) (by omega)
                have h4 := zz_pr (x := vb) (y := vb) (by omega) (by omega)
                have h5 := zz_md (v := va * va % vp * va) (p := vp) (by omega)
                have h6 := zz_md (v := vb * vb) (p := vp) (by omega)
                refine lv_iload_n hx hb dX1_curve_59 rfl (lv_at hl 3 rfl) ?_
                refine lv_iload_n hx hb dX1_curve_60 rfl (lv_at hl 3 rfl) ?_
                refine zz_imul hx hb dX1_curve_61 ?_
                refine lv_iload_n hx hb dX1_curve_62 rfl (lv_at hl 2 rfl) ?_
                refine zz_irem hx hb dX1_curve_63 (by omega) ?_
                refine lv_iload_n hx hb dX1_curve_64 rfl (lv_at hl 3 rfl) ?_
                refine zz_imul hx hb dX1_curve_65 ?_
                refine lv_iload_n hx hb dX1_curve_66 rfl (lv_at hl 2 rfl) ?_
                refine zz_irem hx hb dX1_curve_67 (by omega) ?_
                refine zz_topi (fun cb ecb => ?_)
                refine lv_istore (lv' := [(4, .int (zI (cb))), (0, .ref k0), (1, .int (zI (vp))), (2, .int (zI (va))), (3, .int (zI (vb)))]) hx hb dX1_curve_68 hl (by decide) rfl (fun ls hl => ?_)
                have h7 := zz_sg vp va vb cb (vb * vb % vp) ecb rfl
                refine lv_iconst (v := zI 4) hx hb dX1_curve_70 rfl ?_
                refine lv_iload hx hb dX1_curve_71 (lv_at hl 0 rfl) ?_
                refine zz_imul hx hb dX1_curve_73 ?_
                refine lv_bipush (v := zI 27) hx hb dX1_curve_74 (by decide +kernel) ?_
                refine lv_iload_n hx hb dX1_curve_76 rfl (lv_at hl 4 rfl) ?_
                refine lv_iload_n hx hb dX1_curve_77 rfl (lv_at hl 4 rfl) ?_
                refine zz_imul hx hb dX1_curve_78 ?_
                refine lv_iload_n hx hb dX1_curve_79 rfl (lv_at hl 2 rfl) ?_
                refine zz_irem hx hb dX1_curve_80 (by omega) ?_
                refine zz_imul hx hb dX1_curve_81 ?_
                refine zz_iadd hx hb dX1_curve_82 ?_
                refine lv_iload_n hx hb dX1_curve_83 rfl (lv_at hl 2 rfl) ?_
                refine zz_irem hx hb dX1_curve_84 (by omega) ?_
                refine zz_if_ne (tgt := 91) hx hb dX1_curve_85 (by decide) (by have h9 := zz_md (v := 4 * cb + 27 * (vb * vb % vp)) (p := vp) (by omega); omega) (fun hc_8 => ?_) (fun hc_8 => ?_)
                · have hsg := hc_8
                  rw [h7] at hsg
                  refine lv_aload_n hx hb dX1_curve_91 rfl (lv_at hl 1 rfl) ?_
                  refine lv_iload_n hx hb dX1_curve_92 rfl (lv_at hl 2 rfl) ?_
                  refine va_put (D := (dC, dI)) (ci := 1) (v := .int (zI (vp))) (ty := .int) (C := RX1) (T := TX1) (N := 5) hx hb hts hin0 tyX1 tyX1_ok nmX1 hown hK hP hD hS 0 rfl rfl 0 (by decide) hf7 (fun _ h9 => h9) rfl (by decide +kernel) rfl rfl (Nat.le_of_ble_eq_true rfl) dX1_curve_93 (fun H locs hP hD hS => ?_)
                  have hP : va_P (dC, dI) vwCl (ww1 k0 r1 r2 d1 d2 vp a b s1 s2) H := hP
                  have hD : va_D A (ww1 k0 r1 r2 d1 d2 vp a b s1 s2) := hD
                  refine lv_aload_n hx hb dX1_curve_96 rfl (lv_at hl 1 rfl) ?_
                  refine lv_iload_n hx hb dX1_curve_97 rfl (lv_at hl 3 rfl) ?_
                  refine va_put (D := (dC, dI)) (ci := 1) (v := .int (zI (va))) (ty := .int) (C := RX1) (T := TX1) (N := 5) hx hb hts hin0 tyX1 tyX1_ok nmX1 hown hK hP hD hS 0 rfl rfl 1 (by decide) hf13 (fun _ h9 => h9) rfl (by decide +kernel) rfl rfl (Nat.le_of_ble_eq_true rfl) dX1_curve_98 (fun H locs hP hD hS => ?_)
                  have hP : va_P (dC, dI) vwCl (ww1 k0 r1 r2 d1 d2 vp va b s1 s2) H := hP
                  have hD : va_D A (ww1 k0 r1 r2 d1 d2 vp va b s1 s2) := hD
                  refine lv_aload_n hx hb dX1_curve_101 rfl (lv_at hl 1 rfl) ?_
                  refine lv_iload_n hx hb dX1_curve_102 rfl (lv_at hl 4 rfl) ?_
                  refine va_put (D := (dC, dI)) (ci := 1) (v := .int (zI (vb))) (ty := .int) (C := RX1) (T := TX1) (N := 5) hx hb hts hin0 tyX1 tyX1_ok nmX1 hown hK hP hD hS 0 rfl rfl 2 (by decide) hf16 (fun _ h9 => h9) rfl (by decide +kernel) rfl rfl (Nat.le_of_ble_eq_true rfl) dX1_curve_103 (fun H locs hP hD hS => ?_)
                  have hP : va_P (dC, dI) vwCl (ww1 k0 r1 r2 d1 d2 vp va vb s1 s2) H := hP
                  have hD : va_D A (ww1 k0 r1 r2 d1 d2 vp va vb s1 s2) := hD
                  refine lv_iconst (v := zI 0) hx hb dX1_curve_106 rfl ?_
                  have hpost : gs_curP (zI (0)) vp va vb p a b (vp, va, vb) := by
                    exact gs_curYes (gs_cur0 (by omega) hpr (by omega) hsg)
                  subst hAe
                  exact W.iret (v := zI (0)) hx hb hr (fun t ht hW => ⟨⟨_, (vp, va, vb), rfl, hpost, by rw [ht]; exact hP, hD⟩, hS.F ht⟩) hS.2.2 dX1_curve_107
                · have hsg := hc_8
                  rw [h7] at hsg
                  refine lv_bipush (v := zI (-3)) hx hb dX1_curve_88 (by decide +kernel) ?_
                  have hpost : gs_curP (zI ((-3))) vp va vb p a b (p, a, b) := by
                    exact gs_curNo (gs_cur3 (by omega) hpr (by omega) hsg) (by decide)
                  subst hAe
                  exact W.iret (v := zI ((-3))) hx hb hr (fun t ht hW => ⟨⟨_, (p, a, b), rfl, hpost, by rw [ht]; exact hP, hD⟩, hS.F ht⟩) hS.2.2 dX1_curve_90
              · refine lv_bipush (v := zI (-2)) hx hb dX1_curve_56 (by decide +kernel) ?_
                have hpost : gs_curP (zI ((-2))) vp va vb p a b (p, a, b) := by
                  exact gs_curNo (gs_cur2 (by omega) hpr (by omega)) (by decide)
                subst hAe
                exact W.iret (v := zI ((-2))) hx hb hr (fun t ht hW => ⟨⟨_, (p, a, b), rfl, hpost, by rw [ht]; exact hP, hD⟩, hS.F ht⟩) hS.2.2 dX1_curve_58
      · refine lv_iload_n hx hb dX1_curve_23 rfl (lv_at hl 2 rfl) ?_
        refine lv_iload hx hb dX1_curve_24 (lv_at hl 0 rfl) ?_
        refine zz_irem hx hb dX1_curve_26 (by omega) ?_
        refine zz_if_ne (tgt := 32) hx hb dX1_curve_27 (by decide) (by have h9 := zz_md (v := vp) (p := dc) (by omega); omega) (fun hc_9 => ?_) (fun hc_9 => ?_)
        · obtain ⟨dn, edn⟩ : ∃ y : Int, y = dc + 1 := ⟨_, rfl⟩
          refine zz_iinc (v := dn) (lv' := [(4, .int (zI (dn))), (0, .ref k0), (1, .int (zI (vp))), (2, .int (zI (va))), (3, .int (zI (vb)))]) hx hb dX1_curve_32 hl (k := 0) rfl edn (by decide) rfl (fun ls hl => ?_)
          refine lv_goto (tgt := 17) hx hb dX1_curve_35 (by decide) ?_
          have hn_17 : 2 ≤ dn ∧ dn ≤ vp ∧ ∀ k : Nat, 2 ≤ k → (k : Int) < dn → vp.toNat % k ≠ 0 := by
            refine ⟨by omega, by omega, fun k q1 q2 => ?_⟩
            by_cases hk : (k : Int) = dc
            · exact zz_nmod hk (by omega) (by omega)
            · exact i3 k q1 (by omega)
          have hm_17 : (vp - dn).toNat < (vp - dc).toNat := by
            omega
          exact ih_17 dn hn_17 hm_17 _ _ _ hP hS (lv_sub hl [0, 1, 2, 3, 4] rfl)
        · have hd0 := hc_9
          refine lv_iconst (v := zI (-1)) hx hb dX1_curve_30 rfl ?_
          have hpost : gs_curP (zI ((-1))) vp va vb p a b (p, a, b) := by
            refine gs_curNo (gs_cur1 (fun q => ?_)) (by decide)
            exact zz_notprime q.2.2 i1 (by omega) hd0
          subst hAe
          exact W.iret (v := zI ((-1))) hx hb hr (fun t ht hW => ⟨⟨_, (p, a, b), rfl, hpost, by rw [ht]; exact hP, hD⟩, hS.F ht⟩) hS.2.2 dX1_curve_31
    · have hno := hc_2
      refine lv_iconst (v := zI (-1)) hx hb dX1_curve_12 rfl ?_
      have hpost : gs_curP (zI ((-1))) vp va vb p a b (p, a, b) := by
        refine gs_curNo (gs_cur1 (fun q => ?_)) (by decide)
        omega
      subst hAe
      exact W.iret (v := zI ((-1))) hx hb hr (fun t ht hW => ⟨⟨_, (p, a, b), rfl, hpost, by rw [ht]; exact hP, hD⟩, hS.F ht⟩) hS.2.2 dX1_curve_13

set_option maxHeartbeats 4000000 in
set_option maxRecDepth 100000 in
theorem kX1_coefficient (l : Launch) (dC : Nat → ClassId) (dI : Nat → Nat → Nat) (k0 r1 r2 : Nat) (d1 d2 : ClassId) (p a b : Int) (s1 s2 : Int → Int) (k : Int) (hp : 5 ≤ p ∧ p ≤ 4093) (hrk : -2147483648 ≤ k ∧ k < 2147483648) : Met l yX1_coefficient wsX1_coefficient ({ frames := 0, cells := 0, slots := 0, locals := 0 }) (zPc (dC, dI) (ww1 k0 r1 r2 d1 d2 p a b s1 s2) (tt1 d1 d2) [.ref k0, .int (zI (k))]) (zQi (zI (gs_aCoef p a b k))) 0 0 zNo := by
  refine Met.ofW (cc := cX1_coefficient) (maxL := 2) (ret := (some .int)) (by decide) rfl ?_
  intro pp e s m args below meth c s₁ B hml hv
  obtain ⟨rfl, hP, hK⟩ := hv
  have hx := B.exec
  have hb := B.bytes
  have hr := B.returns
  have hts := atoms_spec (ws := wsX1_coefficient) B.pre
  have hown : s.vm.findClass RX1 = some m.cls := findClass_of_methodNamed B.named
  have hlocks := B.notSynchronized
  have hin0 : ∀ w ∈ u_ws RX1 TX1 5, w ∈ wsX1_coefficient := by decide +kernel
  have hf7 := hts (.fieldLink RX1 7 "CurveDeskModel" "p" "I") (by decide +kernel)
  have hf13 := hts (.fieldLink RX1 13 "CurveDeskModel" "a" "I") (by decide +kernel)
  have hf16 := hts (.fieldLink RX1 16 "CurveDeskModel" "b" "I") (by decide +kernel)
  have hS : va_S (fun _ => False) s.heap s.heap [] := va_S.rf
  have hl := lv_entry ([.ref k0, .int (zI (k))]) (n := 2) (Nat.le_of_ble_eq_true rfl)
  rw [lg_entry_eq]
  generalize (lg_sl ([.ref k0, .int (zI (k))]) ++ List.replicate (2 - (lg_sl ([.ref k0, .int (zI (k))])).length) Slot.unset).toArray = ls at hl ⊢
  have hl : lv_has ls 2 [(0, .ref k0), (1, .int (zI (k)))] := hl
  skip
  refine lv_iload_n hx hb dX1_coefficient_0 rfl (lv_at hl 1 rfl) ?_
  refine zz_if_ne (tgt := 11) hx hb dX1_coefficient_1 (by decide) (by omega) (fun hc_1 => ?_) (fun hc_1 => ?_)
  · refine lv_iload_n hx hb dX1_coefficient_11 rfl (lv_at hl 1 rfl) ?_
    refine lv_iconst (v := zI 1) hx hb dX1_coefficient_12 rfl ?_
    refine zz_icmp_ne (tgt := 23) hx hb dX1_coefficient_13 (by decide) (by omega) ⟨by decide, by decide⟩ (fun hc_2 => ?_) (fun hc_2 => ?_)
    · refine lv_iload_n hx hb dX1_coefficient_23 rfl (lv_at hl 1 rfl) ?_
      refine lv_iconst (v := zI 2) hx hb dX1_coefficient_24 rfl ?_
      refine zz_icmp_ne (tgt := 35) hx hb dX1_coefficient_25 (by decide) (by omega) ⟨by decide, by decide⟩ (fun hc_3 => ?_) (fun hc_3 => ?_)
      · refine lv_iconst (v := zI (-1)) hx hb dX1_coefficient_35 rfl ?_
        have hpost : ((-1) : Int) = gs_aCoef p a b k := by
          unfold gs_aCoef
          rw [if_neg (by omega), if_neg (by omega), if_neg (by omega)]
        exact W.iret (v := zI ((-1))) hx hb hr (fun t ht hW => ⟨⟨_, (), rfl, congrArg zI hpost, trivial⟩, hS.F ht⟩) hS.2.2 dX1_coefficient_36
      · refine lv_aload_n hx hb dX1_coefficient_28 rfl (lv_at hl 0 rfl) ?_
        refine va_get (D := (dC, dI)) (ci := 1) (v := .int (zI (b))) (C := RX1) (T := TX1) (N := 5) hx hb hts hin0 hown hK hP 0 rfl rfl 2 (by decide) hf16 (fun _ h9 => h9) rfl dX1_coefficient_29 ?_
        refine lv_goto (tgt := 36) hx hb dX1_coefficient_32 (by decide) ?_
        have hpost : (b : Int) = gs_aCoef p a b k := by
          unfold gs_aCoef
          rw [if_neg (by omega), if_neg (by omega), if_pos (by omega)]
        exact W.iret (v := zI (b)) hx hb hr (fun t ht hW => ⟨⟨_, (), rfl, congrArg zI hpost, trivial⟩, hS.F ht⟩) hS.2.2 dX1_coefficient_36
    · refine lv_aload_n hx hb dX1_coefficient_16 rfl (lv_at hl 0 rfl) ?_
      refine va_get (D := (dC, dI)) (ci := 1) (v := .int (zI (a))) (C := RX1) (T := TX1) (N := 5) hx hb hts hin0 hown hK hP 0 rfl rfl 1 (by decide) hf13 (fun _ h9 => h9) rfl dX1_coefficient_17 ?_
      refine lv_goto (tgt := 36) hx hb dX1_coefficient_20 (by decide) ?_
      have hpost : (a : Int) = gs_aCoef p a b k := by
        unfold gs_aCoef
        rw [if_neg (by omega), if_pos (by omega)]
      exact W.iret (v := zI (a)) hx hb hr (fun t ht hW => ⟨⟨_, (), rfl, congrArg zI hpost, trivial⟩, hS.F ht⟩) hS.2.2 dX1_coefficient_36
  · refine lv_aload_n hx hb dX1_coefficient_4 rfl (lv_at hl 0 rfl) ?_
    refine va_get (D := (dC, dI)) (ci := 1) (v := .int (zI (p))) (C := RX1) (T := TX1) (N := 5) hx hb hts hin0 hown hK hP 0 rfl rfl 0 (by decide) hf7 (fun _ h9 => h9) rfl dX1_coefficient_5 ?_
    refine lv_goto (tgt := 36) hx hb dX1_coefficient_8 (by decide) ?_
    have hpost : (p : Int) = gs_aCoef p a b k := by
      unfold gs_aCoef
      rw [if_pos (by omega)]
    exact W.iret (v := zI (p)) hx hb hr (fun t ht hW => ⟨⟨_, (), rfl, congrArg zI hpost, trivial⟩, hS.F ht⟩) hS.2.2 dX1_coefficient_36

set_option maxHeartbeats 4000000 in
set_option maxRecDepth 100000 in
theorem kX1_tell (l : Launch) (dC : Nat → ClassId) (dI : Nat → Nat → Nat) (k0 r1 r2 : Nat) (d1 d2 : ClassId) (p a b : Int) (s1 s2 : Int → Int) (sz : Nat)  (hp : 5 ≤ p ∧ p ≤ 4093) : Met l yX1_tell wsX1_tell ({ frames := 1, cells := 0, slots := 0, locals := 22 }) (zPw (dC, dI) (ww1 k0 r1 r2 d1 d2 p a b s1 s2) (tt1 d1 d2) sz [.ref k0]) (zQwv (dC, dI) (ww1 k0 r1 r2 d1 d2 p a b s1 s2) sz (fun g : Int → Int => ww1 k0 r1 r2 d1 d2 p a b g s2) (fun g : Int → Int => gs_sq p g p)) 0 0 (va_A (ww1 k0 r1 r2 d1 d2 p a b s1 s2) sz) := by
  refine Met.ofW (cc := cX1_tell) (maxL := 2) (ret := none) (by decide) rfl ?_
  intro pp e s m args below meth c s₁ B hml hv
  obtain ⟨rfl, hsz, hP, hK, hD0⟩ := hv
  have hx := B.exec
  have hb := B.bytes
  have hr := B.returns
  have hts := atoms_spec (ws := wsX1_tell) B.pre
  have hown : s.vm.findClass RX1 = some m.cls := findClass_of_methodNamed B.named
  have hlocks := B.notSynchronized
  have hin0 : ∀ w ∈ u_ws RX1 TX1 5, w ∈ wsX1_tell := by decide +kernel
  have hf7 := hts (.fieldLink RX1 7 "CurveDeskModel" "p" "I") (by decide +kernel)
  have hf19 := hts (.fieldLink RX1 19 "CurveDeskModel" "squares" "[I") (by decide +kernel)
  subst hsz
  have hD := hD0.self (sz := s.heap.size)
  generalize hAe : va_A (ww1 k0 r1 r2 d1 d2 p a b s1 s2) s.heap.size = A at hD ⊢
  have hA : ∀ q : Nat, s.heap.size ≤ q → A q := fun q h => by rw [← hAe]; exact Or.inr h
  have hS : va_S A s.heap s.heap [] := va_S.rf
  have hl := lv_entry ([.ref k0]) (n := 2) (Nat.le_of_ble_eq_true rfl)
  rw [lg_entry_eq]
  generalize (lg_sl ([.ref k0]) ++ List.replicate (2 - (lg_sl ([.ref k0])).length) Slot.unset).toArray = ls at hl ⊢
  have hl : lv_has ls 2 [(0, .ref k0)] := hl
  skip
  refine lv_iconst (v := zI 0) hx hb dX1_tell_0 rfl ?_
  refine lv_istore_n (lv' := [(1, .int (zI (0))), (0, .ref k0)]) hx hb dX1_tell_1 rfl hl (by decide) rfl (fun ls hl => ?_)
  have hi_2 : 0 ≤ (0 : Int) ∧ (0 : Int) ≤ p ∧ ∀ j, 0 ≤ j → j < (0 : Int) → s1 j = 0 := by
    exact ⟨by omega, by omega, fun j q1 q2 => by omega⟩
  refine zz_loopW (σ := Int × (Int → Int)) (fun zs => 0 ≤ zs.1 ∧ zs.1 ≤ p ∧ ∀ j, 0 ≤ j → j < zs.1 → zs.2 j = 0) (fun zs => (p - zs.1).toNat) (fun zs => [(1, .int (zI (zs.1))), (0, .ref k0)]) (fun zs => (ww1 k0 r1 r2 d1 d2 p a b zs.2 s2)) ?_ (0, s1) hi_2 _ _ _ hP hD hS (lv_sub hl [0, 1] rfl)
  intro zs hI_2 ih_2 H locs ls hP hD hS hl
  clear hi_2
  obtain ⟨vc, gc⟩ := zs
  have hI_2 : 0 ≤ vc ∧ vc ≤ p ∧ ∀ j, 0 ≤ j → j < vc → gc j = 0 := hI_2
  have hl : lv_has ls 2 [(1, .int (zI (vc))), (0, .ref k0)] := hl
  have hP : va_P (dC, dI) vwCl (ww1 k0 r1 r2 d1 d2 p a b gc s2) H := hP
  have hD : va_D A (ww1 k0 r1 r2 d1 d2 p a b gc s2) := hD
  obtain ⟨i1, i2, i3⟩ := hI_2
  refine lv_iload_n hx hb dX1_tell_2 rfl (lv_at hl 0 rfl) ?_
  refine lv_aload_n hx hb dX1_tell_3 rfl (lv_at hl 1 rfl) ?_
  refine va_get (D := (dC, dI)) (ci := 1) (v := .int (zI (p))) (C := RX1) (T := TX1) (N := 5) hx hb hts hin0 hown hK hP 0 rfl rfl 0 (by decide) hf7 (fun _ h9 => h9) rfl dX1_tell_4 ?_
  refine zz_icmp_ge (tgt := 23) hx hb dX1_tell_7 (by decide) (by omega) (by omega) (fun hc_1 => ?_) (fun hc_1 => ?_)
  · refine lv_iconst (v := zI 0) hx hb dX1_tell_23 rfl ?_
    refine lv_istore_n (lv' := [(1, .int (zI (0))), (0, .ref k0)]) hx hb dX1_tell_24 rfl hl (by decide) rfl (fun ls hl => ?_)
    have hi_25 : 0 ≤ (0 : Int) ∧ (0 : Int) ≤ p ∧ gs_sq p gc (0 : Int) := by
      exact ⟨by omega, by omega, fun j q1 q2 => i3 j q1 (by omega)⟩
    refine zz_loopW (σ := Int × (Int → Int)) (fun zs => 0 ≤ zs.1 ∧ zs.1 ≤ p ∧ gs_sq p zs.2 zs.1) (fun zs => (p - zs.1).toNat) (fun zs => [(1, .int (zI (zs.1))), (0, .ref k0)]) (fun zs => (ww1 k0 r1 r2 d1 d2 p a b zs.2 s2)) ?_ (0, gc) hi_25 _ _ _ hP hD hS (lv_sub hl [0, 1] rfl)
    intro zs hI_25 ih_25 H locs ls hP hD hS hl
    clear hi_25
    obtain ⟨yc, gd⟩ := zs
    have hI_25 : 0 ≤ yc ∧ yc ≤ p ∧ gs_sq p gd yc := hI_25
    have hl : lv_has ls 2 [(1, .int (zI (yc))), (0, .ref k0)] := hl
    have hP : va_P (dC, dI) vwCl (ww1 k0 r1 r2 d1 d2 p a b gd s2) H := hP
    have hD : va_D A (ww1 k0 r1 r2 d1 d2 p a b gd s2) := hD
    obtain ⟨l1, l2, l3⟩ := hI_25
    refine lv_iload_n hx hb dX1_tell_25 rfl (lv_at hl 0 rfl) ?_
    refine lv_aload_n hx hb dX1_tell_26 rfl (lv_at hl 1 rfl) ?_
    refine va_get (D := (dC, dI)) (ci := 1) (v := .int (zI (p))) (C := RX1) (T := TX1) (N := 5) hx hb hts hin0 hown hK hP 0 rfl rfl 0 (by decide) hf7 (fun _ h9 => h9) rfl dX1_tell_27 ?_
    refine zz_icmp_ge (tgt := 55) hx hb dX1_tell_30 (by decide) (by omega) (by omega) (fun hc_2 => ?_) (fun hc_2 => ?_)
    · have hpost : gs_sq p (gd) p := by
        rw [show yc = p by omega] at l3
        exact l3
      subst hAe
      exact W.vret hx hb hr (fun t ht hW => ⟨⟨(gd), rfl, hpost, by rw [ht]; exact hP, hD⟩, hS.F ht⟩) hS.2.2 dX1_tell_55
    · have h1 := zz_pr (x := yc) (y := yc) (by omega) (by omega)
      have h2 := zz_md (v := yc * yc) (p := p) (by omega)
      refine lv_aload_n hx hb dX1_tell_33 rfl (lv_at hl 1 rfl) ?_
      refine va_get (D := (dC, dI)) (ci := 1) (v := .ref r1) (C := RX1) (T := TX1) (N := 5) hx hb hts hin0 hown hK hP 0 rfl rfl 3 (by decide) hf19 (fun _ h9 => h9) rfl dX1_tell_34 ?_
      refine lv_aload_n hx hb dX1_tell_37 rfl (lv_at hl 1 rfl) ?_
      refine lv_iload_n hx hb dX1_tell_38 rfl (lv_at hl 0 rfl) ?_
      refine lv_iload_n hx hb dX1_tell_39 rfl (lv_at hl 0 rfl) ?_
      refine zz_imul hx hb dX1_tell_40 ?_
      refine zz_callV k0 [.int (zI (yc * yc))] [.ref r1] ⟨hx, hb, hml, hown, hts⟩ (kX1_mod l dC dI k0 r1 r2 d1 d2 p a b gd s2 (yc * yc) (by omega) (by omega)) (cwV 1 hts gX1_tell_X1_mod rfl rfl rfl (by decide +kernel) ⟨Nat.le_of_ble_eq_true rfl, Nat.le_of_ble_eq_true rfl⟩) hK hP 0 rfl rfl rfl hP hS rfl hl.1 rfl (Nat.le_of_ble_eq_true rfl) dX1_tell_41 ⟨Nat.le_of_ble_eq_true rfl, Nat.le_of_ble_eq_true rfl⟩ (fun H locs hP hS => ?_)
      refine lv_dup2_11 hx hb dX1_tell_44 rfl rfl ?_
      refine zz_iald (g := gd) hx hb hK hP 1 0 rfl rfl (by omega) dX1_tell_45 ?_
      refine lv_iconst (v := zI 1) hx hb dX1_tell_46 rfl ?_
      refine zz_iadd hx hb dX1_tell_47 ?_
      refine zz_iast (g := gd) hx hb hK hP hD hS 1 0 rfl rfl (by omega) dX1_tell_48 (fun H locs hP hD hS => ?_)
      have hP : va_P (dC, dI) vwCl (ww1 k0 r1 r2 d1 d2 p a b (zU gd ((yc * yc) % p) ((gd ((yc * yc) % p)) + 1)) s2) H := hP
      have hD : va_D A (ww1 k0 r1 r2 d1 d2 p a b (zU gd ((yc * yc) % p) ((gd ((yc * yc) % p)) + 1)) s2) := hD
      obtain ⟨yd, eyd⟩ : ∃ y : Int, y = yc + 1 := ⟨_, rfl⟩
      refine zz_iinc (v := yd) (lv' := [(1, .int (zI (yd))), (0, .ref k0)]) hx hb dX1_tell_49 hl (k := 0) rfl eyd (by decide) rfl (fun ls hl => ?_)
      refine lv_goto (tgt := 25) hx hb dX1_tell_52 (by decide) ?_
      have hn_25 : 0 ≤ yd ∧ yd ≤ p ∧ gs_sq p (zU gd ((yc * yc) % p) ((gd ((yc * yc) % p)) + 1)) yd := by
        refine ⟨by omega, by omega, ?_⟩
        rw [eyd]
        exact gs_sqS l1 l3 h2
      have hm_25 : (p - yd).toNat < (p - yc).toNat := by
        omega
      exact ih_25 (yd, zU gd ((yc * yc) % p) ((gd ((yc * yc) % p)) + 1)) hn_25 hm_25 _ _ _ hP hD hS (lv_sub hl [0, 1] rfl)
  · refine lv_aload_n hx hb dX1_tell_10 rfl (lv_at hl 1 rfl) ?_
    refine va_get (D := (dC, dI)) (ci := 1) (v := .ref r1) (C := RX1) (T := TX1) (N := 5) hx hb hts hin0 hown hK hP 0 rfl rfl 3 (by decide) hf19 (fun _ h9 => h9) rfl dX1_tell_11 ?_
    refine lv_iload_n hx hb dX1_tell_14 rfl (lv_at hl 0 rfl) ?_
    refine lv_iconst (v := zI 0) hx hb dX1_tell_15 rfl ?_
    refine zz_iast (g := gc) hx hb hK hP hD hS 1 0 rfl rfl (by omega) dX1_tell_16 (fun H locs hP hD hS => ?_)
    have hP : va_P (dC, dI) vwCl (ww1 k0 r1 r2 d1 d2 p a b (zU gc vc 0) s2) H := hP
    have hD : va_D A (ww1 k0 r1 r2 d1 d2 p a b (zU gc vc 0) s2) := hD
    obtain ⟨vd, evd⟩ : ∃ y : Int, y = vc + 1 := ⟨_, rfl⟩
    refine zz_iinc (v := vd) (lv' := [(1, .int (zI (vd))), (0, .ref k0)]) hx hb dX1_tell_17 hl (k := 0) rfl evd (by decide) rfl (fun ls hl => ?_)
    refine lv_goto (tgt := 2) hx hb dX1_tell_20 (by decide) ?_
    have hn_2 : 0 ≤ vd ∧ vd ≤ p ∧ ∀ j, 0 ≤ j → j < vd → (zU gc vc 0) j = 0 := by
      refine ⟨by omega, by omega, fun j q1 q2 => ?_⟩
      by_cases hj : j = vc
      · rw [hj, zU_eq]
      · rw [zU_ne _ _ _ hj]
        exact i3 j q1 (by omega)
    have hm_2 : (p - vd).toNat < (p - vc).toNat := by
      omega
    exact ih_2 (vd, zU gc vc 0) hn_2 hm_2 _ _ _ hP hD hS (lv_sub hl [0, 1] rfl)

set_option maxHeartbeats 4000000 in
set_option maxRecDepth 100000 in
theorem kX1_count (l : Launch) (dC : Nat → ClassId) (dI : Nat → Nat → Nat) (k0 r1 r2 : Nat) (d1 d2 : ClassId) (p a b : Int) (s1 s2 : Int → Int) (sz : Nat)  (hp : 5 ≤ p ∧ p ≤ 4093) (ha : 0 ≤ a ∧ a < p) (hbb : 0 ≤ b ∧ b < p) : Met l yX1_count wsX1_count ({ frames := 2, cells := 0, slots := 0, locals := 43 }) (zPw (dC, dI) (ww1 k0 r1 r2 d1 d2 p a b s1 s2) (tt1 d1 d2) sz [.ref k0]) (zQwi (dC, dI) (ww1 k0 r1 r2 d1 d2 p a b s1 s2) sz (fun g : Int → Int => ww1 k0 r1 r2 d1 d2 p a b g s2) (fun (r : Int32) (_ : Int → Int) => r = zI (gs_n p a b))) 0 0 (va_A (ww1 k0 r1 r2 d1 d2 p a b s1 s2) sz) := by
  refine Met.ofW (cc := cX1_count) (maxL := 3) (ret := (some .int)) (by decide) rfl ?_
  intro pp e s m args below meth c s₁ B hml hv
  obtain ⟨rfl, hsz, hP, hK, hD0⟩ := hv
  have hx := B.exec
  have hb := B.bytes
  have hr := B.returns
  have hts := atoms_spec (ws := wsX1_count) B.pre
  have hown : s.vm.findClass RX1 = some m.cls := findClass_of_methodNamed B.named
  have hlocks := B.notSynchronized
  have hin0 : ∀ w ∈ u_ws RX1 TX1 5, w ∈ wsX1_count := by decide +kernel
  have hf7 := hts (.fieldLink RX1 7 "CurveDeskModel" "p" "I") (by decide +kernel)
  have hf19 := hts (.fieldLink RX1 19 "CurveDeskModel" "squares" "[I") (by decide +kernel)
  subst hsz
  have hD := hD0.self (sz := s.heap.size)
  generalize hAe : va_A (ww1 k0 r1 r2 d1 d2 p a b s1 s2) s.heap.size = A at hD ⊢
  have hA : ∀ q : Nat, s.heap.size ≤ q → A q := fun q h => by rw [← hAe]; exact Or.inr h
  have hS : va_S A s.heap s.heap [] := va_S.rf
  have hl := lv_entry ([.ref k0]) (n := 3) (Nat.le_of_ble_eq_true rfl)
  rw [lg_entry_eq]
  generalize (lg_sl ([.ref k0]) ++ List.replicate (3 - (lg_sl ([.ref k0])).length) Slot.unset).toArray = ls at hl ⊢
  have hl : lv_has ls 3 [(0, .ref k0)] := hl
  skip
  refine lv_aload_n hx hb dX1_count_0 rfl (lv_at hl 0 rfl) ?_
  refine zz_callWv (wr := []) k0 [] [] [0, 1, 2] [] ⟨hx, hb, hml, hown, hts⟩ (kX1_tell l dC dI k0 r1 r2 d1 d2 p a b s1 s2 s.heap.size  (by omega)) (cwV 0 hts gX1_count_X1_tell rfl rfl rfl (by decide +kernel) ⟨Nat.le_of_ble_eq_true rfl, Nat.le_of_ble_eq_true rfl⟩) hK 0 rfl rfl rfl hP hD hS hA rfl rfl (by decide) rfl (by decide) (by decide) rfl hl.1 rfl (Nat.le_of_ble_eq_true rfl) dX1_count_1 ⟨Nat.le_of_ble_eq_true rfl, Nat.le_of_ble_eq_true rfl⟩ (fun u_1 H locs hw_2 hP hD hS => ?_)
  have hP : va_P (dC, dI) vwCl (ww1 k0 r1 r2 d1 d2 p a b u_1 s2) H := hP
  have hD : va_D A (ww1 k0 r1 r2 d1 d2 p a b u_1 s2) := hD
  have hsq := hw_2
  refine lv_iconst (v := zI 1) hx hb dX1_count_4 rfl ?_
  refine lv_istore_n (lv' := [(1, .int (zI (1))), (0, .ref k0)]) hx hb dX1_count_5 rfl hl (by decide) rfl (fun ls hl => ?_)
  refine lv_iconst (v := zI 0) hx hb dX1_count_6 rfl ?_
  refine lv_istore_n (lv' := [(2, .int (zI (0))), (1, .int (zI (1))), (0, .ref k0)]) hx hb dX1_count_7 rfl hl (by decide) rfl (fun ls hl => ?_)
  have hi_8 : 0 ≤ (0 : Int) ∧ (0 : Int) ≤ p ∧ (1 : Int) = ((gs_pre p.toNat a b ((0 : Int)).toNat).length : Int) + 1 := by
    exact ⟨by omega, by omega, rfl⟩
  refine zz_loopR (σ := Int × Int) (fun zs => 0 ≤ zs.2 ∧ zs.2 ≤ p ∧ zs.1 = ((gs_pre p.toNat a b (zs.2).toNat).length : Int) + 1) (fun zs => (p - zs.2).toNat) (fun zs => [(2, .int (zI (zs.2))), (1, .int (zI (zs.1))), (0, .ref k0)]) ?_ (1, 0) hi_8 _ _ _ hP hS (lv_sub hl [0, 1, 2] rfl)
  intro zs hI_8 ih_8 H locs ls hP hS hl
  clear hi_8
  obtain ⟨nc, xc⟩ := zs
  have hI_8 : 0 ≤ xc ∧ xc ≤ p ∧ nc = ((gs_pre p.toNat a b (xc).toNat).length : Int) + 1 := hI_8
  have hl : lv_has ls 3 [(2, .int (zI (xc))), (1, .int (zI (nc))), (0, .ref k0)] := hl
  have hP : va_P (dC, dI) vwCl (ww1 k0 r1 r2 d1 d2 p a b u_1 s2) H := hP
  obtain ⟨i1, i2, i3⟩ := hI_8
  refine lv_iload_n hx hb dX1_count_8 rfl (lv_at hl 0 rfl) ?_
  refine lv_aload_n hx hb dX1_count_9 rfl (lv_at hl 2 rfl) ?_
  refine va_get (D := (dC, dI)) (ci := 1) (v := .int (zI (p))) (C := RX1) (T := TX1) (N := 5) hx hb hts hin0 hown hK hP 0 rfl rfl 0 (by decide) hf7 (fun _ h9 => h9) rfl dX1_count_10 ?_
  refine zz_icmp_ge (tgt := 35) hx hb dX1_count_13 (by decide) (by omega) (by omega) (fun hc_4 => ?_) (fun hc_4 => ?_)
  · refine lv_iload_n hx hb dX1_count_35 rfl (lv_at hl 1 rfl) ?_
    have hpost : zI (nc) = zI (gs_n p a b) := by
      rw [i3, gs_nPre, show xc = p by omega]
    subst hAe
    exact W.iret (v := zI (nc)) hx hb hr (fun t ht hW => ⟨⟨_, (u_1), rfl, hpost, by rw [ht]; exact hP, hD⟩, hS.F ht⟩) hS.2.2 dX1_count_36
  · have h1 := zz_md (v := gs_rhs a b xc) (p := p) (by omega)
    refine lv_iload_n hx hb dX1_count_16 rfl (lv_at hl 1 rfl) ?_
    refine lv_aload_n hx hb dX1_count_17 rfl (lv_at hl 2 rfl) ?_
    refine va_get (D := (dC, dI)) (ci := 1) (v := .ref r1) (C := RX1) (T := TX1) (N := 5) hx hb hts hin0 hown hK hP 0 rfl rfl 3 (by decide) hf19 (fun _ h9 => h9) rfl dX1_count_18 ?_
    refine lv_aload_n hx hb dX1_count_21 rfl (lv_at hl 2 rfl) ?_
    refine lv_iload_n hx hb dX1_count_22 rfl (lv_at hl 0 rfl) ?_
    refine zz_callV k0 [.int (zI (xc))] [.ref r1, .int (zI (nc))] ⟨hx, hb, hml, hown, hts⟩ (kX1_right l dC dI k0 r1 r2 d1 d2 p a b u_1 s2 xc (by omega) (by omega) (by omega) (by omega)) (cwV 1 hts gX1_count_X1_right rfl rfl rfl (by decide +kernel) ⟨Nat.le_of_ble_eq_true rfl, Nat.le_of_ble_eq_true rfl⟩) hK hP 0 rfl rfl rfl hP hS rfl hl.1 rfl (Nat.le_of_ble_eq_true rfl) dX1_count_23 ⟨Nat.le_of_ble_eq_true rfl, Nat.le_of_ble_eq_true rfl⟩ (fun H locs hP hS => ?_)
    refine zz_iald (g := u_1) hx hb hK hP 1 0 rfl rfl (by omega) dX1_count_26 ?_
    refine zz_iadd hx hb dX1_count_27 ?_
    refine zz_topi (fun nq enq => ?_)
    refine lv_istore_n (lv' := [(1, .int (zI (nq))), (2, .int (zI (xc))), (0, .ref k0)]) hx hb dX1_count_28 rfl hl (by decide) rfl (fun ls hl => ?_)
    obtain ⟨xd, exd⟩ : ∃ y : Int, y = xc + 1 := ⟨_, rfl⟩
    refine zz_iinc (v := xd) (lv' := [(2, .int (zI (xd))), (1, .int (zI (nq))), (0, .ref k0)]) hx hb dX1_count_29 hl (k := 1) rfl exd (by decide) rfl (fun ls hl => ?_)
    refine lv_goto (tgt := 8) hx hb dX1_count_32 (by decide) ?_
    have hn_8 : 0 ≤ xd ∧ xd ≤ p ∧ nq = ((gs_pre p.toNat a b (xd).toNat).length : Int) + 1 := by
      refine ⟨by omega, by omega, ?_⟩
      have h7 := gs_rowLenZ (p := p) (a := a) (b := b) (x := xc) (by omega) i1
      have h8 := gs_preSz (p := p) (a := a) (b := b) (x := xc) i1
      rw [exd, enq, hsq _ h1.1 h1.2, i3]
      omega
    have hm_8 : (p - xd).toNat < (p - xc).toNat := by
      omega
    exact ih_8 (nq, xd) hn_8 hm_8 _ _ _ hP hS (lv_sub hl [0, 1, 2] rfl)

set_option maxHeartbeats 4000000 in
set_option maxRecDepth 100000 in
theorem kX1_trace (l : Launch) (dC : Nat → ClassId) (dI : Nat → Nat → Nat) (k0 r1 r2 : Nat) (d1 d2 : ClassId) (p a b : Int) (s1 s2 : Int → Int) (sz : Nat) (k : Int) (hcv : gs_cv p a b) (hrk : -2147483648 ≤ k ∧ k < 2147483648) : Met l yX1_trace wsX1_trace ({ frames := 3, cells := 0, slots := 0, locals := 65 }) (zPw (dC, dI) (ww1 k0 r1 r2 d1 d2 p a b s1 s2) (tt1 d1 d2) sz [.ref k0, .int (zI (k))]) (zQwi (dC, dI) (ww1 k0 r1 r2 d1 d2 p a b s1 s2) sz (fun g : Int → Int => ww1 k0 r1 r2 d1 d2 p a b g s2) (fun (r : Int32) (_ : Int → Int) => r = zI (gs_aTrace p a b k))) 0 0 (va_A (ww1 k0 r1 r2 d1 d2 p a b s1 s2) sz) := by
  obtain ⟨hp1, hp2, hpp, ha, hbb, hdd⟩ := id hcv
  have hp : 5 ≤ p ∧ p ≤ 4093 := ⟨hp1, hp2⟩
  have hnl := gs_nLe (a := a) (b := b) hp hpp
  refine Met.ofW (cc := cX1_trace) (maxL := 3) (ret := (some .int)) (by decide) rfl ?_
  intro pp e s m args below meth c s₁ B hml hv
  obtain ⟨rfl, hsz, hP, hK, hD0⟩ := hv
  have hx := B.exec
  have hb := B.bytes
  have hr := B.returns
  have hts := atoms_spec (ws := wsX1_trace) B.pre
  have hown : s.vm.findClass RX1 = some m.cls := findClass_of_methodNamed B.named
  have hlocks := B.notSynchronized
  have hin0 : ∀ w ∈ u_ws RX1 TX1 5, w ∈ wsX1_trace := by decide +kernel
  have hf7 := hts (.fieldLink RX1 7 "CurveDeskModel" "p" "I") (by decide +kernel)
  subst hsz
  have hD := hD0.self (sz := s.heap.size)
  generalize hAe : va_A (ww1 k0 r1 r2 d1 d2 p a b s1 s2) s.heap.size = A at hD ⊢
  have hA : ∀ q : Nat, s.heap.size ≤ q → A q := fun q h => by rw [← hAe]; exact Or.inr h
  have hS : va_S A s.heap s.heap [] := va_S.rf
  have hl := lv_entry ([.ref k0, .int (zI (k))]) (n := 3) (Nat.le_of_ble_eq_true rfl)
  rw [lg_entry_eq]
  generalize (lg_sl ([.ref k0, .int (zI (k))]) ++ List.replicate (3 - (lg_sl ([.ref k0, .int (zI (k))])).length) Slot.unset).toArray = ls at hl ⊢
  have hl : lv_has ls 3 [(0, .ref k0), (1, .int (zI (k)))] := hl
  skip
  refine lv_iload_n hx hb dX1_trace_0 rfl (lv_at hl 1 rfl) ?_
  refine lv_iconst (v := zI 2) hx hb dX1_trace_1 rfl ?_
  refine zz_icmp_lt (tgt := 12) hx hb dX1_trace_2 (by decide) (by omega) ⟨by decide, by decide⟩ (fun hc_1 => ?_) (fun hc_1 => ?_)
  · refine lv_iconst (v := zI (-1)) hx hb dX1_trace_12 rfl ?_
    have hpost : zI ((-1)) = zI (gs_aTrace p a b k) := by
      unfold gs_aTrace
      rw [if_neg (by omega)]
    subst hAe
    exact W.iret (v := zI ((-1))) hx hb hr (fun t ht hW => ⟨⟨_, (s1), rfl, hpost, by rw [ht]; exact hP, hD⟩, hS.F ht⟩) hS.2.2 dX1_trace_13
  · refine lv_iload_n hx hb dX1_trace_5 rfl (lv_at hl 1 rfl) ?_
    refine lv_sipush (v := zI 1000) hx hb dX1_trace_6 (by decide +kernel) ?_
    refine zz_icmp_le (tgt := 14) hx hb dX1_trace_9 (by decide) (by omega) ⟨by decide, by decide⟩ (fun hc_2 => ?_) (fun hc_2 => ?_)
    · refine lv_aload_n hx hb dX1_trace_14 rfl (lv_at hl 0 rfl) ?_
      refine va_get (D := (dC, dI)) (ci := 1) (v := .int (zI (p))) (C := RX1) (T := TX1) (N := 5) hx hb hts hin0 hown hK hP 0 rfl rfl 0 (by decide) hf7 (fun _ h9 => h9) rfl dX1_trace_15 ?_
      refine lv_iconst (v := zI 1) hx hb dX1_trace_18 rfl ?_
      refine zz_iadd hx hb dX1_trace_19 ?_
      refine lv_aload_n hx hb dX1_trace_20 rfl (lv_at hl 0 rfl) ?_
      refine zz_callWi (wr := []) k0 [] [.int (zI (p + 1))] [0, 1, 2] [] ⟨hx, hb, hml, hown, hts⟩ (kX1_count l dC dI k0 r1 r2 d1 d2 p a b s1 s2 s.heap.size  (by omega) (by omega) (by omega)) (cwV 0 hts gX1_trace_X1_count rfl rfl rfl (by decide +kernel) ⟨Nat.le_of_ble_eq_true rfl, Nat.le_of_ble_eq_true rfl⟩) hK 0 rfl rfl rfl hP hD hS hA rfl rfl (by decide) rfl (by decide) (by decide) rfl hl.1 rfl (Nat.le_of_ble_eq_true rfl) dX1_trace_21 ⟨Nat.le_of_ble_eq_true rfl, Nat.le_of_ble_eq_true rfl⟩ (fun r_5 u_3 H locs hw_4 hP hD hS => ?_)
      subst hw_4
      have hP : va_P (dC, dI) vwCl (ww1 k0 r1 r2 d1 d2 p a b u_3 s2) H := hP
      have hD : va_D A (ww1 k0 r1 r2 d1 d2 p a b u_3 s2) := hD
      refine zz_isub hx hb dX1_trace_24 ?_
      refine lv_iload_n hx hb dX1_trace_25 rfl (lv_at hl 1 rfl) ?_
      refine zz_iremT hx hb dX1_trace_26 (by omega) ?_
      refine zz_topi (fun tr etr => ?_)
      refine lv_istore_n (lv' := [(2, .int (zI (tr))), (0, .ref k0), (1, .int (zI (k)))]) hx hb dX1_trace_27 rfl hl (by decide) rfl (fun ls hl => ?_)
      have hmm := Int.tmod_lt_of_pos (p + 1 - gs_n p a b) (show 0 < k by omega)
      have hmn := Int.lt_tmod_of_pos (p + 1 - gs_n p a b) (show 0 < k by omega)
      rw [← etr] at hmm hmn
      refine lv_iload_n hx hb dX1_trace_28 rfl (lv_at hl 0 rfl) ?_
      refine zz_if_ge (tgt := 38) hx hb dX1_trace_29 (by decide) (by omega) (fun hc_6 => ?_) (fun hc_6 => ?_)
      · refine lv_iload_n hx hb dX1_trace_38 rfl (lv_at hl 0 rfl) ?_
        have hpost : zI (tr) = zI (gs_aTrace p a b k) := by
          unfold gs_aTrace
          rw [if_pos (by omega)]
          congr 1
          rw [etr]
          exact zz_fmP (by omega) (by rw [← etr]; omega)
        subst hAe
        exact W.iret (v := zI (tr)) hx hb hr (fun t ht hW => ⟨⟨_, (u_3), rfl, hpost, by rw [ht]; exact hP, hD⟩, hS.F ht⟩) hS.2.2 dX1_trace_39
      · refine lv_iload_n hx hb dX1_trace_32 rfl (lv_at hl 0 rfl) ?_
        refine lv_iload_n hx hb dX1_trace_33 rfl (lv_at hl 2 rfl) ?_
        refine zz_iadd hx hb dX1_trace_34 ?_
        refine lv_goto (tgt := 39) hx hb dX1_trace_35 (by decide) ?_
        have hpost : zI (tr + k) = zI (gs_aTrace p a b k) := by
          unfold gs_aTrace
          rw [if_pos (by omega)]
          congr 1
          rw [etr]
          exact zz_fmN (by omega) (by rw [← etr]; omega)
        subst hAe
        exact W.iret (v := zI (tr + k)) hx hb hr (fun t ht hW => ⟨⟨_, (u_3), rfl, hpost, by rw [ht]; exact hP, hD⟩, hS.F ht⟩) hS.2.2 dX1_trace_39
    · refine lv_iconst (v := zI (-1)) hx hb dX1_trace_12 rfl ?_
      have hpost : zI ((-1)) = zI (gs_aTrace p a b k) := by
        unfold gs_aTrace
        rw [if_neg (by omega)]
      subst hAe
      exact W.iret (v := zI ((-1))) hx hb hr (fun t ht hW => ⟨⟨_, (s1), rfl, hpost, by rw [ht]; exact hP, hD⟩, hS.F ht⟩) hS.2.2 dX1_trace_13

set_option maxHeartbeats 4000000 in
set_option maxRecDepth 100000 in
theorem kX1_roots (l : Launch) (dC : Nat → ClassId) (dI : Nat → Nat → Nat) (k0 r1 r2 : Nat) (d1 d2 : ClassId) (p a b : Int) (s1 s2 : Int → Int) (x : Int) (hp : 5 ≤ p ∧ p ≤ 4093) (ha : 0 ≤ a ∧ a < p) (hbb : 0 ≤ b ∧ b < p) (hrx : -2147483648 ≤ x ∧ x < 2147483648) : Met l yX1_roots wsX1_roots ({ frames := 2, cells := 0, slots := 0, locals := 43 }) (zPc (dC, dI) (ww1 k0 r1 r2 d1 d2 p a b s1 s2) (tt1 d1 d2) [.ref k0, .int (zI (x))]) (zQi (zI (gs_aRoots p a b x))) 0 0 zNo := by
  refine Met.ofW (cc := cX1_roots) (maxL := 4) (ret := (some .int)) (by decide) rfl ?_
  intro pp e s m args below meth c s₁ B hml hv
  obtain ⟨rfl, hP, hK⟩ := hv
  have hx := B.exec
  have hb := B.bytes
  have hr := B.returns
  have hts := atoms_spec (ws := wsX1_roots) B.pre
  have hown : s.vm.findClass RX1 = some m.cls := findClass_of_methodNamed B.named
  have hlocks := B.notSynchronized
  have hin0 : ∀ w ∈ u_ws RX1 TX1 5, w ∈ wsX1_roots := by decide +kernel
  have hf7 := hts (.fieldLink RX1 7 "CurveDeskModel" "p" "I") (by decide +kernel)
  have hS : va_S (fun _ => False) s.heap s.heap [] := va_S.rf
  have hl := lv_entry ([.ref k0, .int (zI (x))]) (n := 4) (Nat.le_of_ble_eq_true rfl)
  rw [lg_entry_eq]
  generalize (lg_sl ([.ref k0, .int (zI (x))]) ++ List.replicate (4 - (lg_sl ([.ref k0, .int (zI (x))])).length) Slot.unset).toArray = ls at hl ⊢
  have hl : lv_has ls 4 [(0, .ref k0), (1, .int (zI (x)))] := hl
  skip
  refine lv_iload_n hx hb dX1_roots_0 rfl (lv_at hl 1 rfl) ?_
  refine zz_if_lt (tgt := 12) hx hb dX1_roots_1 (by decide) (by omega) (fun hc_1 => ?_) (fun hc_1 => ?_)
  · refine lv_iconst (v := zI (-1)) hx hb dX1_roots_12 rfl ?_
    have hpost : ((-1) : Int) = gs_aRoots p a b x := by
      unfold gs_aRoots
      rw [if_neg (by omega)]
    exact W.iret (v := zI ((-1))) hx hb hr (fun t ht hW => ⟨⟨_, (), rfl, congrArg zI hpost, trivial⟩, hS.F ht⟩) hS.2.2 dX1_roots_13
  · refine lv_iload_n hx hb dX1_roots_4 rfl (lv_at hl 1 rfl) ?_
    refine lv_aload_n hx hb dX1_roots_5 rfl (lv_at hl 0 rfl) ?_
    refine va_get (D := (dC, dI)) (ci := 1) (v := .int (zI (p))) (C := RX1) (T := TX1) (N := 5) hx hb hts hin0 hown hK hP 0 rfl rfl 0 (by decide) hf7 (fun _ h9 => h9) rfl dX1_roots_6 ?_
    refine zz_icmp_lt (tgt := 14) hx hb dX1_roots_9 (by decide) (by omega) (by omega) (fun hc_2 => ?_) (fun hc_2 => ?_)
    · refine lv_iconst (v := zI 0) hx hb dX1_roots_14 rfl ?_
      refine lv_istore_n (lv' := [(2, .int (zI (0))), (0, .ref k0), (1, .int (zI (x)))]) hx hb dX1_roots_15 rfl hl (by decide) rfl (fun ls hl => ?_)
      refine lv_iconst (v := zI 0) hx hb dX1_roots_16 rfl ?_
      refine lv_istore_n (lv' := [(3, .int (zI (0))), (2, .int (zI (0))), (0, .ref k0), (1, .int (zI (x)))]) hx hb dX1_roots_17 rfl hl (by decide) rfl (fun ls hl => ?_)
      have hi_18 : 0 ≤ (0 : Int) ∧ (0 : Int) ≤ p ∧ (0 : Int) = (gs_cnt p (gs_rhs a b x % p) ((0 : Int)).toNat : Int) := by
        exact ⟨by omega, by omega, rfl⟩
      refine zz_loopR (σ := Int × Int) (fun zs => 0 ≤ zs.2 ∧ zs.2 ≤ p ∧ zs.1 = (gs_cnt p (gs_rhs a b x % p) (zs.2).toNat : Int)) (fun zs => (p - zs.2).toNat) (fun zs => [(3, .int (zI (zs.2))), (2, .int (zI (zs.1))), (0, .ref k0), (1, .int (zI (x)))]) ?_ (0, 0) hi_18 _ _ _ hP hS (lv_sub hl [0, 1, 2, 3] rfl)
      intro zs hI_18 ih_18 H locs ls hP hS hl
      clear hi_18
      obtain ⟨nc, yc⟩ := zs
      have hI_18 : 0 ≤ yc ∧ yc ≤ p ∧ nc = (gs_cnt p (gs_rhs a b x % p) (yc).toNat : Int) := hI_18
      have hl : lv_has ls 4 [(3, .int (zI (yc))), (2, .int (zI (nc))), (0, .ref k0), (1, .int (zI (x)))] := hl
      have hP : va_P (dC, dI) vwCl (ww1 k0 r1 r2 d1 d2 p a b s1 s2) H := hP
      obtain ⟨i1, i2, i3⟩ := hI_18
      refine lv_iload_n hx hb dX1_roots_18 rfl (lv_at hl 0 rfl) ?_
      refine lv_aload_n hx hb dX1_roots_19 rfl (lv_at hl 2 rfl) ?_
      refine va_get (D := (dC, dI)) (ci := 1) (v := .int (zI (p))) (C := RX1) (T := TX1) (N := 5) hx hb hts hin0 hown hK hP 0 rfl rfl 0 (by decide) hf7 (fun _ h9 => h9) rfl dX1_roots_20 ?_
      refine zz_icmp_ge (tgt := 50) hx hb dX1_roots_23 (by decide) (by omega) (by omega) (fun hc_3 => ?_) (fun hc_3 => ?_)
      · refine lv_iload_n hx hb dX1_roots_50 rfl (lv_at hl 1 rfl) ?_
        have hpost : (nc : Int) = gs_aRoots p a b x := by
          unfold gs_aRoots
          rw [if_pos (by omega), gs_rowLenZ (by omega) (by omega), i3, show yc = p by omega]
        exact W.iret (v := zI (nc)) hx hb hr (fun t ht hW => ⟨⟨_, (), rfl, congrArg zI hpost, trivial⟩, hS.F ht⟩) hS.2.2 dX1_roots_51
      · have h1 := zz_pr (x := yc) (y := yc) (by omega) (by omega)
        have h2 := zz_md (v := yc * yc) (p := p) (by omega)
        have h3 := zz_md (v := gs_rhs a b x) (p := p) (by omega)
        refine lv_aload_n hx hb dX1_roots_26 rfl (lv_at hl 2 rfl) ?_
        refine lv_iload_n hx hb dX1_roots_27 rfl (lv_at hl 0 rfl) ?_
        refine lv_iload_n hx hb dX1_roots_28 rfl (lv_at hl 0 rfl) ?_
        refine zz_imul hx hb dX1_roots_29 ?_
        refine zz_callV k0 [.int (zI (yc * yc))] [] ⟨hx, hb, hml, hown, hts⟩ (kX1_mod l dC dI k0 r1 r2 d1 d2 p a b s1 s2 (yc * yc) (by omega) (by omega)) (cwV 1 hts gX1_roots_X1_mod rfl rfl rfl (by decide +kernel) ⟨Nat.le_of_ble_eq_true rfl, Nat.le_of_ble_eq_true rfl⟩) hK hP 0 rfl rfl rfl hP hS rfl hl.1 rfl (Nat.le_of_ble_eq_true rfl) dX1_roots_30 ⟨Nat.le_of_ble_eq_true rfl, Nat.le_of_ble_eq_true rfl⟩ (fun H locs hP hS => ?_)
        refine lv_aload_n hx hb dX1_roots_33 rfl (lv_at hl 2 rfl) ?_
        refine lv_iload_n hx hb dX1_roots_34 rfl (lv_at hl 3 rfl) ?_
        refine zz_callV k0 [.int (zI (x))] [.int (zI ((yc * yc) % p))] ⟨hx, hb, hml, hown, hts⟩ (kX1_right l dC dI k0 r1 r2 d1 d2 p a b s1 s2 x (by omega) (by omega) (by omega) (by omega)) (cwV 1 hts gX1_roots_X1_right rfl rfl rfl (by decide +kernel) ⟨Nat.le_of_ble_eq_true rfl, Nat.le_of_ble_eq_true rfl⟩) hK hP 0 rfl rfl rfl hP hS rfl hl.1 rfl (Nat.le_of_ble_eq_true rfl) dX1_roots_35 ⟨Nat.le_of_ble_eq_true rfl, Nat.le_of_ble_eq_true rfl⟩ (fun H locs hP hS => ?_)
        refine zz_icmp_ne (tgt := 44) hx hb dX1_roots_38 (by decide) (by omega) (by omega) (fun hc_4 => ?_) (fun hc_4 => ?_)
        · have hne := hc_4
          obtain ⟨yd, eyd⟩ : ∃ y : Int, y = yc + 1 := ⟨_, rfl⟩
          refine zz_iinc (v := yd) (lv' := [(3, .int (zI (yd))), (2, .int (zI (nc))), (0, .ref k0), (1, .int (zI (x)))]) hx hb dX1_roots_44 hl (k := 0) rfl eyd (by decide) rfl (fun ls hl => ?_)
          refine lv_goto (tgt := 18) hx hb dX1_roots_47 (by decide) ?_
          have hn_18 : 0 ≤ yd ∧ yd ≤ p ∧ nc = (gs_cnt p (gs_rhs a b x % p) (yd).toNat : Int) := by
            refine ⟨by omega, by omega, ?_⟩
            rw [eyd, gs_cntFz i1 hne]
            exact i3
          have hm_18 : (p - yd).toNat < (p - yc).toNat := by
            omega
          exact ih_18 (nc, yd) hn_18 hm_18 _ _ _ hP hS (lv_sub hl [0, 1, 2, 3] rfl)
        · have heq := hc_4
          obtain ⟨nq, enq⟩ : ∃ y : Int, y = nc + 1 := ⟨_, rfl⟩
          refine zz_iinc (v := nq) (lv' := [(2, .int (zI (nq))), (3, .int (zI (yc))), (0, .ref k0), (1, .int (zI (x)))]) hx hb dX1_roots_41 hl (k := 1) rfl enq (by decide) rfl (fun ls hl => ?_)
          obtain ⟨yd, eyd⟩ : ∃ y : Int, y = yc + 1 := ⟨_, rfl⟩
          refine zz_iinc (v := yd) (lv' := [(3, .int (zI (yd))), (2, .int (zI (nq))), (0, .ref k0), (1, .int (zI (x)))]) hx hb dX1_roots_44 hl (k := 1) rfl eyd (by decide) rfl (fun ls hl => ?_)
          refine lv_goto (tgt := 18) hx hb dX1_roots_47 (by decide) ?_
          have hn_18 : 0 ≤ yd ∧ yd ≤ p ∧ nq = (gs_cnt p (gs_rhs a b x % p) (yd).toNat : Int) := by
            refine ⟨by omega, by omega, ?_⟩
            rw [eyd, gs_cntTz i1 heq]
            omega
          have hm_18 : (p - yd).toNat < (p - yc).toNat := by
            omega
          exact ih_18 (nq, yd) hn_18 hm_18 _ _ _ hP hS (lv_sub hl [0, 1, 2, 3] rfl)
    · refine lv_iconst (v := zI (-1)) hx hb dX1_roots_12 rfl ?_
      have hpost : ((-1) : Int) = gs_aRoots p a b x := by
        unfold gs_aRoots
        rw [if_neg (by omega)]
      exact W.iret (v := zI ((-1))) hx hb hr (fun t ht hW => ⟨⟨_, (), rfl, congrArg zI hpost, trivial⟩, hS.F ht⟩) hS.2.2 dX1_roots_13

set_option maxHeartbeats 4000000 in
set_option maxRecDepth 100000 in
theorem kX1_point (l : Launch) (dC : Nat → ClassId) (dI : Nat → Nat → Nat) (k0 r1 r2 : Nat) (d1 d2 : ClassId) (p a b : Int) (s1 s2 : Int → Int) (sz : Nat) (k : Int) (hp : 5 ≤ p ∧ p ≤ 4093) (ha : 0 ≤ a ∧ a < p) (hbb : 0 ≤ b ∧ b < p) (hrk : -2147483648 ≤ k ∧ k < 2147483648) : Met l yX1_point wsX1_point ({ frames := 2, cells := 0, slots := 0, locals := 43 }) (zPw (dC, dI) (ww1 k0 r1 r2 d1 d2 p a b s1 s2) (tt1 d1 d2) sz [.ref k0, .int (zI (k))]) (zQwi (dC, dI) (ww1 k0 r1 r2 d1 d2 p a b s1 s2) sz (fun g : Int → Int => ww1 k0 r1 r2 d1 d2 p a b g s2) (fun (r : Int32) (_ : Int → Int) => r = zI (gs_aPoint p a b k))) 0 0 (va_A (ww1 k0 r1 r2 d1 d2 p a b s1 s2) sz) := by
  refine Met.ofW (cc := cX1_point) (maxL := 6) (ret := (some .int)) (by decide) rfl ?_
  intro pp e s m args below meth c s₁ B hml hv
  obtain ⟨rfl, hsz, hP, hK, hD0⟩ := hv
  have hx := B.exec
  have hb := B.bytes
  have hr := B.returns
  have hts := atoms_spec (ws := wsX1_point) B.pre
  have hown : s.vm.findClass RX1 = some m.cls := findClass_of_methodNamed B.named
  have hlocks := B.notSynchronized
  have hin0 : ∀ w ∈ u_ws RX1 TX1 5, w ∈ wsX1_point := by decide +kernel
  have hf7 := hts (.fieldLink RX1 7 "CurveDeskModel" "p" "I") (by decide +kernel)
  have hf19 := hts (.fieldLink RX1 19 "CurveDeskModel" "squares" "[I") (by decide +kernel)
  subst hsz
  have hD := hD0.self (sz := s.heap.size)
  generalize hAe : va_A (ww1 k0 r1 r2 d1 d2 p a b s1 s2) s.heap.size = A at hD ⊢
  have hA : ∀ q : Nat, s.heap.size ≤ q → A q := fun q h => by rw [← hAe]; exact Or.inr h
  have hS : va_S A s.heap s.heap [] := va_S.rf
  have hl := lv_entry ([.ref k0, .int (zI (k))]) (n := 6) (Nat.le_of_ble_eq_true rfl)
  rw [lg_entry_eq]
  generalize (lg_sl ([.ref k0, .int (zI (k))]) ++ List.replicate (6 - (lg_sl ([.ref k0, .int (zI (k))])).length) Slot.unset).toArray = ls at hl ⊢
  have hl : lv_has ls 6 [(0, .ref k0), (1, .int (zI (k)))] := hl
  skip
  refine lv_iload_n hx hb dX1_point_0 rfl (lv_at hl 1 rfl) ?_
  refine zz_if_ge (tgt := 7) hx hb dX1_point_1 (by decide) (by omega) (fun hc_1 => ?_) (fun hc_1 => ?_)
  · refine lv_aload_n hx hb dX1_point_7 rfl (lv_at hl 0 rfl) ?_
    refine zz_callWv (wr := []) k0 [] [] [0, 1, 2] [] ⟨hx, hb, hml, hown, hts⟩ (kX1_tell l dC dI k0 r1 r2 d1 d2 p a b s1 s2 s.heap.size  (by omega)) (cwV 0 hts gX1_point_X1_tell rfl rfl rfl (by decide +kernel) ⟨Nat.le_of_ble_eq_true rfl, Nat.le_of_ble_eq_true rfl⟩) hK 0 rfl rfl rfl hP hD hS hA rfl rfl (by decide) rfl (by decide) (by decide) rfl hl.1 rfl (Nat.le_of_ble_eq_true rfl) dX1_point_8 ⟨Nat.le_of_ble_eq_true rfl, Nat.le_of_ble_eq_true rfl⟩ (fun u_2 H locs hw_3 hP hD hS => ?_)
    have hP : va_P (dC, dI) vwCl (ww1 k0 r1 r2 d1 d2 p a b u_2 s2) H := hP
    have hD : va_D A (ww1 k0 r1 r2 d1 d2 p a b u_2 s2) := hD
    have hsq := hw_3
    refine lv_iload_n hx hb dX1_point_11 rfl (lv_at hl 1 rfl) ?_
    refine lv_istore_n (lv' := [(2, .int (zI (k))), (0, .ref k0), (1, .int (zI (k)))]) hx hb dX1_point_12 rfl hl (by decide) rfl (fun ls hl => ?_)
    refine lv_iconst (v := zI 0) hx hb dX1_point_13 rfl ?_
    refine lv_istore_n (lv' := [(3, .int (zI (0))), (2, .int (zI (k))), (0, .ref k0), (1, .int (zI (k)))]) hx hb dX1_point_14 rfl hl (by decide) rfl (fun ls hl => ?_)
    have hi_15 : 0 ≤ (0 : Int) ∧ (0 : Int) ≤ p ∧ 0 ≤ k ∧ k ≤ k ∧ k = k + ((gs_pre p.toNat a b ((0 : Int)).toNat).length : Int) := by
      exact ⟨by omega, by omega, by omega, by omega, (Int.add_zero k).symm⟩
    refine zz_loopR (σ := Int × Int) (fun zs => 0 ≤ zs.2 ∧ zs.2 ≤ p ∧ 0 ≤ zs.1 ∧ zs.1 ≤ k ∧ k = zs.1 + ((gs_pre p.toNat a b (zs.2).toNat).length : Int)) (fun zs => (p - zs.2).toNat) (fun zs => [(3, .int (zI (zs.2))), (2, .int (zI (zs.1))), (0, .ref k0), (1, .int (zI (k)))]) ?_ (k, 0) hi_15 _ _ _ hP hS (lv_sub hl [0, 1, 2, 3] rfl)
    intro zs hI_15 ih_15 H locs ls hP hS hl
    clear hi_15
    obtain ⟨lc, xc⟩ := zs
    have hI_15 : 0 ≤ xc ∧ xc ≤ p ∧ 0 ≤ lc ∧ lc ≤ k ∧ k = lc + ((gs_pre p.toNat a b (xc).toNat).length : Int) := hI_15
    have hl : lv_has ls 6 [(3, .int (zI (xc))), (2, .int (zI (lc))), (0, .ref k0), (1, .int (zI (k)))] := hl
    have hP : va_P (dC, dI) vwCl (ww1 k0 r1 r2 d1 d2 p a b u_2 s2) H := hP
    obtain ⟨i1, i2, i4, i5, i3⟩ := hI_15
    refine lv_iload_n hx hb dX1_point_15 rfl (lv_at hl 0 rfl) ?_
    refine lv_aload_n hx hb dX1_point_16 rfl (lv_at hl 2 rfl) ?_
    refine va_get (D := (dC, dI)) (ci := 1) (v := .int (zI (p))) (C := RX1) (T := TX1) (N := 5) hx hb hts hin0 hown hK hP 0 rfl rfl 0 (by decide) hf7 (fun _ h9 => h9) rfl dX1_point_17 ?_
    refine zz_icmp_ge (tgt := 111) hx hb dX1_point_20 (by decide) (by omega) (by omega) (fun hc_5 => ?_) (fun hc_5 => ?_)
    · refine lv_iload_n hx hb dX1_point_111 rfl (lv_at hl 1 rfl) ?_
      refine zz_if_ne (tgt := 119) hx hb dX1_point_112 (by decide) (by omega) (fun hc_6 => ?_) (fun hc_6 => ?_)
      · refine lv_bipush (v := zI (-2)) hx hb dX1_point_119 (by decide +kernel) ?_
        have hpost : zI ((-2)) = zI (gs_aPoint p a b k) := by
          congr 1
          exact (gs_ptOut hp.1 (by omega) i3 i4 (by omega)).symm
        subst hAe
        exact W.iret (v := zI ((-2))) hx hb hr (fun t ht hW => ⟨⟨_, (u_2), rfl, hpost, by rw [ht]; exact hP, hD⟩, hS.F ht⟩) hS.2.2 dX1_point_121
      · refine lv_iconst (v := zI (-1)) hx hb dX1_point_115 rfl ?_
        refine lv_goto (tgt := 121) hx hb dX1_point_116 (by decide) ?_
        have hpost : zI ((-1)) = zI (gs_aPoint p a b k) := by
          congr 1
          exact (gs_ptEnd hp (by omega) i3 (by omega)).symm
        subst hAe
        exact W.iret (v := zI ((-1))) hx hb hr (fun t ht hW => ⟨⟨_, (u_2), rfl, hpost, by rw [ht]; exact hP, hD⟩, hS.F ht⟩) hS.2.2 dX1_point_121
    · have h1 := zz_md (v := gs_rhs a b xc) (p := p) (by omega)
      refine lv_aload_n hx hb dX1_point_23 rfl (lv_at hl 2 rfl) ?_
      refine lv_iload_n hx hb dX1_point_24 rfl (lv_at hl 0 rfl) ?_
      refine zz_callV k0 [.int (zI (xc))] [] ⟨hx, hb, hml, hown, hts⟩ (kX1_right l dC dI k0 r1 r2 d1 d2 p a b u_2 s2 xc (by omega) (by omega) (by omega) (by omega)) (cwV 1 hts gX1_point_X1_right rfl rfl rfl (by decide +kernel) ⟨Nat.le_of_ble_eq_true rfl, Nat.le_of_ble_eq_true rfl⟩) hK hP 0 rfl rfl rfl hP hS rfl hl.1 rfl (Nat.le_of_ble_eq_true rfl) dX1_point_25 ⟨Nat.le_of_ble_eq_true rfl, Nat.le_of_ble_eq_true rfl⟩ (fun H locs hP hS => ?_)
      refine zz_topi (fun rh erh => ?_)
      refine lv_istore (lv' := [(4, .int (zI (rh))), (3, .int (zI (xc))), (2, .int (zI (lc))), (0, .ref k0), (1, .int (zI (k)))]) hx hb dX1_point_28 hl (by decide) rfl (fun ls hl => ?_)
      rw [← erh] at h1
      have h2 := hsq rh h1.1 h1.2
      have h3 := gs_cntLe p rh p.toNat
      have h7 := gs_rowLenZ (p := p) (a := a) (b := b) (x := xc) (by omega) i1
      have h8 := gs_preSz (p := p) (a := a) (b := b) (x := xc) i1
      rw [← erh] at h7
      refine lv_iload_n hx hb dX1_point_30 rfl (lv_at hl 2 rfl) ?_
      refine lv_aload_n hx hb dX1_point_31 rfl (lv_at hl 3 rfl) ?_
      refine va_get (D := (dC, dI)) (ci := 1) (v := .ref r1) (C := RX1) (T := TX1) (N := 5) hx hb hts hin0 hown hK hP 0 rfl rfl 3 (by decide) hf19 (fun _ h9 => h9) rfl dX1_point_32 ?_
      refine lv_iload hx hb dX1_point_35 (lv_at hl 0 rfl) ?_
      refine zz_iald (g := u_2) hx hb hK hP 1 0 rfl rfl (by omega) dX1_point_37 ?_
      refine zz_icmp_lt (tgt := 54) hx hb dX1_point_38 (by decide) (by omega) (by omega) (fun hc_7 => ?_) (fun hc_7 => ?_)
      · refine lv_iconst (v := zI 0) hx hb dX1_point_54 rfl ?_
        refine lv_istore (lv' := [(5, .int (zI (0))), (4, .int (zI (rh))), (3, .int (zI (xc))), (2, .int (zI (lc))), (0, .ref k0), (1, .int (zI (k)))]) hx hb dX1_point_55 hl (by decide) rfl (fun ls hl => ?_)
        have hi_57 : 0 ≤ (0 : Int) ∧ (0 : Int) ≤ p ∧ lc = lc - (gs_cnt p rh ((0 : Int)).toNat : Int) ∧ 0 ≤ lc := by
          exact ⟨by omega, by omega, (Int.sub_zero lc).symm, by omega⟩
        refine zz_loopR (σ := Int × Int) (fun zs => 0 ≤ zs.2 ∧ zs.2 ≤ p ∧ zs.1 = lc - (gs_cnt p rh (zs.2).toNat : Int) ∧ 0 ≤ zs.1) (fun zs => (p - zs.2).toNat) (fun zs => [(5, .int (zI (zs.2))), (4, .int (zI (rh))), (3, .int (zI (xc))), (2, .int (zI (zs.1))), (0, .ref k0), (1, .int (zI (k)))]) ?_ (lc, 0) hi_57 _ _ _ hP hS (lv_sub hl [0, 1, 2, 3, 4, 5] rfl)
        intro zs hI_57 ih_57 H locs ls hP hS hl
        clear hi_57
        obtain ⟨ld, yc⟩ := zs
        have hI_57 : 0 ≤ yc ∧ yc ≤ p ∧ ld = lc - (gs_cnt p rh (yc).toNat : Int) ∧ 0 ≤ ld := hI_57
        have hl : lv_has ls 6 [(5, .int (zI (yc))), (4, .int (zI (rh))), (3, .int (zI (xc))), (2, .int (zI (ld))), (0, .ref k0), (1, .int (zI (k)))] := hl
        have hP : va_P (dC, dI) vwCl (ww1 k0 r1 r2 d1 d2 p a b u_2 s2) H := hP
        obtain ⟨j1, j2, j3, j4⟩ := hI_57
        refine lv_iload hx hb dX1_point_57 (lv_at hl 0 rfl) ?_
        refine lv_aload_n hx hb dX1_point_59 rfl (lv_at hl 4 rfl) ?_
        refine va_get (D := (dC, dI)) (ci := 1) (v := .int (zI (p))) (C := RX1) (T := TX1) (N := 5) hx hb hts hin0 hown hK hP 0 rfl rfl 0 (by decide) hf7 (fun _ h9 => h9) rfl dX1_point_60 ?_
        refine zz_icmp_ge (tgt := 105) hx hb dX1_point_63 (by decide) (by omega) (by omega) (fun hc_8 => ?_) (fun hc_8 => ?_)
        · exfalso
          rw [show yc = p by omega] at j3
          omega
        · have h4 := zz_pr (x := yc) (y := yc) (by omega) (by omega)
          have h5 := zz_md (v := yc * yc) (p := p) (by omega)
          refine lv_aload_n hx hb dX1_point_66 rfl (lv_at hl 4 rfl) ?_
          refine lv_iload hx hb dX1_point_67 (lv_at hl 0 rfl) ?_
          refine lv_iload hx hb dX1_point_69 (lv_at hl 0 rfl) ?_
          refine zz_imul hx hb dX1_point_71 ?_
          refine zz_callV k0 [.int (zI (yc * yc))] [] ⟨hx, hb, hml, hown, hts⟩ (kX1_mod l dC dI k0 r1 r2 d1 d2 p a b u_2 s2 (yc * yc) (by omega) (by omega)) (cwV 1 hts gX1_point_X1_mod rfl rfl rfl (by decide +kernel) ⟨Nat.le_of_ble_eq_true rfl, Nat.le_of_ble_eq_true rfl⟩) hK hP 0 rfl rfl rfl hP hS rfl hl.1 rfl (Nat.le_of_ble_eq_true rfl) dX1_point_72 ⟨Nat.le_of_ble_eq_true rfl, Nat.le_of_ble_eq_true rfl⟩ (fun H locs hP hS => ?_)
          refine lv_iload hx hb dX1_point_75 (lv_at hl 1 rfl) ?_
          refine zz_icmp_eq (tgt := 83) hx hb dX1_point_77 (by decide) (by omega) (by omega) (fun hc_9 => ?_) (fun hc_9 => ?_)
          · have heq := hc_9
            refine lv_iload_n hx hb dX1_point_83 rfl (lv_at hl 3 rfl) ?_
            refine zz_if_ne (tgt := 96) hx hb dX1_point_84 (by decide) (by omega) (fun hc_10 => ?_) (fun hc_10 => ?_)
            · obtain ⟨lf, elf⟩ : ∃ y : Int, y = ld + (-1) := ⟨_, rfl⟩
              refine zz_iinc (v := lf) (lv' := [(2, .int (zI (lf))), (5, .int (zI (yc))), (4, .int (zI (rh))), (3, .int (zI (xc))), (0, .ref k0), (1, .int (zI (k)))]) hx hb dX1_point_96 hl (k := 3) rfl elf (by decide) rfl (fun ls hl => ?_)
              obtain ⟨yd, eyd⟩ : ∃ y : Int, y = yc + 1 := ⟨_, rfl⟩
              refine zz_iinc (v := yd) (lv' := [(5, .int (zI (yd))), (2, .int (zI (lf))), (4, .int (zI (rh))), (3, .int (zI (xc))), (0, .ref k0), (1, .int (zI (k)))]) hx hb dX1_point_99 hl (k := 1) rfl eyd (by decide) rfl (fun ls hl => ?_)
              refine lv_goto (tgt := 57) hx hb dX1_point_102 (by decide) ?_
              have hn_57 : 0 ≤ yd ∧ yd ≤ p ∧ lf = lc - (gs_cnt p rh (yd).toNat : Int) ∧ 0 ≤ lf := by
                refine ⟨by omega, by omega, ?_, by omega⟩
                rw [eyd, gs_cntTz j1 heq]
                omega
              have hm_57 : (p - yd).toNat < (p - yc).toNat := by
                omega
              exact ih_57 (lf, yd) hn_57 hm_57 _ _ _ hP hS (lv_sub hl [0, 2, 3, 1, 4, 5] rfl)
            · refine lv_sipush (v := zI 4096) hx hb dX1_point_87 (by decide +kernel) ?_
              refine lv_iload_n hx hb dX1_point_90 rfl (lv_at hl 2 rfl) ?_
              refine zz_imul hx hb dX1_point_91 ?_
              refine lv_iload hx hb dX1_point_92 (lv_at hl 0 rfl) ?_
              refine zz_iadd hx hb dX1_point_94 ?_
              have hpost : zI ((4096 * xc) + yc) = zI (gs_aPoint p a b k) := by
                congr 1
                refine (gs_ptAt hp (by omega) (by omega) (by rw [← erh]; exact heq) ?_ ?_).symm
                · rw [← erh]; omega
                · rw [← erh]; omega
              subst hAe
              exact W.iret (v := zI ((4096 * xc) + yc)) hx hb hr (fun t ht hW => ⟨⟨_, (u_2), rfl, hpost, by rw [ht]; exact hP, hD⟩, hS.F ht⟩) hS.2.2 dX1_point_95
          · have hne := hc_9
            refine lv_goto (tgt := 99) hx hb dX1_point_80 (by decide) ?_
            obtain ⟨yd, eyd⟩ : ∃ y : Int, y = yc + 1 := ⟨_, rfl⟩
            refine zz_iinc (v := yd) (lv' := [(5, .int (zI (yd))), (4, .int (zI (rh))), (3, .int (zI (xc))), (2, .int (zI (ld))), (0, .ref k0), (1, .int (zI (k)))]) hx hb dX1_point_99 hl (k := 0) rfl eyd (by decide) rfl (fun ls hl => ?_)
            refine lv_goto (tgt := 57) hx hb dX1_point_102 (by decide) ?_
            have hn_57 : 0 ≤ yd ∧ yd ≤ p ∧ ld = lc - (gs_cnt p rh (yd).toNat : Int) ∧ 0 ≤ ld := by
              refine ⟨by omega, by omega, ?_, by omega⟩
              rw [eyd, gs_cntFz j1 hne]
              exact j3
            have hm_57 : (p - yd).toNat < (p - yc).toNat := by
              omega
            exact ih_57 (ld, yd) hn_57 hm_57 _ _ _ hP hS (lv_sub hl [0, 1, 2, 3, 4, 5] rfl)
      · refine lv_iload_n hx hb dX1_point_41 rfl (lv_at hl 2 rfl) ?_
        refine lv_aload_n hx hb dX1_point_42 rfl (lv_at hl 3 rfl) ?_
        refine va_get (D := (dC, dI)) (ci := 1) (v := .ref r1) (C := RX1) (T := TX1) (N := 5) hx hb hts hin0 hown hK hP 0 rfl rfl 3 (by decide) hf19 (fun _ h9 => h9) rfl dX1_point_43 ?_
        refine lv_iload hx hb dX1_point_46 (lv_at hl 0 rfl) ?_
        refine zz_iald (g := u_2) hx hb hK hP 1 0 rfl rfl (by omega) dX1_point_48 ?_
        refine zz_isub hx hb dX1_point_49 ?_
        refine zz_topi (fun le ele => ?_)
        refine lv_istore_n (lv' := [(2, .int (zI (le))), (4, .int (zI (rh))), (3, .int (zI (xc))), (0, .ref k0), (1, .int (zI (k)))]) hx hb dX1_point_50 rfl hl (by decide) rfl (fun ls hl => ?_)
        refine lv_goto (tgt := 105) hx hb dX1_point_51 (by decide) ?_
        obtain ⟨xd, exd⟩ : ∃ y : Int, y = xc + 1 := ⟨_, rfl⟩
        refine zz_iinc (v := xd) (lv' := [(3, .int (zI (xd))), (2, .int (zI (le))), (4, .int (zI (rh))), (0, .ref k0), (1, .int (zI (k)))]) hx hb dX1_point_105 hl (k := 2) rfl exd (by decide) rfl (fun ls hl => ?_)
        refine lv_goto (tgt := 15) hx hb dX1_point_108 (by decide) ?_
        have hn_15 : 0 ≤ xd ∧ xd ≤ p ∧ 0 ≤ le ∧ le ≤ k ∧ k = le + ((gs_pre p.toNat a b (xd).toNat).length : Int) := by
          refine ⟨by omega, by omega, by omega, by omega, ?_⟩
          rw [exd]
          omega
        have hm_15 : (p - xd).toNat < (p - xc).toNat := by
          omega
        exact ih_15 (le, xd) hn_15 hm_15 _ _ _ hP hS (lv_sub hl [0, 1, 3, 4] rfl)
  · refine lv_bipush (v := zI (-2)) hx hb dX1_point_4 (by decide +kernel) ?_
    have hpost : zI ((-2)) = zI (gs_aPoint p a b k) := by
      unfold gs_aPoint
      rw [if_neg (by omega)]
    subst hAe
    exact W.iret (v := zI ((-2))) hx hb hr (fun t ht hW => ⟨⟨_, (s1), rfl, hpost, by rw [ht]; exact hP, hD⟩, hS.F ht⟩) hS.2.2 dX1_point_6

set_option maxHeartbeats 4000000 in
set_option maxRecDepth 100000 in
theorem kX1_on (l : Launch) (dC : Nat → ClassId) (dI : Nat → Nat → Nat) (k0 r1 r2 : Nat) (d1 d2 : ClassId) (p a b : Int) (s1 s2 : Int → Int) (u : Int) (hp : 5 ≤ p ∧ p ≤ 4093) (ha : 0 ≤ a ∧ a < p) (hbb : 0 ≤ b ∧ b < p) (hru : -2147483648 ≤ u ∧ u < 2147483648) : Met l yX1_on wsX1_on ({ frames := 2, cells := 0, slots := 0, locals := 43 }) (zPc (dC, dI) (ww1 k0 r1 r2 d1 d2 p a b s1 s2) (tt1 d1 d2) [.ref k0, .int (zI (u))]) (zQi (zI (zB (gs_ok p a b u)))) 0 0 zNo := by
  refine Met.ofW (cc := cX1_on) (maxL := 4) (ret := (some .boolean)) (by decide) rfl ?_
  intro pp e s m args below meth c s₁ B hml hv
  obtain ⟨rfl, hP, hK⟩ := hv
  have hx := B.exec
  have hb := B.bytes
  have hr := B.returns
  have hts := atoms_spec (ws := wsX1_on) B.pre
  have hown : s.vm.findClass RX1 = some m.cls := findClass_of_methodNamed B.named
  have hlocks := B.notSynchronized
  have hin0 : ∀ w ∈ u_ws RX1 TX1 5, w ∈ wsX1_on := by decide +kernel
  have hf7 := hts (.fieldLink RX1 7 "CurveDeskModel" "p" "I") (by decide +kernel)
  have hS : va_S (fun _ => False) s.heap s.heap [] := va_S.rf
  have hl := lv_entry ([.ref k0, .int (zI (u))]) (n := 4) (Nat.le_of_ble_eq_true rfl)
  rw [lg_entry_eq]
  generalize (lg_sl ([.ref k0, .int (zI (u))]) ++ List.replicate (4 - (lg_sl ([.ref k0, .int (zI (u))])).length) Slot.unset).toArray = ls at hl ⊢
  have hl : lv_has ls 4 [(0, .ref k0), (1, .int (zI (u)))] := hl
  skip
  refine lv_iload_n hx hb dX1_on_0 rfl (lv_at hl 1 rfl) ?_
  refine zz_if_ge (tgt := 15) hx hb dX1_on_1 (by decide) (by omega) (fun hc_1 => ?_) (fun hc_1 => ?_)
  · refine lv_iload_n hx hb dX1_on_15 rfl (lv_at hl 1 rfl) ?_
    refine lv_sipush (v := zI 4096) hx hb dX1_on_16 (by decide +kernel) ?_
    refine zz_idiv hx hb dX1_on_19 (by omega) ?_
    refine zz_topi (fun px epx => ?_)
    refine lv_istore_n (lv' := [(2, .int (zI (px))), (0, .ref k0), (1, .int (zI (u)))]) hx hb dX1_on_20 rfl hl (by decide) rfl (fun ls hl => ?_)
    refine lv_iload_n hx hb dX1_on_21 rfl (lv_at hl 2 rfl) ?_
    refine lv_sipush (v := zI 4096) hx hb dX1_on_22 (by decide +kernel) ?_
    refine zz_irem hx hb dX1_on_25 (by omega) ?_
    refine zz_topi (fun py epy => ?_)
    refine lv_istore_n (lv' := [(3, .int (zI (py))), (2, .int (zI (px))), (0, .ref k0), (1, .int (zI (u)))]) hx hb dX1_on_26 rfl hl (by decide) rfl (fun ls hl => ?_)
    refine lv_iload_n hx hb dX1_on_27 rfl (lv_at hl 1 rfl) ?_
    refine lv_aload_n hx hb dX1_on_28 rfl (lv_at hl 2 rfl) ?_
    refine va_get (D := (dC, dI)) (ci := 1) (v := .int (zI (p))) (C := RX1) (T := TX1) (N := 5) hx hb hts hin0 hown hK hP 0 rfl rfl 0 (by decide) hf7 (fun _ h9 => h9) rfl dX1_on_29 ?_
    refine zz_icmp_ge (tgt := 62) hx hb dX1_on_32 (by decide) (by omega) (by omega) (fun hc_2 => ?_) (fun hc_2 => ?_)
    · refine lv_iconst (v := zI 0) hx hb dX1_on_62 rfl ?_
      have hpost : (0 : Int) = zB (gs_ok p a b u) := by
        refine (zB_F (fun h => ?_)).symm
        rcases h with h | h
        · omega
        · rw [← epx, ← epy] at h
          omega
      exact W.zret (v := zI (0)) hx hb hr rfl (fun t ht hW => ⟨⟨_, (), rfl, congrArg zI hpost, trivial⟩, hS.F ht⟩) hS.2.2 dX1_on_63
    · refine lv_iload_n hx hb dX1_on_35 rfl (lv_at hl 0 rfl) ?_
      refine lv_aload_n hx hb dX1_on_36 rfl (lv_at hl 2 rfl) ?_
      refine va_get (D := (dC, dI)) (ci := 1) (v := .int (zI (p))) (C := RX1) (T := TX1) (N := 5) hx hb hts hin0 hown hK hP 0 rfl rfl 0 (by decide) hf7 (fun _ h9 => h9) rfl dX1_on_37 ?_
      refine zz_icmp_ge (tgt := 62) hx hb dX1_on_40 (by decide) (by omega) (by omega) (fun hc_3 => ?_) (fun hc_3 => ?_)
      · refine lv_iconst (v := zI 0) hx hb dX1_on_62 rfl ?_
        have hpost : (0 : Int) = zB (gs_ok p a b u) := by
          refine (zB_F (fun h => ?_)).symm
          rcases h with h | h
          · omega
          · rw [← epx, ← epy] at h
            omega
        exact W.zret (v := zI (0)) hx hb hr rfl (fun t ht hW => ⟨⟨_, (), rfl, congrArg zI hpost, trivial⟩, hS.F ht⟩) hS.2.2 dX1_on_63
      · have h1 := zz_pr (x := py) (y := py) (by omega) (by omega)
        have h2 := zz_md (v := py * py) (p := p) (by omega)
        have h3 := zz_md (v := gs_rhs a b px) (p := p) (by omega)
        refine lv_aload_n hx hb dX1_on_43 rfl (lv_at hl 2 rfl) ?_
        refine lv_iload_n hx hb dX1_on_44 rfl (lv_at hl 0 rfl) ?_
        refine lv_iload_n hx hb dX1_on_45 rfl (lv_at hl 0 rfl) ?_
        refine zz_imul hx hb dX1_on_46 ?_
        refine zz_callV k0 [.int (zI (py * py))] [] ⟨hx, hb, hml, hown, hts⟩ (kX1_mod l dC dI k0 r1 r2 d1 d2 p a b s1 s2 (py * py) (by omega) (by omega)) (cwV 1 hts gX1_on_X1_mod rfl rfl rfl (by decide +kernel) ⟨Nat.le_of_ble_eq_true rfl, Nat.le_of_ble_eq_true rfl⟩) hK hP 0 rfl rfl rfl hP hS rfl hl.1 rfl (Nat.le_of_ble_eq_true rfl) dX1_on_47 ⟨Nat.le_of_ble_eq_true rfl, Nat.le_of_ble_eq_true rfl⟩ (fun H locs hP hS => ?_)
        refine lv_aload_n hx hb dX1_on_50 rfl (lv_at hl 2 rfl) ?_
        refine lv_iload_n hx hb dX1_on_51 rfl (lv_at hl 1 rfl) ?_
        refine zz_callV k0 [.int (zI (px))] [.int (zI ((py * py) % p))] ⟨hx, hb, hml, hown, hts⟩ (kX1_right l dC dI k0 r1 r2 d1 d2 p a b s1 s2 px (by omega) (by omega) (by omega) (by omega)) (cwV 1 hts gX1_on_X1_right rfl rfl rfl (by decide +kernel) ⟨Nat.le_of_ble_eq_true rfl, Nat.le_of_ble_eq_true rfl⟩) hK hP 0 rfl rfl rfl hP hS rfl hl.1 rfl (Nat.le_of_ble_eq_true rfl) dX1_on_52 ⟨Nat.le_of_ble_eq_true rfl, Nat.le_of_ble_eq_true rfl⟩ (fun H locs hP hS => ?_)
        refine zz_icmp_ne (tgt := 62) hx hb dX1_on_55 (by decide) (by omega) (by omega) (fun hc_4 => ?_) (fun hc_4 => ?_)
        · have hne := hc_4
          refine lv_iconst (v := zI 0) hx hb dX1_on_62 rfl ?_
          have hpost : (0 : Int) = zB (gs_ok p a b u) := by
            refine (zB_F (fun h => ?_)).symm
            rcases h with h | h
            · omega
            · rw [← epx, ← epy] at h
              exact hne h.2.2.2
          exact W.zret (v := zI (0)) hx hb hr rfl (fun t ht hW => ⟨⟨_, (), rfl, congrArg zI hpost, trivial⟩, hS.F ht⟩) hS.2.2 dX1_on_63
        · have heq := hc_4
          refine lv_iconst (v := zI 1) hx hb dX1_on_58 rfl ?_
          refine lv_goto (tgt := 63) hx hb dX1_on_59 (by decide) ?_
          have hpost : (1 : Int) = zB (gs_ok p a b u) := by
            refine (zB_T (Or.inr ⟨by omega, by omega, by omega, ?_⟩)).symm
            rw [← epx, ← epy]
            exact heq
          exact W.zret (v := zI (1)) hx hb hr rfl (fun t ht hW => ⟨⟨_, (), rfl, congrArg zI hpost, trivial⟩, hS.F ht⟩) hS.2.2 dX1_on_63
  · refine lv_iload_n hx hb dX1_on_4 rfl (lv_at hl 1 rfl) ?_
    refine lv_iconst (v := zI (-1)) hx hb dX1_on_5 rfl ?_
    refine zz_icmp_ne (tgt := 13) hx hb dX1_on_6 (by decide) (by omega) ⟨by decide, by decide⟩ (fun hc_5 => ?_) (fun hc_5 => ?_)
    · refine lv_iconst (v := zI 0) hx hb dX1_on_13 rfl ?_
      have hpost : (0 : Int) = zB (gs_ok p a b u) := by
        exact (zB_F (fun h => by rcases h with h | h <;> omega)).symm
      exact W.zret (v := zI (0)) hx hb hr rfl (fun t ht hW => ⟨⟨_, (), rfl, congrArg zI hpost, trivial⟩, hS.F ht⟩) hS.2.2 dX1_on_14
    · refine lv_iconst (v := zI 1) hx hb dX1_on_9 rfl ?_
      refine lv_goto (tgt := 14) hx hb dX1_on_10 (by decide) ?_
      have hpost : (1 : Int) = zB (gs_ok p a b u) := by
        exact (zB_T (Or.inl (by omega))).symm
      exact W.zret (v := zI (1)) hx hb hr rfl (fun t ht hW => ⟨⟨_, (), rfl, congrArg zI hpost, trivial⟩, hS.F ht⟩) hS.2.2 dX1_on_14

set_option maxHeartbeats 4000000 in
set_option maxRecDepth 100000 in
theorem kX1_over (l : Launch) (dC : Nat → ClassId) (dI : Nat → Nat → Nat) (k0 r1 r2 : Nat) (d1 d2 : ClassId) (p a b : Int) (s1 s2 : Int → Int) (u : Int) (v : Int) (hp : 5 ≤ p ∧ p ≤ 4093) (hu : 0 ≤ u ∧ u < p) (hv : 0 ≤ v ∧ v < p) : Met l yX1_over wsX1_over ({ frames := 1, cells := 0, slots := 0, locals := 22 }) (zPc (dC, dI) (ww1 k0 r1 r2 d1 d2 p a b s1 s2) (tt1 d1 d2) [.ref k0, .int (zI (u)), .int (zI (v))]) (zQi (zI (u * gs_inv p v % p))) 0 0 zNo := by
  refine Met.ofW (cc := cX1_over) (maxL := 6) (ret := (some .int)) (by decide) rfl ?_
  intro pp e s m args below meth c s₁ B hml hv
  obtain ⟨rfl, hP, hK⟩ := hv
  have hx := B.exec
  have hb := B.bytes
  have hr := B.returns
  have hts := atoms_spec (ws := wsX1_over) B.pre
  have hown : s.vm.findClass RX1 = some m.cls := findClass_of_methodNamed B.named
  have hlocks := B.notSynchronized
  have hin0 : ∀ w ∈ u_ws RX1 TX1 5, w ∈ wsX1_over := by decide +kernel
  have hf7 := hts (.fieldLink RX1 7 "CurveDeskModel" "p" "I") (by decide +kernel)
  have hS : va_S (fun _ => False) s.heap s.heap [] := va_S.rf
  have hl := lv_entry ([.ref k0, .int (zI (u)), .int (zI (v))]) (n := 6) (Nat.le_of_ble_eq_true rfl)
  rw [lg_entry_eq]
  generalize (lg_sl ([.ref k0, .int (zI (u)), .int (zI (v))]) ++ List.replicate (6 - (lg_sl ([.ref k0, .int (zI (u)), .int (zI (v))])).length) Slot.unset).toArray = ls at hl ⊢
  have hl : lv_has ls 6 [(0, .ref k0), (1, .int (zI (u))), (2, .int (zI (v)))] := hl
  skip
  refine lv_iload_n hx hb dX1_over_0 rfl (lv_at hl 1 rfl) ?_
  refine lv_istore_n (lv' := [(3, .int (zI (u))), (0, .ref k0), (1, .int (zI (u))), (2, .int (zI (v)))]) hx hb dX1_over_1 rfl hl (by decide) rfl (fun ls hl => ?_)
  refine lv_aload_n hx hb dX1_over_2 rfl (lv_at hl 1 rfl) ?_
  refine va_get (D := (dC, dI)) (ci := 1) (v := .int (zI (p))) (C := RX1) (T := TX1) (N := 5) hx hb hts hin0 hown hK hP 0 rfl rfl 0 (by decide) hf7 (fun _ h9 => h9) rfl dX1_over_3 ?_
  refine lv_iconst (v := zI 2) hx hb dX1_over_6 rfl ?_
  refine zz_isub hx hb dX1_over_7 ?_
  refine zz_topi (fun x_1 ex_1 => ?_)
  refine lv_istore (lv' := [(4, .int (zI (x_1))), (3, .int (zI (u))), (0, .ref k0), (1, .int (zI (u))), (2, .int (zI (v)))]) hx hb dX1_over_8 hl (by decide) rfl (fun ls hl => ?_)
  refine lv_iload_n hx hb dX1_over_10 rfl (lv_at hl 4 rfl) ?_
  refine lv_istore (lv' := [(5, .int (zI (v))), (4, .int (zI (x_1))), (3, .int (zI (u))), (0, .ref k0), (1, .int (zI (u))), (2, .int (zI (v)))]) hx hb dX1_over_11 hl (by decide) rfl (fun ls hl => ?_)
  have hi_13 : 0 ≤ x_1 ∧ x_1 ≤ 4093 ∧ 0 ≤ u ∧ u < p ∧ 0 ≤ v ∧ v < p ∧ u * v ^ (x_1).toNat % p = u * v ^ (p - 2).toNat % p := by
    refine ⟨by omega, by omega, by omega, by omega, by omega, by omega, ?_⟩
    rw [ex_1]
  refine zz_loopR (σ := Int × Int × Int) (fun zs => 0 ≤ zs.2.1 ∧ zs.2.1 ≤ 4093 ∧ 0 ≤ zs.1 ∧ zs.1 < p ∧ 0 ≤ zs.2.2 ∧ zs.2.2 < p ∧ zs.1 * zs.2.2 ^ (zs.2.1).toNat % p = u * v ^ (p - 2).toNat % p) (fun zs => (zs.2.1).toNat) (fun zs => [(5, .int (zI (zs.2.2))), (4, .int (zI (zs.2.1))), (3, .int (zI (zs.1))), (0, .ref k0), (1, .int (zI (u))), (2, .int (zI (v)))]) ?_ (u, x_1, v) hi_13 _ _ _ hP hS (lv_sub hl [0, 1, 2, 3, 4, 5] rfl)
  intro zs hI_13 ih_13 H locs ls hP hS hl
  clear hi_13
  obtain ⟨r, k, w⟩ := zs
  have hI_13 : 0 ≤ k ∧ k ≤ 4093 ∧ 0 ≤ r ∧ r < p ∧ 0 ≤ w ∧ w < p ∧ r * w ^ (k).toNat % p = u * v ^ (p - 2).toNat % p := hI_13
  have hl : lv_has ls 6 [(5, .int (zI (w))), (4, .int (zI (k))), (3, .int (zI (r))), (0, .ref k0), (1, .int (zI (u))), (2, .int (zI (v)))] := hl
  have hP : va_P (dC, dI) vwCl (ww1 k0 r1 r2 d1 d2 p a b s1 s2) H := hP
  obtain ⟨k1, k2, k3, k4, k5, k6, k7⟩ := hI_13
  have h1 := zz_pr (x := r) (y := w) (by omega) (by omega)
  have h2 := zz_pr (x := w) (y := w) (by omega) (by omega)
  have h3 := zz_md (v := r * w) (p := p) (by omega)
  have h4 := zz_md (v := w * w) (p := p) (by omega)
  refine lv_iload hx hb dX1_over_13 (lv_at hl 1 rfl) ?_
  refine zz_if_le (tgt := 55) hx hb dX1_over_15 (by decide) (by omega) (fun hc_2 => ?_) (fun hc_2 => ?_)
  · refine lv_iload_n hx hb dX1_over_55 rfl (lv_at hl 2 rfl) ?_
    have hpost : (r : Int) = u * gs_inv p v % p := by
      rw [show k = 0 by omega] at k7
      exact gs_ov0 ⟨k3, k4⟩ k7
    exact W.iret (v := zI (r)) hx hb hr (fun t ht hW => ⟨⟨_, (), rfl, congrArg zI hpost, trivial⟩, hS.F ht⟩) hS.2.2 dX1_over_56
  · refine lv_iload hx hb dX1_over_18 (lv_at hl 1 rfl) ?_
    refine lv_iconst (v := zI 2) hx hb dX1_over_20 rfl ?_
    refine zz_irem hx hb dX1_over_21 (by omega) ?_
    refine lv_iconst (v := zI 1) hx hb dX1_over_22 rfl ?_
    refine zz_icmp_ne (tgt := 35) hx hb dX1_over_23 (by decide) (by omega) ⟨by decide, by decide⟩ (fun hc_3 => ?_) (fun hc_3 => ?_)
    · refine lv_aload_n hx hb dX1_over_35 rfl (lv_at hl 3 rfl) ?_
      refine lv_iload hx hb dX1_over_36 (lv_at hl 0 rfl) ?_
      refine lv_iload hx hb dX1_over_38 (lv_at hl 0 rfl) ?_
      refine zz_imul hx hb dX1_over_40 ?_
      refine zz_callV k0 [.int (zI (w * w))] [] ⟨hx, hb, hml, hown, hts⟩ (kX1_mod l dC dI k0 r1 r2 d1 d2 p a b s1 s2 (w * w) (by omega) (by omega)) (cwV 1 hts gX1_over_X1_mod rfl rfl rfl (by decide +kernel) ⟨Nat.le_of_ble_eq_true rfl, Nat.le_of_ble_eq_true rfl⟩) hK hP 0 rfl rfl rfl hP hS rfl hl.1 rfl (Nat.le_of_ble_eq_true rfl) dX1_over_41 ⟨Nat.le_of_ble_eq_true rfl, Nat.le_of_ble_eq_true rfl⟩ (fun H locs hP hS => ?_)
      refine zz_topi (fun w9 ew9 => ?_)
      refine lv_istore (lv' := [(5, .int (zI (w9))), (4, .int (zI (k))), (3, .int (zI (r))), (0, .ref k0), (1, .int (zI (u))), (2, .int (zI (v)))]) hx hb dX1_over_44 hl (by decide) rfl (fun ls hl => ?_)
      refine lv_iload hx hb dX1_over_46 (lv_at hl 1 rfl) ?_
      refine lv_iconst (v := zI 2) hx hb dX1_over_48 rfl ?_
      refine zz_idiv hx hb dX1_over_49 (by omega) ?_
      refine zz_topi (fun k9 ek9 => ?_)
      refine lv_istore (lv' := [(4, .int (zI (k9))), (5, .int (zI (w9))), (3, .int (zI (r))), (0, .ref k0), (1, .int (zI (u))), (2, .int (zI (v)))]) hx hb dX1_over_50 hl (by decide) rfl (fun ls hl => ?_)
      refine lv_goto (tgt := 13) hx hb dX1_over_52 (by decide) ?_
      have hn_13 : 0 ≤ k9 ∧ k9 ≤ 4093 ∧ 0 ≤ r ∧ r < p ∧ 0 ≤ w9 ∧ w9 < p ∧ r * w9 ^ (k9).toNat % p = u * v ^ (p - 2).toNat % p := by
        refine ⟨by omega, by omega, by omega, by omega, by omega, by omega, ?_⟩
        rw [ew9, ek9, ← k7]
        exact zz_pw0 (by omega) (by omega)
      have hm_13 : (k9).toNat < (k).toNat := by
        omega
      exact ih_13 (r, k9, w9) hn_13 hm_13 _ _ _ hP hS (lv_sub hl [1, 0, 2, 3, 4, 5] rfl)
    · refine lv_aload_n hx hb dX1_over_26 rfl (lv_at hl 3 rfl) ?_
      refine lv_iload_n hx hb dX1_over_27 rfl (lv_at hl 2 rfl) ?_
      refine lv_iload hx hb dX1_over_28 (lv_at hl 0 rfl) ?_
      refine zz_imul hx hb dX1_over_30 ?_
      refine zz_callV k0 [.int (zI (r * w))] [] ⟨hx, hb, hml, hown, hts⟩ (kX1_mod l dC dI k0 r1 r2 d1 d2 p a b s1 s2 (r * w) (by omega) (by omega)) (cwV 1 hts gX1_over_X1_mod rfl rfl rfl (by decide +kernel) ⟨Nat.le_of_ble_eq_true rfl, Nat.le_of_ble_eq_true rfl⟩) hK hP 0 rfl rfl rfl hP hS rfl hl.1 rfl (Nat.le_of_ble_eq_true rfl) dX1_over_31 ⟨Nat.le_of_ble_eq_true rfl, Nat.le_of_ble_eq_true rfl⟩ (fun H locs hP hS => ?_)
      refine zz_topi (fun r9 er9 => ?_)
      refine lv_istore_n (lv' := [(3, .int (zI (r9))), (5, .int (zI (w))), (4, .int (zI (k))), (0, .ref k0), (1, .int (zI (u))), (2, .int (zI (v)))]) hx hb dX1_over_34 rfl hl (by decide) rfl (fun ls hl => ?_)
      refine lv_aload_n hx hb dX1_over_35 rfl (lv_at hl 3 rfl) ?_
      refine lv_iload hx hb dX1_over_36 (lv_at hl 1 rfl) ?_
      refine lv_iload hx hb dX1_over_38 (lv_at hl 1 rfl) ?_
      refine zz_imul hx hb dX1_over_40 ?_
      refine zz_callV k0 [.int (zI (w * w))] [] ⟨hx, hb, hml, hown, hts⟩ (kX1_mod l dC dI k0 r1 r2 d1 d2 p a b s1 s2 (w * w) (by omega) (by omega)) (cwV 1 hts gX1_over_X1_mod rfl rfl rfl (by decide +kernel) ⟨Nat.le_of_ble_eq_true rfl, Nat.le_of_ble_eq_true rfl⟩) hK hP 0 rfl rfl rfl hP hS rfl hl.1 rfl (Nat.le_of_ble_eq_true rfl) dX1_over_41 ⟨Nat.le_of_ble_eq_true rfl, Nat.le_of_ble_eq_true rfl⟩ (fun H locs hP hS => ?_)
      refine zz_topi (fun w9 ew9 => ?_)
      refine lv_istore (lv' := [(5, .int (zI (w9))), (3, .int (zI (r9))), (4, .int (zI (k))), (0, .ref k0), (1, .int (zI (u))), (2, .int (zI (v)))]) hx hb dX1_over_44 hl (by decide) rfl (fun ls hl => ?_)
      refine lv_iload hx hb dX1_over_46 (lv_at hl 2 rfl) ?_
      refine lv_iconst (v := zI 2) hx hb dX1_over_48 rfl ?_
      refine zz_idiv hx hb dX1_over_49 (by omega) ?_
      refine zz_topi (fun k9 ek9 => ?_)
      refine lv_istore (lv' := [(4, .int (zI (k9))), (5, .int (zI (w9))), (3, .int (zI (r9))), (0, .ref k0), (1, .int (zI (u))), (2, .int (zI (v)))]) hx hb dX1_over_50 hl (by decide) rfl (fun ls hl => ?_)
      refine lv_goto (tgt := 13) hx hb dX1_over_52 (by decide) ?_
      have hn_13 : 0 ≤ k9 ∧ k9 ≤ 4093 ∧ 0 ≤ r9 ∧ r9 < p ∧ 0 ≤ w9 ∧ w9 < p ∧ r9 * w9 ^ (k9).toNat % p = u * v ^ (p - 2).toNat % p := by
        refine ⟨by omega, by omega, by omega, by omega, by omega, by omega, ?_⟩
        rw [er9, ew9, ek9, ← k7]
        exact zz_pw1 (by omega) (by omega)
      have hm_13 : (k9).toNat < (k).toNat := by
        omega
      exact ih_13 (r9, k9, w9) hn_13 hm_13 _ _ _ hP hS (lv_sub hl [1, 0, 2, 3, 4, 5] rfl)

set_option maxHeartbeats 4000000 in
set_option maxRecDepth 100000 in
theorem kX1_sum (l : Launch) (dC : Nat → ClassId) (dI : Nat → Nat → Nat) (k0 r1 r2 : Nat) (d1 d2 : ClassId) (p a b : Int) (s1 s2 : Int → Int) (u : Int) (w : Int) (hcv : gs_cv p a b) (hu : gs_ok p a b u) (hw : gs_ok p a b w) : Met l yX1_sum wsX1_sum ({ frames := 2, cells := 0, slots := 0, locals := 47 }) (zPc (dC, dI) (ww1 k0 r1 r2 d1 d2 p a b s1 s2) (tt1 d1 d2) [.ref k0, .int (zI (u)), .int (zI (w))]) (zQi (zI (gs_sum p a u w))) 0 0 zNo := by
  obtain ⟨hp1, hp2, hpp, ha, hbb, hdd⟩ := id hcv
  have hp : 5 ≤ p ∧ p ≤ 4093 := ⟨hp1, hp2⟩
  have hur := gs_okR hu
  have hwr := gs_okR hw
  refine Met.ofW (cc := cX1_sum) (maxL := 10) (ret := (some .int)) (by decide) rfl ?_
  intro pp e s m args below meth c s₁ B hml hv
  obtain ⟨rfl, hP, hK⟩ := hv
  have hx := B.exec
  have hb := B.bytes
  have hr := B.returns
  have hts := atoms_spec (ws := wsX1_sum) B.pre
  have hown : s.vm.findClass RX1 = some m.cls := findClass_of_methodNamed B.named
  have hlocks := B.notSynchronized
  have hin0 : ∀ w ∈ u_ws RX1 TX1 5, w ∈ wsX1_sum := by decide +kernel
  have hf13 := hts (.fieldLink RX1 13 "CurveDeskModel" "a" "I") (by decide +kernel)
  have hS : va_S (fun _ => False) s.heap s.heap [] := va_S.rf
  have hl := lv_entry ([.ref k0, .int (zI (u)), .int (zI (w))]) (n := 10) (Nat.le_of_ble_eq_true rfl)
  rw [lg_entry_eq]
  generalize (lg_sl ([.ref k0, .int (zI (u)), .int (zI (w))]) ++ List.replicate (10 - (lg_sl ([.ref k0, .int (zI (u)), .int (zI (w))])).length) Slot.unset).toArray = ls at hl ⊢
  have hl : lv_has ls 10 [(0, .ref k0), (1, .int (zI (u))), (2, .int (zI (w)))] := hl
  skip
  refine lv_iload_n hx hb dX1_sum_0 rfl (lv_at hl 1 rfl) ?_
  refine lv_iconst (v := zI (-1)) hx hb dX1_sum_1 rfl ?_
  refine zz_icmp_ne (tgt := 7) hx hb dX1_sum_2 (by decide) (by omega) ⟨by decide, by decide⟩ (fun hc_1 => ?_) (fun hc_1 => ?_)
  · refine lv_iload_n hx hb dX1_sum_7 rfl (lv_at hl 2 rfl) ?_
    refine lv_iconst (v := zI (-1)) hx hb dX1_sum_8 rfl ?_
    refine zz_icmp_ne (tgt := 14) hx hb dX1_sum_9 (by decide) (by omega) ⟨by decide, by decide⟩ (fun hc_2 => ?_) (fun hc_2 => ?_)
    · refine lv_iload_n hx hb dX1_sum_14 rfl (lv_at hl 1 rfl) ?_
      refine lv_sipush (v := zI 4096) hx hb dX1_sum_15 (by decide +kernel) ?_
      refine zz_idiv hx hb dX1_sum_18 (by omega) ?_
      refine zz_topi (fun ja eja => ?_)
      refine lv_istore_n (lv' := [(3, .int (zI (ja))), (0, .ref k0), (1, .int (zI (u))), (2, .int (zI (w)))]) hx hb dX1_sum_19 rfl hl (by decide) rfl (fun ls hl => ?_)
      refine lv_iload_n hx hb dX1_sum_20 rfl (lv_at hl 2 rfl) ?_
      refine lv_sipush (v := zI 4096) hx hb dX1_sum_21 (by decide +kernel) ?_
      refine zz_irem hx hb dX1_sum_24 (by omega) ?_
      refine zz_topi (fun jb ejb => ?_)
      refine lv_istore (lv' := [(4, .int (zI (jb))), (3, .int (zI (ja))), (0, .ref k0), (1, .int (zI (u))), (2, .int (zI (w)))]) hx hb dX1_sum_25 hl (by decide) rfl (fun ls hl => ?_)
      refine lv_iload_n hx hb dX1_sum_27 rfl (lv_at hl 4 rfl) ?_
      refine lv_sipush (v := zI 4096) hx hb dX1_sum_28 (by decide +kernel) ?_
      refine zz_idiv hx hb dX1_sum_31 (by omega) ?_
      refine zz_topi (fun jc ejc => ?_)
      refine lv_istore (lv' := [(5, .int (zI (jc))), (4, .int (zI (jb))), (3, .int (zI (ja))), (0, .ref k0), (1, .int (zI (u))), (2, .int (zI (w)))]) hx hb dX1_sum_32 hl (by decide) rfl (fun ls hl => ?_)
      refine lv_iload_n hx hb dX1_sum_34 rfl (lv_at hl 5 rfl) ?_
      refine lv_sipush (v := zI 4096) hx hb dX1_sum_35 (by decide +kernel) ?_
      refine zz_irem hx hb dX1_sum_38 (by omega) ?_
      refine zz_topi (fun jd ejd => ?_)
      refine lv_istore (lv' := [(6, .int (zI (jd))), (5, .int (zI (jc))), (4, .int (zI (jb))), (3, .int (zI (ja))), (0, .ref k0), (1, .int (zI (u))), (2, .int (zI (w)))]) hx hb dX1_sum_39 hl (by decide) rfl (fun ls hl => ?_)
      have hoz := gs_oppZ (p := p) (u := u) (w := w) hp (by omega) (by omega)
      rw [← eja, ← ejb, ← ejc, ← ejd] at hoz
      have hjj := zz_md (v := jb + jd) (p := p) (by omega)
      refine lv_iload_n hx hb dX1_sum_41 rfl (lv_at hl 3 rfl) ?_
      refine lv_iload hx hb dX1_sum_42 (lv_at hl 1 rfl) ?_
      refine zz_icmp_ne (tgt := 61) hx hb dX1_sum_44 (by decide) (by omega) (by omega) (fun hc_3 => ?_) (fun hc_3 => ?_)
      · refine lv_iload_n hx hb dX1_sum_61 rfl (lv_at hl 3 rfl) ?_
        refine lv_iload hx hb dX1_sum_62 (lv_at hl 1 rfl) ?_
        refine zz_icmp_ne (tgt := 100) hx hb dX1_sum_64 (by decide) (by omega) (by omega) (fun hc_4 => ?_) (fun hc_4 => ?_)
        · have hnx := hc_4
          have hno : ¬ w = gs_opp p u := fun q => by have q2 := hoz.mp q; omega
          have h3 := zz_md (v := jd - jb) (p := p) (by omega)
          have h4 := zz_md (v := jc - ja) (p := p) (by omega)
          refine lv_aload_n hx hb dX1_sum_100 rfl (lv_at hl 4 rfl) ?_
          refine lv_aload_n hx hb dX1_sum_101 rfl (lv_at hl 4 rfl) ?_
          refine lv_iload hx hb dX1_sum_102 (lv_at hl 0 rfl) ?_
          refine lv_iload hx hb dX1_sum_104 (lv_at hl 2 rfl) ?_
          refine zz_isub hx hb dX1_sum_106 ?_
          refine zz_callV k0 [.int (zI (jd - jb))] [.ref k0] ⟨hx, hb, hml, hown, hts⟩ (kX1_mod l dC dI k0 r1 r2 d1 d2 p a b s1 s2 (jd - jb) (by omega) (by omega)) (cwV 1 hts gX1_sum_X1_mod rfl rfl rfl (by decide +kernel) ⟨Nat.le_of_ble_eq_true rfl, Nat.le_of_ble_eq_true rfl⟩) hK hP 0 rfl rfl rfl hP hS rfl hl.1 rfl (Nat.le_of_ble_eq_true rfl) dX1_sum_107 ⟨Nat.le_of_ble_eq_true rfl, Nat.le_of_ble_eq_true rfl⟩ (fun H locs hP hS => ?_)
          refine lv_aload_n hx hb dX1_sum_110 rfl (lv_at hl 4 rfl) ?_
          refine lv_iload hx hb dX1_sum_111 (lv_at hl 1 rfl) ?_
          refine lv_iload_n hx hb dX1_sum_113 rfl (lv_at hl 3 rfl) ?_
          refine zz_isub hx hb dX1_sum_114 ?_
          refine zz_callV k0 [.int (zI (jc - ja))] [.int (zI ((jd - jb) % p)), .ref k0] ⟨hx, hb, hml, hown, hts⟩ (kX1_mod l dC dI k0 r1 r2 d1 d2 p a b s1 s2 (jc - ja) (by omega) (by omega)) (cwV 1 hts gX1_sum_X1_mod rfl rfl rfl (by decide +kernel) ⟨Nat.le_of_ble_eq_true rfl, Nat.le_of_ble_eq_true rfl⟩) hK hP 0 rfl rfl rfl hP hS rfl hl.1 rfl (Nat.le_of_ble_eq_true rfl) dX1_sum_115 ⟨Nat.le_of_ble_eq_true rfl, Nat.le_of_ble_eq_true rfl⟩ (fun H locs hP hS => ?_)
          refine zz_callV k0 [.int (zI ((jd - jb) % p)), .int (zI ((jc - ja) % p))] [] ⟨hx, hb, hml, hown, hts⟩ (kX1_over l dC dI k0 r1 r2 d1 d2 p a b s1 s2 ((jd - jb) % p) ((jc - ja) % p) (by omega) (by omega) (by omega)) (cwV 2 hts gX1_sum_X1_over rfl rfl rfl (by decide +kernel) ⟨Nat.le_of_ble_eq_true rfl, Nat.le_of_ble_eq_true rfl⟩) hK hP 0 rfl rfl rfl hP hS rfl hl.1 rfl (Nat.le_of_ble_eq_true rfl) dX1_sum_118 ⟨Nat.le_of_ble_eq_true rfl, Nat.le_of_ble_eq_true rfl⟩ (fun H locs hP hS => ?_)
          refine zz_topi (fun ms ems => ?_)
          refine lv_istore (lv' := [(7, .int (zI (ms))), (6, .int (zI (jd))), (5, .int (zI (jc))), (4, .int (zI (jb))), (3, .int (zI (ja))), (0, .ref k0), (1, .int (zI (u))), (2, .int (zI (w)))]) hx hb dX1_sum_121 hl (by decide) rfl (fun ls hl => ?_)
          have hms : ms = gs_slope p a u w := by
            rw [ems]
            unfold gs_slope
            rw [if_neg (fun q => by rw [← q] at ejc; omega), eja, ejb, ejc, ejd]
          have h5 : 0 ≤ ms ∧ ms < p := by rw [ems]; exact zz_md (by omega)
          have h6 := zz_pr (x := ms) (y := ms) (by omega) (by omega)
          refine lv_aload_n hx hb dX1_sum_123 rfl (lv_at hl 5 rfl) ?_
          refine lv_iload hx hb dX1_sum_124 (lv_at hl 0 rfl) ?_
          refine lv_iload hx hb dX1_sum_126 (lv_at hl 0 rfl) ?_
          refine zz_imul hx hb dX1_sum_128 ?_
          refine lv_iload_n hx hb dX1_sum_129 rfl (lv_at hl 4 rfl) ?_
          refine zz_isub hx hb dX1_sum_130 ?_
          refine lv_iload hx hb dX1_sum_131 (lv_at hl 2 rfl) ?_
          refine zz_isub hx hb dX1_sum_133 ?_
          refine zz_callV k0 [.int (zI (((ms * ms) - ja) - jc))] [] ⟨hx, hb, hml, hown, hts⟩ (kX1_mod l dC dI k0 r1 r2 d1 d2 p a b s1 s2 (((ms * ms) - ja) - jc) (by omega) (by omega)) (cwV 1 hts gX1_sum_X1_mod rfl rfl rfl (by decide +kernel) ⟨Nat.le_of_ble_eq_true rfl, Nat.le_of_ble_eq_true rfl⟩) hK hP 0 rfl rfl rfl hP hS rfl hl.1 rfl (Nat.le_of_ble_eq_true rfl) dX1_sum_134 ⟨Nat.le_of_ble_eq_true rfl, Nat.le_of_ble_eq_true rfl⟩ (fun H locs hP hS => ?_)
          refine zz_topi (fun x3 ex3 => ?_)
          refine lv_istore (lv' := [(8, .int (zI (x3))), (7, .int (zI (ms))), (6, .int (zI (jd))), (5, .int (zI (jc))), (4, .int (zI (jb))), (3, .int (zI (ja))), (0, .ref k0), (1, .int (zI (u))), (2, .int (zI (w)))]) hx hb dX1_sum_137 hl (by decide) rfl (fun ls hl => ?_)
          have h7 : 0 ≤ x3 ∧ x3 < p := by rw [ex3]; exact zz_md (by omega)
          have h8 := zz_md (v := ja - x3) (p := p) (by omega)
          have h9 := zz_pr (x := ms) (y := (ja - x3) % p) (by omega) (by omega)
          refine lv_aload_n hx hb dX1_sum_139 rfl (lv_at hl 6 rfl) ?_
          refine lv_iload hx hb dX1_sum_140 (lv_at hl 1 rfl) ?_
          refine lv_aload_n hx hb dX1_sum_142 rfl (lv_at hl 6 rfl) ?_
          refine lv_iload_n hx hb dX1_sum_143 rfl (lv_at hl 5 rfl) ?_
          refine lv_iload hx hb dX1_sum_144 (lv_at hl 0 rfl) ?_
          refine zz_isub hx hb dX1_sum_146 ?_
          refine zz_callV k0 [.int (zI (ja - x3))] [.int (zI (ms)), .ref k0] ⟨hx, hb, hml, hown, hts⟩ (kX1_mod l dC dI k0 r1 r2 d1 d2 p a b s1 s2 (ja - x3) (by omega) (by omega)) (cwV 1 hts gX1_sum_X1_mod rfl rfl rfl (by decide +kernel) ⟨Nat.le_of_ble_eq_true rfl, Nat.le_of_ble_eq_true rfl⟩) hK hP 0 rfl rfl rfl hP hS rfl hl.1 rfl (Nat.le_of_ble_eq_true rfl) dX1_sum_147 ⟨Nat.le_of_ble_eq_true rfl, Nat.le_of_ble_eq_true rfl⟩ (fun H locs hP hS => ?_)
          refine zz_imul hx hb dX1_sum_150 ?_
          refine lv_iload hx hb dX1_sum_151 (lv_at hl 4 rfl) ?_
          refine zz_isub hx hb dX1_sum_153 ?_
          refine zz_callV k0 [.int (zI ((ms * ((ja - x3) % p)) - jb))] [] ⟨hx, hb, hml, hown, hts⟩ (kX1_mod l dC dI k0 r1 r2 d1 d2 p a b s1 s2 ((ms * ((ja - x3) % p)) - jb) (by omega) (by omega)) (cwV 1 hts gX1_sum_X1_mod rfl rfl rfl (by decide +kernel) ⟨Nat.le_of_ble_eq_true rfl, Nat.le_of_ble_eq_true rfl⟩) hK hP 0 rfl rfl rfl hP hS rfl hl.1 rfl (Nat.le_of_ble_eq_true rfl) dX1_sum_154 ⟨Nat.le_of_ble_eq_true rfl, Nat.le_of_ble_eq_true rfl⟩ (fun H locs hP hS => ?_)
          refine zz_topi (fun y3 ey3 => ?_)
          refine lv_istore (lv' := [(9, .int (zI (y3))), (8, .int (zI (x3))), (7, .int (zI (ms))), (6, .int (zI (jd))), (5, .int (zI (jc))), (4, .int (zI (jb))), (3, .int (zI (ja))), (0, .ref k0), (1, .int (zI (u))), (2, .int (zI (w)))]) hx hb dX1_sum_157 hl (by decide) rfl (fun ls hl => ?_)
          refine lv_sipush (v := zI 4096) hx hb dX1_sum_159 (by decide +kernel) ?_
          refine lv_iload hx hb dX1_sum_162 (lv_at hl 1 rfl) ?_
          refine zz_imul hx hb dX1_sum_164 ?_
          refine lv_iload hx hb dX1_sum_165 (lv_at hl 0 rfl) ?_
          refine zz_iadd hx hb dX1_sum_167 ?_
          have hpost : ((4096 * x3) + y3 : Int) = gs_sum p a u w := by
            unfold gs_sum gs_y gs_x
            rw [if_neg (by omega), if_neg (by omega), if_neg hno, ← hms, ← eja, ← ejb, ← ejc, ← ex3, ← ey3]
            omega
          exact W.iret (v := zI ((4096 * x3) + y3)) hx hb hr (fun t ht hW => ⟨⟨_, (), rfl, congrArg zI hpost, trivial⟩, hS.F ht⟩) hS.2.2 dX1_sum_168
        · exact absurd hc_4 (by omega)
      · refine lv_aload_n hx hb dX1_sum_47 rfl (lv_at hl 4 rfl) ?_
        refine lv_iload hx hb dX1_sum_48 (lv_at hl 2 rfl) ?_
        refine lv_iload hx hb dX1_sum_50 (lv_at hl 0 rfl) ?_
        refine zz_iadd hx hb dX1_sum_52 ?_
        refine zz_callV k0 [.int (zI (jb + jd))] [] ⟨hx, hb, hml, hown, hts⟩ (kX1_mod l dC dI k0 r1 r2 d1 d2 p a b s1 s2 (jb + jd) (by omega) (by omega)) (cwV 1 hts gX1_sum_X1_mod rfl rfl rfl (by decide +kernel) ⟨Nat.le_of_ble_eq_true rfl, Nat.le_of_ble_eq_true rfl⟩) hK hP 0 rfl rfl rfl hP hS rfl hl.1 rfl (Nat.le_of_ble_eq_true rfl) dX1_sum_53 ⟨Nat.le_of_ble_eq_true rfl, Nat.le_of_ble_eq_true rfl⟩ (fun H locs hP hS => ?_)
        refine zz_if_ne (tgt := 61) hx hb dX1_sum_56 (by decide) (by omega) (fun hc_5 => ?_) (fun hc_5 => ?_)
        · refine lv_iload_n hx hb dX1_sum_61 rfl (lv_at hl 3 rfl) ?_
          refine lv_iload hx hb dX1_sum_62 (lv_at hl 1 rfl) ?_
          refine zz_icmp_ne (tgt := 100) hx hb dX1_sum_64 (by decide) (by omega) (by omega) (fun hc_6 => ?_) (fun hc_6 => ?_)
          · exact absurd hc_6 (by omega)
          · have hxx := hc_6
            have hno : ¬ w = gs_opp p u := fun q => by have q2 := hoz.mp q; omega
            have huw : u = w := gs_sameX hcv hu hw (by omega) (by omega) (by omega) (by rw [← ejb, ← ejd]; omega)
            have h1 := zz_pr (x := ja) (y := ja) (by omega) (by omega)
            have h2 := zz_md (v := ja * ja) (p := p) (by omega)
            have h3 := zz_md (v := 3 * (ja * ja % p) + a) (p := p) (by omega)
            have h4 := zz_md (v := 2 * jb) (p := p) (by omega)
            refine lv_aload_n hx hb dX1_sum_67 rfl (lv_at hl 4 rfl) ?_
            refine lv_aload_n hx hb dX1_sum_68 rfl (lv_at hl 4 rfl) ?_
            refine lv_iconst (v := zI 3) hx hb dX1_sum_69 rfl ?_
            refine lv_aload_n hx hb dX1_sum_70 rfl (lv_at hl 4 rfl) ?_
            refine lv_iload_n hx hb dX1_sum_71 rfl (lv_at hl 3 rfl) ?_
            refine lv_iload_n hx hb dX1_sum_72 rfl (lv_at hl 3 rfl) ?_
            refine zz_imul hx hb dX1_sum_73 ?_
            refine zz_callV k0 [.int (zI (ja * ja))] [.int (zI (3)), .ref k0, .ref k0] ⟨hx, hb, hml, hown, hts⟩ (kX1_mod l dC dI k0 r1 r2 d1 d2 p a b s1 s2 (ja * ja) (by omega) (by omega)) (cwV 1 hts gX1_sum_X1_mod rfl rfl rfl (by decide +kernel) ⟨Nat.le_of_ble_eq_true rfl, Nat.le_of_ble_eq_true rfl⟩) hK hP 0 rfl rfl rfl hP hS rfl hl.1 rfl (Nat.le_of_ble_eq_true rfl) dX1_sum_74 ⟨Nat.le_of_ble_eq_true rfl, Nat.le_of_ble_eq_true rfl⟩ (fun H locs hP hS => ?_)
            refine zz_imul hx hb dX1_sum_77 ?_
            refine lv_aload_n hx hb dX1_sum_78 rfl (lv_at hl 4 rfl) ?_
            refine va_get (D := (dC, dI)) (ci := 1) (v := .int (zI (a))) (C := RX1) (T := TX1) (N := 5) hx hb hts hin0 hown hK hP 0 rfl rfl 1 (by decide) hf13 (fun _ h9 => h9) rfl dX1_sum_79 ?_
            refine zz_iadd hx hb dX1_sum_82 ?_
            refine zz_callV k0 [.int (zI ((3 * ((ja * ja) % p)) + a))] [.ref k0] ⟨hx, hb, hml, hown, hts⟩ (kX1_mod l dC dI k0 r1 r2 d1 d2 p a b s1 s2 ((3 * ((ja * ja) % p)) + a) (by omega) (by omega)) (cwV 1 hts gX1_sum_X1_mod rfl rfl rfl (by decide +kernel) ⟨Nat.le_of_ble_eq_true rfl, Nat.le_of_ble_eq_true rfl⟩) hK hP 0 rfl rfl rfl hP hS rfl hl.1 rfl (Nat.le_of_ble_eq_true rfl) dX1_sum_83 ⟨Nat.le_of_ble_eq_true rfl, Nat.le_of_ble_eq_true rfl⟩ (fun H locs hP hS => ?_)
            refine lv_aload_n hx hb dX1_sum_86 rfl (lv_at hl 4 rfl) ?_
            refine lv_iconst (v := zI 2) hx hb dX1_sum_87 rfl ?_
            refine lv_iload hx hb dX1_sum_88 (lv_at hl 2 rfl) ?_
            refine zz_imul hx hb dX1_sum_90 ?_
            refine zz_callV k0 [.int (zI (2 * jb))] [.int (zI (((3 * ((ja * ja) % p)) + a) % p)), .ref k0] ⟨hx, hb, hml, hown, hts⟩ (kX1_mod l dC dI k0 r1 r2 d1 d2 p a b s1 s2 (2 * jb) (by omega) (by omega)) (cwV 1 hts gX1_sum_X1_mod rfl rfl rfl (by decide +kernel) ⟨Nat.le_of_ble_eq_true rfl, Nat.le_of_ble_eq_true rfl⟩) hK hP 0 rfl rfl rfl hP hS rfl hl.1 rfl (Nat.le_of_ble_eq_true rfl) dX1_sum_91 ⟨Nat.le_of_ble_eq_true rfl, Nat.le_of_ble_eq_true rfl⟩ (fun H locs hP hS => ?_)
            refine zz_callV k0 [.int (zI (((3 * ((ja * ja) % p)) + a) % p)), .int (zI ((2 * jb) % p))] [] ⟨hx, hb, hml, hown, hts⟩ (kX1_over l dC dI k0 r1 r2 d1 d2 p a b s1 s2 (((3 * ((ja * ja) % p)) + a) % p) ((2 * jb) % p) (by omega) (by omega) (by omega)) (cwV 2 hts gX1_sum_X1_over rfl rfl rfl (by decide +kernel) ⟨Nat.le_of_ble_eq_true rfl, Nat.le_of_ble_eq_true rfl⟩) hK hP 0 rfl rfl rfl hP hS rfl hl.1 rfl (Nat.le_of_ble_eq_true rfl) dX1_sum_94 ⟨Nat.le_of_ble_eq_true rfl, Nat.le_of_ble_eq_true rfl⟩ (fun H locs hP hS => ?_)
            refine lv_goto (tgt := 121) hx hb dX1_sum_97 (by decide) ?_
            refine zz_topi (fun ms ems => ?_)
            refine lv_istore (lv' := [(7, .int (zI (ms))), (6, .int (zI (jd))), (5, .int (zI (jc))), (4, .int (zI (jb))), (3, .int (zI (ja))), (0, .ref k0), (1, .int (zI (u))), (2, .int (zI (w)))]) hx hb dX1_sum_121 hl (by decide) rfl (fun ls hl => ?_)
            have hms : ms = gs_slope p a u w := by
              rw [ems, ← huw]
              exact gs_slopeS ja jb eja ejb
            have h5 : 0 ≤ ms ∧ ms < p := by rw [ems]; exact zz_md (by omega)
            have h6 := zz_pr (x := ms) (y := ms) (by omega) (by omega)
            refine lv_aload_n hx hb dX1_sum_123 rfl (lv_at hl 5 rfl) ?_
            refine lv_iload hx hb dX1_sum_124 (lv_at hl 0 rfl) ?_
            refine lv_iload hx hb dX1_sum_126 (lv_at hl 0 rfl) ?_
            refine zz_imul hx hb dX1_sum_128 ?_
            refine lv_iload_n hx hb dX1_sum_129 rfl (lv_at hl 4 rfl) ?_
            refine zz_isub hx hb dX1_sum_130 ?_
            refine lv_iload hx hb dX1_sum_131 (lv_at hl 2 rfl) ?_
            refine zz_isub hx hb dX1_sum_133 ?_
            refine zz_callV k0 [.int (zI (((ms * ms) - ja) - jc))] [] ⟨hx, hb, hml, hown, hts⟩ (kX1_mod l dC dI k0 r1 r2 d1 d2 p a b s1 s2 (((ms * ms) - ja) - jc) (by omega) (by omega)) (cwV 1 hts gX1_sum_X1_mod rfl rfl rfl (by decide +kernel) ⟨Nat.le_of_ble_eq_true rfl, Nat.le_of_ble_eq_true rfl⟩) hK hP 0 rfl rfl rfl hP hS rfl hl.1 rfl (Nat.le_of_ble_eq_true rfl) dX1_sum_134 ⟨Nat.le_of_ble_eq_true rfl, Nat.le_of_ble_eq_true rfl⟩ (fun H locs hP hS => ?_)
            refine zz_topi (fun x3 ex3 => ?_)
            refine lv_istore (lv' := [(8, .int (zI (x3))), (7, .int (zI (ms))), (6, .int (zI (jd))), (5, .int (zI (jc))), (4, .int (zI (jb))), (3, .int (zI (ja))), (0, .ref k0), (1, .int (zI (u))), (2, .int (zI (w)))]) hx hb dX1_sum_137 hl (by decide) rfl (fun ls hl => ?_)
            have h7 : 0 ≤ x3 ∧ x3 < p := by rw [ex3]; exact zz_md (by omega)
            have h8 := zz_md (v := ja - x3) (p := p) (by omega)
            have h9 := zz_pr (x := ms) (y := (ja - x3) % p) (by omega) (by omega)
            refine lv_aload_n hx hb dX1_sum_139 rfl (lv_at hl 6 rfl) ?_
            refine lv_iload hx hb dX1_sum_140 (lv_at hl 1 rfl) ?_
            refine lv_aload_n hx hb dX1_sum_142 rfl (lv_at hl 6 rfl) ?_
            refine lv_iload_n hx hb dX1_sum_143 rfl (lv_at hl 5 rfl) ?_
            refine lv_iload hx hb dX1_sum_144 (lv_at hl 0 rfl) ?_
            refine zz_isub hx hb dX1_sum_146 ?_
            refine zz_callV k0 [.int (zI (ja - x3))] [.int (zI (ms)), .ref k0] ⟨hx, hb, hml, hown, hts⟩ (kX1_mod l dC dI k0 r1 r2 d1 d2 p a b s1 s2 (ja - x3) (by omega) (by omega)) (cwV 1 hts gX1_sum_X1_mod rfl rfl rfl (by decide +kernel) ⟨Nat.le_of_ble_eq_true rfl, Nat.le_of_ble_eq_true rfl⟩) hK hP 0 rfl rfl rfl hP hS rfl hl.1 rfl (Nat.le_of_ble_eq_true rfl) dX1_sum_147 ⟨Nat.le_of_ble_eq_true rfl, Nat.le_of_ble_eq_true rfl⟩ (fun H locs hP hS => ?_)
            refine zz_imul hx hb dX1_sum_150 ?_
            refine lv_iload hx hb dX1_sum_151 (lv_at hl 4 rfl) ?_
            refine zz_isub hx hb dX1_sum_153 ?_
            refine zz_callV k0 [.int (zI ((ms * ((ja - x3) % p)) - jb))] [] ⟨hx, hb, hml, hown, hts⟩ (kX1_mod l dC dI k0 r1 r2 d1 d2 p a b s1 s2 ((ms * ((ja - x3) % p)) - jb) (by omega) (by omega)) (cwV 1 hts gX1_sum_X1_mod rfl rfl rfl (by decide +kernel) ⟨Nat.le_of_ble_eq_true rfl, Nat.le_of_ble_eq_true rfl⟩) hK hP 0 rfl rfl rfl hP hS rfl hl.1 rfl (Nat.le_of_ble_eq_true rfl) dX1_sum_154 ⟨Nat.le_of_ble_eq_true rfl, Nat.le_of_ble_eq_true rfl⟩ (fun H locs hP hS => ?_)
            refine zz_topi (fun y3 ey3 => ?_)
            refine lv_istore (lv' := [(9, .int (zI (y3))), (8, .int (zI (x3))), (7, .int (zI (ms))), (6, .int (zI (jd))), (5, .int (zI (jc))), (4, .int (zI (jb))), (3, .int (zI (ja))), (0, .ref k0), (1, .int (zI (u))), (2, .int (zI (w)))]) hx hb dX1_sum_157 hl (by decide) rfl (fun ls hl => ?_)
            refine lv_sipush (v := zI 4096) hx hb dX1_sum_159 (by decide +kernel) ?_
            refine lv_iload hx hb dX1_sum_162 (lv_at hl 1 rfl) ?_
            refine zz_imul hx hb dX1_sum_164 ?_
            refine lv_iload hx hb dX1_sum_165 (lv_at hl 0 rfl) ?_
            refine zz_iadd hx hb dX1_sum_167 ?_
            have hpost : ((4096 * x3) + y3 : Int) = gs_sum p a u w := by
              unfold gs_sum gs_y gs_x
              rw [if_neg (by omega), if_neg (by omega), if_neg hno, ← hms, ← eja, ← ejb, ← ejc, ← ex3, ← ey3]
              omega
            exact W.iret (v := zI ((4096 * x3) + y3)) hx hb hr (fun t ht hW => ⟨⟨_, (), rfl, congrArg zI hpost, trivial⟩, hS.F ht⟩) hS.2.2 dX1_sum_168
        · refine lv_iconst (v := zI (-1)) hx hb dX1_sum_59 rfl ?_
          have hpost : ((-1) : Int) = gs_sum p a u w := by
            unfold gs_sum
            rw [if_neg (by omega), if_neg (by omega), if_pos (hoz.mpr (by omega))]
          exact W.iret (v := zI ((-1))) hx hb hr (fun t ht hW => ⟨⟨_, (), rfl, congrArg zI hpost, trivial⟩, hS.F ht⟩) hS.2.2 dX1_sum_60
    · refine lv_iload_n hx hb dX1_sum_12 rfl (lv_at hl 1 rfl) ?_
      have hpost : (u : Int) = gs_sum p a u w := by
        unfold gs_sum
        rw [if_neg (by omega), if_pos (by omega)]
      exact W.iret (v := zI (u)) hx hb hr (fun t ht hW => ⟨⟨_, (), rfl, congrArg zI hpost, trivial⟩, hS.F ht⟩) hS.2.2 dX1_sum_13
  · refine lv_iload_n hx hb dX1_sum_5 rfl (lv_at hl 2 rfl) ?_
    have hpost : (w : Int) = gs_sum p a u w := by
      unfold gs_sum
      rw [if_pos (by omega)]
    exact W.iret (v := zI (w)) hx hb hr (fun t ht hW => ⟨⟨_, (), rfl, congrArg zI hpost, trivial⟩, hS.F ht⟩) hS.2.2 dX1_sum_6

set_option maxHeartbeats 4000000 in
set_option maxRecDepth 100000 in
theorem kX1_add (l : Launch) (dC : Nat → ClassId) (dI : Nat → Nat → Nat) (k0 r1 r2 : Nat) (d1 d2 : ClassId) (p a b : Int) (s1 s2 : Int → Int) (u : Int) (w : Int) (hcv : gs_cv p a b) (hru : -2147483648 ≤ u ∧ u < 2147483648) (hrw : -2147483648 ≤ w ∧ w < 2147483648) : Met l yX1_add wsX1_add ({ frames := 3, cells := 0, slots := 0, locals := 76 }) (zPc (dC, dI) (ww1 k0 r1 r2 d1 d2 p a b s1 s2) (tt1 d1 d2) [.ref k0, .int (zI (u)), .int (zI (w))]) (zQi (zI (gs_aAdd p a b u w))) 0 0 zNo := by
  obtain ⟨hp1, hp2, hpp, ha, hbb, hdd⟩ := id hcv
  have hp : 5 ≤ p ∧ p ≤ 4093 := ⟨hp1, hp2⟩
  refine Met.ofW (cc := cX1_add) (maxL := 3) (ret := (some .int)) (by decide) rfl ?_
  intro pp e s m args below meth c s₁ B hml hv
  obtain ⟨rfl, hP, hK⟩ := hv
  have hx := B.exec
  have hb := B.bytes
  have hr := B.returns
  have hts := atoms_spec (ws := wsX1_add) B.pre
  have hown : s.vm.findClass RX1 = some m.cls := findClass_of_methodNamed B.named
  have hlocks := B.notSynchronized
  have hS : va_S (fun _ => False) s.heap s.heap [] := va_S.rf
  have hl := lv_entry ([.ref k0, .int (zI (u)), .int (zI (w))]) (n := 3) (Nat.le_of_ble_eq_true rfl)
  rw [lg_entry_eq]
  generalize (lg_sl ([.ref k0, .int (zI (u)), .int (zI (w))]) ++ List.replicate (3 - (lg_sl ([.ref k0, .int (zI (u)), .int (zI (w))])).length) Slot.unset).toArray = ls at hl ⊢
  have hl : lv_has ls 3 [(0, .ref k0), (1, .int (zI (u))), (2, .int (zI (w)))] := hl
  skip
  refine lv_aload_n hx hb dX1_add_0 rfl (lv_at hl 0 rfl) ?_
  refine lv_iload_n hx hb dX1_add_1 rfl (lv_at hl 1 rfl) ?_
  refine zz_callV k0 [.int (zI (u))] [] ⟨hx, hb, hml, hown, hts⟩ (kX1_on l dC dI k0 r1 r2 d1 d2 p a b s1 s2 u (by omega) (by omega) (by omega) (by omega)) (cwV 1 hts gX1_add_X1_on rfl rfl rfl (by decide +kernel) ⟨Nat.le_of_ble_eq_true rfl, Nat.le_of_ble_eq_true rfl⟩) hK hP 0 rfl rfl rfl hP hS rfl hl.1 rfl (Nat.le_of_ble_eq_true rfl) dX1_add_2 ⟨Nat.le_of_ble_eq_true rfl, Nat.le_of_ble_eq_true rfl⟩ (fun H locs hP hS => ?_)
  refine zz_if_eq (tgt := 25) hx hb dX1_add_5 (by decide) (by have hzb := zB_r (gs_ok p a b u); omega) (fun hc_1 => ?_) (fun hc_1 => ?_)
  · have hc_1 := zB_0.mp hc_1
    have hf1 := hc_1
    refine lv_bipush (v := zI (-2)) hx hb dX1_add_25 (by decide +kernel) ?_
    have hpost : ((-2) : Int) = gs_aAdd p a b u w := by
      unfold gs_aAdd
      rw [gg_ifF (fun h => hf1 h.1)]
    exact W.iret (v := zI ((-2))) hx hb hr (fun t ht hW => ⟨⟨_, (), rfl, congrArg zI hpost, trivial⟩, hS.F ht⟩) hS.2.2 dX1_add_27
  · have hc_1 := zB_1.mp hc_1
    have ht1 := hc_1
    refine lv_aload_n hx hb dX1_add_8 rfl (lv_at hl 0 rfl) ?_
    refine lv_iload_n hx hb dX1_add_9 rfl (lv_at hl 2 rfl) ?_
    refine zz_callV k0 [.int (zI (w))] [] ⟨hx, hb, hml, hown, hts⟩ (kX1_on l dC dI k0 r1 r2 d1 d2 p a b s1 s2 w (by omega) (by omega) (by omega) (by omega)) (cwV 1 hts gX1_add_X1_on rfl rfl rfl (by decide +kernel) ⟨Nat.le_of_ble_eq_true rfl, Nat.le_of_ble_eq_true rfl⟩) hK hP 0 rfl rfl rfl hP hS rfl hl.1 rfl (Nat.le_of_ble_eq_true rfl) dX1_add_10 ⟨Nat.le_of_ble_eq_true rfl, Nat.le_of_ble_eq_true rfl⟩ (fun H locs hP hS => ?_)
    refine zz_if_eq (tgt := 25) hx hb dX1_add_13 (by decide) (by have hzb := zB_r (gs_ok p a b w); omega) (fun hc_2 => ?_) (fun hc_2 => ?_)
    · have hc_2 := zB_0.mp hc_2
      have hf2 := hc_2
      refine lv_bipush (v := zI (-2)) hx hb dX1_add_25 (by decide +kernel) ?_
      have hpost : ((-2) : Int) = gs_aAdd p a b u w := by
        unfold gs_aAdd
        rw [gg_ifF (fun h => hf2 h.2)]
      exact W.iret (v := zI ((-2))) hx hb hr (fun t ht hW => ⟨⟨_, (), rfl, congrArg zI hpost, trivial⟩, hS.F ht⟩) hS.2.2 dX1_add_27
    · have hc_2 := zB_1.mp hc_2
      have ht2 := hc_2
      refine lv_aload_n hx hb dX1_add_16 rfl (lv_at hl 0 rfl) ?_
      refine lv_iload_n hx hb dX1_add_17 rfl (lv_at hl 1 rfl) ?_
      refine lv_iload_n hx hb dX1_add_18 rfl (lv_at hl 2 rfl) ?_
      refine zz_callV k0 [.int (zI (u)), .int (zI (w))] [] ⟨hx, hb, hml, hown, hts⟩ (kX1_sum l dC dI k0 r1 r2 d1 d2 p a b s1 s2 u w hcv ht1 ht2) (cwV 2 hts gX1_add_X1_sum rfl rfl rfl (by decide +kernel) ⟨Nat.le_of_ble_eq_true rfl, Nat.le_of_ble_eq_true rfl⟩) hK hP 0 rfl rfl rfl hP hS rfl hl.1 rfl (Nat.le_of_ble_eq_true rfl) dX1_add_19 ⟨Nat.le_of_ble_eq_true rfl, Nat.le_of_ble_eq_true rfl⟩ (fun H locs hP hS => ?_)
      refine lv_goto (tgt := 27) hx hb dX1_add_22 (by decide) ?_
      have hpost : (gs_sum p a u w : Int) = gs_aAdd p a b u w := by
        unfold gs_aAdd
        rw [gg_ifT ⟨ht1, ht2⟩]
      exact W.iret (v := zI (gs_sum p a u w)) hx hb hr (fun t ht hW => ⟨⟨_, (), rfl, congrArg zI hpost, trivial⟩, hS.F ht⟩) hS.2.2 dX1_add_27

set_option maxHeartbeats 4000000 in
set_option maxRecDepth 100000 in
theorem kX1_minus (l : Launch) (dC : Nat → ClassId) (dI : Nat → Nat → Nat) (k0 r1 r2 : Nat) (d1 d2 : ClassId) (p a b : Int) (s1 s2 : Int → Int) (u : Int) (hp : 5 ≤ p ∧ p ≤ 4093) (hu : u = -1 ∨ (0 ≤ u ∧ u / 4096 < p ∧ u % 4096 < p)) : Met l yX1_minus wsX1_minus ({ frames := 1, cells := 0, slots := 0, locals := 22 }) (zPc (dC, dI) (ww1 k0 r1 r2 d1 d2 p a b s1 s2) (tt1 d1 d2) [.ref k0, .int (zI (u))]) (zQi (zI (gs_opp p u))) 0 0 zNo := by
  refine Met.ofW (cc := cX1_minus) (maxL := 2) (ret := (some .int)) (by decide) rfl ?_
  intro pp e s m args below meth c s₁ B hml hv
  obtain ⟨rfl, hP, hK⟩ := hv
  have hx := B.exec
  have hb := B.bytes
  have hr := B.returns
  have hts := atoms_spec (ws := wsX1_minus) B.pre
  have hown : s.vm.findClass RX1 = some m.cls := findClass_of_methodNamed B.named
  have hlocks := B.notSynchronized
  have hS : va_S (fun _ => False) s.heap s.heap [] := va_S.rf
  have hl := lv_entry ([.ref k0, .int (zI (u))]) (n := 2) (Nat.le_of_ble_eq_true rfl)
  rw [lg_entry_eq]
  generalize (lg_sl ([.ref k0, .int (zI (u))]) ++ List.replicate (2 - (lg_sl ([.ref k0, .int (zI (u))])).length) Slot.unset).toArray = ls at hl ⊢
  have hl : lv_has ls 2 [(0, .ref k0), (1, .int (zI (u)))] := hl
  skip
  refine lv_iload_n hx hb dX1_minus_0 rfl (lv_at hl 1 rfl) ?_
  refine lv_iconst (v := zI (-1)) hx hb dX1_minus_1 rfl ?_
  refine zz_icmp_ne (tgt := 9) hx hb dX1_minus_2 (by decide) (by omega) ⟨by decide, by decide⟩ (fun hc_1 => ?_) (fun hc_1 => ?_)
  · refine lv_iload_n hx hb dX1_minus_9 rfl (lv_at hl 1 rfl) ?_
    refine lv_sipush (v := zI 4096) hx hb dX1_minus_10 (by decide +kernel) ?_
    refine zz_idiv hx hb dX1_minus_13 (by omega) ?_
    refine lv_sipush (v := zI 4096) hx hb dX1_minus_14 (by decide +kernel) ?_
    refine zz_imul hx hb dX1_minus_17 ?_
    refine lv_aload_n hx hb dX1_minus_18 rfl (lv_at hl 0 rfl) ?_
    refine lv_iload_n hx hb dX1_minus_19 rfl (lv_at hl 1 rfl) ?_
    refine lv_sipush (v := zI 4096) hx hb dX1_minus_20 (by decide +kernel) ?_
    refine zz_irem hx hb dX1_minus_23 (by omega) ?_
    refine zz_ineg hx hb dX1_minus_24 ?_
    refine zz_callV k0 [.int (zI (- (u % 4096)))] [.int (zI ((u / 4096) * 4096))] ⟨hx, hb, hml, hown, hts⟩ (kX1_mod l dC dI k0 r1 r2 d1 d2 p a b s1 s2 (- (u % 4096)) (by omega) (by omega)) (cwV 1 hts gX1_minus_X1_mod rfl rfl rfl (by decide +kernel) ⟨Nat.le_of_ble_eq_true rfl, Nat.le_of_ble_eq_true rfl⟩) hK hP 0 rfl rfl rfl hP hS rfl hl.1 rfl (Nat.le_of_ble_eq_true rfl) dX1_minus_25 ⟨Nat.le_of_ble_eq_true rfl, Nat.le_of_ble_eq_true rfl⟩ (fun H locs hP hS => ?_)
    refine zz_iadd hx hb dX1_minus_28 ?_
    have hpost : (((u / 4096) * 4096) + ((- (u % 4096)) % p) : Int) = gs_opp p u := by
      exact gs_min hp (by omega)
    exact W.iret (v := zI (((u / 4096) * 4096) + ((- (u % 4096)) % p))) hx hb hr (fun t ht hW => ⟨⟨_, (), rfl, congrArg zI hpost, trivial⟩, hS.F ht⟩) hS.2.2 dX1_minus_29
  · refine lv_iconst (v := zI (-1)) hx hb dX1_minus_5 rfl ?_
    refine lv_goto (tgt := 29) hx hb dX1_minus_6 (by decide) ?_
    have hpost : ((-1) : Int) = gs_opp p u := by
      unfold gs_opp
      rw [if_pos (by omega)]
      omega
    exact W.iret (v := zI ((-1))) hx hb hr (fun t ht hW => ⟨⟨_, (), rfl, congrArg zI hpost, trivial⟩, hS.F ht⟩) hS.2.2 dX1_minus_29

set_option maxHeartbeats 4000000 in
set_option maxRecDepth 100000 in
theorem kX1_negative (l : Launch) (dC : Nat → ClassId) (dI : Nat → Nat → Nat) (k0 r1 r2 : Nat) (d1 d2 : ClassId) (p a b : Int) (s1 s2 : Int → Int) (u : Int) (hcv : gs_cv p a b) (hru : -2147483648 ≤ u ∧ u < 2147483648) : Met l yX1_negative wsX1_negative ({ frames := 3, cells := 0, slots := 0, locals := 66 }) (zPc (dC, dI) (ww1 k0 r1 r2 d1 d2 p a b s1 s2) (tt1 d1 d2) [.ref k0, .int (zI (u))]) (zQi (zI (gs_aNeg p a b u))) 0 0 zNo := by
  obtain ⟨hp1, hp2, hpp, ha, hbb, hdd⟩ := id hcv
  have hp : 5 ≤ p ∧ p ≤ 4093 := ⟨hp1, hp2⟩
  refine Met.ofW (cc := cX1_negative) (maxL := 2) (ret := (some .int)) (by decide) rfl ?_
  intro pp e s m args below meth c s₁ B hml hv
  obtain ⟨rfl, hP, hK⟩ := hv
  have hx := B.exec
  have hb := B.bytes
  have hr := B.returns
  have hts := atoms_spec (ws := wsX1_negative) B.pre
  have hown : s.vm.findClass RX1 = some m.cls := findClass_of_methodNamed B.named
  have hlocks := B.notSynchronized
  have hS : va_S (fun _ => False) s.heap s.heap [] := va_S.rf
  have hl := lv_entry ([.ref k0, .int (zI (u))]) (n := 2) (Nat.le_of_ble_eq_true rfl)
  rw [lg_entry_eq]
  generalize (lg_sl ([.ref k0, .int (zI (u))]) ++ List.replicate (2 - (lg_sl ([.ref k0, .int (zI (u))])).length) Slot.unset).toArray = ls at hl ⊢
  have hl : lv_has ls 2 [(0, .ref k0), (1, .int (zI (u)))] := hl
  skip
  refine lv_aload_n hx hb dX1_negative_0 rfl (lv_at hl 0 rfl) ?_
  refine lv_iload_n hx hb dX1_negative_1 rfl (lv_at hl 1 rfl) ?_
  refine zz_callV k0 [.int (zI (u))] [] ⟨hx, hb, hml, hown, hts⟩ (kX1_on l dC dI k0 r1 r2 d1 d2 p a b s1 s2 u (by omega) (by omega) (by omega) (by omega)) (cwV 1 hts gX1_negative_X1_on rfl rfl rfl (by decide +kernel) ⟨Nat.le_of_ble_eq_true rfl, Nat.le_of_ble_eq_true rfl⟩) hK hP 0 rfl rfl rfl hP hS rfl hl.1 rfl (Nat.le_of_ble_eq_true rfl) dX1_negative_2 ⟨Nat.le_of_ble_eq_true rfl, Nat.le_of_ble_eq_true rfl⟩ (fun H locs hP hS => ?_)
  refine zz_if_eq (tgt := 16) hx hb dX1_negative_5 (by decide) (by have hzb := zB_r (gs_ok p a b u); omega) (fun hc_1 => ?_) (fun hc_1 => ?_)
  · have hc_1 := zB_0.mp hc_1
    have hf1 := hc_1
    refine lv_bipush (v := zI (-2)) hx hb dX1_negative_16 (by decide +kernel) ?_
    have hpost : ((-2) : Int) = gs_aNeg p a b u := by
      unfold gs_aNeg
      rw [gg_ifF hf1]
    exact W.iret (v := zI ((-2))) hx hb hr (fun t ht hW => ⟨⟨_, (), rfl, congrArg zI hpost, trivial⟩, hS.F ht⟩) hS.2.2 dX1_negative_18
  · have hc_1 := zB_1.mp hc_1
    have ht1 := hc_1
    refine lv_aload_n hx hb dX1_negative_8 rfl (lv_at hl 0 rfl) ?_
    refine lv_iload_n hx hb dX1_negative_9 rfl (lv_at hl 1 rfl) ?_
    refine zz_callV k0 [.int (zI (u))] [] ⟨hx, hb, hml, hown, hts⟩ (kX1_minus l dC dI k0 r1 r2 d1 d2 p a b s1 s2 u hp (gs_okR ht1)) (cwV 1 hts gX1_negative_X1_minus rfl rfl rfl (by decide +kernel) ⟨Nat.le_of_ble_eq_true rfl, Nat.le_of_ble_eq_true rfl⟩) hK hP 0 rfl rfl rfl hP hS rfl hl.1 rfl (Nat.le_of_ble_eq_true rfl) dX1_negative_10 ⟨Nat.le_of_ble_eq_true rfl, Nat.le_of_ble_eq_true rfl⟩ (fun H locs hP hS => ?_)
    refine lv_goto (tgt := 18) hx hb dX1_negative_13 (by decide) ?_
    have hpost : (gs_opp p u : Int) = gs_aNeg p a b u := by
      unfold gs_aNeg
      rw [gg_ifT ht1]
    exact W.iret (v := zI (gs_opp p u)) hx hb hr (fun t ht hW => ⟨⟨_, (), rfl, congrArg zI hpost, trivial⟩, hS.F ht⟩) hS.2.2 dX1_negative_18

set_option maxHeartbeats 4000000 in
set_option maxRecDepth 100000 in
theorem kX1_order (l : Launch) (dC : Nat → ClassId) (dI : Nat → Nat → Nat) (k0 r1 r2 : Nat) (d1 d2 : ClassId) (p a b : Int) (s1 s2 : Int → Int) (u : Int) (hcv : gs_cv p a b) (hru : -2147483648 ≤ u ∧ u < 2147483648) : Met l yX1_order wsX1_order ({ frames := 3, cells := 0, slots := 0, locals := 76 }) (zPc (dC, dI) (ww1 k0 r1 r2 d1 d2 p a b s1 s2) (tt1 d1 d2) [.ref k0, .int (zI (u))]) (zQi (zI (gs_aOrder p a b u))) 0 0 zNo := by
  obtain ⟨hp1, hp2, hpp, ha, hbb, hdd⟩ := id hcv
  have hp : 5 ≤ p ∧ p ≤ 4093 := ⟨hp1, hp2⟩
  refine Met.ofW (cc := cX1_order) (maxL := 4) (ret := (some .int)) (by decide) rfl ?_
  intro pp e s m args below meth c s₁ B hml hv
  obtain ⟨rfl, hP, hK⟩ := hv
  have hx := B.exec
  have hb := B.bytes
  have hr := B.returns
  have hts := atoms_spec (ws := wsX1_order) B.pre
  have hown : s.vm.findClass RX1 = some m.cls := findClass_of_methodNamed B.named
  have hlocks := B.notSynchronized
  have hS : va_S (fun _ => False) s.heap s.heap [] := va_S.rf
  have hl := lv_entry ([.ref k0, .int (zI (u))]) (n := 4) (Nat.le_of_ble_eq_true rfl)
  rw [lg_entry_eq]
  generalize (lg_sl ([.ref k0, .int (zI (u))]) ++ List.replicate (4 - (lg_sl ([.ref k0, .int (zI (u))])).length) Slot.unset).toArray = ls at hl ⊢
  have hl : lv_has ls 4 [(0, .ref k0), (1, .int (zI (u)))] := hl
  skip
  refine lv_aload_n hx hb dX1_order_0 rfl (lv_at hl 0 rfl) ?_
  refine lv_iload_n hx hb dX1_order_1 rfl (lv_at hl 1 rfl) ?_
  refine zz_callV k0 [.int (zI (u))] [] ⟨hx, hb, hml, hown, hts⟩ (kX1_on l dC dI k0 r1 r2 d1 d2 p a b s1 s2 u (by omega) (by omega) (by omega) (by omega)) (cwV 1 hts gX1_order_X1_on rfl rfl rfl (by decide +kernel) ⟨Nat.le_of_ble_eq_true rfl, Nat.le_of_ble_eq_true rfl⟩) hK hP 0 rfl rfl rfl hP hS rfl hl.1 rfl (Nat.le_of_ble_eq_true rfl) dX1_order_2 ⟨Nat.le_of_ble_eq_true rfl, Nat.le_of_ble_eq_true rfl⟩ (fun H locs hP hS => ?_)
  refine zz_if_ne (tgt := 11) hx hb dX1_order_5 (by decide) (by have hzb := zB_r (gs_ok p a b u); omega) (fun hc_1 => ?_) (fun hc_1 => ?_)
  · have hc_1 := zB_1.mp hc_1
    have ht1 := hc_1
    have hKo := gs_orderOk hcv ht1
    have hKn := gs_ordLe hcv ht1 hKo
    have hnl := gs_nLe (a := a) (b := b) hp hpp
    have hK1 := hKo.1
    refine lv_iload_n hx hb dX1_order_11 rfl (lv_at hl 1 rfl) ?_
    refine lv_istore_n (lv' := [(2, .int (zI (u))), (0, .ref k0), (1, .int (zI (u)))]) hx hb dX1_order_12 rfl hl (by decide) rfl (fun ls hl => ?_)
    refine lv_iconst (v := zI 1) hx hb dX1_order_13 rfl ?_
    refine lv_istore_n (lv' := [(3, .int (zI (1))), (2, .int (zI (u))), (0, .ref k0), (1, .int (zI (u)))]) hx hb dX1_order_14 rfl hl (by decide) rfl (fun ls hl => ?_)
    have hi_15 : 1 ≤ (1 : Int) ∧ (1 : Int) ≤ gs_order p a u ∧ u = gs_pw p a u ((1 : Int)).toNat := by
      exact ⟨by omega, by omega, (gs_pw1 p a u).symm⟩
    refine zz_loopR (σ := Int × Int) (fun zs => 1 ≤ zs.2 ∧ zs.2 ≤ gs_order p a u ∧ zs.1 = gs_pw p a u (zs.2).toNat) (fun zs => (10000 - zs.2).toNat) (fun zs => [(3, .int (zI (zs.2))), (2, .int (zI (zs.1))), (0, .ref k0), (1, .int (zI (u)))]) ?_ (u, 1) hi_15 _ _ _ hP hS (lv_sub hl [0, 1, 2, 3] rfl)
    intro zs hI_15 ih_15 H locs ls hP hS hl
    clear hi_15
    obtain ⟨rc, kc⟩ := zs
    have hI_15 : 1 ≤ kc ∧ kc ≤ gs_order p a u ∧ rc = gs_pw p a u (kc).toNat := hI_15
    have hl : lv_has ls 4 [(3, .int (zI (kc))), (2, .int (zI (rc))), (0, .ref k0), (1, .int (zI (u)))] := hl
    have hP : va_P (dC, dI) vwCl (ww1 k0 r1 r2 d1 d2 p a b s1 s2) H := hP
    obtain ⟨i1, i2, i3⟩ := hI_15
    refine lv_iload_n hx hb dX1_order_15 rfl (lv_at hl 1 rfl) ?_
    refine lv_iconst (v := zI (-1)) hx hb dX1_order_16 rfl ?_
    have hrr := gs_okR (gs_pwOk hcv ht1 kc.toNat)
    rw [← i3] at hrr
    refine zz_icmp_eq (tgt := 40) hx hb dX1_order_17 (by decide) (by omega) ⟨by decide, by decide⟩ (fun hc_2 => ?_) (fun hc_2 => ?_)
    · have hr1 := hc_2
      refine lv_iload_n hx hb dX1_order_40 rfl (lv_at hl 0 rfl) ?_
      have hpost : (kc : Int) = gs_aOrder p a b u := by
        unfold gs_aOrder
        rw [gg_ifT ht1]
        rcases Int.lt_or_le kc (gs_order p a u) with h | h
        · rw [i3] at hr1
          exact absurd hr1 (hKo.2.2 kc.toNat (by omega) (by omega))
        · omega
      exact W.iret (v := zI (kc)) hx hb hr (fun t ht hW => ⟨⟨_, (), rfl, congrArg zI hpost, trivial⟩, hS.F ht⟩) hS.2.2 dX1_order_41
    · have hr0 := hc_2
      refine lv_iload_n hx hb dX1_order_20 rfl (lv_at hl 0 rfl) ?_
      refine lv_sipush (v := zI 10000) hx hb dX1_order_21 (by decide +kernel) ?_
      refine zz_icmp_ge (tgt := 40) hx hb dX1_order_24 (by decide) (by omega) ⟨by decide, by decide⟩ (fun hc_3 => ?_) (fun hc_3 => ?_)
      · exact absurd hc_3 (by omega)
      · refine lv_aload_n hx hb dX1_order_27 rfl (lv_at hl 2 rfl) ?_
        refine lv_iload_n hx hb dX1_order_28 rfl (lv_at hl 1 rfl) ?_
        refine lv_iload_n hx hb dX1_order_29 rfl (lv_at hl 3 rfl) ?_
        refine zz_callV k0 [.int (zI (rc)), .int (zI (u))] [] ⟨hx, hb, hml, hown, hts⟩ (kX1_sum l dC dI k0 r1 r2 d1 d2 p a b s1 s2 rc u hcv (by rw [i3]; exact gs_pwOk hcv ht1 _) ht1) (cwV 2 hts gX1_order_X1_sum rfl rfl rfl (by decide +kernel) ⟨Nat.le_of_ble_eq_true rfl, Nat.le_of_ble_eq_true rfl⟩) hK hP 0 rfl rfl rfl hP hS rfl hl.1 rfl (Nat.le_of_ble_eq_true rfl) dX1_order_30 ⟨Nat.le_of_ble_eq_true rfl, Nat.le_of_ble_eq_true rfl⟩ (fun H locs hP hS => ?_)
        refine zz_topi (fun rd erd => ?_)
        refine lv_istore_n (lv' := [(2, .int (zI (rd))), (3, .int (zI (kc))), (0, .ref k0), (1, .int (zI (u)))]) hx hb dX1_order_33 rfl hl (by decide) rfl (fun ls hl => ?_)
        obtain ⟨kd, ekd⟩ : ∃ y : Int, y = kc + 1 := ⟨_, rfl⟩
        refine zz_iinc (v := kd) (lv' := [(3, .int (zI (kd))), (2, .int (zI (rd))), (0, .ref k0), (1, .int (zI (u)))]) hx hb dX1_order_34 hl (k := 1) rfl ekd (by decide) rfl (fun ls hl => ?_)
        refine lv_goto (tgt := 15) hx hb dX1_order_37 (by decide) ?_
        have hn_15 : 1 ≤ kd ∧ kd ≤ gs_order p a u ∧ rd = gs_pw p a u (kd).toNat := by
          have hkk : kc ≠ gs_order p a u := fun q => hr0 (by rw [i3, q]; exact hKo.2.1)
          refine ⟨by omega, by omega, ?_⟩
          rw [erd, ekd, gs_pwSz p a u (by omega), i3]
        have hm_15 : (10000 - kd).toNat < (10000 - kc).toNat := by
          omega
        exact ih_15 (rd, kd) hn_15 hm_15 _ _ _ hP hS (lv_sub hl [0, 1, 2, 3] rfl)
  · have hc_1 := zB_0.mp hc_1
    have hf1 := hc_1
    refine lv_bipush (v := zI (-2)) hx hb dX1_order_8 (by decide +kernel) ?_
    have hpost : ((-2) : Int) = gs_aOrder p a b u := by
      unfold gs_aOrder
      rw [gg_ifF hf1]
    exact W.iret (v := zI ((-2))) hx hb hr (fun t ht hW => ⟨⟨_, (), rfl, congrArg zI hpost, trivial⟩, hS.F ht⟩) hS.2.2 dX1_order_10

set_option maxHeartbeats 4000000 in
set_option maxRecDepth 100000 in
theorem kX1_times (l : Launch) (dC : Nat → ClassId) (dI : Nat → Nat → Nat) (k0 r1 r2 : Nat) (d1 d2 : ClassId) (p a b : Int) (s1 s2 : Int → Int) (k : Int) (u : Int) (hcv : gs_cv p a b) (hrk : -2147483648 ≤ k ∧ k < 2147483648) (hru : -2147483648 ≤ u ∧ u < 2147483648) : Met l yX1_times wsX1_times ({ frames := 4, cells := 0, slots := 0, locals := 99 }) (zPc (dC, dI) (ww1 k0 r1 r2 d1 d2 p a b s1 s2) (tt1 d1 d2) [.ref k0, .int (zI (k)), .int (zI (u))]) (zQi (zI (gs_aTimes p a b k u))) 0 0 zNo := by
  obtain ⟨hp1, hp2, hpp, ha, hbb, hdd⟩ := id hcv
  have hp : 5 ≤ p ∧ p ≤ 4093 := ⟨hp1, hp2⟩
  refine Met.ofW (cc := cX1_times) (maxL := 8) (ret := (some .int)) (by decide) rfl ?_
  intro pp e s m args below meth c s₁ B hml hv
  obtain ⟨rfl, hP, hK⟩ := hv
  have hx := B.exec
  have hb := B.bytes
  have hr := B.returns
  have hts := atoms_spec (ws := wsX1_times) B.pre
  have hown : s.vm.findClass RX1 = some m.cls := findClass_of_methodNamed B.named
  have hlocks := B.notSynchronized
  have hS : va_S (fun _ => False) s.heap s.heap [] := va_S.rf
  have hl := lv_entry ([.ref k0, .int (zI (k)), .int (zI (u))]) (n := 8) (Nat.le_of_ble_eq_true rfl)
  rw [lg_entry_eq]
  generalize (lg_sl ([.ref k0, .int (zI (k)), .int (zI (u))]) ++ List.replicate (8 - (lg_sl ([.ref k0, .int (zI (k)), .int (zI (u))])).length) Slot.unset).toArray = ls at hl ⊢
  have hl : lv_has ls 8 [(0, .ref k0), (1, .int (zI (k))), (2, .int (zI (u)))] := hl
  skip
  refine lv_aload_n hx hb dX1_times_0 rfl (lv_at hl 0 rfl) ?_
  refine lv_iload_n hx hb dX1_times_1 rfl (lv_at hl 2 rfl) ?_
  refine zz_callV k0 [.int (zI (u))] [] ⟨hx, hb, hml, hown, hts⟩ (kX1_on l dC dI k0 r1 r2 d1 d2 p a b s1 s2 u (by omega) (by omega) (by omega) (by omega)) (cwV 1 hts gX1_times_X1_on rfl rfl rfl (by decide +kernel) ⟨Nat.le_of_ble_eq_true rfl, Nat.le_of_ble_eq_true rfl⟩) hK hP 0 rfl rfl rfl hP hS rfl hl.1 rfl (Nat.le_of_ble_eq_true rfl) dX1_times_2 ⟨Nat.le_of_ble_eq_true rfl, Nat.le_of_ble_eq_true rfl⟩ (fun H locs hP hS => ?_)
  refine zz_if_ne (tgt := 11) hx hb dX1_times_5 (by decide) (by have hzb := zB_r (gs_ok p a b u); omega) (fun hc_1 => ?_) (fun hc_1 => ?_)
  · have hc_1 := zB_1.mp hc_1
    have ht1 := hc_1
    have hKo := gs_orderOk hcv ht1
    have hKn := gs_ordLe hcv ht1 hKo
    have hnl := gs_nLe (a := a) (b := b) hp hpp
    have hK1 := hKo.1
    refine lv_aload_n hx hb dX1_times_11 rfl (lv_at hl 0 rfl) ?_
    refine lv_iload_n hx hb dX1_times_12 rfl (lv_at hl 2 rfl) ?_
    refine zz_callV k0 [.int (zI (u))] [] ⟨hx, hb, hml, hown, hts⟩ (kX1_order l dC dI k0 r1 r2 d1 d2 p a b s1 s2 u hcv hru) (cwV 1 hts gX1_times_X1_order rfl rfl rfl (by decide +kernel) ⟨Nat.le_of_ble_eq_true rfl, Nat.le_of_ble_eq_true rfl⟩) hK hP 0 rfl rfl rfl hP hS rfl hl.1 rfl (Nat.le_of_ble_eq_true rfl) dX1_times_13 ⟨Nat.le_of_ble_eq_true rfl, Nat.le_of_ble_eq_true rfl⟩ (fun H locs hP hS => ?_)
    refine zz_topi (fun mn emn => ?_)
    refine lv_istore_n (lv' := [(3, .int (zI (mn))), (0, .ref k0), (1, .int (zI (k))), (2, .int (zI (u)))]) hx hb dX1_times_16 rfl hl (by decide) rfl (fun ls hl => ?_)
    have hmn : mn = gs_order p a u := by rw [emn]; unfold gs_aOrder; rw [gg_ifT ht1]
    refine lv_iload_n hx hb dX1_times_17 rfl (lv_at hl 2 rfl) ?_
    refine lv_iload_n hx hb dX1_times_18 rfl (lv_at hl 0 rfl) ?_
    refine zz_iremT hx hb dX1_times_19 (by omega) ?_
    refine zz_topi (fun lt elt => ?_)
    refine lv_istore (lv' := [(4, .int (zI (lt))), (3, .int (zI (mn))), (0, .ref k0), (1, .int (zI (k))), (2, .int (zI (u)))]) hx hb dX1_times_20 hl (by decide) rfl (fun ls hl => ?_)
    have hmm := Int.tmod_lt_of_pos k (show 0 < mn by omega)
    have hmq := Int.lt_tmod_of_pos k (show 0 < mn by omega)
    rw [← elt] at hmm hmq
    refine lv_iload hx hb dX1_times_22 (lv_at hl 0 rfl) ?_
    refine zz_if_ge (tgt := 35) hx hb dX1_times_24 (by decide) (by omega) (fun hc_2 => ?_) (fun hc_2 => ?_)
    · refine lv_iload_n hx hb dX1_times_35 rfl (lv_at hl 4 rfl) ?_
      refine lv_istore (lv' := [(5, .int (zI (u))), (4, .int (zI (lt))), (3, .int (zI (mn))), (0, .ref k0), (1, .int (zI (k))), (2, .int (zI (u)))]) hx hb dX1_times_36 hl (by decide) rfl (fun ls hl => ?_)
      refine lv_iload hx hb dX1_times_38 (lv_at hl 1 rfl) ?_
      refine zz_if_ge (tgt := 48) hx hb dX1_times_40 (by decide) (by omega) (fun hc_3 => ?_) (fun hc_3 => ?_)
      · have hl0 := hc_3
        obtain ⟨on, eon⟩ : ∃ z : Int, z = u := ⟨_, rfl⟩
        obtain ⟨l2, el2⟩ : ∃ z : Int, z = lt := ⟨_, rfl⟩
        have hon : gs_ok p a b on := by rw [eon]; exact ht1
        have hfin : gs_times p a k u = gs_pw p a on l2.toNat := by
          rw [eon, el2, elt, hmn]
          refine gs_timesP hcv ht1 hKo (by rw [← hmn, ← elt]; omega) ?_
          rcases Int.lt_or_le k 0 with h | h
          · right
            have h2 := Int.tmod_nonneg mn (show 0 ≤ - k by omega)
            rw [Int.neg_tmod, ← elt] at h2
            rw [← hmn, ← elt]
            omega
          · exact Or.inl h
        refine lv_iconst (v := zI (-1)) hx hb dX1_times_48 rfl ?_
        refine lv_istore (lv' := [(6, .int (zI ((-1)))), (5, .int (zI (u))), (4, .int (zI (lt))), (3, .int (zI (mn))), (0, .ref k0), (1, .int (zI (k))), (2, .int (zI (u)))]) hx hb dX1_times_49 hl (by decide) rfl (fun ls hl => ?_)
        refine lv_iconst (v := zI 0) hx hb dX1_times_51 rfl ?_
        refine lv_istore (lv' := [(7, .int (zI (0))), (6, .int (zI ((-1)))), (5, .int (zI (u))), (4, .int (zI (lt))), (3, .int (zI (mn))), (0, .ref k0), (1, .int (zI (k))), (2, .int (zI (u)))]) hx hb dX1_times_52 hl (by decide) rfl (fun ls hl => ?_)
        have hi_54 : 0 ≤ (0 : Int) ∧ (0 : Int) ≤ l2 ∧ (-1 : Int) = gs_pw p a on ((0 : Int)).toNat := by
          exact ⟨by omega, by omega, rfl⟩
        refine zz_loopR (σ := Int × Int) (fun zs => 0 ≤ zs.2 ∧ zs.2 ≤ l2 ∧ zs.1 = gs_pw p a on (zs.2).toNat) (fun zs => (l2 - zs.2).toNat) (fun zs => [(7, .int (zI (zs.2))), (6, .int (zI (zs.1))), (5, .int (zI (u))), (4, .int (zI (lt))), (3, .int (zI (mn))), (0, .ref k0), (1, .int (zI (k))), (2, .int (zI (u)))]) ?_ ((-1), 0) hi_54 _ _ _ hP hS (lv_sub hl [0, 1, 2, 3, 4, 5, 6, 7] rfl)
        intro zs hI_54 ih_54 H locs ls hP hS hl
        clear hi_54
        obtain ⟨rc, jc⟩ := zs
        have hI_54 : 0 ≤ jc ∧ jc ≤ l2 ∧ rc = gs_pw p a on (jc).toNat := hI_54
        have hl : lv_has ls 8 [(7, .int (zI (jc))), (6, .int (zI (rc))), (5, .int (zI (u))), (4, .int (zI (lt))), (3, .int (zI (mn))), (0, .ref k0), (1, .int (zI (k))), (2, .int (zI (u)))] := hl
        have hP : va_P (dC, dI) vwCl (ww1 k0 r1 r2 d1 d2 p a b s1 s2) H := hP
        obtain ⟨j1, j2, j3⟩ := hI_54
        refine lv_iload hx hb dX1_times_54 (lv_at hl 0 rfl) ?_
        refine lv_iload hx hb dX1_times_56 (lv_at hl 3 rfl) ?_
        refine zz_icmp_ge (tgt := 77) hx hb dX1_times_58 (by decide) (by omega) (by omega) (fun hc_4 => ?_) (fun hc_4 => ?_)
        · refine lv_iload hx hb dX1_times_77 (lv_at hl 1 rfl) ?_
          have hpost : (rc : Int) = gs_aTimes p a b k u := by
            unfold gs_aTimes
            rw [gg_ifT ht1, hfin, j3, show jc = l2 by omega]
          exact W.iret (v := zI (rc)) hx hb hr (fun t ht hW => ⟨⟨_, (), rfl, congrArg zI hpost, trivial⟩, hS.F ht⟩) hS.2.2 dX1_times_79
        · refine lv_aload_n hx hb dX1_times_61 rfl (lv_at hl 5 rfl) ?_
          refine lv_iload hx hb dX1_times_62 (lv_at hl 1 rfl) ?_
          refine lv_iload hx hb dX1_times_64 (lv_at hl 2 rfl) ?_
          refine zz_callV k0 [.int (zI (rc)), .int (zI (u))] [] ⟨hx, hb, hml, hown, hts⟩ (kX1_sum l dC dI k0 r1 r2 d1 d2 p a b s1 s2 rc u hcv (by rw [j3]; exact gs_pwOk hcv hon _) (by rw [← eon]; exact hon)) (cwV 2 hts gX1_times_X1_sum rfl rfl rfl (by decide +kernel) ⟨Nat.le_of_ble_eq_true rfl, Nat.le_of_ble_eq_true rfl⟩) hK hP 0 rfl rfl rfl hP hS rfl hl.1 rfl (Nat.le_of_ble_eq_true rfl) dX1_times_66 ⟨Nat.le_of_ble_eq_true rfl, Nat.le_of_ble_eq_true rfl⟩ (fun H locs hP hS => ?_)
          refine zz_topi (fun rd erd => ?_)
          refine lv_istore (lv' := [(6, .int (zI (rd))), (7, .int (zI (jc))), (5, .int (zI (u))), (4, .int (zI (lt))), (3, .int (zI (mn))), (0, .ref k0), (1, .int (zI (k))), (2, .int (zI (u)))]) hx hb dX1_times_69 hl (by decide) rfl (fun ls hl => ?_)
          obtain ⟨jd, ejd⟩ : ∃ y : Int, y = jc + 1 := ⟨_, rfl⟩
          refine zz_iinc (v := jd) (lv' := [(7, .int (zI (jd))), (6, .int (zI (rd))), (5, .int (zI (u))), (4, .int (zI (lt))), (3, .int (zI (mn))), (0, .ref k0), (1, .int (zI (k))), (2, .int (zI (u)))]) hx hb dX1_times_71 hl (k := 1) rfl ejd (by decide) rfl (fun ls hl => ?_)
          refine lv_goto (tgt := 54) hx hb dX1_times_74 (by decide) ?_
          have hn_54 : 0 ≤ jd ∧ jd ≤ l2 ∧ rd = gs_pw p a on (jd).toNat := by
            refine ⟨by omega, by omega, ?_⟩
            rw [ejd, erd, gs_pwSz p a on j1, ← j3, eon]
          have hm_54 : (l2 - jd).toNat < (l2 - jc).toNat := by
            omega
          exact ih_54 (rd, jd) hn_54 hm_54 _ _ _ hP hS (lv_sub hl [0, 1, 2, 3, 4, 5, 6, 7] rfl)
      · exact absurd hc_3 (by omega)
    · refine lv_aload_n hx hb dX1_times_27 rfl (lv_at hl 2 rfl) ?_
      refine lv_iload_n hx hb dX1_times_28 rfl (lv_at hl 4 rfl) ?_
      refine zz_callV k0 [.int (zI (u))] [] ⟨hx, hb, hml, hown, hts⟩ (kX1_minus l dC dI k0 r1 r2 d1 d2 p a b s1 s2 u hp (gs_okR ht1)) (cwV 1 hts gX1_times_X1_minus rfl rfl rfl (by decide +kernel) ⟨Nat.le_of_ble_eq_true rfl, Nat.le_of_ble_eq_true rfl⟩) hK hP 0 rfl rfl rfl hP hS rfl hl.1 rfl (Nat.le_of_ble_eq_true rfl) dX1_times_29 ⟨Nat.le_of_ble_eq_true rfl, Nat.le_of_ble_eq_true rfl⟩ (fun H locs hP hS => ?_)
      refine lv_goto (tgt := 36) hx hb dX1_times_32 (by decide) ?_
      refine zz_topi (fun on eon => ?_)
      refine lv_istore (lv' := [(5, .int (zI (on))), (4, .int (zI (lt))), (3, .int (zI (mn))), (0, .ref k0), (1, .int (zI (k))), (2, .int (zI (u)))]) hx hb dX1_times_36 hl (by decide) rfl (fun ls hl => ?_)
      refine lv_iload hx hb dX1_times_38 (lv_at hl 1 rfl) ?_
      refine zz_if_ge (tgt := 48) hx hb dX1_times_40 (by decide) (by omega) (fun hc_5 => ?_) (fun hc_5 => ?_)
      · exact absurd hc_5 (by omega)
      · have hl1 := hc_5
        refine lv_iload hx hb dX1_times_43 (lv_at hl 1 rfl) ?_
        refine zz_ineg hx hb dX1_times_45 ?_
        refine zz_topi (fun l2 el2 => ?_)
        refine lv_istore (lv' := [(4, .int (zI (l2))), (5, .int (zI (on))), (3, .int (zI (mn))), (0, .ref k0), (1, .int (zI (k))), (2, .int (zI (u)))]) hx hb dX1_times_46 hl (by decide) rfl (fun ls hl => ?_)
        have hon : gs_ok p a b on := by rw [eon]; exact gs_oppOkZ hcv ht1
        have hfin : gs_times p a k u = gs_pw p a on l2.toNat := by
          rw [eon, el2, elt, hmn]
          exact gs_timesN hcv ht1 hKo (by rw [← hmn, ← elt]; omega)
        refine lv_iconst (v := zI (-1)) hx hb dX1_times_48 rfl ?_
        refine lv_istore (lv' := [(6, .int (zI ((-1)))), (4, .int (zI (l2))), (5, .int (zI (on))), (3, .int (zI (mn))), (0, .ref k0), (1, .int (zI (k))), (2, .int (zI (u)))]) hx hb dX1_times_49 hl (by decide) rfl (fun ls hl => ?_)
        refine lv_iconst (v := zI 0) hx hb dX1_times_51 rfl ?_
        refine lv_istore (lv' := [(7, .int (zI (0))), (6, .int (zI ((-1)))), (4, .int (zI (l2))), (5, .int (zI (on))), (3, .int (zI (mn))), (0, .ref k0), (1, .int (zI (k))), (2, .int (zI (u)))]) hx hb dX1_times_52 hl (by decide) rfl (fun ls hl => ?_)
        have hi_54 : 0 ≤ (0 : Int) ∧ (0 : Int) ≤ l2 ∧ (-1 : Int) = gs_pw p a on ((0 : Int)).toNat := by
          exact ⟨by omega, by omega, rfl⟩
        refine zz_loopR (σ := Int × Int) (fun zs => 0 ≤ zs.2 ∧ zs.2 ≤ l2 ∧ zs.1 = gs_pw p a on (zs.2).toNat) (fun zs => (l2 - zs.2).toNat) (fun zs => [(7, .int (zI (zs.2))), (6, .int (zI (zs.1))), (4, .int (zI (l2))), (5, .int (zI (on))), (3, .int (zI (mn))), (0, .ref k0), (1, .int (zI (k))), (2, .int (zI (u)))]) ?_ ((-1), 0) hi_54 _ _ _ hP hS (lv_sub hl [0, 1, 2, 3, 4, 5, 6, 7] rfl)
        intro zs hI_54 ih_54 H locs ls hP hS hl
        clear hi_54
        obtain ⟨rc, jc⟩ := zs
        have hI_54 : 0 ≤ jc ∧ jc ≤ l2 ∧ rc = gs_pw p a on (jc).toNat := hI_54
        have hl : lv_has ls 8 [(7, .int (zI (jc))), (6, .int (zI (rc))), (4, .int (zI (l2))), (5, .int (zI (on))), (3, .int (zI (mn))), (0, .ref k0), (1, .int (zI (k))), (2, .int (zI (u)))] := hl
        have hP : va_P (dC, dI) vwCl (ww1 k0 r1 r2 d1 d2 p a b s1 s2) H := hP
        obtain ⟨j1, j2, j3⟩ := hI_54
        refine lv_iload hx hb dX1_times_54 (lv_at hl 0 rfl) ?_
        refine lv_iload hx hb dX1_times_56 (lv_at hl 2 rfl) ?_
        refine zz_icmp_ge (tgt := 77) hx hb dX1_times_58 (by decide) (by omega) (by omega) (fun hc_6 => ?_) (fun hc_6 => ?_)
        · refine lv_iload hx hb dX1_times_77 (lv_at hl 1 rfl) ?_
          have hpost : (rc : Int) = gs_aTimes p a b k u := by
            unfold gs_aTimes
            rw [gg_ifT ht1, hfin, j3, show jc = l2 by omega]
          exact W.iret (v := zI (rc)) hx hb hr (fun t ht hW => ⟨⟨_, (), rfl, congrArg zI hpost, trivial⟩, hS.F ht⟩) hS.2.2 dX1_times_79
        · refine lv_aload_n hx hb dX1_times_61 rfl (lv_at hl 5 rfl) ?_
          refine lv_iload hx hb dX1_times_62 (lv_at hl 1 rfl) ?_
          refine lv_iload hx hb dX1_times_64 (lv_at hl 3 rfl) ?_
          refine zz_callV k0 [.int (zI (rc)), .int (zI (on))] [] ⟨hx, hb, hml, hown, hts⟩ (kX1_sum l dC dI k0 r1 r2 d1 d2 p a b s1 s2 rc on hcv (by rw [j3]; exact gs_pwOk hcv hon _) hon) (cwV 2 hts gX1_times_X1_sum rfl rfl rfl (by decide +kernel) ⟨Nat.le_of_ble_eq_true rfl, Nat.le_of_ble_eq_true rfl⟩) hK hP 0 rfl rfl rfl hP hS rfl hl.1 rfl (Nat.le_of_ble_eq_true rfl) dX1_times_66 ⟨Nat.le_of_ble_eq_true rfl, Nat.le_of_ble_eq_true rfl⟩ (fun H locs hP hS => ?_)
          refine zz_topi (fun rd erd => ?_)
          refine lv_istore (lv' := [(6, .int (zI (rd))), (7, .int (zI (jc))), (4, .int (zI (l2))), (5, .int (zI (on))), (3, .int (zI (mn))), (0, .ref k0), (1, .int (zI (k))), (2, .int (zI (u)))]) hx hb dX1_times_69 hl (by decide) rfl (fun ls hl => ?_)
          obtain ⟨jd, ejd⟩ : ∃ y : Int, y = jc + 1 := ⟨_, rfl⟩
          refine zz_iinc (v := jd) (lv' := [(7, .int (zI (jd))), (6, .int (zI (rd))), (4, .int (zI (l2))), (5, .int (zI (on))), (3, .int (zI (mn))), (0, .ref k0), (1, .int (zI (k))), (2, .int (zI (u)))]) hx hb dX1_times_71 hl (k := 1) rfl ejd (by decide) rfl (fun ls hl => ?_)
          refine lv_goto (tgt := 54) hx hb dX1_times_74 (by decide) ?_
          have hn_54 : 0 ≤ jd ∧ jd ≤ l2 ∧ rd = gs_pw p a on (jd).toNat := by
            refine ⟨by omega, by omega, ?_⟩
            rw [ejd, erd, gs_pwSz p a on j1, ← j3]
          have hm_54 : (l2 - jd).toNat < (l2 - jc).toNat := by
            omega
          exact ih_54 (rd, jd) hn_54 hm_54 _ _ _ hP hS (lv_sub hl [0, 1, 2, 3, 4, 5, 6, 7] rfl)
  · have hc_1 := zB_0.mp hc_1
    have hf1 := hc_1
    refine lv_bipush (v := zI (-2)) hx hb dX1_times_8 (by decide +kernel) ?_
    have hpost : ((-2) : Int) = gs_aTimes p a b k u := by
      unfold gs_aTimes
      rw [gg_ifF hf1]
    exact W.iret (v := zI ((-2))) hx hb hr (fun t ht hW => ⟨⟨_, (), rfl, congrArg zI hpost, trivial⟩, hS.F ht⟩) hS.2.2 dX1_times_10

set_option maxHeartbeats 4000000 in
set_option maxRecDepth 100000 in
theorem kX1_cube (l : Launch) (dC : Nat → ClassId) (dI : Nat → Nat → Nat) (k0 r1 r2 : Nat) (d1 d2 : ClassId) (p a b : Int) (s1 s2 : Int → Int) (j : Int) (hp : 5 ≤ p ∧ p ≤ 4093) (hj : 0 ≤ j ∧ j < 48) (hs : 0 ≤ s2 j ∧ s2 j < p) : Met l yX1_cube wsX1_cube ({ frames := 1, cells := 0, slots := 0, locals := 22 }) (zPc (dC, dI) (ww1 k0 r1 r2 d1 d2 p a b s1 s2) (tt1 d1 d2) [.ref k0, .int (zI (j))]) (zQi (zI (gs_cub p (s2 j)))) 0 0 zNo := by
  refine Met.ofW (cc := cX1_cube) (maxL := 2) (ret := (some .int)) (by decide) rfl ?_
  intro pp e s m args below meth c s₁ B hml hv
  obtain ⟨rfl, hP, hK⟩ := hv
  have hx := B.exec
  have hb := B.bytes
  have hr := B.returns
  have hts := atoms_spec (ws := wsX1_cube) B.pre
  have hown : s.vm.findClass RX1 = some m.cls := findClass_of_methodNamed B.named
  have hlocks := B.notSynchronized
  have hin0 : ∀ w ∈ u_ws RX1 TX1 5, w ∈ wsX1_cube := by decide +kernel
  have hf23 := hts (.fieldLink RX1 23 "CurveDeskModel" "f" "[I") (by decide +kernel)
  have hS : va_S (fun _ => False) s.heap s.heap [] := va_S.rf
  have hl := lv_entry ([.ref k0, .int (zI (j))]) (n := 2) (Nat.le_of_ble_eq_true rfl)
  rw [lg_entry_eq]
  generalize (lg_sl ([.ref k0, .int (zI (j))]) ++ List.replicate (2 - (lg_sl ([.ref k0, .int (zI (j))])).length) Slot.unset).toArray = ls at hl ⊢
  have hl : lv_has ls 2 [(0, .ref k0), (1, .int (zI (j)))] := hl
  skip
  have h1 := zz_pr (x := s2 j) (y := s2 j) (by omega) (by omega)
  have h2 := zz_md (v := s2 j * s2 j) (p := p) (by omega)
  have h3 := zz_pr (x := s2 j * s2 j % p) (y := s2 j) (by omega) (by omega)
  refine lv_aload_n hx hb dX1_cube_0 rfl (lv_at hl 0 rfl) ?_
  refine lv_aload_n hx hb dX1_cube_1 rfl (lv_at hl 0 rfl) ?_
  refine lv_aload_n hx hb dX1_cube_2 rfl (lv_at hl 0 rfl) ?_
  refine va_get (D := (dC, dI)) (ci := 1) (v := .ref r2) (C := RX1) (T := TX1) (N := 5) hx hb hts hin0 hown hK hP 0 rfl rfl 4 (by decide) hf23 (fun _ h9 => h9) rfl dX1_cube_3 ?_
  refine lv_iload_n hx hb dX1_cube_6 rfl (lv_at hl 1 rfl) ?_
  refine zz_iald (g := s2) hx hb hK hP 2 1 rfl rfl (by omega) dX1_cube_7 ?_
  refine lv_aload_n hx hb dX1_cube_8 rfl (lv_at hl 0 rfl) ?_
  refine va_get (D := (dC, dI)) (ci := 1) (v := .ref r2) (C := RX1) (T := TX1) (N := 5) hx hb hts hin0 hown hK hP 0 rfl rfl 4 (by decide) hf23 (fun _ h9 => h9) rfl dX1_cube_9 ?_
  refine lv_iload_n hx hb dX1_cube_12 rfl (lv_at hl 1 rfl) ?_
  refine zz_iald (g := s2) hx hb hK hP 2 1 rfl rfl (by omega) dX1_cube_13 ?_
  refine zz_imul hx hb dX1_cube_14 ?_
  refine zz_callV k0 [.int (zI ((s2 j) * (s2 j)))] [.ref k0] ⟨hx, hb, hml, hown, hts⟩ (kX1_mod l dC dI k0 r1 r2 d1 d2 p a b s1 s2 ((s2 j) * (s2 j)) (by omega) (by omega)) (cwV 1 hts gX1_cube_X1_mod rfl rfl rfl (by decide +kernel) ⟨Nat.le_of_ble_eq_true rfl, Nat.le_of_ble_eq_true rfl⟩) hK hP 0 rfl rfl rfl hP hS rfl hl.1 rfl (Nat.le_of_ble_eq_true rfl) dX1_cube_15 ⟨Nat.le_of_ble_eq_true rfl, Nat.le_of_ble_eq_true rfl⟩ (fun H locs hP hS => ?_)
  refine lv_aload_n hx hb dX1_cube_18 rfl (lv_at hl 0 rfl) ?_
  refine va_get (D := (dC, dI)) (ci := 1) (v := .ref r2) (C := RX1) (T := TX1) (N := 5) hx hb hts hin0 hown hK hP 0 rfl rfl 4 (by decide) hf23 (fun _ h9 => h9) rfl dX1_cube_19 ?_
  refine lv_iload_n hx hb dX1_cube_22 rfl (lv_at hl 1 rfl) ?_
  refine zz_iald (g := s2) hx hb hK hP 2 1 rfl rfl (by omega) dX1_cube_23 ?_
  refine zz_imul hx hb dX1_cube_24 ?_
  refine zz_callV k0 [.int (zI ((((s2 j) * (s2 j)) % p) * (s2 j)))] [] ⟨hx, hb, hml, hown, hts⟩ (kX1_mod l dC dI k0 r1 r2 d1 d2 p a b s1 s2 ((((s2 j) * (s2 j)) % p) * (s2 j)) (by omega) (by omega)) (cwV 1 hts gX1_cube_X1_mod rfl rfl rfl (by decide +kernel) ⟨Nat.le_of_ble_eq_true rfl, Nat.le_of_ble_eq_true rfl⟩) hK hP 0 rfl rfl rfl hP hS rfl hl.1 rfl (Nat.le_of_ble_eq_true rfl) dX1_cube_25 ⟨Nat.le_of_ble_eq_true rfl, Nat.le_of_ble_eq_true rfl⟩ (fun H locs hP hS => ?_)
  have hpost : (((((s2 j) * (s2 j)) % p) * (s2 j)) % p : Int) = gs_cub p (s2 j) := by
    rfl
  exact W.iret (v := zI (((((s2 j) * (s2 j)) % p) * (s2 j)) % p)) hx hb hr (fun t ht hW => ⟨⟨_, (), rfl, congrArg zI hpost, trivial⟩, hS.F ht⟩) hS.2.2 dX1_cube_28

set_option maxHeartbeats 4000000 in
set_option maxRecDepth 100000 in
theorem kX1_square (l : Launch) (dC : Nat → ClassId) (dI : Nat → Nat → Nat) (k0 r1 r2 : Nat) (d1 d2 : ClassId) (p a b : Int) (s1 s2 : Int → Int) (j : Int) (hp : 5 ≤ p ∧ p ≤ 4093) (hj : 0 ≤ j ∧ j < 48) (hs : 0 ≤ s2 j ∧ s2 j < p) : Met l yX1_square wsX1_square ({ frames := 1, cells := 0, slots := 0, locals := 22 }) (zPc (dC, dI) (ww1 k0 r1 r2 d1 d2 p a b s1 s2) (tt1 d1 d2) [.ref k0, .int (zI (j))]) (zQi (zI (s2 j * s2 j % p))) 0 0 zNo := by
  refine Met.ofW (cc := cX1_square) (maxL := 2) (ret := (some .int)) (by decide) rfl ?_
  intro pp e s m args below meth c s₁ B hml hv
  obtain ⟨rfl, hP, hK⟩ := hv
  have hx := B.exec
  have hb := B.bytes
  have hr := B.returns
  have hts := atoms_spec (ws := wsX1_square) B.pre
  have hown : s.vm.findClass RX1 = some m.cls := findClass_of_methodNamed B.named
  have hlocks := B.notSynchronized
  have hin0 : ∀ w ∈ u_ws RX1 TX1 5, w ∈ wsX1_square := by decide +kernel
  have hf23 := hts (.fieldLink RX1 23 "CurveDeskModel" "f" "[I") (by decide +kernel)
  have hS : va_S (fun _ => False) s.heap s.heap [] := va_S.rf
  have hl := lv_entry ([.ref k0, .int (zI (j))]) (n := 2) (Nat.le_of_ble_eq_true rfl)
  rw [lg_entry_eq]
  generalize (lg_sl ([.ref k0, .int (zI (j))]) ++ List.replicate (2 - (lg_sl ([.ref k0, .int (zI (j))])).length) Slot.unset).toArray = ls at hl ⊢
  have hl : lv_has ls 2 [(0, .ref k0), (1, .int (zI (j)))] := hl
  skip
  have h1 := zz_pr (x := s2 j) (y := s2 j) (by omega) (by omega)
  refine lv_aload_n hx hb dX1_square_0 rfl (lv_at hl 0 rfl) ?_
  refine lv_aload_n hx hb dX1_square_1 rfl (lv_at hl 0 rfl) ?_
  refine va_get (D := (dC, dI)) (ci := 1) (v := .ref r2) (C := RX1) (T := TX1) (N := 5) hx hb hts hin0 hown hK hP 0 rfl rfl 4 (by decide) hf23 (fun _ h9 => h9) rfl dX1_square_2 ?_
  refine lv_iload_n hx hb dX1_square_5 rfl (lv_at hl 1 rfl) ?_
  refine zz_iald (g := s2) hx hb hK hP 2 1 rfl rfl (by omega) dX1_square_6 ?_
  refine lv_aload_n hx hb dX1_square_7 rfl (lv_at hl 0 rfl) ?_
  refine va_get (D := (dC, dI)) (ci := 1) (v := .ref r2) (C := RX1) (T := TX1) (N := 5) hx hb hts hin0 hown hK hP 0 rfl rfl 4 (by decide) hf23 (fun _ h9 => h9) rfl dX1_square_8 ?_
  refine lv_iload_n hx hb dX1_square_11 rfl (lv_at hl 1 rfl) ?_
  refine zz_iald (g := s2) hx hb hK hP 2 1 rfl rfl (by omega) dX1_square_12 ?_
  refine zz_imul hx hb dX1_square_13 ?_
  refine zz_callV k0 [.int (zI ((s2 j) * (s2 j)))] [] ⟨hx, hb, hml, hown, hts⟩ (kX1_mod l dC dI k0 r1 r2 d1 d2 p a b s1 s2 ((s2 j) * (s2 j)) (by omega) (by omega)) (cwV 1 hts gX1_square_X1_mod rfl rfl rfl (by decide +kernel) ⟨Nat.le_of_ble_eq_true rfl, Nat.le_of_ble_eq_true rfl⟩) hK hP 0 rfl rfl rfl hP hS rfl hl.1 rfl (Nat.le_of_ble_eq_true rfl) dX1_square_14 ⟨Nat.le_of_ble_eq_true rfl, Nat.le_of_ble_eq_true rfl⟩ (fun H locs hP hS => ?_)
  have hpost : (((s2 j) * (s2 j)) % p : Int) = s2 j * s2 j % p := by
    rfl
  exact W.iret (v := zI (((s2 j) * (s2 j)) % p)) hx hb hr (fun t ht hW => ⟨⟨_, (), rfl, congrArg zI hpost, trivial⟩, hS.F ht⟩) hS.2.2 dX1_square_17

set_option maxHeartbeats 4000000 in
set_option maxRecDepth 100000 in
theorem kX1_twist (l : Launch) (dC : Nat → ClassId) (dI : Nat → Nat → Nat) (k0 r1 r2 : Nat) (d1 d2 : ClassId) (p a b : Int) (s1 s2 : Int → Int) (sz : Nat) (g : Int) (hp : 5 ≤ p ∧ p ≤ 4093) (ha : 0 ≤ a ∧ a < p) (hbb : 0 ≤ b ∧ b < p) (hrg : -2147483648 ≤ g ∧ g < 2147483648) : Met l yX1_twist wsX1_twist ({ frames := 3, cells := 0, slots := 0, locals := 65 }) (zPw (dC, dI) (ww1 k0 r1 r2 d1 d2 p a b s1 s2) (tt1 d1 d2) sz [.ref k0, .int (zI (g))]) (zQwi (dC, dI) (ww1 k0 r1 r2 d1 d2 p a b s1 s2) sz (fun g : Int → Int => ww1 k0 r1 r2 d1 d2 p a b g s2) (fun (r : Int32) (_ : Int → Int) => r = zI (gs_aTwist p a b g))) 0 0 (va_A (ww1 k0 r1 r2 d1 d2 p a b s1 s2) sz) := by
  refine Met.ofW (cc := cX1_twist) (maxL := 6) (ret := (some .int)) (by decide) rfl ?_
  intro pp e s m args below meth c s₁ B hml hv
  obtain ⟨rfl, hsz, hP, hK, hD0⟩ := hv
  have hx := B.exec
  have hb := B.bytes
  have hr := B.returns
  have hts := atoms_spec (ws := wsX1_twist) B.pre
  have hown : s.vm.findClass RX1 = some m.cls := findClass_of_methodNamed B.named
  have hlocks := B.notSynchronized
  have hin0 : ∀ w ∈ u_ws RX1 TX1 5, w ∈ wsX1_twist := by decide +kernel
  have hf7 := hts (.fieldLink RX1 7 "CurveDeskModel" "p" "I") (by decide +kernel)
  have hf13 := hts (.fieldLink RX1 13 "CurveDeskModel" "a" "I") (by decide +kernel)
  have hf16 := hts (.fieldLink RX1 16 "CurveDeskModel" "b" "I") (by decide +kernel)
  subst hsz
  have hD := hD0.self (sz := s.heap.size)
  generalize hAe : va_A (ww1 k0 r1 r2 d1 d2 p a b s1 s2) s.heap.size = A at hD ⊢
  have hA : ∀ q : Nat, s.heap.size ≤ q → A q := fun q h => by rw [← hAe]; exact Or.inr h
  have hS : va_S A s.heap s.heap [] := va_S.rf
  have hl := lv_entry ([.ref k0, .int (zI (g))]) (n := 6) (Nat.le_of_ble_eq_true rfl)
  rw [lg_entry_eq]
  generalize (lg_sl ([.ref k0, .int (zI (g))]) ++ List.replicate (6 - (lg_sl ([.ref k0, .int (zI (g))])).length) Slot.unset).toArray = ls at hl ⊢
  have hl : lv_has ls 6 [(0, .ref k0), (1, .int (zI (g)))] := hl
  skip
  refine lv_iload_n hx hb dX1_twist_0 rfl (lv_at hl 1 rfl) ?_
  refine lv_iconst (v := zI 1) hx hb dX1_twist_1 rfl ?_
  refine zz_icmp_lt (tgt := 13) hx hb dX1_twist_2 (by decide) (by omega) ⟨by decide, by decide⟩ (fun hc_1 => ?_) (fun hc_1 => ?_)
  · refine lv_iconst (v := zI (-1)) hx hb dX1_twist_13 rfl ?_
    have hpost : zI ((-1)) = zI (gs_aTwist p a b g) := by
      unfold gs_aTwist
      rw [if_neg (by omega)]
    subst hAe
    exact W.iret (v := zI ((-1))) hx hb hr (fun t ht hW => ⟨⟨_, (s1), rfl, hpost, by rw [ht]; exact hP, hD⟩, hS.F ht⟩) hS.2.2 dX1_twist_14
  · refine lv_iload_n hx hb dX1_twist_5 rfl (lv_at hl 1 rfl) ?_
    refine lv_aload_n hx hb dX1_twist_6 rfl (lv_at hl 0 rfl) ?_
    refine va_get (D := (dC, dI)) (ci := 1) (v := .int (zI (p))) (C := RX1) (T := TX1) (N := 5) hx hb hts hin0 hown hK hP 0 rfl rfl 0 (by decide) hf7 (fun _ h9 => h9) rfl dX1_twist_7 ?_
    refine zz_icmp_lt (tgt := 15) hx hb dX1_twist_10 (by decide) (by omega) (by omega) (fun hc_2 => ?_) (fun hc_2 => ?_)
    · have h1 := zz_pr (x := g) (y := g) (by omega) (by omega)
      have h2 := zz_md (v := g * g) (p := p) (by omega)
      refine lv_aload_n hx hb dX1_twist_15 rfl (lv_at hl 0 rfl) ?_
      refine va_get (D := (dC, dI)) (ci := 1) (v := .int (zI (a))) (C := RX1) (T := TX1) (N := 5) hx hb hts hin0 hown hK hP 0 rfl rfl 1 (by decide) hf13 (fun _ h9 => h9) rfl dX1_twist_16 ?_
      refine lv_istore_n (lv' := [(2, .int (zI (a))), (0, .ref k0), (1, .int (zI (g)))]) hx hb dX1_twist_19 rfl hl (by decide) rfl (fun ls hl => ?_)
      refine lv_aload_n hx hb dX1_twist_20 rfl (lv_at hl 1 rfl) ?_
      refine va_get (D := (dC, dI)) (ci := 1) (v := .int (zI (b))) (C := RX1) (T := TX1) (N := 5) hx hb hts hin0 hown hK hP 0 rfl rfl 2 (by decide) hf16 (fun _ h9 => h9) rfl dX1_twist_21 ?_
      refine lv_istore_n (lv' := [(3, .int (zI (b))), (2, .int (zI (a))), (0, .ref k0), (1, .int (zI (g)))]) hx hb dX1_twist_24 rfl hl (by decide) rfl (fun ls hl => ?_)
      refine lv_aload_n hx hb dX1_twist_25 rfl (lv_at hl 2 rfl) ?_
      refine lv_iload_n hx hb dX1_twist_26 rfl (lv_at hl 3 rfl) ?_
      refine lv_iload_n hx hb dX1_twist_27 rfl (lv_at hl 3 rfl) ?_
      refine zz_imul hx hb dX1_twist_28 ?_
      refine zz_callV k0 [.int (zI (g * g))] [] ⟨hx, hb, hml, hown, hts⟩ (kX1_mod l dC dI k0 r1 r2 d1 d2 p a b s1 s2 (g * g) (by omega) (by omega)) (cwV 1 hts gX1_twist_X1_mod rfl rfl rfl (by decide +kernel) ⟨Nat.le_of_ble_eq_true rfl, Nat.le_of_ble_eq_true rfl⟩) hK hP 0 rfl rfl rfl hP hS rfl hl.1 rfl (Nat.le_of_ble_eq_true rfl) dX1_twist_29 ⟨Nat.le_of_ble_eq_true rfl, Nat.le_of_ble_eq_true rfl⟩ (fun H locs hP hS => ?_)
      refine zz_topi (fun gg egg => ?_)
      refine lv_istore (lv' := [(4, .int (zI (gg))), (3, .int (zI (b))), (2, .int (zI (a))), (0, .ref k0), (1, .int (zI (g)))]) hx hb dX1_twist_32 hl (by decide) rfl (fun ls hl => ?_)
      have h3 : 0 ≤ gg ∧ gg < p := by rw [egg]; exact h2
      have h4 := zz_pr (x := a) (y := gg) (by omega) (by omega)
      have h5 := zz_pr (x := b) (y := gg) (by omega) (by omega)
      have h6 := zz_md (v := b * gg) (p := p) (by omega)
      have h7 := zz_pr (x := b * gg % p) (y := g) (by omega) (by omega)
      refine lv_aload_n hx hb dX1_twist_34 rfl (lv_at hl 3 rfl) ?_
      refine lv_aload_n hx hb dX1_twist_35 rfl (lv_at hl 3 rfl) ?_
      refine lv_iload_n hx hb dX1_twist_36 rfl (lv_at hl 2 rfl) ?_
      refine lv_iload hx hb dX1_twist_37 (lv_at hl 0 rfl) ?_
      refine zz_imul hx hb dX1_twist_39 ?_
      refine zz_callV k0 [.int (zI (a * gg))] [.ref k0] ⟨hx, hb, hml, hown, hts⟩ (kX1_mod l dC dI k0 r1 r2 d1 d2 p a b s1 s2 (a * gg) (by omega) (by omega)) (cwV 1 hts gX1_twist_X1_mod rfl rfl rfl (by decide +kernel) ⟨Nat.le_of_ble_eq_true rfl, Nat.le_of_ble_eq_true rfl⟩) hK hP 0 rfl rfl rfl hP hS rfl hl.1 rfl (Nat.le_of_ble_eq_true rfl) dX1_twist_40 ⟨Nat.le_of_ble_eq_true rfl, Nat.le_of_ble_eq_true rfl⟩ (fun H locs hP hS => ?_)
      refine zz_topi (fun na ena => ?_)
      refine va_put (D := (dC, dI)) (ci := 1) (v := .int (zI (na))) (ty := .int) (C := RX1) (T := TX1) (N := 5) hx hb hts hin0 tyX1 tyX1_ok nmX1 hown hK hP hD hS 0 rfl rfl 1 (by decide) hf13 (fun _ h9 => h9) rfl (by decide +kernel) rfl rfl (Nat.le_of_ble_eq_true rfl) dX1_twist_43 (fun H locs hP hD hS => ?_)
      have hP : va_P (dC, dI) vwCl (ww1 k0 r1 r2 d1 d2 p na b s1 s2) H := hP
      have hD : va_D A (ww1 k0 r1 r2 d1 d2 p na b s1 s2) := hD
      refine lv_aload_n hx hb dX1_twist_46 rfl (lv_at hl 3 rfl) ?_
      refine lv_aload_n hx hb dX1_twist_47 rfl (lv_at hl 3 rfl) ?_
      refine lv_aload_n hx hb dX1_twist_48 rfl (lv_at hl 3 rfl) ?_
      refine lv_iload_n hx hb dX1_twist_49 rfl (lv_at hl 1 rfl) ?_
      refine lv_iload hx hb dX1_twist_50 (lv_at hl 0 rfl) ?_
      refine zz_imul hx hb dX1_twist_52 ?_
      refine zz_callV k0 [.int (zI (b * gg))] [.ref k0, .ref k0] ⟨hx, hb, hml, hown, hts⟩ (kX1_mod l dC dI k0 r1 r2 d1 d2 p na b s1 s2 (b * gg) (by omega) (by omega)) (cwV 1 hts gX1_twist_X1_mod rfl rfl rfl (by decide +kernel) ⟨Nat.le_of_ble_eq_true rfl, Nat.le_of_ble_eq_true rfl⟩) hK hP 0 rfl rfl rfl hP hS rfl hl.1 rfl (Nat.le_of_ble_eq_true rfl) dX1_twist_53 ⟨Nat.le_of_ble_eq_true rfl, Nat.le_of_ble_eq_true rfl⟩ (fun H locs hP hS => ?_)
      refine lv_iload_n hx hb dX1_twist_56 rfl (lv_at hl 4 rfl) ?_
      refine zz_imul hx hb dX1_twist_57 ?_
      refine zz_callV k0 [.int (zI (((b * gg) % p) * g))] [.ref k0] ⟨hx, hb, hml, hown, hts⟩ (kX1_mod l dC dI k0 r1 r2 d1 d2 p na b s1 s2 (((b * gg) % p) * g) (by omega) (by omega)) (cwV 1 hts gX1_twist_X1_mod rfl rfl rfl (by decide +kernel) ⟨Nat.le_of_ble_eq_true rfl, Nat.le_of_ble_eq_true rfl⟩) hK hP 0 rfl rfl rfl hP hS rfl hl.1 rfl (Nat.le_of_ble_eq_true rfl) dX1_twist_58 ⟨Nat.le_of_ble_eq_true rfl, Nat.le_of_ble_eq_true rfl⟩ (fun H locs hP hS => ?_)
      refine zz_topi (fun nb enb => ?_)
      refine va_put (D := (dC, dI)) (ci := 1) (v := .int (zI (nb))) (ty := .int) (C := RX1) (T := TX1) (N := 5) hx hb hts hin0 tyX1 tyX1_ok nmX1 hown hK hP hD hS 0 rfl rfl 2 (by decide) hf16 (fun _ h9 => h9) rfl (by decide +kernel) rfl rfl (Nat.le_of_ble_eq_true rfl) dX1_twist_61 (fun H locs hP hD hS => ?_)
      have hP : va_P (dC, dI) vwCl (ww1 k0 r1 r2 d1 d2 p na nb s1 s2) H := hP
      have hD : va_D A (ww1 k0 r1 r2 d1 d2 p na nb s1 s2) := hD
      have h8 : 0 ≤ na ∧ na < p := by rw [ena]; exact zz_md (by omega)
      have h9 : 0 ≤ nb ∧ nb < p := by rw [enb]; exact zz_md (by omega)
      refine lv_aload_n hx hb dX1_twist_64 rfl (lv_at hl 3 rfl) ?_
      refine zz_callWi (wr := []) k0 [] [] [0, 1, 2] [] ⟨hx, hb, hml, hown, hts⟩ (kX1_count l dC dI k0 r1 r2 d1 d2 p na nb s1 s2 H.size  (by omega) (by omega) (by omega)) (cwV 0 hts gX1_twist_X1_count rfl rfl rfl (by decide +kernel) ⟨Nat.le_of_ble_eq_true rfl, Nat.le_of_ble_eq_true rfl⟩) hK 0 rfl rfl rfl hP hD hS hA rfl rfl (by decide) rfl (by decide) (by decide) rfl hl.1 rfl (Nat.le_of_ble_eq_true rfl) dX1_twist_65 ⟨Nat.le_of_ble_eq_true rfl, Nat.le_of_ble_eq_true rfl⟩ (fun r_5 u_3 H locs hw_4 hP hD hS => ?_)
      subst hw_4
      have hP : va_P (dC, dI) vwCl (ww1 k0 r1 r2 d1 d2 p na nb u_3 s2) H := hP
      have hD : va_D A (ww1 k0 r1 r2 d1 d2 p na nb u_3 s2) := hD
      refine zz_topi (fun cn ecn => ?_)
      refine lv_istore (lv' := [(5, .int (zI (cn))), (4, .int (zI (gg))), (3, .int (zI (b))), (2, .int (zI (a))), (0, .ref k0), (1, .int (zI (g)))]) hx hb dX1_twist_68 hl (by decide) rfl (fun ls hl => ?_)
      refine lv_aload_n hx hb dX1_twist_70 rfl (lv_at hl 4 rfl) ?_
      refine lv_iload_n hx hb dX1_twist_71 rfl (lv_at hl 3 rfl) ?_
      refine va_put (D := (dC, dI)) (ci := 1) (v := .int (zI (a))) (ty := .int) (C := RX1) (T := TX1) (N := 5) hx hb hts hin0 tyX1 tyX1_ok nmX1 hown hK hP hD hS 0 rfl rfl 1 (by decide) hf13 (fun _ h9 => h9) rfl (by decide +kernel) rfl rfl (Nat.le_of_ble_eq_true rfl) dX1_twist_72 (fun H locs hP hD hS => ?_)
      have hP : va_P (dC, dI) vwCl (ww1 k0 r1 r2 d1 d2 p a nb u_3 s2) H := hP
      have hD : va_D A (ww1 k0 r1 r2 d1 d2 p a nb u_3 s2) := hD
      refine lv_aload_n hx hb dX1_twist_75 rfl (lv_at hl 4 rfl) ?_
      refine lv_iload_n hx hb dX1_twist_76 rfl (lv_at hl 2 rfl) ?_
      refine va_put (D := (dC, dI)) (ci := 1) (v := .int (zI (b))) (ty := .int) (C := RX1) (T := TX1) (N := 5) hx hb hts hin0 tyX1 tyX1_ok nmX1 hown hK hP hD hS 0 rfl rfl 2 (by decide) hf16 (fun _ h9 => h9) rfl (by decide +kernel) rfl rfl (Nat.le_of_ble_eq_true rfl) dX1_twist_77 (fun H locs hP hD hS => ?_)
      have hP : va_P (dC, dI) vwCl (ww1 k0 r1 r2 d1 d2 p a b u_3 s2) H := hP
      have hD : va_D A (ww1 k0 r1 r2 d1 d2 p a b u_3 s2) := hD
      refine lv_iload hx hb dX1_twist_80 (lv_at hl 0 rfl) ?_
      have hpost : zI (cn) = zI (gs_aTwist p a b g) := by
        unfold gs_aTwist
        rw [if_pos (by omega), ecn, ena, enb, egg, gs_tw1, gs_tw2]
      subst hAe
      exact W.iret (v := zI (cn)) hx hb hr (fun t ht hW => ⟨⟨_, (u_3), rfl, hpost, by rw [ht]; exact hP, hD⟩, hS.F ht⟩) hS.2.2 dX1_twist_82
    · refine lv_iconst (v := zI (-1)) hx hb dX1_twist_13 rfl ?_
      have hpost : zI ((-1)) = zI (gs_aTwist p a b g) := by
        unfold gs_aTwist
        rw [if_neg (by omega)]
      subst hAe
      exact W.iret (v := zI ((-1))) hx hb hr (fun t ht hW => ⟨⟨_, (s1), rfl, hpost, by rw [ht]; exact hP, hD⟩, hS.F ht⟩) hS.2.2 dX1_twist_14
