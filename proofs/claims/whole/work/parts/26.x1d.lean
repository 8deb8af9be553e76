set_option maxHeartbeats 4000000 in
set_option maxRecDepth 100000 in
theorem kX1_division (l : Launch) (dC : Nat → ClassId) (dI : Nat → Nat → Nat) (k0 r1 r2 : Nat) (d1 d2 : ClassId) (p a b : Int) (s1 s2 : Int → Int) (sz : Nat) (k : Int) (x : Int) (hcv : gs_cv p a b) (hrk : -2147483648 ≤ k ∧ k < 2147483648) (hrx : -2147483648 ≤ x ∧ x < 2147483648) : Met l yX1_division wsX1_division ({ frames := 2, cells := 0, slots := 0, locals := 43 }) (zPw (dC, dI) (ww1 k0 r1 r2 d1 d2 p a b s1 s2) (tt1 d1 d2) sz [.ref k0, .int (zI (k)), .int (zI (x))]) (zQwi (dC, dI) (ww1 k0 r1 r2 d1 d2 p a b s1 s2) sz (fun g : Int → Int => ww1 k0 r1 r2 d1 d2 p a b s1 g) (fun (r : Int32) (_ : Int → Int) => r = zI (gs_aDiv p a b k x))) 0 0 (va_A (ww1 k0 r1 r2 d1 d2 p a b s1 s2) sz) := by
  obtain ⟨hp1, hp2, hpp, ha, hbb, hdd⟩ := id hcv
  have hp : 5 ≤ p ∧ p ≤ 4093 := ⟨hp1, hp2⟩
  refine Met.ofW (cc := cX1_division) (maxL := 13) (ret := (some .int)) (by decide) rfl ?_
  intro pp e s m args below meth c s₁ B hml hv
  obtain ⟨rfl, hsz, hP, hK, hD0⟩ := hv
  have hx := B.exec
  have hb := B.bytes
  have hr := B.returns
  have hts := atoms_spec (ws := wsX1_division) B.pre
  have hown : s.vm.findClass RX1 = some m.cls := findClass_of_methodNamed B.named
  have hlocks := B.notSynchronized
  have hin0 : ∀ w ∈ u_ws RX1 TX1 5, w ∈ wsX1_division := by decide +kernel
  have hf7 := hts (.fieldLink RX1 7 "CurveDeskModel" "p" "I") (by decide +kernel)
  have hf13 := hts (.fieldLink RX1 13 "CurveDeskModel" "a" "I") (by decide +kernel)
  have hf16 := hts (.fieldLink RX1 16 "CurveDeskModel" "b" "I") (by decide +kernel)
  have hf23 := hts (.fieldLink RX1 23 "CurveDeskModel" "f" "[I") (by decide +kernel)
  subst hsz
  have hD := hD0.self (sz := s.heap.size)
  generalize hAe : va_A (ww1 k0 r1 r2 d1 d2 p a b s1 s2) s.heap.size = A at hD ⊢
  have hA : ∀ q : Nat, s.heap.size ≤ q → A q := fun q h => by rw [← hAe]; exact Or.inr h
  have hS : va_S A s.heap s.heap [] := va_S.rf
  have hl := lv_entry ([.ref k0, .int (zI (k)), .int (zI (x))]) (n := 13) (Nat.le_of_ble_eq_true rfl)
  rw [lg_entry_eq]
  generalize (lg_sl ([.ref k0, .int (zI (k)), .int (zI (x))]) ++ List.replicate (13 - (lg_sl ([.ref k0, .int (zI (k)), .int (zI (x))])).length) Slot.unset).toArray = ls at hl ⊢
  have hl : lv_has ls 13 [(0, .ref k0), (1, .int (zI (k))), (2, .int (zI (x)))] := hl
  skip
  refine lv_iload_n hx hb dX1_division_0 rfl (lv_at hl 1 rfl) ?_
  refine zz_if_lt (tgt := 22) hx hb dX1_division_1 (by decide) (by omega) (fun hc_1 => ?_) (fun hc_1 => ?_)
  · refine lv_iconst (v := zI (-1)) hx hb dX1_division_22 rfl ?_
    have hpost : zI ((-1)) = zI (gs_aDiv p a b k x) := by
      unfold gs_aDiv
      rw [if_neg (by omega)]
    subst hAe
    exact W.iret (v := zI ((-1))) hx hb hr (fun t ht hW => ⟨⟨_, (s2), rfl, hpost, by rw [ht]; exact hP, hD⟩, hS.F ht⟩) hS.2.2 dX1_division_23
  · refine lv_iload_n hx hb dX1_division_4 rfl (lv_at hl 1 rfl) ?_
    refine lv_bipush (v := zI 40) hx hb dX1_division_5 (by decide +kernel) ?_
    refine zz_icmp_gt (tgt := 22) hx hb dX1_division_7 (by decide) (by omega) ⟨by decide, by decide⟩ (fun hc_2 => ?_) (fun hc_2 => ?_)
    · refine lv_iconst (v := zI (-1)) hx hb dX1_division_22 rfl ?_
      have hpost : zI ((-1)) = zI (gs_aDiv p a b k x) := by
        unfold gs_aDiv
        rw [if_neg (by omega)]
      subst hAe
      exact W.iret (v := zI ((-1))) hx hb hr (fun t ht hW => ⟨⟨_, (s2), rfl, hpost, by rw [ht]; exact hP, hD⟩, hS.F ht⟩) hS.2.2 dX1_division_23
    · refine lv_iload_n hx hb dX1_division_10 rfl (lv_at hl 2 rfl) ?_
      refine zz_if_lt (tgt := 22) hx hb dX1_division_11 (by decide) (by omega) (fun hc_3 => ?_) (fun hc_3 => ?_)
      · refine lv_iconst (v := zI (-1)) hx hb dX1_division_22 rfl ?_
        have hpost : zI ((-1)) = zI (gs_aDiv p a b k x) := by
          unfold gs_aDiv
          rw [if_neg (by omega)]
        subst hAe
        exact W.iret (v := zI ((-1))) hx hb hr (fun t ht hW => ⟨⟨_, (s2), rfl, hpost, by rw [ht]; exact hP, hD⟩, hS.F ht⟩) hS.2.2 dX1_division_23
      · refine lv_iload_n hx hb dX1_division_14 rfl (lv_at hl 2 rfl) ?_
        refine lv_aload_n hx hb dX1_division_15 rfl (lv_at hl 0 rfl) ?_
        refine va_get (D := (dC, dI)) (ci := 1) (v := .int (zI (p))) (C := RX1) (T := TX1) (N := 5) hx hb hts hin0 hown hK hP 0 rfl rfl 0 (by decide) hf7 (fun _ h9 => h9) rfl dX1_division_16 ?_
        refine zz_icmp_lt (tgt := 24) hx hb dX1_division_19 (by decide) (by omega) (by omega) (fun hc_4 => ?_) (fun hc_4 => ?_)
        · have h1 := zz_pr (x := x) (y := x) (by omega) (by omega)
          refine lv_aload_n hx hb dX1_division_24 rfl (lv_at hl 0 rfl) ?_
          refine lv_iload_n hx hb dX1_division_25 rfl (lv_at hl 2 rfl) ?_
          refine lv_iload_n hx hb dX1_division_26 rfl (lv_at hl 2 rfl) ?_
          refine zz_imul hx hb dX1_division_27 ?_
          refine zz_callV k0 [.int (zI (x * x))] [] ⟨hx, hb, hml, hown, hts⟩ (kX1_mod l dC dI k0 r1 r2 d1 d2 p a b s1 s2 (x * x) (by omega) (by omega)) (cwV 1 hts gX1_division_X1_mod rfl rfl rfl (by decide +kernel) ⟨Nat.le_of_ble_eq_true rfl, Nat.le_of_ble_eq_true rfl⟩) hK hP 0 rfl rfl rfl hP hS rfl hl.1 rfl (Nat.le_of_ble_eq_true rfl) dX1_division_28 ⟨Nat.le_of_ble_eq_true rfl, Nat.le_of_ble_eq_true rfl⟩ (fun H locs hP hS => ?_)
          refine zz_topi (fun xa exa => ?_)
          refine lv_istore_n (lv' := [(3, .int (zI (xa))), (0, .ref k0), (1, .int (zI (k))), (2, .int (zI (x)))]) hx hb dX1_division_31 rfl hl (by decide) rfl (fun ls hl => ?_)
          have rxa : 0 ≤ xa ∧ xa < p := by rw [exa]; exact zz_md (by omega)
          have h2 := zz_pr (x := xa) (y := x) (by omega) (by omega)
          refine lv_aload_n hx hb dX1_division_32 rfl (lv_at hl 1 rfl) ?_
          refine lv_iload_n hx hb dX1_division_33 rfl (lv_at hl 0 rfl) ?_
          refine lv_iload_n hx hb dX1_division_34 rfl (lv_at hl 3 rfl) ?_
          refine zz_imul hx hb dX1_division_35 ?_
          refine zz_callV k0 [.int (zI (xa * x))] [] ⟨hx, hb, hml, hown, hts⟩ (kX1_mod l dC dI k0 r1 r2 d1 d2 p a b s1 s2 (xa * x) (by omega) (by omega)) (cwV 1 hts gX1_division_X1_mod rfl rfl rfl (by decide +kernel) ⟨Nat.le_of_ble_eq_true rfl, Nat.le_of_ble_eq_true rfl⟩) hK hP 0 rfl rfl rfl hP hS rfl hl.1 rfl (Nat.le_of_ble_eq_true rfl) dX1_division_36 ⟨Nat.le_of_ble_eq_true rfl, Nat.le_of_ble_eq_true rfl⟩ (fun H locs hP hS => ?_)
          refine zz_topi (fun xb exb => ?_)
          refine lv_istore (lv' := [(4, .int (zI (xb))), (3, .int (zI (xa))), (0, .ref k0), (1, .int (zI (k))), (2, .int (zI (x)))]) hx hb dX1_division_39 hl (by decide) rfl (fun ls hl => ?_)
          have rxb : 0 ≤ xb ∧ xb < p := by rw [exb]; exact zz_md (by omega)
          have h3 := zz_md (v := gs_rhs a b x) (p := p) (by omega)
          refine lv_aload_n hx hb dX1_division_41 rfl (lv_at hl 2 rfl) ?_
          refine lv_iconst (v := zI 4) hx hb dX1_division_42 rfl ?_
          refine lv_aload_n hx hb dX1_division_43 rfl (lv_at hl 2 rfl) ?_
          refine lv_iload_n hx hb dX1_division_44 rfl (lv_at hl 4 rfl) ?_
          refine zz_callV k0 [.int (zI (x))] [.int (zI (4)), .ref k0] ⟨hx, hb, hml, hown, hts⟩ (kX1_right l dC dI k0 r1 r2 d1 d2 p a b s1 s2 x (by omega) (by omega) (by omega) (by omega)) (cwV 1 hts gX1_division_X1_right rfl rfl rfl (by decide +kernel) ⟨Nat.le_of_ble_eq_true rfl, Nat.le_of_ble_eq_true rfl⟩) hK hP 0 rfl rfl rfl hP hS rfl hl.1 rfl (Nat.le_of_ble_eq_true rfl) dX1_division_45 ⟨Nat.le_of_ble_eq_true rfl, Nat.le_of_ble_eq_true rfl⟩ (fun H locs hP hS => ?_)
          refine zz_imul hx hb dX1_division_48 ?_
          refine zz_callV k0 [.int (zI (4 * (gs_rhs a b x % p)))] [] ⟨hx, hb, hml, hown, hts⟩ (kX1_mod l dC dI k0 r1 r2 d1 d2 p a b s1 s2 (4 * (gs_rhs a b x % p)) (by omega) (by omega)) (cwV 1 hts gX1_division_X1_mod rfl rfl rfl (by decide +kernel) ⟨Nat.le_of_ble_eq_true rfl, Nat.le_of_ble_eq_true rfl⟩) hK hP 0 rfl rfl rfl hP hS rfl hl.1 rfl (Nat.le_of_ble_eq_true rfl) dX1_division_49 ⟨Nat.le_of_ble_eq_true rfl, Nat.le_of_ble_eq_true rfl⟩ (fun H locs hP hS => ?_)
          refine zz_topi (fun qa eqa => ?_)
          refine lv_istore (lv' := [(5, .int (zI (qa))), (4, .int (zI (xb))), (3, .int (zI (xa))), (0, .ref k0), (1, .int (zI (k))), (2, .int (zI (x)))]) hx hb dX1_division_52 hl (by decide) rfl (fun ls hl => ?_)
          have rqa : 0 ≤ qa ∧ qa < p := by rw [eqa]; exact zz_md (by omega)
          have h4 := zz_pr (x := qa) (y := qa) (by omega) (by omega)
          refine lv_aload_n hx hb dX1_division_54 rfl (lv_at hl 3 rfl) ?_
          refine lv_iload hx hb dX1_division_55 (lv_at hl 0 rfl) ?_
          refine lv_iload hx hb dX1_division_57 (lv_at hl 0 rfl) ?_
          refine zz_imul hx hb dX1_division_59 ?_
          refine zz_callV k0 [.int (zI (qa * qa))] [] ⟨hx, hb, hml, hown, hts⟩ (kX1_mod l dC dI k0 r1 r2 d1 d2 p a b s1 s2 (qa * qa) (by omega) (by omega)) (cwV 1 hts gX1_division_X1_mod rfl rfl rfl (by decide +kernel) ⟨Nat.le_of_ble_eq_true rfl, Nat.le_of_ble_eq_true rfl⟩) hK hP 0 rfl rfl rfl hP hS rfl hl.1 rfl (Nat.le_of_ble_eq_true rfl) dX1_division_60 ⟨Nat.le_of_ble_eq_true rfl, Nat.le_of_ble_eq_true rfl⟩ (fun H locs hP hS => ?_)
          refine zz_topi (fun qb eqb => ?_)
          refine lv_istore (lv' := [(6, .int (zI (qb))), (5, .int (zI (qa))), (4, .int (zI (xb))), (3, .int (zI (xa))), (0, .ref k0), (1, .int (zI (k))), (2, .int (zI (x)))]) hx hb dX1_division_63 hl (by decide) rfl (fun ls hl => ?_)
          have rqb : 0 ≤ qb ∧ qb < p := by rw [eqb]; exact zz_md (by omega)
          have h5 : qb = gs_qq p a b x := by rw [eqb, eqa]; rfl
          have h6 := zz_pr (x := a) (y := a) (by omega) (by omega)
          refine lv_aload_n hx hb dX1_division_65 rfl (lv_at hl 4 rfl) ?_
          refine lv_aload_n hx hb dX1_division_66 rfl (lv_at hl 4 rfl) ?_
          refine va_get (D := (dC, dI)) (ci := 1) (v := .int (zI (a))) (C := RX1) (T := TX1) (N := 5) hx hb hts hin0 hown hK hP 0 rfl rfl 1 (by decide) hf13 (fun _ h9 => h9) rfl dX1_division_67 ?_
          refine lv_aload_n hx hb dX1_division_70 rfl (lv_at hl 4 rfl) ?_
          refine va_get (D := (dC, dI)) (ci := 1) (v := .int (zI (a))) (C := RX1) (T := TX1) (N := 5) hx hb hts hin0 hown hK hP 0 rfl rfl 1 (by decide) hf13 (fun _ h9 => h9) rfl dX1_division_71 ?_
          refine zz_imul hx hb dX1_division_74 ?_
          refine zz_callV k0 [.int (zI (a * a))] [] ⟨hx, hb, hml, hown, hts⟩ (kX1_mod l dC dI k0 r1 r2 d1 d2 p a b s1 s2 (a * a) (by omega) (by omega)) (cwV 1 hts gX1_division_X1_mod rfl rfl rfl (by decide +kernel) ⟨Nat.le_of_ble_eq_true rfl, Nat.le_of_ble_eq_true rfl⟩) hK hP 0 rfl rfl rfl hP hS rfl hl.1 rfl (Nat.le_of_ble_eq_true rfl) dX1_division_75 ⟨Nat.le_of_ble_eq_true rfl, Nat.le_of_ble_eq_true rfl⟩ (fun H locs hP hS => ?_)
          refine zz_topi (fun aa eaa => ?_)
          refine lv_istore (lv' := [(7, .int (zI (aa))), (6, .int (zI (qb))), (5, .int (zI (qa))), (4, .int (zI (xb))), (3, .int (zI (xa))), (0, .ref k0), (1, .int (zI (k))), (2, .int (zI (x)))]) hx hb dX1_division_78 hl (by decide) rfl (fun ls hl => ?_)
          have raa : 0 ≤ aa ∧ aa < p := by rw [eaa]; exact zz_md (by omega)
          have m1 := zz_pr (x := xa) (y := xa) (by omega) (by omega)
          have m2 := zz_md (v := xa * xa) (p := p) (by omega)
          have m3 := zz_pr (x := a) (y := xa) (by omega) (by omega)
          have m4 := zz_md (v := a * xa) (p := p) (by omega)
          have m5 := zz_pr (x := b) (y := x) (by omega) (by omega)
          have m6 := zz_md (v := b * x) (p := p) (by omega)
          refine lv_aload_n hx hb dX1_division_80 rfl (lv_at hl 5 rfl) ?_
          refine va_get (D := (dC, dI)) (ci := 1) (v := .ref r2) (C := RX1) (T := TX1) (N := 5) hx hb hts hin0 hown hK hP 0 rfl rfl 4 (by decide) hf23 (fun _ h9 => h9) rfl dX1_division_81 ?_
          refine lv_iconst (v := zI 0) hx hb dX1_division_84 rfl ?_
          refine lv_iconst (v := zI 0) hx hb dX1_division_85 rfl ?_
          refine zz_iast (g := s2) hx hb hK hP hD hS 2 1 rfl rfl (by omega) dX1_division_86 (fun H locs hP hD hS => ?_)
          have hP : va_P (dC, dI) vwCl (ww1 k0 r1 r2 d1 d2 p a b s1 (zU s2 0 0)) H := hP
          have hD : va_D A (ww1 k0 r1 r2 d1 d2 p a b s1 (zU s2 0 0)) := hD
          refine lv_aload_n hx hb dX1_division_87 rfl (lv_at hl 5 rfl) ?_
          refine va_get (D := (dC, dI)) (ci := 1) (v := .ref r2) (C := RX1) (T := TX1) (N := 5) hx hb hts hin0 hown hK hP 0 rfl rfl 4 (by decide) hf23 (fun _ h9 => h9) rfl dX1_division_88 ?_
          refine lv_iconst (v := zI 1) hx hb dX1_division_91 rfl ?_
          refine lv_iconst (v := zI 1) hx hb dX1_division_92 rfl ?_
          refine zz_iast (g := zU s2 0 0) hx hb hK hP hD hS 2 1 rfl rfl (by omega) dX1_division_93 (fun H locs hP hD hS => ?_)
          have hP : va_P (dC, dI) vwCl (ww1 k0 r1 r2 d1 d2 p a b s1 (zU (zU s2 0 0) 1 1)) H := hP
          have hD : va_D A (ww1 k0 r1 r2 d1 d2 p a b s1 (zU (zU s2 0 0) 1 1)) := hD
          refine lv_aload_n hx hb dX1_division_94 rfl (lv_at hl 5 rfl) ?_
          refine va_get (D := (dC, dI)) (ci := 1) (v := .ref r2) (C := RX1) (T := TX1) (N := 5) hx hb hts hin0 hown hK hP 0 rfl rfl 4 (by decide) hf23 (fun _ h9 => h9) rfl dX1_division_95 ?_
          refine lv_iconst (v := zI 2) hx hb dX1_division_98 rfl ?_
          refine lv_iconst (v := zI 1) hx hb dX1_division_99 rfl ?_
          refine zz_iast (g := zU (zU s2 0 0) 1 1) hx hb hK hP hD hS 2 1 rfl rfl (by omega) dX1_division_100 (fun H locs hP hD hS => ?_)
          have hP : va_P (dC, dI) vwCl (ww1 k0 r1 r2 d1 d2 p a b s1 (zU (zU (zU s2 0 0) 1 1) 2 1)) H := hP
          have hD : va_D A (ww1 k0 r1 r2 d1 d2 p a b s1 (zU (zU (zU s2 0 0) 1 1) 2 1)) := hD
          refine lv_aload_n hx hb dX1_division_101 rfl (lv_at hl 5 rfl) ?_
          refine va_get (D := (dC, dI)) (ci := 1) (v := .ref r2) (C := RX1) (T := TX1) (N := 5) hx hb hts hin0 hown hK hP 0 rfl rfl 4 (by decide) hf23 (fun _ h9 => h9) rfl dX1_division_102 ?_
          refine lv_iconst (v := zI 3) hx hb dX1_division_105 rfl ?_
          refine lv_aload_n hx hb dX1_division_106 rfl (lv_at hl 5 rfl) ?_
          refine lv_iconst (v := zI 3) hx hb dX1_division_107 rfl ?_
          refine lv_aload_n hx hb dX1_division_108 rfl (lv_at hl 5 rfl) ?_
          refine lv_iload_n hx hb dX1_division_109 rfl (lv_at hl 4 rfl) ?_
          refine lv_iload_n hx hb dX1_division_110 rfl (lv_at hl 4 rfl) ?_
          refine zz_imul hx hb dX1_division_111 ?_
          refine zz_callV k0 [.int (zI (xa * xa))] [.int (zI (3)), .ref k0, .int (zI (3)), .ref r2] ⟨hx, hb, hml, hown, hts⟩ (kX1_mod l dC dI k0 r1 r2 d1 d2 p a b s1 (zU (zU (zU s2 0 0) 1 1) 2 1) (xa * xa) (by omega) (by omega)) (cwV 1 hts gX1_division_X1_mod rfl rfl rfl (by decide +kernel) ⟨Nat.le_of_ble_eq_true rfl, Nat.le_of_ble_eq_true rfl⟩) hK hP 0 rfl rfl rfl hP hS rfl hl.1 rfl (Nat.le_of_ble_eq_true rfl) dX1_division_112 ⟨Nat.le_of_ble_eq_true rfl, Nat.le_of_ble_eq_true rfl⟩ (fun H locs hP hS => ?_)
          refine zz_imul hx hb dX1_division_115 ?_
          refine lv_bipush (v := zI 6) hx hb dX1_division_116 (by decide +kernel) ?_
          refine lv_aload_n hx hb dX1_division_118 rfl (lv_at hl 5 rfl) ?_
          refine lv_aload_n hx hb dX1_division_119 rfl (lv_at hl 5 rfl) ?_
          refine va_get (D := (dC, dI)) (ci := 1) (v := .int (zI (a))) (C := RX1) (T := TX1) (N := 5) hx hb hts hin0 hown hK hP 0 rfl rfl 1 (by decide) hf13 (fun _ h9 => h9) rfl dX1_division_120 ?_
          refine lv_iload_n hx hb dX1_division_123 rfl (lv_at hl 4 rfl) ?_
          refine zz_imul hx hb dX1_division_124 ?_
          refine zz_callV k0 [.int (zI (a * xa))] [.int (zI (6)), .int (zI (3 * ((xa * xa) % p))), .ref k0, .int (zI (3)), .ref r2] ⟨hx, hb, hml, hown, hts⟩ (kX1_mod l dC dI k0 r1 r2 d1 d2 p a b s1 (zU (zU (zU s2 0 0) 1 1) 2 1) (a * xa) (by omega) (by omega)) (cwV 1 hts gX1_division_X1_mod rfl rfl rfl (by decide +kernel) ⟨Nat.le_of_ble_eq_true rfl, Nat.le_of_ble_eq_true rfl⟩) hK hP 0 rfl rfl rfl hP hS rfl hl.1 rfl (Nat.le_of_ble_eq_true rfl) dX1_division_125 ⟨Nat.le_of_ble_eq_true rfl, Nat.le_of_ble_eq_true rfl⟩ (fun H locs hP hS => ?_)
          refine zz_imul hx hb dX1_division_128 ?_
          refine zz_iadd hx hb dX1_division_129 ?_
          refine lv_bipush (v := zI 12) hx hb dX1_division_130 (by decide +kernel) ?_
          refine lv_aload_n hx hb dX1_division_132 rfl (lv_at hl 5 rfl) ?_
          refine lv_aload_n hx hb dX1_division_133 rfl (lv_at hl 5 rfl) ?_
          refine va_get (D := (dC, dI)) (ci := 1) (v := .int (zI (b))) (C := RX1) (T := TX1) (N := 5) hx hb hts hin0 hown hK hP 0 rfl rfl 2 (by decide) hf16 (fun _ h9 => h9) rfl dX1_division_134 ?_
          refine lv_iload_n hx hb dX1_division_137 rfl (lv_at hl 7 rfl) ?_
          refine zz_imul hx hb dX1_division_138 ?_
          refine zz_callV k0 [.int (zI (b * x))] [.int (zI (12)), .int (zI ((3 * ((xa * xa) % p)) + (6 * ((a * xa) % p)))), .ref k0, .int (zI (3)), .ref r2] ⟨hx, hb, hml, hown, hts⟩ (kX1_mod l dC dI k0 r1 r2 d1 d2 p a b s1 (zU (zU (zU s2 0 0) 1 1) 2 1) (b * x) (by omega) (by omega)) (cwV 1 hts gX1_division_X1_mod rfl rfl rfl (by decide +kernel) ⟨Nat.le_of_ble_eq_true rfl, Nat.le_of_ble_eq_true rfl⟩) hK hP 0 rfl rfl rfl hP hS rfl hl.1 rfl (Nat.le_of_ble_eq_true rfl) dX1_division_139 ⟨Nat.le_of_ble_eq_true rfl, Nat.le_of_ble_eq_true rfl⟩ (fun H locs hP hS => ?_)
          refine zz_imul hx hb dX1_division_142 ?_
          refine zz_iadd hx hb dX1_division_143 ?_
          refine lv_iload hx hb dX1_division_144 (lv_at hl 0 rfl) ?_
          refine zz_isub hx hb dX1_division_146 ?_
          refine zz_callV k0 [.int (zI ((((3 * ((xa * xa) % p)) + (6 * ((a * xa) % p))) + (12 * ((b * x) % p))) - aa))] [.int (zI (3)), .ref r2] ⟨hx, hb, hml, hown, hts⟩ (kX1_mod l dC dI k0 r1 r2 d1 d2 p a b s1 (zU (zU (zU s2 0 0) 1 1) 2 1) ((((3 * ((xa * xa) % p)) + (6 * ((a * xa) % p))) + (12 * ((b * x) % p))) - aa) (by omega) (by omega)) (cwV 1 hts gX1_division_X1_mod rfl rfl rfl (by decide +kernel) ⟨Nat.le_of_ble_eq_true rfl, Nat.le_of_ble_eq_true rfl⟩) hK hP 0 rfl rfl rfl hP hS rfl hl.1 rfl (Nat.le_of_ble_eq_true rfl) dX1_division_147 ⟨Nat.le_of_ble_eq_true rfl, Nat.le_of_ble_eq_true rfl⟩ (fun H locs hP hS => ?_)
          refine zz_iast (g := zU (zU (zU s2 0 0) 1 1) 2 1) hx hb hK hP hD hS 2 1 rfl rfl (by omega) dX1_division_150 (fun H locs hP hD hS => ?_)
          have hP : va_P (dC, dI) vwCl (ww1 k0 r1 r2 d1 d2 p a b s1 (zU (zU (zU (zU s2 0 0) 1 1) 2 1) 3 (((((3 * ((xa * xa) % p)) + (6 * ((a * xa) % p))) + (12 * ((b * x) % p))) - aa) % p))) H := hP
          have hD : va_D A (ww1 k0 r1 r2 d1 d2 p a b s1 (zU (zU (zU (zU s2 0 0) 1 1) 2 1) 3 (((((3 * ((xa * xa) % p)) + (6 * ((a * xa) % p))) + (12 * ((b * x) % p))) - aa) % p))) := hD
          have n1 := zz_pr (x := xb) (y := xb) (by omega) (by omega)
          have n2 := zz_md (v := xb * xb) (p := p) (by omega)
          have n3 := zz_pr (x := a * xa % p) (y := xa) (by omega) (by omega)
          have n4 := zz_md (v := a * xa % p * xa) (p := p) (by omega)
          have n5 := zz_pr (x := b) (y := xb) (by omega) (by omega)
          have n6 := zz_md (v := b * xb) (p := p) (by omega)
          have n7 := zz_pr (x := aa) (y := xa) (by omega) (by omega)
          have n8 := zz_md (v := aa * xa) (p := p) (by omega)
          have n9 := zz_pr (x := a) (y := b) (by omega) (by omega)
          have o1 := zz_md (v := a * b) (p := p) (by omega)
          have o2 := zz_pr (x := a * b % p) (y := x) (by omega) (by omega)
          have o3 := zz_md (v := a * b % p * x) (p := p) (by omega)
          have o4 := zz_pr (x := b) (y := b) (by omega) (by omega)
          have o5 := zz_md (v := b * b) (p := p) (by omega)
          have o6 := zz_pr (x := aa) (y := a) (by omega) (by omega)
          have o7 := zz_md (v := aa * a) (p := p) (by omega)
          refine lv_aload_n hx hb dX1_division_151 rfl (lv_at hl 5 rfl) ?_
          refine lv_iload hx hb dX1_division_152 (lv_at hl 3 rfl) ?_
          refine lv_iload hx hb dX1_division_154 (lv_at hl 3 rfl) ?_
          refine zz_imul hx hb dX1_division_156 ?_
          refine zz_callV k0 [.int (zI (xb * xb))] [] ⟨hx, hb, hml, hown, hts⟩ (kX1_mod l dC dI k0 r1 r2 d1 d2 p a b s1 (zU (zU (zU (zU s2 0 0) 1 1) 2 1) 3 (((((3 * ((xa * xa) % p)) + (6 * ((a * xa) % p))) + (12 * ((b * x) % p))) - aa) % p)) (xb * xb) (by omega) (by omega)) (cwV 1 hts gX1_division_X1_mod rfl rfl rfl (by decide +kernel) ⟨Nat.le_of_ble_eq_true rfl, Nat.le_of_ble_eq_true rfl⟩) hK hP 0 rfl rfl rfl hP hS rfl hl.1 rfl (Nat.le_of_ble_eq_true rfl) dX1_division_157 ⟨Nat.le_of_ble_eq_true rfl, Nat.le_of_ble_eq_true rfl⟩ (fun H locs hP hS => ?_)
          refine lv_iconst (v := zI 5) hx hb dX1_division_160 rfl ?_
          refine lv_aload_n hx hb dX1_division_161 rfl (lv_at hl 5 rfl) ?_
          refine lv_aload_n hx hb dX1_division_162 rfl (lv_at hl 5 rfl) ?_
          refine lv_aload_n hx hb dX1_division_163 rfl (lv_at hl 5 rfl) ?_
          refine va_get (D := (dC, dI)) (ci := 1) (v := .int (zI (a))) (C := RX1) (T := TX1) (N := 5) hx hb hts hin0 hown hK hP 0 rfl rfl 1 (by decide) hf13 (fun _ h9 => h9) rfl dX1_division_164 ?_
          refine lv_iload_n hx hb dX1_division_167 rfl (lv_at hl 4 rfl) ?_
          refine zz_imul hx hb dX1_division_168 ?_
          refine zz_callV k0 [.int (zI (a * xa))] [.ref k0, .int (zI (5)), .int (zI ((xb * xb) % p))] ⟨hx, hb, hml, hown, hts⟩ (kX1_mod l dC dI k0 r1 r2 d1 d2 p a b s1 (zU (zU (zU (zU s2 0 0) 1 1) 2 1) 3 (((((3 * ((xa * xa) % p)) + (6 * ((a * xa) % p))) + (12 * ((b * x) % p))) - aa) % p)) (a * xa) (by omega) (by omega)) (cwV 1 hts gX1_division_X1_mod rfl rfl rfl (by decide +kernel) ⟨Nat.le_of_ble_eq_true rfl, Nat.le_of_ble_eq_true rfl⟩) hK hP 0 rfl rfl rfl hP hS rfl hl.1 rfl (Nat.le_of_ble_eq_true rfl) dX1_division_169 ⟨Nat.le_of_ble_eq_true rfl, Nat.le_of_ble_eq_true rfl⟩ (fun H locs hP hS => ?_)
          refine lv_iload_n hx hb dX1_division_172 rfl (lv_at hl 4 rfl) ?_
          refine zz_imul hx hb dX1_division_173 ?_
          refine zz_callV k0 [.int (zI (((a * xa) % p) * xa))] [.int (zI (5)), .int (zI ((xb * xb) % p))] ⟨hx, hb, hml, hown, hts⟩ (kX1_mod l dC dI k0 r1 r2 d1 d2 p a b s1 (zU (zU (zU (zU s2 0 0) 1 1) 2 1) 3 (((((3 * ((xa * xa) % p)) + (6 * ((a * xa) % p))) + (12 * ((b * x) % p))) - aa) % p)) (((a * xa) % p) * xa) (by omega) (by omega)) (cwV 1 hts gX1_division_X1_mod rfl rfl rfl (by decide +kernel) ⟨Nat.le_of_ble_eq_true rfl, Nat.le_of_ble_eq_true rfl⟩) hK hP 0 rfl rfl rfl hP hS rfl hl.1 rfl (Nat.le_of_ble_eq_true rfl) dX1_division_174 ⟨Nat.le_of_ble_eq_true rfl, Nat.le_of_ble_eq_true rfl⟩ (fun H locs hP hS => ?_)
          refine zz_imul hx hb dX1_division_177 ?_
          refine zz_iadd hx hb dX1_division_178 ?_
          refine lv_bipush (v := zI 20) hx hb dX1_division_179 (by decide +kernel) ?_
          refine lv_aload_n hx hb dX1_division_181 rfl (lv_at hl 5 rfl) ?_
          refine lv_aload_n hx hb dX1_division_182 rfl (lv_at hl 5 rfl) ?_
          refine va_get (D := (dC, dI)) (ci := 1) (v := .int (zI (b))) (C := RX1) (T := TX1) (N := 5) hx hb hts hin0 hown hK hP 0 rfl rfl 2 (by decide) hf16 (fun _ h9 => h9) rfl dX1_division_183 ?_
          refine lv_iload hx hb dX1_division_186 (lv_at hl 3 rfl) ?_
          refine zz_imul hx hb dX1_division_188 ?_
          refine zz_callV k0 [.int (zI (b * xb))] [.int (zI (20)), .int (zI (((xb * xb) % p) + (5 * ((((a * xa) % p) * xa) % p))))] ⟨hx, hb, hml, hown, hts⟩ (kX1_mod l dC dI k0 r1 r2 d1 d2 p a b s1 (zU (zU (zU (zU s2 0 0) 1 1) 2 1) 3 (((((3 * ((xa * xa) % p)) + (6 * ((a * xa) % p))) + (12 * ((b * x) % p))) - aa) % p)) (b * xb) (by omega) (by omega)) (cwV 1 hts gX1_division_X1_mod rfl rfl rfl (by decide +kernel) ⟨Nat.le_of_ble_eq_true rfl, Nat.le_of_ble_eq_true rfl⟩) hK hP 0 rfl rfl rfl hP hS rfl hl.1 rfl (Nat.le_of_ble_eq_true rfl) dX1_division_189 ⟨Nat.le_of_ble_eq_true rfl, Nat.le_of_ble_eq_true rfl⟩ (fun H locs hP hS => ?_)
          refine zz_imul hx hb dX1_division_192 ?_
          refine zz_iadd hx hb dX1_division_193 ?_
          refine lv_iconst (v := zI 5) hx hb dX1_division_194 rfl ?_
          refine lv_aload_n hx hb dX1_division_195 rfl (lv_at hl 5 rfl) ?_
          refine lv_iload hx hb dX1_division_196 (lv_at hl 0 rfl) ?_
          refine lv_iload_n hx hb dX1_division_198 rfl (lv_at hl 4 rfl) ?_
          refine zz_imul hx hb dX1_division_199 ?_
          refine zz_callV k0 [.int (zI (aa * xa))] [.int (zI (5)), .int (zI ((((xb * xb) % p) + (5 * ((((a * xa) % p) * xa) % p))) + (20 * ((b * xb) % p))))] ⟨hx, hb, hml, hown, hts⟩ (kX1_mod l dC dI k0 r1 r2 d1 d2 p a b s1 (zU (zU (zU (zU s2 0 0) 1 1) 2 1) 3 (((((3 * ((xa * xa) % p)) + (6 * ((a * xa) % p))) + (12 * ((b * x) % p))) - aa) % p)) (aa * xa) (by omega) (by omega)) (cwV 1 hts gX1_division_X1_mod rfl rfl rfl (by decide +kernel) ⟨Nat.le_of_ble_eq_true rfl, Nat.le_of_ble_eq_true rfl⟩) hK hP 0 rfl rfl rfl hP hS rfl hl.1 rfl (Nat.le_of_ble_eq_true rfl) dX1_division_200 ⟨Nat.le_of_ble_eq_true rfl, Nat.le_of_ble_eq_true rfl⟩ (fun H locs hP hS => ?_)
          refine zz_imul hx hb dX1_division_203 ?_
          refine zz_isub hx hb dX1_division_204 ?_
          refine lv_iconst (v := zI 4) hx hb dX1_division_205 rfl ?_
          refine lv_aload_n hx hb dX1_division_206 rfl (lv_at hl 5 rfl) ?_
          refine lv_aload_n hx hb dX1_division_207 rfl (lv_at hl 5 rfl) ?_
          refine lv_aload_n hx hb dX1_division_208 rfl (lv_at hl 5 rfl) ?_
          refine va_get (D := (dC, dI)) (ci := 1) (v := .int (zI (a))) (C := RX1) (T := TX1) (N := 5) hx hb hts hin0 hown hK hP 0 rfl rfl 1 (by decide) hf13 (fun _ h9 => h9) rfl dX1_division_209 ?_
          refine lv_aload_n hx hb dX1_division_212 rfl (lv_at hl 5 rfl) ?_
          refine va_get (D := (dC, dI)) (ci := 1) (v := .int (zI (b))) (C := RX1) (T := TX1) (N := 5) hx hb hts hin0 hown hK hP 0 rfl rfl 2 (by decide) hf16 (fun _ h9 => h9) rfl dX1_division_213 ?_
          refine zz_imul hx hb dX1_division_216 ?_
          refine zz_callV k0 [.int (zI (a * b))] [.ref k0, .int (zI (4)), .int (zI (((((xb * xb) % p) + (5 * ((((a * xa) % p) * xa) % p))) + (20 * ((b * xb) % p))) - (5 * ((aa * xa) % p))))] ⟨hx, hb, hml, hown, hts⟩ (kX1_mod l dC dI k0 r1 r2 d1 d2 p a b s1 (zU (zU (zU (zU s2 0 0) 1 1) 2 1) 3 (((((3 * ((xa * xa) % p)) + (6 * ((a * xa) % p))) + (12 * ((b * x) % p))) - aa) % p)) (a * b) (by omega) (by omega)) (cwV 1 hts gX1_division_X1_mod rfl rfl rfl (by decide +kernel) ⟨Nat.le_of_ble_eq_true rfl, Nat.le_of_ble_eq_true rfl⟩) hK hP 0 rfl rfl rfl hP hS rfl hl.1 rfl (Nat.le_of_ble_eq_true rfl) dX1_division_217 ⟨Nat.le_of_ble_eq_true rfl, Nat.le_of_ble_eq_true rfl⟩ (fun H locs hP hS => ?_)
          refine lv_iload_n hx hb dX1_division_220 rfl (lv_at hl 7 rfl) ?_
          refine zz_imul hx hb dX1_division_221 ?_
          refine zz_callV k0 [.int (zI (((a * b) % p) * x))] [.int (zI (4)), .int (zI (((((xb * xb) % p) + (5 * ((((a * xa) % p) * xa) % p))) + (20 * ((b * xb) % p))) - (5 * ((aa * xa) % p))))] ⟨hx, hb, hml, hown, hts⟩ (kX1_mod l dC dI k0 r1 r2 d1 d2 p a b s1 (zU (zU (zU (zU s2 0 0) 1 1) 2 1) 3 (((((3 * ((xa * xa) % p)) + (6 * ((a * xa) % p))) + (12 * ((b * x) % p))) - aa) % p)) (((a * b) % p) * x) (by omega) (by omega)) (cwV 1 hts gX1_division_X1_mod rfl rfl rfl (by decide +kernel) ⟨Nat.le_of_ble_eq_true rfl, Nat.le_of_ble_eq_true rfl⟩) hK hP 0 rfl rfl rfl hP hS rfl hl.1 rfl (Nat.le_of_ble_eq_true rfl) dX1_division_222 ⟨Nat.le_of_ble_eq_true rfl, Nat.le_of_ble_eq_true rfl⟩ (fun H locs hP hS => ?_)
          refine zz_imul hx hb dX1_division_225 ?_
          refine zz_isub hx hb dX1_division_226 ?_
          refine lv_bipush (v := zI 8) hx hb dX1_division_227 (by decide +kernel) ?_
          refine lv_aload_n hx hb dX1_division_229 rfl (lv_at hl 5 rfl) ?_
          refine lv_aload_n hx hb dX1_division_230 rfl (lv_at hl 5 rfl) ?_
          refine va_get (D := (dC, dI)) (ci := 1) (v := .int (zI (b))) (C := RX1) (T := TX1) (N := 5) hx hb hts hin0 hown hK hP 0 rfl rfl 2 (by decide) hf16 (fun _ h9 => h9) rfl dX1_division_231 ?_
          refine lv_aload_n hx hb dX1_division_234 rfl (lv_at hl 5 rfl) ?_
          refine va_get (D := (dC, dI)) (ci := 1) (v := .int (zI (b))) (C := RX1) (T := TX1) (N := 5) hx hb hts hin0 hown hK hP 0 rfl rfl 2 (by decide) hf16 (fun _ h9 => h9) rfl dX1_division_235 ?_
          refine zz_imul hx hb dX1_division_238 ?_
          refine zz_callV k0 [.int (zI (b * b))] [.int (zI (8)), .int (zI ((((((xb * xb) % p) + (5 * ((((a * xa) % p) * xa) % p))) + (20 * ((b * xb) % p))) - (5 * ((aa * xa) % p))) - (4 * ((((a * b) % p) * x) % p))))] ⟨hx, hb, hml, hown, hts⟩ (kX1_mod l dC dI k0 r1 r2 d1 d2 p a b s1 (zU (zU (zU (zU s2 0 0) 1 1) 2 1) 3 (((((3 * ((xa * xa) % p)) + (6 * ((a * xa) % p))) + (12 * ((b * x) % p))) - aa) % p)) (b * b) (by omega) (by omega)) (cwV 1 hts gX1_division_X1_mod rfl rfl rfl (by decide +kernel) ⟨Nat.le_of_ble_eq_true rfl, Nat.le_of_ble_eq_true rfl⟩) hK hP 0 rfl rfl rfl hP hS rfl hl.1 rfl (Nat.le_of_ble_eq_true rfl) dX1_division_239 ⟨Nat.le_of_ble_eq_true rfl, Nat.le_of_ble_eq_true rfl⟩ (fun H locs hP hS => ?_)
          refine zz_imul hx hb dX1_division_242 ?_
          refine zz_isub hx hb dX1_division_243 ?_
          refine lv_aload_n hx hb dX1_division_244 rfl (lv_at hl 5 rfl) ?_
          refine lv_iload hx hb dX1_division_245 (lv_at hl 0 rfl) ?_
          refine lv_aload_n hx hb dX1_division_247 rfl (lv_at hl 5 rfl) ?_
          refine va_get (D := (dC, dI)) (ci := 1) (v := .int (zI (a))) (C := RX1) (T := TX1) (N := 5) hx hb hts hin0 hown hK hP 0 rfl rfl 1 (by decide) hf13 (fun _ h9 => h9) rfl dX1_division_248 ?_
          refine zz_imul hx hb dX1_division_251 ?_
          refine zz_callV k0 [.int (zI (aa * a))] [.int (zI (((((((xb * xb) % p) + (5 * ((((a * xa) % p) * xa) % p))) + (20 * ((b * xb) % p))) - (5 * ((aa * xa) % p))) - (4 * ((((a * b) % p) * x) % p))) - (8 * ((b * b) % p))))] ⟨hx, hb, hml, hown, hts⟩ (kX1_mod l dC dI k0 r1 r2 d1 d2 p a b s1 (zU (zU (zU (zU s2 0 0) 1 1) 2 1) 3 (((((3 * ((xa * xa) % p)) + (6 * ((a * xa) % p))) + (12 * ((b * x) % p))) - aa) % p)) (aa * a) (by omega) (by omega)) (cwV 1 hts gX1_division_X1_mod rfl rfl rfl (by decide +kernel) ⟨Nat.le_of_ble_eq_true rfl, Nat.le_of_ble_eq_true rfl⟩) hK hP 0 rfl rfl rfl hP hS rfl hl.1 rfl (Nat.le_of_ble_eq_true rfl) dX1_division_252 ⟨Nat.le_of_ble_eq_true rfl, Nat.le_of_ble_eq_true rfl⟩ (fun H locs hP hS => ?_)
          refine zz_isub hx hb dX1_division_255 ?_
          refine zz_topi (fun gq egq => ?_)
          refine lv_istore (lv' := [(8, .int (zI (gq))), (7, .int (zI (aa))), (6, .int (zI (qb))), (5, .int (zI (qa))), (4, .int (zI (xb))), (3, .int (zI (xa))), (0, .ref k0), (1, .int (zI (k))), (2, .int (zI (x)))]) hx hb dX1_division_256 hl (by decide) rfl (fun ls hl => ?_)
          have o8 := zz_md (v := gq) (p := p) (by omega)
          refine lv_aload_n hx hb dX1_division_258 rfl (lv_at hl 6 rfl) ?_
          refine va_get (D := (dC, dI)) (ci := 1) (v := .ref r2) (C := RX1) (T := TX1) (N := 5) hx hb hts hin0 hown hK hP 0 rfl rfl 4 (by decide) hf23 (fun _ h9 => h9) rfl dX1_division_259 ?_
          refine lv_iconst (v := zI 4) hx hb dX1_division_262 rfl ?_
          refine lv_aload_n hx hb dX1_division_263 rfl (lv_at hl 6 rfl) ?_
          refine lv_iconst (v := zI 2) hx hb dX1_division_264 rfl ?_
          refine lv_aload_n hx hb dX1_division_265 rfl (lv_at hl 6 rfl) ?_
          refine lv_iload hx hb dX1_division_266 (lv_at hl 0 rfl) ?_
          refine zz_callV k0 [.int (zI (gq))] [.int (zI (2)), .ref k0, .int (zI (4)), .ref r2] ⟨hx, hb, hml, hown, hts⟩ (kX1_mod l dC dI k0 r1 r2 d1 d2 p a b s1 (zU (zU (zU (zU s2 0 0) 1 1) 2 1) 3 (((((3 * ((xa * xa) % p)) + (6 * ((a * xa) % p))) + (12 * ((b * x) % p))) - aa) % p)) gq (by omega) (by omega)) (cwV 1 hts gX1_division_X1_mod rfl rfl rfl (by decide +kernel) ⟨Nat.le_of_ble_eq_true rfl, Nat.le_of_ble_eq_true rfl⟩) hK hP 0 rfl rfl rfl hP hS rfl hl.1 rfl (Nat.le_of_ble_eq_true rfl) dX1_division_268 ⟨Nat.le_of_ble_eq_true rfl, Nat.le_of_ble_eq_true rfl⟩ (fun H locs hP hS => ?_)
          refine zz_imul hx hb dX1_division_271 ?_
          refine zz_callV k0 [.int (zI (2 * (gq % p)))] [.int (zI (4)), .ref r2] ⟨hx, hb, hml, hown, hts⟩ (kX1_mod l dC dI k0 r1 r2 d1 d2 p a b s1 (zU (zU (zU (zU s2 0 0) 1 1) 2 1) 3 (((((3 * ((xa * xa) % p)) + (6 * ((a * xa) % p))) + (12 * ((b * x) % p))) - aa) % p)) (2 * (gq % p)) (by omega) (by omega)) (cwV 1 hts gX1_division_X1_mod rfl rfl rfl (by decide +kernel) ⟨Nat.le_of_ble_eq_true rfl, Nat.le_of_ble_eq_true rfl⟩) hK hP 0 rfl rfl rfl hP hS rfl hl.1 rfl (Nat.le_of_ble_eq_true rfl) dX1_division_272 ⟨Nat.le_of_ble_eq_true rfl, Nat.le_of_ble_eq_true rfl⟩ (fun H locs hP hS => ?_)
          refine zz_iast (g := zU (zU (zU (zU s2 0 0) 1 1) 2 1) 3 (((((3 * ((xa * xa) % p)) + (6 * ((a * xa) % p))) + (12 * ((b * x) % p))) - aa) % p)) hx hb hK hP hD hS 2 1 rfl rfl (by omega) dX1_division_275 (fun H locs hP hD hS => ?_)
          have hP : va_P (dC, dI) vwCl (ww1 k0 r1 r2 d1 d2 p a b s1 (zU (zU (zU (zU (zU s2 0 0) 1 1) 2 1) 3 (((((3 * ((xa * xa) % p)) + (6 * ((a * xa) % p))) + (12 * ((b * x) % p))) - aa) % p)) 4 ((2 * (gq % p)) % p))) H := hP
          have hD : va_D A (ww1 k0 r1 r2 d1 d2 p a b s1 (zU (zU (zU (zU (zU s2 0 0) 1 1) 2 1) 3 (((((3 * ((xa * xa) % p)) + (6 * ((a * xa) % p))) + (12 * ((b * x) % p))) - aa) % p)) 4 ((2 * (gq % p)) % p))) := hD
          refine lv_iconst (v := zI 5) hx hb dX1_division_276 rfl ?_
          refine lv_istore (lv' := [(9, .int (zI (5))), (8, .int (zI (gq))), (7, .int (zI (aa))), (6, .int (zI (qb))), (5, .int (zI (qa))), (4, .int (zI (xb))), (3, .int (zI (xa))), (0, .ref k0), (1, .int (zI (k))), (2, .int (zI (x)))]) hx hb dX1_division_277 hl (by decide) rfl (fun ls hl => ?_)
          have hi_279 : 5 ≤ (5 : Int) ∧ (5 : Int) ≤ 41 ∧ ∀ j, 0 ≤ j → j < (5 : Int) → (zU (zU (zU (zU (zU s2 0 0) 1 1) 2 1) 3 (((((3 * ((xa * xa) % p)) + (6 * ((a * xa) % p))) + (12 * ((b * x) % p))) - aa) % p)) 4 ((2 * (gq % p)) % p)) j = gs_F p a b x j := by
            refine ⟨by omega, by omega, fun j q1 q2 => ?_⟩
            rcases (show j = 0 ∨ j = 1 ∨ j = 2 ∨ j = 3 ∨ j = 4 by omega) with h | h | h | h | h
            · rw [h, gs_F0]; rfl
            · rw [h, gs_F1]; rfl
            · rw [h, gs_F2]; rfl
            · rw [h, gs_F3]
              exact gs_t3m exa eaa
            · rw [h, gs_F4]
              rw [egq]
              exact gs_t4m exa exb eaa
          refine zz_loopW (σ := Int × (Int → Int)) (fun zs => 5 ≤ zs.1 ∧ zs.1 ≤ 41 ∧ ∀ j, 0 ≤ j → j < zs.1 → zs.2 j = gs_F p a b x j) (fun zs => (41 - zs.1).toNat) (fun zs => [(9, .int (zI (zs.1))), (8, .int (zI (gq))), (7, .int (zI (aa))), (6, .int (zI (qb))), (5, .int (zI (qa))), (4, .int (zI (xb))), (3, .int (zI (xa))), (0, .ref k0), (1, .int (zI (k))), (2, .int (zI (x)))]) (fun zs => (ww1 k0 r1 r2 d1 d2 p a b s1 zs.2)) ?_ (5, zU (zU (zU (zU (zU s2 0 0) 1 1) 2 1) 3 (((((3 * ((xa * xa) % p)) + (6 * ((a * xa) % p))) + (12 * ((b * x) % p))) - aa) % p)) 4 ((2 * (gq % p)) % p)) hi_279 _ _ _ hP hD hS (lv_sub hl [0, 1, 2, 3, 4, 5, 6, 7, 8, 9] rfl)
          intro zs hI_279 ih_279 H locs ls hP hD hS hl
          clear hi_279
          obtain ⟨ic, gc⟩ := zs
          have hI_279 : 5 ≤ ic ∧ ic ≤ 41 ∧ ∀ j, 0 ≤ j → j < ic → gc j = gs_F p a b x j := hI_279
          have hl : lv_has ls 13 [(9, .int (zI (ic))), (8, .int (zI (gq))), (7, .int (zI (aa))), (6, .int (zI (qb))), (5, .int (zI (qa))), (4, .int (zI (xb))), (3, .int (zI (xa))), (0, .ref k0), (1, .int (zI (k))), (2, .int (zI (x)))] := hl
          have hP : va_P (dC, dI) vwCl (ww1 k0 r1 r2 d1 d2 p a b s1 gc) H := hP
          have hD : va_D A (ww1 k0 r1 r2 d1 d2 p a b s1 gc) := hD
          obtain ⟨i1, i2, i3⟩ := hI_279
          refine lv_iload hx hb dX1_division_279 (lv_at hl 0 rfl) ?_
          refine lv_iload_n hx hb dX1_division_281 rfl (lv_at hl 8 rfl) ?_
          refine zz_icmp_gt (tgt := 489) hx hb dX1_division_282 (by decide) (by omega) (by omega) (fun hc_5 => ?_) (fun hc_5 => ?_)
          · refine lv_aload_n hx hb dX1_division_489 rfl (lv_at hl 7 rfl) ?_
            refine va_get (D := (dC, dI)) (ci := 1) (v := .ref r2) (C := RX1) (T := TX1) (N := 5) hx hb hts hin0 hown hK hP 0 rfl rfl 4 (by decide) hf23 (fun _ h9 => h9) rfl dX1_division_490 ?_
            refine lv_iload_n hx hb dX1_division_493 rfl (lv_at hl 8 rfl) ?_
            refine zz_iald (g := gc) hx hb hK hP 2 1 rfl rfl (by omega) dX1_division_494 ?_
            have hpost : zI (gc k) = zI (gs_aDiv p a b k x) := by
              unfold gs_aDiv
              rw [if_pos (by omega), i3 k (by omega) (by omega)]
            subst hAe
            exact W.iret (v := zI (gc k)) hx hb hr (fun t ht hW => ⟨⟨_, (gc), rfl, hpost, by rw [ht]; exact hP, hD⟩, hS.F ht⟩) hS.2.2 dX1_division_495
          · refine lv_iload hx hb dX1_division_285 (lv_at hl 0 rfl) ?_
            refine lv_iconst (v := zI 2) hx hb dX1_division_287 rfl ?_
            refine zz_idiv hx hb dX1_division_288 (by omega) ?_
            refine zz_topi (fun mc emc => ?_)
            refine lv_istore (lv' := [(10, .int (zI (mc))), (9, .int (zI (ic))), (8, .int (zI (gq))), (7, .int (zI (aa))), (6, .int (zI (qb))), (5, .int (zI (qa))), (4, .int (zI (xb))), (3, .int (zI (xa))), (0, .ref k0), (1, .int (zI (k))), (2, .int (zI (x)))]) hx hb dX1_division_289 hl (by decide) rfl (fun ls hl => ?_)
            have hge : ∀ i, 0 ≤ i → i < ic → 0 ≤ gc i ∧ gc i < p := fun i q1 q2 => by rw [i3 i q1 q2]; exact gs_FR (by omega) q1
            have t1 := hge (mc + 2) (by omega) (by omega)
            have t2 := hge (mc - 1) (by omega) (by omega)
            have t3 := hge (mc - 2) (by omega) (by omega)
            have t4 := hge (mc + 1) (by omega) (by omega)
            have t5 := hge mc (by omega) (by omega)
            refine lv_aload_n hx hb dX1_division_291 rfl (lv_at hl 8 rfl) ?_
            refine lv_aload_n hx hb dX1_division_292 rfl (lv_at hl 8 rfl) ?_
            refine va_get (D := (dC, dI)) (ci := 1) (v := .ref r2) (C := RX1) (T := TX1) (N := 5) hx hb hts hin0 hown hK hP 0 rfl rfl 4 (by decide) hf23 (fun _ h9 => h9) rfl dX1_division_293 ?_
            refine lv_iload hx hb dX1_division_296 (lv_at hl 0 rfl) ?_
            refine lv_iconst (v := zI 2) hx hb dX1_division_298 rfl ?_
            refine zz_iadd hx hb dX1_division_299 ?_
            refine zz_iald (g := gc) hx hb hK hP 2 1 rfl rfl (by omega) dX1_division_300 ?_
            refine lv_iload hx hb dX1_division_301 (lv_at hl 1 rfl) ?_
            refine lv_iconst (v := zI 2) hx hb dX1_division_303 rfl ?_
            refine zz_irem hx hb dX1_division_304 (by omega) ?_
            refine lv_iconst (v := zI 1) hx hb dX1_division_305 rfl ?_
            refine zz_icmp_ne (tgt := 318) hx hb dX1_division_306 (by decide) (by omega) ⟨by decide, by decide⟩ (fun hc_6 => ?_) (fun hc_6 => ?_)
            · refine lv_aload_n hx hb dX1_division_318 rfl (lv_at hl 8 rfl) ?_
              refine lv_iload hx hb dX1_division_319 (lv_at hl 0 rfl) ?_
              refine lv_iconst (v := zI 1) hx hb dX1_division_321 rfl ?_
              refine zz_isub hx hb dX1_division_322 ?_
              refine zz_callV k0 [.int (zI (mc - 1))] [.int (zI (gc (mc + 2))), .ref k0] ⟨hx, hb, hml, hown, hts⟩ (kX1_square l dC dI k0 r1 r2 d1 d2 p a b s1 gc (mc - 1) hp (by omega) t2) (cwV 1 hts gX1_division_X1_square rfl rfl rfl (by decide +kernel) ⟨Nat.le_of_ble_eq_true rfl, Nat.le_of_ble_eq_true rfl⟩) hK hP 0 rfl rfl rfl hP hS rfl hl.1 rfl (Nat.le_of_ble_eq_true rfl) dX1_division_323 ⟨Nat.le_of_ble_eq_true rfl, Nat.le_of_ble_eq_true rfl⟩ (fun H locs hP hS => ?_)
              have u0 := zz_pr (x := gc (mc - 1)) (y := gc (mc - 1)) (by omega) (by omega)
              have u1 := zz_md (v := gc (mc - 1) * gc (mc - 1)) (p := p) (by omega)
              have u2 := zz_pr (x := gc (mc + 2)) (y := gc (mc - 1) * gc (mc - 1) % p) (by omega) (by omega)
              refine zz_imul hx hb dX1_division_326 ?_
              refine zz_callV k0 [.int (zI ((gc (mc + 2)) * (gc (mc - 1) * gc (mc - 1) % p)))] [] ⟨hx, hb, hml, hown, hts⟩ (kX1_mod l dC dI k0 r1 r2 d1 d2 p a b s1 gc ((gc (mc + 2)) * (gc (mc - 1) * gc (mc - 1) % p)) (by omega) (by omega)) (cwV 1 hts gX1_division_X1_mod rfl rfl rfl (by decide +kernel) ⟨Nat.le_of_ble_eq_true rfl, Nat.le_of_ble_eq_true rfl⟩) hK hP 0 rfl rfl rfl hP hS rfl hl.1 rfl (Nat.le_of_ble_eq_true rfl) dX1_division_327 ⟨Nat.le_of_ble_eq_true rfl, Nat.le_of_ble_eq_true rfl⟩ (fun H locs hP hS => ?_)
              refine zz_topi (fun on eon => ?_)
              refine lv_istore (lv' := [(11, .int (zI (on))), (10, .int (zI (mc))), (9, .int (zI (ic))), (8, .int (zI (gq))), (7, .int (zI (aa))), (6, .int (zI (qb))), (5, .int (zI (qa))), (4, .int (zI (xb))), (3, .int (zI (xa))), (0, .ref k0), (1, .int (zI (k))), (2, .int (zI (x)))]) hx hb dX1_division_330 hl (by decide) rfl (fun ls hl => ?_)
              have ron : 0 ≤ on ∧ on < p := by rw [eon]; exact zz_md (by omega)
              refine lv_iload hx hb dX1_division_332 (lv_at hl 2 rfl) ?_
              refine lv_iconst (v := zI 2) hx hb dX1_division_334 rfl ?_
              refine zz_irem hx hb dX1_division_335 (by omega) ?_
              refine lv_iconst (v := zI 1) hx hb dX1_division_336 rfl ?_
              refine zz_icmp_ne (tgt := 365) hx hb dX1_division_337 (by decide) (by omega) ⟨by decide, by decide⟩ (fun hc_7 => ?_) (fun hc_7 => ?_)
              · have hq_ := hc_7
                have v0 := zz_pr (x := gc (mc + 1)) (y := gc (mc + 1)) (by omega) (by omega)
                have v1 := zz_md (v := gc (mc + 1) * gc (mc + 1)) (p := p) (by omega)
                have v2 := zz_pr (x := gc (mc - 2)) (y := gc (mc + 1) * gc (mc + 1) % p) (by omega) (by omega)
                refine lv_aload_n hx hb dX1_division_365 rfl (lv_at hl 9 rfl) ?_
                refine lv_aload_n hx hb dX1_division_366 rfl (lv_at hl 9 rfl) ?_
                refine va_get (D := (dC, dI)) (ci := 1) (v := .ref r2) (C := RX1) (T := TX1) (N := 5) hx hb hts hin0 hown hK hP 0 rfl rfl 4 (by decide) hf23 (fun _ h9 => h9) rfl dX1_division_367 ?_
                refine lv_iload hx hb dX1_division_370 (lv_at hl 1 rfl) ?_
                refine lv_iconst (v := zI 2) hx hb dX1_division_372 rfl ?_
                refine zz_isub hx hb dX1_division_373 ?_
                refine zz_iald (g := gc) hx hb hK hP 2 1 rfl rfl (by omega) dX1_division_374 ?_
                refine lv_aload_n hx hb dX1_division_375 rfl (lv_at hl 9 rfl) ?_
                refine lv_iload hx hb dX1_division_376 (lv_at hl 1 rfl) ?_
                refine lv_iconst (v := zI 1) hx hb dX1_division_378 rfl ?_
                refine zz_iadd hx hb dX1_division_379 ?_
                refine zz_callV k0 [.int (zI (mc + 1))] [.int (zI (gc (mc - 2))), .ref k0] ⟨hx, hb, hml, hown, hts⟩ (kX1_square l dC dI k0 r1 r2 d1 d2 p a b s1 gc (mc + 1) hp (by omega) t4) (cwV 1 hts gX1_division_X1_square rfl rfl rfl (by decide +kernel) ⟨Nat.le_of_ble_eq_true rfl, Nat.le_of_ble_eq_true rfl⟩) hK hP 0 rfl rfl rfl hP hS rfl hl.1 rfl (Nat.le_of_ble_eq_true rfl) dX1_division_380 ⟨Nat.le_of_ble_eq_true rfl, Nat.le_of_ble_eq_true rfl⟩ (fun H locs hP hS => ?_)
                refine zz_imul hx hb dX1_division_383 ?_
                refine zz_callV k0 [.int (zI ((gc (mc - 2)) * (gc (mc + 1) * gc (mc + 1) % p)))] [] ⟨hx, hb, hml, hown, hts⟩ (kX1_mod l dC dI k0 r1 r2 d1 d2 p a b s1 gc ((gc (mc - 2)) * (gc (mc + 1) * gc (mc + 1) % p)) (by omega) (by omega)) (cwV 1 hts gX1_division_X1_mod rfl rfl rfl (by decide +kernel) ⟨Nat.le_of_ble_eq_true rfl, Nat.le_of_ble_eq_true rfl⟩) hK hP 0 rfl rfl rfl hP hS rfl hl.1 rfl (Nat.le_of_ble_eq_true rfl) dX1_division_384 ⟨Nat.le_of_ble_eq_true rfl, Nat.le_of_ble_eq_true rfl⟩ (fun H locs hP hS => ?_)
                refine zz_topi (fun tw etw => ?_)
                refine lv_istore (lv' := [(12, .int (zI (tw))), (11, .int (zI (on))), (10, .int (zI (mc))), (9, .int (zI (ic))), (8, .int (zI (gq))), (7, .int (zI (aa))), (6, .int (zI (qb))), (5, .int (zI (qa))), (4, .int (zI (xb))), (3, .int (zI (xa))), (0, .ref k0), (1, .int (zI (k))), (2, .int (zI (x)))]) hx hb dX1_division_387 hl (by decide) rfl (fun ls hl => ?_)
                have rtw : 0 ≤ tw ∧ tw < p := by rw [etw]; exact zz_md (by omega)
                refine lv_iload hx hb dX1_division_389 (lv_at hl 3 rfl) ?_
                refine lv_iconst (v := zI 2) hx hb dX1_division_391 rfl ?_
                refine zz_irem hx hb dX1_division_392 (by omega) ?_
                refine zz_if_ne (tgt := 427) hx hb dX1_division_393 (by decide) (by omega) (fun hc_8 => ?_) (fun hc_8 => ?_)
                · exact absurd hc_8 (by omega)
                · have hq_ := hc_8
                  have w1 := zz_md (v := on - tw) (p := p) (by omega)
                  have w2 := zz_pr (x := gc mc) (y := (on - tw) % p) (by omega) (by omega)
                  refine lv_aload_n hx hb dX1_division_396 rfl (lv_at hl 10 rfl) ?_
                  refine va_get (D := (dC, dI)) (ci := 1) (v := .ref r2) (C := RX1) (T := TX1) (N := 5) hx hb hts hin0 hown hK hP 0 rfl rfl 4 (by decide) hf23 (fun _ h9 => h9) rfl dX1_division_397 ?_
                  refine lv_iload hx hb dX1_division_400 (lv_at hl 3 rfl) ?_
                  refine lv_aload_n hx hb dX1_division_402 rfl (lv_at hl 10 rfl) ?_
                  refine lv_aload_n hx hb dX1_division_403 rfl (lv_at hl 10 rfl) ?_
                  refine va_get (D := (dC, dI)) (ci := 1) (v := .ref r2) (C := RX1) (T := TX1) (N := 5) hx hb hts hin0 hown hK hP 0 rfl rfl 4 (by decide) hf23 (fun _ h9 => h9) rfl dX1_division_404 ?_
                  refine lv_iload hx hb dX1_division_407 (lv_at hl 2 rfl) ?_
                  refine zz_iald (g := gc) hx hb hK hP 2 1 rfl rfl (by omega) dX1_division_409 ?_
                  refine lv_aload_n hx hb dX1_division_410 rfl (lv_at hl 10 rfl) ?_
                  refine lv_iload hx hb dX1_division_411 (lv_at hl 1 rfl) ?_
                  refine lv_iload hx hb dX1_division_413 (lv_at hl 0 rfl) ?_
                  refine zz_isub hx hb dX1_division_415 ?_
                  refine zz_callV k0 [.int (zI (on - tw))] [.int (zI (gc mc)), .ref k0, .int (zI (ic)), .ref r2] ⟨hx, hb, hml, hown, hts⟩ (kX1_mod l dC dI k0 r1 r2 d1 d2 p a b s1 gc (on - tw) (by omega) (by omega)) (cwV 1 hts gX1_division_X1_mod rfl rfl rfl (by decide +kernel) ⟨Nat.le_of_ble_eq_true rfl, Nat.le_of_ble_eq_true rfl⟩) hK hP 0 rfl rfl rfl hP hS rfl hl.1 rfl (Nat.le_of_ble_eq_true rfl) dX1_division_416 ⟨Nat.le_of_ble_eq_true rfl, Nat.le_of_ble_eq_true rfl⟩ (fun H locs hP hS => ?_)
                  refine zz_imul hx hb dX1_division_419 ?_
                  refine zz_callV k0 [.int (zI ((gc mc) * ((on - tw) % p)))] [.int (zI (ic)), .ref r2] ⟨hx, hb, hml, hown, hts⟩ (kX1_mod l dC dI k0 r1 r2 d1 d2 p a b s1 gc ((gc mc) * ((on - tw) % p)) (by omega) (by omega)) (cwV 1 hts gX1_division_X1_mod rfl rfl rfl (by decide +kernel) ⟨Nat.le_of_ble_eq_true rfl, Nat.le_of_ble_eq_true rfl⟩) hK hP 0 rfl rfl rfl hP hS rfl hl.1 rfl (Nat.le_of_ble_eq_true rfl) dX1_division_420 ⟨Nat.le_of_ble_eq_true rfl, Nat.le_of_ble_eq_true rfl⟩ (fun H locs hP hS => ?_)
                  refine zz_iast (g := gc) hx hb hK hP hD hS 2 1 rfl rfl (by omega) dX1_division_423 (fun H locs hP hD hS => ?_)
                  have hP : va_P (dC, dI) vwCl (ww1 k0 r1 r2 d1 d2 p a b s1 (zU gc ic (((gc mc) * ((on - tw) % p)) % p))) H := hP
                  have hD : va_D A (ww1 k0 r1 r2 d1 d2 p a b s1 (zU gc ic (((gc mc) * ((on - tw) % p)) % p))) := hD
                  refine lv_goto (tgt := 483) hx hb dX1_division_424 (by decide) ?_
                  obtain ⟨jd, ejd⟩ : ∃ y : Int, y = ic + 1 := ⟨_, rfl⟩
                  refine zz_iinc (v := jd) (lv' := [(9, .int (zI (jd))), (12, .int (zI (tw))), (11, .int (zI (on))), (10, .int (zI (mc))), (8, .int (zI (gq))), (7, .int (zI (aa))), (6, .int (zI (qb))), (5, .int (zI (qa))), (4, .int (zI (xb))), (3, .int (zI (xa))), (0, .ref k0), (1, .int (zI (k))), (2, .int (zI (x)))]) hx hb dX1_division_483 hl (k := 3) rfl ejd (by decide) rfl (fun ls hl => ?_)
                  refine lv_goto (tgt := 279) hx hb dX1_division_486 (by decide) ?_
                  have hn_279 : 5 ≤ jd ∧ jd ≤ 41 ∧ ∀ j, 0 ≤ j → j < jd → (zU gc ic (((gc mc) * ((on - tw) % p)) % p)) j = gs_F p a b x j := by
                    refine ⟨by omega, by omega, fun j q1 q2 => ?_⟩
                    by_cases hj : j = ic
                    · rw [hj, zU_eq, gs_FS p a b x i1]
                      unfold gs_stp
                      rw [if_pos (by omega), ← emc]
                      refine Eq.trans ?_ (gs_evC (f := gc) (fun i q3 q4 => i3 i (by omega) (by omega)))
                      unfold gs_ev
                      rw [eon, etw]
                    · rw [zU_ne _ _ _ hj]
                      exact i3 j q1 (by omega)
                  have hm_279 : (41 - jd).toNat < (41 - ic).toNat := by
                    omega
                  exact ih_279 (jd, zU gc ic (((gc mc) * ((on - tw) % p)) % p)) hn_279 hm_279 _ _ _ hP hD hS (lv_sub hl [0, 4, 5, 6, 7, 8, 9, 10, 11, 12] rfl)
              · exact absurd hc_7 (by omega)
            · refine lv_aload_n hx hb dX1_division_309 rfl (lv_at hl 8 rfl) ?_
              refine lv_iload hx hb dX1_division_310 (lv_at hl 0 rfl) ?_
              refine zz_callV k0 [.int (zI (mc))] [.int (zI (gc (mc + 2))), .ref k0] ⟨hx, hb, hml, hown, hts⟩ (kX1_cube l dC dI k0 r1 r2 d1 d2 p a b s1 gc mc hp (by omega) t5) (cwV 1 hts gX1_division_X1_cube rfl rfl rfl (by decide +kernel) ⟨Nat.le_of_ble_eq_true rfl, Nat.le_of_ble_eq_true rfl⟩) hK hP 0 rfl rfl rfl hP hS rfl hl.1 rfl (Nat.le_of_ble_eq_true rfl) dX1_division_312 ⟨Nat.le_of_ble_eq_true rfl, Nat.le_of_ble_eq_true rfl⟩ (fun H locs hP hS => ?_)
              refine lv_goto (tgt := 326) hx hb dX1_division_315 (by decide) ?_
              have u1 := gs_cubR (p := p) (v := gc mc) (by omega)
              have u2 := zz_pr (x := gc (mc + 2)) (y := gs_cub p (gc mc)) (by omega) (by omega)
              refine zz_imul hx hb dX1_division_326 ?_
              refine zz_callV k0 [.int (zI ((gc (mc + 2)) * (gs_cub p (gc mc))))] [] ⟨hx, hb, hml, hown, hts⟩ (kX1_mod l dC dI k0 r1 r2 d1 d2 p a b s1 gc ((gc (mc + 2)) * (gs_cub p (gc mc))) (by omega) (by omega)) (cwV 1 hts gX1_division_X1_mod rfl rfl rfl (by decide +kernel) ⟨Nat.le_of_ble_eq_true rfl, Nat.le_of_ble_eq_true rfl⟩) hK hP 0 rfl rfl rfl hP hS rfl hl.1 rfl (Nat.le_of_ble_eq_true rfl) dX1_division_327 ⟨Nat.le_of_ble_eq_true rfl, Nat.le_of_ble_eq_true rfl⟩ (fun H locs hP hS => ?_)
              refine zz_topi (fun on eon => ?_)
              refine lv_istore (lv' := [(11, .int (zI (on))), (10, .int (zI (mc))), (9, .int (zI (ic))), (8, .int (zI (gq))), (7, .int (zI (aa))), (6, .int (zI (qb))), (5, .int (zI (qa))), (4, .int (zI (xb))), (3, .int (zI (xa))), (0, .ref k0), (1, .int (zI (k))), (2, .int (zI (x)))]) hx hb dX1_division_330 hl (by decide) rfl (fun ls hl => ?_)
              have ron : 0 ≤ on ∧ on < p := by rw [eon]; exact zz_md (by omega)
              refine lv_iload hx hb dX1_division_332 (lv_at hl 2 rfl) ?_
              refine lv_iconst (v := zI 2) hx hb dX1_division_334 rfl ?_
              refine zz_irem hx hb dX1_division_335 (by omega) ?_
              refine lv_iconst (v := zI 1) hx hb dX1_division_336 rfl ?_
              refine zz_icmp_ne (tgt := 365) hx hb dX1_division_337 (by decide) (by omega) ⟨by decide, by decide⟩ (fun hc_9 => ?_) (fun hc_9 => ?_)
              · exact absurd hc_9 (by omega)
              · have hq_ := hc_9
                have v1 := gs_cubR (p := p) (v := gc (mc + 1)) (by omega)
                have v2 := zz_pr (x := gc (mc - 1)) (y := gs_cub p (gc (mc + 1))) (by omega) (by omega)
                refine lv_aload_n hx hb dX1_division_340 rfl (lv_at hl 9 rfl) ?_
                refine lv_aload_n hx hb dX1_division_341 rfl (lv_at hl 9 rfl) ?_
                refine va_get (D := (dC, dI)) (ci := 1) (v := .ref r2) (C := RX1) (T := TX1) (N := 5) hx hb hts hin0 hown hK hP 0 rfl rfl 4 (by decide) hf23 (fun _ h9 => h9) rfl dX1_division_342 ?_
                refine lv_iload hx hb dX1_division_345 (lv_at hl 1 rfl) ?_
                refine lv_iconst (v := zI 1) hx hb dX1_division_347 rfl ?_
                refine zz_isub hx hb dX1_division_348 ?_
                refine zz_iald (g := gc) hx hb hK hP 2 1 rfl rfl (by omega) dX1_division_349 ?_
                refine lv_aload_n hx hb dX1_division_350 rfl (lv_at hl 9 rfl) ?_
                refine lv_iload hx hb dX1_division_351 (lv_at hl 1 rfl) ?_
                refine lv_iconst (v := zI 1) hx hb dX1_division_353 rfl ?_
                refine zz_iadd hx hb dX1_division_354 ?_
                refine zz_callV k0 [.int (zI (mc + 1))] [.int (zI (gc (mc - 1))), .ref k0] ⟨hx, hb, hml, hown, hts⟩ (kX1_cube l dC dI k0 r1 r2 d1 d2 p a b s1 gc (mc + 1) hp (by omega) t4) (cwV 1 hts gX1_division_X1_cube rfl rfl rfl (by decide +kernel) ⟨Nat.le_of_ble_eq_true rfl, Nat.le_of_ble_eq_true rfl⟩) hK hP 0 rfl rfl rfl hP hS rfl hl.1 rfl (Nat.le_of_ble_eq_true rfl) dX1_division_355 ⟨Nat.le_of_ble_eq_true rfl, Nat.le_of_ble_eq_true rfl⟩ (fun H locs hP hS => ?_)
                refine zz_imul hx hb dX1_division_358 ?_
                refine zz_callV k0 [.int (zI ((gc (mc - 1)) * (gs_cub p (gc (mc + 1)))))] [] ⟨hx, hb, hml, hown, hts⟩ (kX1_mod l dC dI k0 r1 r2 d1 d2 p a b s1 gc ((gc (mc - 1)) * (gs_cub p (gc (mc + 1)))) (by omega) (by omega)) (cwV 1 hts gX1_division_X1_mod rfl rfl rfl (by decide +kernel) ⟨Nat.le_of_ble_eq_true rfl, Nat.le_of_ble_eq_true rfl⟩) hK hP 0 rfl rfl rfl hP hS rfl hl.1 rfl (Nat.le_of_ble_eq_true rfl) dX1_division_359 ⟨Nat.le_of_ble_eq_true rfl, Nat.le_of_ble_eq_true rfl⟩ (fun H locs hP hS => ?_)
                refine lv_goto (tgt := 387) hx hb dX1_division_362 (by decide) ?_
                refine zz_topi (fun tw etw => ?_)
                refine lv_istore (lv' := [(12, .int (zI (tw))), (11, .int (zI (on))), (10, .int (zI (mc))), (9, .int (zI (ic))), (8, .int (zI (gq))), (7, .int (zI (aa))), (6, .int (zI (qb))), (5, .int (zI (qa))), (4, .int (zI (xb))), (3, .int (zI (xa))), (0, .ref k0), (1, .int (zI (k))), (2, .int (zI (x)))]) hx hb dX1_division_387 hl (by decide) rfl (fun ls hl => ?_)
                have rtw : 0 ≤ tw ∧ tw < p := by rw [etw]; exact zz_md (by omega)
                refine lv_iload hx hb dX1_division_389 (lv_at hl 3 rfl) ?_
                refine lv_iconst (v := zI 2) hx hb dX1_division_391 rfl ?_
                refine zz_irem hx hb dX1_division_392 (by omega) ?_
                refine zz_if_ne (tgt := 427) hx hb dX1_division_393 (by decide) (by omega) (fun hc_10 => ?_) (fun hc_10 => ?_)
                · have hq_ := hc_10
                  refine lv_iload hx hb dX1_division_427 (lv_at hl 2 rfl) ?_
                  refine lv_iconst (v := zI 2) hx hb dX1_division_429 rfl ?_
                  refine zz_irem hx hb dX1_division_430 (by omega) ?_
                  refine zz_if_ne (tgt := 460) hx hb dX1_division_431 (by decide) (by omega) (fun hc_11 => ?_) (fun hc_11 => ?_)
                  · have w1 := zz_pr (x := qb) (y := tw) (by omega) (by omega)
                    have w2 := zz_md (v := qb * tw) (p := p) (by omega)
                    refine lv_aload_n hx hb dX1_division_460 rfl (lv_at hl 10 rfl) ?_
                    refine va_get (D := (dC, dI)) (ci := 1) (v := .ref r2) (C := RX1) (T := TX1) (N := 5) hx hb hts hin0 hown hK hP 0 rfl rfl 4 (by decide) hf23 (fun _ h9 => h9) rfl dX1_division_461 ?_
                    refine lv_iload hx hb dX1_division_464 (lv_at hl 3 rfl) ?_
                    refine lv_aload_n hx hb dX1_division_466 rfl (lv_at hl 10 rfl) ?_
                    refine lv_iload hx hb dX1_division_467 (lv_at hl 1 rfl) ?_
                    refine lv_aload_n hx hb dX1_division_469 rfl (lv_at hl 10 rfl) ?_
                    refine lv_iload hx hb dX1_division_470 (lv_at hl 6 rfl) ?_
                    refine lv_iload hx hb dX1_division_472 (lv_at hl 0 rfl) ?_
                    refine zz_imul hx hb dX1_division_474 ?_
                    refine zz_callV k0 [.int (zI (qb * tw))] [.int (zI (on)), .ref k0, .int (zI (ic)), .ref r2] ⟨hx, hb, hml, hown, hts⟩ (kX1_mod l dC dI k0 r1 r2 d1 d2 p a b s1 gc (qb * tw) (by omega) (by omega)) (cwV 1 hts gX1_division_X1_mod rfl rfl rfl (by decide +kernel) ⟨Nat.le_of_ble_eq_true rfl, Nat.le_of_ble_eq_true rfl⟩) hK hP 0 rfl rfl rfl hP hS rfl hl.1 rfl (Nat.le_of_ble_eq_true rfl) dX1_division_475 ⟨Nat.le_of_ble_eq_true rfl, Nat.le_of_ble_eq_true rfl⟩ (fun H locs hP hS => ?_)
                    refine zz_isub hx hb dX1_division_478 ?_
                    refine zz_callV k0 [.int (zI (on - ((qb * tw) % p)))] [.int (zI (ic)), .ref r2] ⟨hx, hb, hml, hown, hts⟩ (kX1_mod l dC dI k0 r1 r2 d1 d2 p a b s1 gc (on - ((qb * tw) % p)) (by omega) (by omega)) (cwV 1 hts gX1_division_X1_mod rfl rfl rfl (by decide +kernel) ⟨Nat.le_of_ble_eq_true rfl, Nat.le_of_ble_eq_true rfl⟩) hK hP 0 rfl rfl rfl hP hS rfl hl.1 rfl (Nat.le_of_ble_eq_true rfl) dX1_division_479 ⟨Nat.le_of_ble_eq_true rfl, Nat.le_of_ble_eq_true rfl⟩ (fun H locs hP hS => ?_)
                    refine zz_iast (g := gc) hx hb hK hP hD hS 2 1 rfl rfl (by omega) dX1_division_482 (fun H locs hP hD hS => ?_)
                    have hP : va_P (dC, dI) vwCl (ww1 k0 r1 r2 d1 d2 p a b s1 (zU gc ic ((on - ((qb * tw) % p)) % p))) H := hP
                    have hD : va_D A (ww1 k0 r1 r2 d1 d2 p a b s1 (zU gc ic ((on - ((qb * tw) % p)) % p))) := hD
                    obtain ⟨jd, ejd⟩ : ∃ y : Int, y = ic + 1 := ⟨_, rfl⟩
                    refine zz_iinc (v := jd) (lv' := [(9, .int (zI (jd))), (12, .int (zI (tw))), (11, .int (zI (on))), (10, .int (zI (mc))), (8, .int (zI (gq))), (7, .int (zI (aa))), (6, .int (zI (qb))), (5, .int (zI (qa))), (4, .int (zI (xb))), (3, .int (zI (xa))), (0, .ref k0), (1, .int (zI (k))), (2, .int (zI (x)))]) hx hb dX1_division_483 hl (k := 3) rfl ejd (by decide) rfl (fun ls hl => ?_)
                    refine lv_goto (tgt := 279) hx hb dX1_division_486 (by decide) ?_
                    have hn_279 : 5 ≤ jd ∧ jd ≤ 41 ∧ ∀ j, 0 ≤ j → j < jd → (zU gc ic ((on - ((qb * tw) % p)) % p)) j = gs_F p a b x j := by
                      refine ⟨by omega, by omega, fun j q1 q2 => ?_⟩
                      by_cases hj : j = ic
                      · rw [hj, zU_eq, gs_FS p a b x i1]
                        unfold gs_stp
                        rw [if_neg (by omega), ← emc, ← h5]
                        refine Eq.trans ?_ (gs_odC (f := gc) (fun i q3 q4 => i3 i (by omega) (by omega)))
                        unfold gs_od
                        rw [if_neg (by omega), eon, etw]
                        exact zm_s rfl zm_e
                      · rw [zU_ne _ _ _ hj]
                        exact i3 j q1 (by omega)
                    have hm_279 : (41 - jd).toNat < (41 - ic).toNat := by
                      omega
                    exact ih_279 (jd, zU gc ic ((on - ((qb * tw) % p)) % p)) hn_279 hm_279 _ _ _ hP hD hS (lv_sub hl [0, 4, 5, 6, 7, 8, 9, 10, 11, 12] rfl)
                  · have w1 := zz_pr (x := qb) (y := on) (by omega) (by omega)
                    have w2 := zz_md (v := qb * on) (p := p) (by omega)
                    refine lv_aload_n hx hb dX1_division_434 rfl (lv_at hl 10 rfl) ?_
                    refine va_get (D := (dC, dI)) (ci := 1) (v := .ref r2) (C := RX1) (T := TX1) (N := 5) hx hb hts hin0 hown hK hP 0 rfl rfl 4 (by decide) hf23 (fun _ h9 => h9) rfl dX1_division_435 ?_
                    refine lv_iload hx hb dX1_division_438 (lv_at hl 3 rfl) ?_
                    refine lv_aload_n hx hb dX1_division_440 rfl (lv_at hl 10 rfl) ?_
                    refine lv_aload_n hx hb dX1_division_441 rfl (lv_at hl 10 rfl) ?_
                    refine lv_iload hx hb dX1_division_442 (lv_at hl 6 rfl) ?_
                    refine lv_iload hx hb dX1_division_444 (lv_at hl 1 rfl) ?_
                    refine zz_imul hx hb dX1_division_446 ?_
                    refine zz_callV k0 [.int (zI (qb * on))] [.ref k0, .int (zI (ic)), .ref r2] ⟨hx, hb, hml, hown, hts⟩ (kX1_mod l dC dI k0 r1 r2 d1 d2 p a b s1 gc (qb * on) (by omega) (by omega)) (cwV 1 hts gX1_division_X1_mod rfl rfl rfl (by decide +kernel) ⟨Nat.le_of_ble_eq_true rfl, Nat.le_of_ble_eq_true rfl⟩) hK hP 0 rfl rfl rfl hP hS rfl hl.1 rfl (Nat.le_of_ble_eq_true rfl) dX1_division_447 ⟨Nat.le_of_ble_eq_true rfl, Nat.le_of_ble_eq_true rfl⟩ (fun H locs hP hS => ?_)
                    refine lv_iload hx hb dX1_division_450 (lv_at hl 0 rfl) ?_
                    refine zz_isub hx hb dX1_division_452 ?_
                    refine zz_callV k0 [.int (zI (((qb * on) % p) - tw))] [.int (zI (ic)), .ref r2] ⟨hx, hb, hml, hown, hts⟩ (kX1_mod l dC dI k0 r1 r2 d1 d2 p a b s1 gc (((qb * on) % p) - tw) (by omega) (by omega)) (cwV 1 hts gX1_division_X1_mod rfl rfl rfl (by decide +kernel) ⟨Nat.le_of_ble_eq_true rfl, Nat.le_of_ble_eq_true rfl⟩) hK hP 0 rfl rfl rfl hP hS rfl hl.1 rfl (Nat.le_of_ble_eq_true rfl) dX1_division_453 ⟨Nat.le_of_ble_eq_true rfl, Nat.le_of_ble_eq_true rfl⟩ (fun H locs hP hS => ?_)
                    refine zz_iast (g := gc) hx hb hK hP hD hS 2 1 rfl rfl (by omega) dX1_division_456 (fun H locs hP hD hS => ?_)
                    have hP : va_P (dC, dI) vwCl (ww1 k0 r1 r2 d1 d2 p a b s1 (zU gc ic ((((qb * on) % p) - tw) % p))) H := hP
                    have hD : va_D A (ww1 k0 r1 r2 d1 d2 p a b s1 (zU gc ic ((((qb * on) % p) - tw) % p))) := hD
                    refine lv_goto (tgt := 483) hx hb dX1_division_457 (by decide) ?_
                    obtain ⟨jd, ejd⟩ : ∃ y : Int, y = ic + 1 := ⟨_, rfl⟩
                    refine zz_iinc (v := jd) (lv' := [(9, .int (zI (jd))), (12, .int (zI (tw))), (11, .int (zI (on))), (10, .int (zI (mc))), (8, .int (zI (gq))), (7, .int (zI (aa))), (6, .int (zI (qb))), (5, .int (zI (qa))), (4, .int (zI (xb))), (3, .int (zI (xa))), (0, .ref k0), (1, .int (zI (k))), (2, .int (zI (x)))]) hx hb dX1_division_483 hl (k := 3) rfl ejd (by decide) rfl (fun ls hl => ?_)
                    refine lv_goto (tgt := 279) hx hb dX1_division_486 (by decide) ?_
                    have hn_279 : 5 ≤ jd ∧ jd ≤ 41 ∧ ∀ j, 0 ≤ j → j < jd → (zU gc ic ((((qb * on) % p) - tw) % p)) j = gs_F p a b x j := by
                      refine ⟨by omega, by omega, fun j q1 q2 => ?_⟩
                      by_cases hj : j = ic
                      · rw [hj, zU_eq, gs_FS p a b x i1]
                        unfold gs_stp
                        rw [if_neg (by omega), ← emc, ← h5]
                        refine Eq.trans ?_ (gs_odC (f := gc) (fun i q3 q4 => i3 i (by omega) (by omega)))
                        unfold gs_od
                        rw [if_pos (by omega), eon, etw]
                        exact zm_s zm_e rfl
                      · rw [zU_ne _ _ _ hj]
                        exact i3 j q1 (by omega)
                    have hm_279 : (41 - jd).toNat < (41 - ic).toNat := by
                      omega
                    exact ih_279 (jd, zU gc ic ((((qb * on) % p) - tw) % p)) hn_279 hm_279 _ _ _ hP hD hS (lv_sub hl [0, 4, 5, 6, 7, 8, 9, 10, 11, 12] rfl)
                · exact absurd hc_10 (by omega)
        · refine lv_iconst (v := zI (-1)) hx hb dX1_division_22 rfl ?_
          have hpost : zI ((-1)) = zI (gs_aDiv p a b k x) := by
            unfold gs_aDiv
            rw [if_neg (by omega)]
          subst hAe
          exact W.iret (v := zI ((-1))) hx hb hr (fun t ht hW => ⟨⟨_, (s2), rfl, hpost, by rw [ht]; exact hP, hD⟩, hS.F ht⟩) hS.2.2 dX1_division_23
