set_option maxHeartbeats 4000000 in
set_option maxRecDepth 100000 in
theorem kX0_fillLesserRoots (l : Launch) (dC : Nat → ClassId) (dI : Nat → Nat → Nat) (h0 q1 q2 q3 : Nat) (c1 c2 c3 : ClassId) (p a b n : Int) (g1 g2 g3 : Int → Int) (sz : Nat)  (hp : 5 ≤ p ∧ p ≤ 4093) : Met l yX0_fillLesserRoots wsX0_fillLesserRoots ({ frames := 2, cells := 0, slots := 0, locals := 43 }) (zPw (dC, dI) (ww0 h0 q1 q2 q3 c1 c2 c3 p a b n g1 g2 g3) (tt0 c1 c2 c3) sz [.ref h0]) (zQwv (dC, dI) (ww0 h0 q1 q2 q3 c1 c2 c3 p a b n g1 g2 g3) sz (fun g : Int → Int => ww0 h0 q1 q2 q3 c1 c2 c3 p a b n g g2 g3) (fun g : Int → Int => gs_lr p g)) 0 0 (va_A (ww0 h0 q1 q2 q3 c1 c2 c3 p a b n g1 g2 g3) sz) := by
  refine Met.ofW (cc := cX0_fillLesserRoots) (maxL := 2) (ret := none) (by decide) rfl ?_
  intro pp e s m args below meth c s₁ B hml hv
  obtain ⟨rfl, hsz, hP, hK, hD0⟩ := hv
  have hx := B.exec
  have hb := B.bytes
  have hr := B.returns
  have hts := atoms_spec (ws := wsX0_fillLesserRoots) B.pre
  have hown : s.vm.findClass RX0 = some m.cls := findClass_of_methodNamed B.named
  have hlocks := B.notSynchronized
  have hin0 : ∀ w ∈ u_ws RX0 TX0 7, w ∈ wsX0_fillLesserRoots := by decide +kernel
  have hf9 := hts (.fieldLink RX0 9 "CurveDesk" "lesserRoot" "[I") (by decide +kernel)
  have hf31 := hts (.fieldLink RX0 31 "CurveDesk" "prime" "I") (by decide +kernel)
  subst hsz
  have hD := hD0.self (sz := s.heap.size)
  generalize hAe : va_A (ww0 h0 q1 q2 q3 c1 c2 c3 p a b n g1 g2 g3) s.heap.size = A at hD ⊢
  have hA : ∀ q : Nat, s.heap.size ≤ q → A q := fun q h => by rw [← hAe]; exact Or.inr h
  have hS : va_S A s.heap s.heap [] := va_S.rf
  have hl := lv_entry ([.ref h0]) (n := 2) (Nat.le_of_ble_eq_true rfl)
  rw [lg_entry_eq]
  generalize (lg_sl ([.ref h0]) ++ List.replicate (2 - (lg_sl ([.ref h0])).length) Slot.unset).toArray = ls at hl ⊢
  have hl : lv_has ls 2 [(0, .ref h0)] := hl
  skip
  refine lv_iconst (v := zI 0) hx hb dX0_fillLesserRoots_0 rfl ?_
  refine lv_istore_n (lv' := [(1, .int (zI (0))), (0, .ref h0)]) hx hb dX0_fillLesserRoots_1 rfl hl (by decide) rfl (fun ls hl => ?_)
  have hi_2 : 0 ≤ (0 : Int) ∧ (0 : Int) ≤ p ∧ ∀ j, 0 ≤ j → j < (0 : Int) → g1 j = -1 := by
    exact ⟨by omega, by omega, fun j q1 q2 => by omega⟩
  refine zz_loopW (σ := Int × (Int → Int)) (fun zs => 0 ≤ zs.1 ∧ zs.1 ≤ p ∧ ∀ j, 0 ≤ j → j < zs.1 → zs.2 j = -1) (fun zs => (p - zs.1).toNat) (fun zs => [(1, .int (zI (zs.1))), (0, .ref h0)]) (fun zs => (ww0 h0 q1 q2 q3 c1 c2 c3 p a b n zs.2 g2 g3)) ?_ (0, g1) hi_2 _ _ _ hP hD hS (lv_sub hl [0, 1] rfl)
  intro zs hI_2 ih_2 H locs ls hP hD hS hl
  clear hi_2
  obtain ⟨vc, gc⟩ := zs
  have hI_2 : 0 ≤ vc ∧ vc ≤ p ∧ ∀ j, 0 ≤ j → j < vc → gc j = -1 := hI_2
  have hl : lv_has ls 2 [(1, .int (zI (vc))), (0, .ref h0)] := hl
  have hP : va_P (dC, dI) vwCl (ww0 h0 q1 q2 q3 c1 c2 c3 p a b n gc g2 g3) H := hP
  have hD : va_D A (ww0 h0 q1 q2 q3 c1 c2 c3 p a b n gc g2 g3) := hD
  obtain ⟨i1, i2, i3⟩ := hI_2
  refine lv_iload_n hx hb dX0_fillLesserRoots_2 rfl (lv_at hl 0 rfl) ?_
  refine lv_aload_n hx hb dX0_fillLesserRoots_3 rfl (lv_at hl 1 rfl) ?_
  refine va_get (D := (dC, dI)) (ci := 0) (v := .int (zI (p))) (C := RX0) (T := TX0) (N := 7) hx hb hts hin0 hown hK hP 0 rfl rfl 0 (by decide) hf31 (fun _ h9 => h9) rfl dX0_fillLesserRoots_4 ?_
  refine zz_icmp_ge (tgt := 23) hx hb dX0_fillLesserRoots_7 (by decide) (by omega) (by omega) (fun hc_1 => ?_) (fun hc_1 => ?_)
  · refine lv_iconst (v := zI 0) hx hb dX0_fillLesserRoots_23 rfl ?_
    refine lv_istore_n (lv' := [(1, .int (zI (0))), (0, .ref h0)]) hx hb dX0_fillLesserRoots_24 rfl hl (by decide) rfl (fun ls hl => ?_)
    have hi_25 : 0 ≤ (0 : Int) ∧ (0 : Int) ≤ p / 2 + 1 ∧ gs_lp p gc (0 : Int) := by
      exact ⟨by omega, by omega, gs_lp0 (fun j q1 q2 => i3 j q1 (by omega))⟩
    refine zz_loopW (σ := Int × (Int → Int)) (fun zs => 0 ≤ zs.1 ∧ zs.1 ≤ p / 2 + 1 ∧ gs_lp p zs.2 zs.1) (fun zs => (p / 2 + 1 - zs.1).toNat) (fun zs => [(1, .int (zI (zs.1))), (0, .ref h0)]) (fun zs => (ww0 h0 q1 q2 q3 c1 c2 c3 p a b n zs.2 g2 g3)) ?_ (0, gc) hi_25 _ _ _ hP hD hS (lv_sub hl [0, 1] rfl)
    intro zs hI_25 ih_25 H locs ls hP hD hS hl
    clear hi_25
    obtain ⟨yc, gd⟩ := zs
    have hI_25 : 0 ≤ yc ∧ yc ≤ p / 2 + 1 ∧ gs_lp p gd yc := hI_25
    have hl : lv_has ls 2 [(1, .int (zI (yc))), (0, .ref h0)] := hl
    have hP : va_P (dC, dI) vwCl (ww0 h0 q1 q2 q3 c1 c2 c3 p a b n gd g2 g3) H := hP
    have hD : va_D A (ww0 h0 q1 q2 q3 c1 c2 c3 p a b n gd g2 g3) := hD
    obtain ⟨l1, l2, l3⟩ := hI_25
    refine lv_iload_n hx hb dX0_fillLesserRoots_25 rfl (lv_at hl 0 rfl) ?_
    refine lv_aload_n hx hb dX0_fillLesserRoots_26 rfl (lv_at hl 1 rfl) ?_
    refine va_get (D := (dC, dI)) (ci := 0) (v := .int (zI (p))) (C := RX0) (T := TX0) (N := 7) hx hb hts hin0 hown hK hP 0 rfl rfl 0 (by decide) hf31 (fun _ h9 => h9) rfl dX0_fillLesserRoots_27 ?_
    refine lv_iconst (v := zI 2) hx hb dX0_fillLesserRoots_30 rfl ?_
    refine zz_idiv hx hb dX0_fillLesserRoots_31 (by omega) ?_
    refine zz_icmp_gt (tgt := 54) hx hb dX0_fillLesserRoots_32 (by decide) (by omega) (by omega) (fun hc_2 => ?_) (fun hc_2 => ?_)
    · have hpost : gs_lr p (gd) := by
        exact gs_lpEnd hp.1 (by omega) l2 l3
      subst hAe
      exact W.vret hx hb hr (fun t ht hW => ⟨⟨(gd), rfl, hpost, by rw [ht]; exact hP, hD⟩, hS.F ht⟩) hS.2.2 dX0_fillLesserRoots_54
    · have h1 := zz_pr (x := yc) (y := yc) (by omega) (by omega)
      have h2 := zz_md (v := yc * yc) (p := p) (by omega)
      refine lv_aload_n hx hb dX0_fillLesserRoots_35 rfl (lv_at hl 1 rfl) ?_
      refine va_get (D := (dC, dI)) (ci := 0) (v := .ref q1) (C := RX0) (T := TX0) (N := 7) hx hb hts hin0 hown hK hP 0 rfl rfl 4 (by decide) hf9 (fun _ h9 => h9) rfl dX0_fillLesserRoots_36 ?_
      refine lv_aload_n hx hb dX0_fillLesserRoots_39 rfl (lv_at hl 1 rfl) ?_
      refine lv_iload_n hx hb dX0_fillLesserRoots_40 rfl (lv_at hl 0 rfl) ?_
      refine lv_iload_n hx hb dX0_fillLesserRoots_41 rfl (lv_at hl 0 rfl) ?_
      refine zz_imul hx hb dX0_fillLesserRoots_42 ?_
      refine zz_callV h0 [.int (zI (yc * yc))] [.ref q1] ⟨hx, hb, hml, hown, hts⟩ (kX0_modulo l dC dI h0 q1 q2 q3 c1 c2 c3 p a b n gd g2 g3 (yc * yc) (by omega) (by omega)) (cwV 1 hts gX0_fillLesserRoots_X0_modulo rfl rfl rfl (by decide +kernel) ⟨Nat.le_of_ble_eq_true rfl, Nat.le_of_ble_eq_true rfl⟩) hK hP 0 rfl rfl rfl hP hS rfl hl.1 rfl (Nat.le_of_ble_eq_true rfl) dX0_fillLesserRoots_43 ⟨Nat.le_of_ble_eq_true rfl, Nat.le_of_ble_eq_true rfl⟩ (fun H locs hP hS => ?_)
      refine lv_iload_n hx hb dX0_fillLesserRoots_46 rfl (lv_at hl 0 rfl) ?_
      refine zz_iast (g := gd) hx hb hK hP hD hS 1 0 rfl rfl (by omega) dX0_fillLesserRoots_47 (fun H locs hP hD hS => ?_)
      have hP : va_P (dC, dI) vwCl (ww0 h0 q1 q2 q3 c1 c2 c3 p a b n (zU gd ((yc * yc) % p) yc) g2 g3) H := hP
      have hD : va_D A (ww0 h0 q1 q2 q3 c1 c2 c3 p a b n (zU gd ((yc * yc) % p) yc) g2 g3) := hD
      obtain ⟨yd, eyd⟩ : ∃ y : Int, y = yc + 1 := ⟨_, rfl⟩
      refine zz_iinc (v := yd) (lv' := [(1, .int (zI (yd))), (0, .ref h0)]) hx hb dX0_fillLesserRoots_48 hl (k := 0) rfl eyd (by decide) rfl (fun ls hl => ?_)
      refine lv_goto (tgt := 25) hx hb dX0_fillLesserRoots_51 (by decide) ?_
      have hn_25 : 0 ≤ yd ∧ yd ≤ p / 2 + 1 ∧ gs_lp p (zU gd ((yc * yc) % p) yc) yd := by
        refine ⟨by omega, by omega, ?_⟩
        rw [eyd]
        exact gs_lpS l1 l3
      have hm_25 : (p / 2 + 1 - yd).toNat < (p / 2 + 1 - yc).toNat := by
        omega
      exact ih_25 (yd, zU gd ((yc * yc) % p) yc) hn_25 hm_25 _ _ _ hP hD hS (lv_sub hl [0, 1] rfl)
  · refine lv_aload_n hx hb dX0_fillLesserRoots_10 rfl (lv_at hl 1 rfl) ?_
    refine va_get (D := (dC, dI)) (ci := 0) (v := .ref q1) (C := RX0) (T := TX0) (N := 7) hx hb hts hin0 hown hK hP 0 rfl rfl 4 (by decide) hf9 (fun _ h9 => h9) rfl dX0_fillLesserRoots_11 ?_
    refine lv_iload_n hx hb dX0_fillLesserRoots_14 rfl (lv_at hl 0 rfl) ?_
    refine lv_iconst (v := zI (-1)) hx hb dX0_fillLesserRoots_15 rfl ?_
    refine zz_iast (g := gc) hx hb hK hP hD hS 1 0 rfl rfl (by omega) dX0_fillLesserRoots_16 (fun H locs hP hD hS => ?_)
    have hP : va_P (dC, dI) vwCl (ww0 h0 q1 q2 q3 c1 c2 c3 p a b n (zU gc vc (-1)) g2 g3) H := hP
    have hD : va_D A (ww0 h0 q1 q2 q3 c1 c2 c3 p a b n (zU gc vc (-1)) g2 g3) := hD
    obtain ⟨vd, evd⟩ : ∃ y : Int, y = vc + 1 := ⟨_, rfl⟩
    refine zz_iinc (v := vd) (lv' := [(1, .int (zI (vd))), (0, .ref h0)]) hx hb dX0_fillLesserRoots_17 hl (k := 0) rfl evd (by decide) rfl (fun ls hl => ?_)
    refine lv_goto (tgt := 2) hx hb dX0_fillLesserRoots_20 (by decide) ?_
    have hn_2 : 0 ≤ vd ∧ vd ≤ p ∧ ∀ j, 0 ≤ j → j < vd → (zU gc vc (-1)) j = -1 := by
      refine ⟨by omega, by omega, fun j q1 q2 => ?_⟩
      by_cases hj : j = vc
      · rw [hj, zU_eq]
      · rw [zU_ne _ _ _ hj]
        exact i3 j q1 (by omega)
    have hm_2 : (p - vd).toNat < (p - vc).toNat := by
      omega
    exact ih_2 (vd, zU gc vc (-1)) hn_2 hm_2 _ _ _ hP hD hS (lv_sub hl [0, 1] rfl)

set_option maxHeartbeats 4000000 in
set_option maxRecDepth 100000 in
theorem kX0_fillPointsBefore (l : Launch) (dC : Nat → ClassId) (dI : Nat → Nat → Nat) (h0 q1 q2 q3 : Nat) (c1 c2 c3 : ClassId) (p a b n : Int) (g1 g2 g3 : Int → Int) (sz : Nat)  (hp : 5 ≤ p ∧ p ≤ 4093) (ha : 0 ≤ a ∧ a < p) (hbb : 0 ≤ b ∧ b < p) (hpp : gp_prime p.toNat) (hlr : gs_lr p g1) : Met l yX0_fillPointsBefore wsX0_fillPointsBefore ({ frames := 3, cells := 0, slots := 0, locals := 64 }) (zPw (dC, dI) (ww0 h0 q1 q2 q3 c1 c2 c3 p a b n g1 g2 g3) (tt0 c1 c2 c3) sz [.ref h0]) (zQwv (dC, dI) (ww0 h0 q1 q2 q3 c1 c2 c3 p a b n g1 g2 g3) sz (fun g : Int → Int => ww0 h0 q1 q2 q3 c1 c2 c3 p a b n g1 g g3) (fun g : Int → Int => gs_pb p a b g)) 0 0 (va_A (ww0 h0 q1 q2 q3 c1 c2 c3 p a b n g1 g2 g3) sz) := by
  refine Met.ofW (cc := cX0_fillPointsBefore) (maxL := 2) (ret := none) (by decide) rfl ?_
  intro pp e s m args below meth c s₁ B hml hv
  obtain ⟨rfl, hsz, hP, hK, hD0⟩ := hv
  have hx := B.exec
  have hb := B.bytes
  have hr := B.returns
  have hts := atoms_spec (ws := wsX0_fillPointsBefore) B.pre
  have hown : s.vm.findClass RX0 = some m.cls := findClass_of_methodNamed B.named
  have hlocks := B.notSynchronized
  have hin0 : ∀ w ∈ u_ws RX0 TX0 7, w ∈ wsX0_fillPointsBefore := by decide +kernel
  have hf13 := hts (.fieldLink RX0 13 "CurveDesk" "pointsBefore" "[I") (by decide +kernel)
  have hf31 := hts (.fieldLink RX0 31 "CurveDesk" "prime" "I") (by decide +kernel)
  subst hsz
  have hD := hD0.self (sz := s.heap.size)
  generalize hAe : va_A (ww0 h0 q1 q2 q3 c1 c2 c3 p a b n g1 g2 g3) s.heap.size = A at hD ⊢
  have hA : ∀ q : Nat, s.heap.size ≤ q → A q := fun q h => by rw [← hAe]; exact Or.inr h
  have hS : va_S A s.heap s.heap [] := va_S.rf
  have hl := lv_entry ([.ref h0]) (n := 2) (Nat.le_of_ble_eq_true rfl)
  rw [lg_entry_eq]
  generalize (lg_sl ([.ref h0]) ++ List.replicate (2 - (lg_sl ([.ref h0])).length) Slot.unset).toArray = ls at hl ⊢
  have hl : lv_has ls 2 [(0, .ref h0)] := hl
  skip
  refine lv_aload_n hx hb dX0_fillPointsBefore_0 rfl (lv_at hl 0 rfl) ?_
  refine va_get (D := (dC, dI)) (ci := 0) (v := .ref q2) (C := RX0) (T := TX0) (N := 7) hx hb hts hin0 hown hK hP 0 rfl rfl 5 (by decide) hf13 (fun _ h9 => h9) rfl dX0_fillPointsBefore_1 ?_
  refine lv_iconst (v := zI 0) hx hb dX0_fillPointsBefore_4 rfl ?_
  refine lv_iconst (v := zI 0) hx hb dX0_fillPointsBefore_5 rfl ?_
  refine zz_iast (g := g2) hx hb hK hP hD hS 2 1 rfl rfl (by omega) dX0_fillPointsBefore_6 (fun H locs hP hD hS => ?_)
  have hP : va_P (dC, dI) vwCl (ww0 h0 q1 q2 q3 c1 c2 c3 p a b n g1 (zU g2 0 0) g3) H := hP
  have hD : va_D A (ww0 h0 q1 q2 q3 c1 c2 c3 p a b n g1 (zU g2 0 0) g3) := hD
  refine lv_iconst (v := zI 0) hx hb dX0_fillPointsBefore_7 rfl ?_
  refine lv_istore_n (lv' := [(1, .int (zI (0))), (0, .ref h0)]) hx hb dX0_fillPointsBefore_8 rfl hl (by decide) rfl (fun ls hl => ?_)
  have hi_9 : 0 ≤ (0 : Int) ∧ (0 : Int) ≤ p ∧ ∀ j : Nat, (j : Int) ≤ (0 : Int) → (zU g2 0 0) (j : Int) = ((gs_pre p.toNat a b j).length : Int) := by
    refine ⟨by omega, by omega, fun j q1 => ?_⟩
    have hj : j = 0 := by omega
    subst hj
    rfl
  refine zz_loopW (σ := Int × (Int → Int)) (fun zs => 0 ≤ zs.1 ∧ zs.1 ≤ p ∧ ∀ j : Nat, (j : Int) ≤ zs.1 → zs.2 (j : Int) = ((gs_pre p.toNat a b j).length : Int)) (fun zs => (p - zs.1).toNat) (fun zs => [(1, .int (zI (zs.1))), (0, .ref h0)]) (fun zs => (ww0 h0 q1 q2 q3 c1 c2 c3 p a b n g1 zs.2 g3)) ?_ (0, zU g2 0 0) hi_9 _ _ _ hP hD hS (lv_sub hl [0, 1] rfl)
  intro zs hI_9 ih_9 H locs ls hP hD hS hl
  clear hi_9
  obtain ⟨xc, gc⟩ := zs
  have hI_9 : 0 ≤ xc ∧ xc ≤ p ∧ ∀ j : Nat, (j : Int) ≤ xc → gc (j : Int) = ((gs_pre p.toNat a b j).length : Int) := hI_9
  have hl : lv_has ls 2 [(1, .int (zI (xc))), (0, .ref h0)] := hl
  have hP : va_P (dC, dI) vwCl (ww0 h0 q1 q2 q3 c1 c2 c3 p a b n g1 gc g3) H := hP
  have hD : va_D A (ww0 h0 q1 q2 q3 c1 c2 c3 p a b n g1 gc g3) := hD
  obtain ⟨i1, i2, i3⟩ := hI_9
  refine lv_iload_n hx hb dX0_fillPointsBefore_9 rfl (lv_at hl 0 rfl) ?_
  refine lv_aload_n hx hb dX0_fillPointsBefore_10 rfl (lv_at hl 1 rfl) ?_
  refine va_get (D := (dC, dI)) (ci := 0) (v := .int (zI (p))) (C := RX0) (T := TX0) (N := 7) hx hb hts hin0 hown hK hP 0 rfl rfl 0 (by decide) hf31 (fun _ h9 => h9) rfl dX0_fillPointsBefore_11 ?_
  refine zz_icmp_ge (tgt := 47) hx hb dX0_fillPointsBefore_14 (by decide) (by omega) (by omega) (fun hc_1 => ?_) (fun hc_1 => ?_)
  · have hpost : gs_pb p a b (gc) := by
      intro j hj
      exact i3 j (by omega)
    subst hAe
    exact W.vret hx hb hr (fun t ht hW => ⟨⟨(gc), rfl, hpost, by rw [ht]; exact hP, hD⟩, hS.F ht⟩) hS.2.2 dX0_fillPointsBefore_47
  · have h1 := zz_md (v := gs_rhs a b xc) (p := p) (by omega)
    refine lv_aload_n hx hb dX0_fillPointsBefore_17 rfl (lv_at hl 1 rfl) ?_
    refine va_get (D := (dC, dI)) (ci := 0) (v := .ref q2) (C := RX0) (T := TX0) (N := 7) hx hb hts hin0 hown hK hP 0 rfl rfl 5 (by decide) hf13 (fun _ h9 => h9) rfl dX0_fillPointsBefore_18 ?_
    refine lv_iload_n hx hb dX0_fillPointsBefore_21 rfl (lv_at hl 0 rfl) ?_
    refine lv_iconst (v := zI 1) hx hb dX0_fillPointsBefore_22 rfl ?_
    refine zz_iadd hx hb dX0_fillPointsBefore_23 ?_
    refine lv_aload_n hx hb dX0_fillPointsBefore_24 rfl (lv_at hl 1 rfl) ?_
    refine va_get (D := (dC, dI)) (ci := 0) (v := .ref q2) (C := RX0) (T := TX0) (N := 7) hx hb hts hin0 hown hK hP 0 rfl rfl 5 (by decide) hf13 (fun _ h9 => h9) rfl dX0_fillPointsBefore_25 ?_
    refine lv_iload_n hx hb dX0_fillPointsBefore_28 rfl (lv_at hl 0 rfl) ?_
    refine zz_iald (g := gc) hx hb hK hP 2 1 rfl rfl (by omega) dX0_fillPointsBefore_29 ?_
    refine lv_aload_n hx hb dX0_fillPointsBefore_30 rfl (lv_at hl 1 rfl) ?_
    refine lv_aload_n hx hb dX0_fillPointsBefore_31 rfl (lv_at hl 1 rfl) ?_
    refine lv_iload_n hx hb dX0_fillPointsBefore_32 rfl (lv_at hl 0 rfl) ?_
    refine zz_callV h0 [.int (zI (xc))] [.ref h0, .int (zI (gc xc)), .int (zI (xc + 1)), .ref q2] ⟨hx, hb, hml, hown, hts⟩ (kX0_rightSide l dC dI h0 q1 q2 q3 c1 c2 c3 p a b n g1 gc g3 xc (by omega) (by omega) (by omega) (by omega)) (cwV 1 hts gX0_fillPointsBefore_X0_rightSide rfl rfl rfl (by decide +kernel) ⟨Nat.le_of_ble_eq_true rfl, Nat.le_of_ble_eq_true rfl⟩) hK hP 0 rfl rfl rfl hP hS rfl hl.1 rfl (Nat.le_of_ble_eq_true rfl) dX0_fillPointsBefore_33 ⟨Nat.le_of_ble_eq_true rfl, Nat.le_of_ble_eq_true rfl⟩ (fun H locs hP hS => ?_)
    refine zz_callV h0 [.int (zI (gs_rhs a b xc % p))] [.int (zI (gc xc)), .int (zI (xc + 1)), .ref q2] ⟨hx, hb, hml, hown, hts⟩ (kX0_rootCount l dC dI h0 q1 q2 q3 c1 c2 c3 p a b n g1 gc g3 (gs_rhs a b xc % p) hp h1 (gs_lrR hlr hp.2 h1)) (cwV 1 hts gX0_fillPointsBefore_X0_rootCount rfl rfl rfl (by decide +kernel) ⟨Nat.le_of_ble_eq_true rfl, Nat.le_of_ble_eq_true rfl⟩) hK hP 0 rfl rfl rfl hP hS rfl hl.1 rfl (Nat.le_of_ble_eq_true rfl) dX0_fillPointsBefore_36 ⟨Nat.le_of_ble_eq_true rfl, Nat.le_of_ble_eq_true rfl⟩ (fun H locs hP hS => ?_)
    refine zz_iadd hx hb dX0_fillPointsBefore_39 ?_
    refine zz_iast (g := gc) hx hb hK hP hD hS 2 1 rfl rfl (by omega) dX0_fillPointsBefore_40 (fun H locs hP hD hS => ?_)
    have hP : va_P (dC, dI) vwCl (ww0 h0 q1 q2 q3 c1 c2 c3 p a b n g1 (zU gc (xc + 1) ((gc xc) + (if (gs_rhs a b xc % p) = 0 then (1 : Int) else if g1 (gs_rhs a b xc % p) = -1 then 0 else 2))) g3) H := hP
    have hD : va_D A (ww0 h0 q1 q2 q3 c1 c2 c3 p a b n g1 (zU gc (xc + 1) ((gc xc) + (if (gs_rhs a b xc % p) = 0 then (1 : Int) else if g1 (gs_rhs a b xc % p) = -1 then 0 else 2))) g3) := hD
    obtain ⟨xd, exd⟩ : ∃ y : Int, y = xc + 1 := ⟨_, rfl⟩
    refine zz_iinc (v := xd) (lv' := [(1, .int (zI (xd))), (0, .ref h0)]) hx hb dX0_fillPointsBefore_41 hl (k := 0) rfl exd (by decide) rfl (fun ls hl => ?_)
    refine lv_goto (tgt := 9) hx hb dX0_fillPointsBefore_44 (by decide) ?_
    have hn_9 : 0 ≤ xd ∧ xd ≤ p ∧ ∀ j : Nat, (j : Int) ≤ xd → (zU gc (xc + 1) ((gc xc) + (if (gs_rhs a b xc % p) = 0 then (1 : Int) else if g1 (gs_rhs a b xc % p) = -1 then 0 else 2))) (j : Int) = ((gs_pre p.toNat a b j).length : Int) := by
      refine ⟨by omega, by omega, ?_⟩
      rw [exd]
      exact gs_pbS i1 i3 (gs_rcEq hp hpp hlr (by omega))
    have hm_9 : (p - xd).toNat < (p - xc).toNat := by
      omega
    exact ih_9 (xd, zU gc (xc + 1) ((gc xc) + (if (gs_rhs a b xc % p) = 0 then (1 : Int) else if g1 (gs_rhs a b xc % p) = -1 then 0 else 2))) hn_9 hm_9 _ _ _ hP hD hS (lv_sub hl [0, 1] rfl)

set_option maxHeartbeats 4000000 in
set_option maxRecDepth 100000 in
theorem kX0_setPresent (l : Launch) (dC : Nat → ClassId) (dI : Nat → Nat → Nat) (h0 q1 q2 q3 : Nat) (c1 c2 c3 : ClassId) (p a b n : Int) (g1 g2 g3 : Int → Int) (sz : Nat) (vp : Int) (va : Int) (vb : Int) (hcv : gs_cv vp va vb) : Met l yX0_setPresent wsX0_setPresent ({ frames := 4, cells := 0, slots := 0, locals := 85 }) (zPw (dC, dI) (ww0 h0 q1 q2 q3 c1 c2 c3 p a b n g1 g2 g3) (tt0 c1 c2 c3) sz [.ref h0, .int (zI (vp)), .int (zI (va)), .int (zI (vb))]) (zQwv (dC, dI) (ww0 h0 q1 q2 q3 c1 c2 c3 p a b n g1 g2 g3) sz (fun u : Int × (Int → Int) × (Int → Int) => ww0 h0 q1 q2 q3 c1 c2 c3 vp va vb u.1 u.2.1 u.2.2 g3) (fun u : Int × (Int → Int) × (Int → Int) => gs_st vp va vb u.1 u.2.1 u.2.2)) 0 0 (va_A (ww0 h0 q1 q2 q3 c1 c2 c3 p a b n g1 g2 g3) sz) := by
  obtain ⟨hp1, hp2, hpp, ha, hbb, hdd⟩ := id hcv
  have hp : 5 ≤ vp ∧ vp ≤ 4093 := ⟨hp1, hp2⟩
  refine Met.ofW (cc := cX0_setPresent) (maxL := 4) (ret := none) (by decide) rfl ?_
  intro pp e s m args below meth c s₁ B hml hv
  obtain ⟨rfl, hsz, hP, hK, hD0⟩ := hv
  have hx := B.exec
  have hb := B.bytes
  have hr := B.returns
  have hts := atoms_spec (ws := wsX0_setPresent) B.pre
  have hown : s.vm.findClass RX0 = some m.cls := findClass_of_methodNamed B.named
  have hlocks := B.notSynchronized
  have hin0 : ∀ w ∈ u_ws RX0 TX0 7, w ∈ wsX0_setPresent := by decide +kernel
  have hf13 := hts (.fieldLink RX0 13 "CurveDesk" "pointsBefore" "[I") (by decide +kernel)
  have hf31 := hts (.fieldLink RX0 31 "CurveDesk" "prime" "I") (by decide +kernel)
  have hf35 := hts (.fieldLink RX0 35 "CurveDesk" "a" "I") (by decide +kernel)
  have hf38 := hts (.fieldLink RX0 38 "CurveDesk" "b" "I") (by decide +kernel)
  have hf41 := hts (.fieldLink RX0 41 "CurveDesk" "count" "I") (by decide +kernel)
  subst hsz
  have hD := hD0.self (sz := s.heap.size)
  generalize hAe : va_A (ww0 h0 q1 q2 q3 c1 c2 c3 p a b n g1 g2 g3) s.heap.size = A at hD ⊢
  have hA : ∀ q : Nat, s.heap.size ≤ q → A q := fun q h => by rw [← hAe]; exact Or.inr h
  have hS : va_S A s.heap s.heap [] := va_S.rf
  have hl := lv_entry ([.ref h0, .int (zI (vp)), .int (zI (va)), .int (zI (vb))]) (n := 4) (Nat.le_of_ble_eq_true rfl)
  rw [lg_entry_eq]
  generalize (lg_sl ([.ref h0, .int (zI (vp)), .int (zI (va)), .int (zI (vb))]) ++ List.replicate (4 - (lg_sl ([.ref h0, .int (zI (vp)), .int (zI (va)), .int (zI (vb))])).length) Slot.unset).toArray = ls at hl ⊢
  have hl : lv_has ls 4 [(0, .ref h0), (1, .int (zI (vp))), (2, .int (zI (va))), (3, .int (zI (vb)))] := hl
  skip
  refine lv_aload_n hx hb dX0_setPresent_0 rfl (lv_at hl 0 rfl) ?_
  refine lv_iload_n hx hb dX0_setPresent_1 rfl (lv_at hl 1 rfl) ?_
  refine va_put (D := (dC, dI)) (ci := 0) (v := .int (zI (vp))) (ty := .int) (C := RX0) (T := TX0) (N := 7) hx hb hts hin0 tyX0 tyX0_ok nmX0 hown hK hP hD hS 0 rfl rfl 0 (by decide) hf31 (fun _ h9 => h9) rfl (by decide +kernel) rfl rfl (Nat.le_of_ble_eq_true rfl) dX0_setPresent_2 (fun H locs hP hD hS => ?_)
  have hP : va_P (dC, dI) vwCl (ww0 h0 q1 q2 q3 c1 c2 c3 vp a b n g1 g2 g3) H := hP
  have hD : va_D A (ww0 h0 q1 q2 q3 c1 c2 c3 vp a b n g1 g2 g3) := hD
  refine lv_aload_n hx hb dX0_setPresent_5 rfl (lv_at hl 0 rfl) ?_
  refine lv_iload_n hx hb dX0_setPresent_6 rfl (lv_at hl 2 rfl) ?_
  refine va_put (D := (dC, dI)) (ci := 0) (v := .int (zI (va))) (ty := .int) (C := RX0) (T := TX0) (N := 7) hx hb hts hin0 tyX0 tyX0_ok nmX0 hown hK hP hD hS 0 rfl rfl 1 (by decide) hf35 (fun _ h9 => h9) rfl (by decide +kernel) rfl rfl (Nat.le_of_ble_eq_true rfl) dX0_setPresent_7 (fun H locs hP hD hS => ?_)
  have hP : va_P (dC, dI) vwCl (ww0 h0 q1 q2 q3 c1 c2 c3 vp va b n g1 g2 g3) H := hP
  have hD : va_D A (ww0 h0 q1 q2 q3 c1 c2 c3 vp va b n g1 g2 g3) := hD
  refine lv_aload_n hx hb dX0_setPresent_10 rfl (lv_at hl 0 rfl) ?_
  refine lv_iload_n hx hb dX0_setPresent_11 rfl (lv_at hl 3 rfl) ?_
  refine va_put (D := (dC, dI)) (ci := 0) (v := .int (zI (vb))) (ty := .int) (C := RX0) (T := TX0) (N := 7) hx hb hts hin0 tyX0 tyX0_ok nmX0 hown hK hP hD hS 0 rfl rfl 2 (by decide) hf38 (fun _ h9 => h9) rfl (by decide +kernel) rfl rfl (Nat.le_of_ble_eq_true rfl) dX0_setPresent_12 (fun H locs hP hD hS => ?_)
  have hP : va_P (dC, dI) vwCl (ww0 h0 q1 q2 q3 c1 c2 c3 vp va vb n g1 g2 g3) H := hP
  have hD : va_D A (ww0 h0 q1 q2 q3 c1 c2 c3 vp va vb n g1 g2 g3) := hD
  refine lv_aload_n hx hb dX0_setPresent_15 rfl (lv_at hl 0 rfl) ?_
  refine zz_callWv (wr := []) h0 [] [] [0, 1, 2, 3] [] ⟨hx, hb, hml, hown, hts⟩ (kX0_fillLesserRoots l dC dI h0 q1 q2 q3 c1 c2 c3 vp va vb n g1 g2 g3 H.size  hp) (cwV 0 hts gX0_setPresent_X0_fillLesserRoots rfl rfl rfl (by decide +kernel) ⟨Nat.le_of_ble_eq_true rfl, Nat.le_of_ble_eq_true rfl⟩) hK 0 rfl rfl rfl hP hD hS hA rfl rfl (by decide) rfl (by decide) (by decide) rfl hl.1 rfl (Nat.le_of_ble_eq_true rfl) dX0_setPresent_16 ⟨Nat.le_of_ble_eq_true rfl, Nat.le_of_ble_eq_true rfl⟩ (fun u_1 H locs hw_2 hP hD hS => ?_)
  have hP : va_P (dC, dI) vwCl (ww0 h0 q1 q2 q3 c1 c2 c3 vp va vb n u_1 g2 g3) H := hP
  have hD : va_D A (ww0 h0 q1 q2 q3 c1 c2 c3 vp va vb n u_1 g2 g3) := hD
  have hlr := hw_2
  refine lv_aload_n hx hb dX0_setPresent_19 rfl (lv_at hl 0 rfl) ?_
  refine zz_callWv (wr := []) h0 [] [] [0, 1, 2, 3] [] ⟨hx, hb, hml, hown, hts⟩ (kX0_fillPointsBefore l dC dI h0 q1 q2 q3 c1 c2 c3 vp va vb n u_1 g2 g3 H.size  hp ha hbb hpp hw_2) (cwV 0 hts gX0_setPresent_X0_fillPointsBefore rfl rfl rfl (by decide +kernel) ⟨Nat.le_of_ble_eq_true rfl, Nat.le_of_ble_eq_true rfl⟩) hK 0 rfl rfl rfl hP hD hS hA rfl rfl (by decide) rfl (by decide) (by decide) rfl hl.1 rfl (Nat.le_of_ble_eq_true rfl) dX0_setPresent_20 ⟨Nat.le_of_ble_eq_true rfl, Nat.le_of_ble_eq_true rfl⟩ (fun u_4 H locs hw_5 hP hD hS => ?_)
  have hP : va_P (dC, dI) vwCl (ww0 h0 q1 q2 q3 c1 c2 c3 vp va vb n u_1 u_4 g3) H := hP
  have hD : va_D A (ww0 h0 q1 q2 q3 c1 c2 c3 vp va vb n u_1 u_4 g3) := hD
  have hpb := hw_5
  refine lv_aload_n hx hb dX0_setPresent_23 rfl (lv_at hl 0 rfl) ?_
  refine lv_aload_n hx hb dX0_setPresent_24 rfl (lv_at hl 0 rfl) ?_
  refine va_get (D := (dC, dI)) (ci := 0) (v := .ref q2) (C := RX0) (T := TX0) (N := 7) hx hb hts hin0 hown hK hP 0 rfl rfl 5 (by decide) hf13 (fun _ h9 => h9) rfl dX0_setPresent_25 ?_
  refine lv_aload_n hx hb dX0_setPresent_28 rfl (lv_at hl 0 rfl) ?_
  refine va_get (D := (dC, dI)) (ci := 0) (v := .int (zI (vp))) (C := RX0) (T := TX0) (N := 7) hx hb hts hin0 hown hK hP 0 rfl rfl 0 (by decide) hf31 (fun _ h9 => h9) rfl dX0_setPresent_29 ?_
  refine zz_iald (g := u_4) hx hb hK hP 2 1 rfl rfl (by omega) dX0_setPresent_32 ?_
  refine lv_iconst (v := zI 1) hx hb dX0_setPresent_33 rfl ?_
  refine zz_iadd hx hb dX0_setPresent_34 ?_
  refine zz_topi (fun cn ecn => ?_)
  refine va_put (D := (dC, dI)) (ci := 0) (v := .int (zI (cn))) (ty := .int) (C := RX0) (T := TX0) (N := 7) hx hb hts hin0 tyX0 tyX0_ok nmX0 hown hK hP hD hS 0 rfl rfl 3 (by decide) hf41 (fun _ h9 => h9) rfl (by decide +kernel) rfl rfl (Nat.le_of_ble_eq_true rfl) dX0_setPresent_35 (fun H locs hP hD hS => ?_)
  have hP : va_P (dC, dI) vwCl (ww0 h0 q1 q2 q3 c1 c2 c3 vp va vb cn u_1 u_4 g3) H := hP
  have hD : va_D A (ww0 h0 q1 q2 q3 c1 c2 c3 vp va vb cn u_1 u_4 g3) := hD
  have hpost : gs_st vp va vb cn u_1 u_4 := by
    refine ⟨hcv, ?_, hlr, hpb⟩
    have e1 := hpb vp.toNat (by omega)
    rw [Int.toNat_of_nonneg (by omega)] at e1
    rw [ecn, gs_nPre, e1]
  subst hAe
  exact W.vret hx hb hr (fun t ht hW => ⟨⟨(cn, u_1, u_4), rfl, hpost, by rw [ht]; exact hP, hD⟩, hS.F ht⟩) hS.2.2 dX0_setPresent_38

set_option maxHeartbeats 4000000 in
set_option maxRecDepth 100000 in
theorem kX0_curve (l : Launch) (dC : Nat → ClassId) (dI : Nat → Nat → Nat) (h0 q1 q2 q3 : Nat) (c1 c2 c3 : ClassId) (p a b n : Int) (g1 g2 g3 : Int → Int) (sz : Nat) (vp : Int) (va : Int) (vb : Int) (hst : gs_st p a b n g1 g2) (hrvp : -2147483648 ≤ vp ∧ vp < 2147483648) (hrva : -2147483648 ≤ va ∧ va < 2147483648) (hrvb : -2147483648 ≤ vb ∧ vb < 2147483648) : Met l yX0_curve wsX0_curve ({ frames := 5, cells := 0, slots := 0, locals := 108 }) (zPw (dC, dI) (ww0 h0 q1 q2 q3 c1 c2 c3 p a b n g1 g2 g3) (tt0 c1 c2 c3) sz [.ref h0, .int (zI (vp)), .int (zI (va)), .int (zI (vb))]) (zQwi (dC, dI) (ww0 h0 q1 q2 q3 c1 c2 c3 p a b n g1 g2 g3) sz (fun u : (Int × Int × Int) × Int × (Int → Int) × (Int → Int) => ww0 h0 q1 q2 q3 c1 c2 c3 u.1.1 u.1.2.1 u.1.2.2 u.2.1 u.2.2.1 u.2.2.2 g3) (fun (r : Int32) (u : (Int × Int × Int) × Int × (Int → Int) × (Int → Int)) => gs_curP r vp va vb p a b u.1 ∧ gs_st u.1.1 u.1.2.1 u.1.2.2 u.2.1 u.2.2.1 u.2.2.2)) 0 0 (va_A (ww0 h0 q1 q2 q3 c1 c2 c3 p a b n g1 g2 g3) sz) := by
  refine Met.ofW (cc := cX0_curve) (maxL := 4) (ret := (some .int)) (by decide) rfl ?_
  intro pp e s m args below meth c s₁ B hml hv
  obtain ⟨rfl, hsz, hP, hK, hD0⟩ := hv
  have hx := B.exec
  have hb := B.bytes
  have hr := B.returns
  have hts := atoms_spec (ws := wsX0_curve) B.pre
  have hown : s.vm.findClass RX0 = some m.cls := findClass_of_methodNamed B.named
  have hlocks := B.notSynchronized
  subst hsz
  have hD := hD0.self (sz := s.heap.size)
  generalize hAe : va_A (ww0 h0 q1 q2 q3 c1 c2 c3 p a b n g1 g2 g3) s.heap.size = A at hD ⊢
  have hA : ∀ q : Nat, s.heap.size ≤ q → A q := fun q h => by rw [← hAe]; exact Or.inr h
  have hS : va_S A s.heap s.heap [] := va_S.rf
  have hl := lv_entry ([.ref h0, .int (zI (vp)), .int (zI (va)), .int (zI (vb))]) (n := 4) (Nat.le_of_ble_eq_true rfl)
  rw [lg_entry_eq]
  generalize (lg_sl ([.ref h0, .int (zI (vp)), .int (zI (va)), .int (zI (vb))]) ++ List.replicate (4 - (lg_sl ([.ref h0, .int (zI (vp)), .int (zI (va)), .int (zI (vb))])).length) Slot.unset).toArray = ls at hl ⊢
  have hl : lv_has ls 4 [(0, .ref h0), (1, .int (zI (vp))), (2, .int (zI (va))), (3, .int (zI (vb)))] := hl
  skip
  refine lv_iload_n hx hb dX0_curve_0 rfl (lv_at hl 1 rfl) ?_
  refine lv_iconst (v := zI 5) hx hb dX0_curve_1 rfl ?_
  refine zz_icmp_lt (tgt := 19) hx hb dX0_curve_2 (by decide) (by omega) ⟨by decide, by decide⟩ (fun hc_1 => ?_) (fun hc_1 => ?_)
  · have hno := hc_1
    refine lv_iconst (v := zI (-1)) hx hb dX0_curve_19 rfl ?_
    have hpost : gs_curP (zI ((-1))) vp va vb p a b (p, a, b) ∧ gs_st p a b n g1 g2 := by
      refine ⟨gs_curNo (gs_cur1 (fun q => ?_)) (by decide), hst⟩
      omega
    subst hAe
    exact W.iret (v := zI ((-1))) hx hb hr (fun t ht hW => ⟨⟨_, ((p, a, b), n, g1, g2), rfl, hpost, by rw [ht]; exact hP, hD⟩, hS.F ht⟩) hS.2.2 dX0_curve_20
  · refine lv_iload_n hx hb dX0_curve_5 rfl (lv_at hl 1 rfl) ?_
    refine lv_sipush (v := zI 4093) hx hb dX0_curve_6 (by decide +kernel) ?_
    refine zz_icmp_gt (tgt := 19) hx hb dX0_curve_9 (by decide) (by omega) ⟨by decide, by decide⟩ (fun hc_2 => ?_) (fun hc_2 => ?_)
    · have hno := hc_2
      refine lv_iconst (v := zI (-1)) hx hb dX0_curve_19 rfl ?_
      have hpost : gs_curP (zI ((-1))) vp va vb p a b (p, a, b) ∧ gs_st p a b n g1 g2 := by
        refine ⟨gs_curNo (gs_cur1 (fun q => ?_)) (by decide), hst⟩
        omega
      subst hAe
      exact W.iret (v := zI ((-1))) hx hb hr (fun t ht hW => ⟨⟨_, ((p, a, b), n, g1, g2), rfl, hpost, by rw [ht]; exact hP, hD⟩, hS.F ht⟩) hS.2.2 dX0_curve_20
    · refine lv_iload_n hx hb dX0_curve_12 rfl (lv_at hl 1 rfl) ?_
      refine zz_callS [.int (zI (vp))] [] ⟨hx, hb, hml, hown, hts⟩ (kX0_isPrime l vp (by omega)) (va_cwS 1 hts gX0_curve_X0_isPrime rfl rfl rfl (by decide +kernel) ⟨Nat.le_of_ble_eq_true rfl, Nat.le_of_ble_eq_true rfl⟩) hP hS rfl hl.1 rfl (Nat.le_of_ble_eq_true rfl) dX0_curve_13 ⟨Nat.le_of_ble_eq_true rfl, Nat.le_of_ble_eq_true rfl⟩ (fun H locs hP hS => ?_)
      refine zz_if_ne (tgt := 21) hx hb dX0_curve_16 (by decide) (by have hzb := zB_r (gp_prime vp.toNat); omega) (fun hc_3 => ?_) (fun hc_3 => ?_)
      · have hc_3 := zB_1.mp hc_3
        have hpr := hc_3
        refine lv_iload_n hx hb dX0_curve_21 rfl (lv_at hl 2 rfl) ?_
        refine zz_if_lt (tgt := 39) hx hb dX0_curve_22 (by decide) (by omega) (fun hc_4 => ?_) (fun hc_4 => ?_)
        · refine lv_bipush (v := zI (-2)) hx hb dX0_curve_39 (by decide +kernel) ?_
          have hpost : gs_curP (zI ((-2))) vp va vb p a b (p, a, b) ∧ gs_st p a b n g1 g2 := by
            exact ⟨gs_curNo (gs_cur2 (by omega) hpr (by omega)) (by decide), hst⟩
          subst hAe
          exact W.iret (v := zI ((-2))) hx hb hr (fun t ht hW => ⟨⟨_, ((p, a, b), n, g1, g2), rfl, hpost, by rw [ht]; exact hP, hD⟩, hS.F ht⟩) hS.2.2 dX0_curve_41
        · refine lv_iload_n hx hb dX0_curve_25 rfl (lv_at hl 2 rfl) ?_
          refine lv_iload_n hx hb dX0_curve_26 rfl (lv_at hl 1 rfl) ?_
          refine zz_icmp_ge (tgt := 39) hx hb dX0_curve_27 (by decide) (by omega) (by omega) (fun hc_5 => ?_) (fun hc_5 => ?_)
          · refine lv_bipush (v := zI (-2)) hx hb dX0_curve_39 (by decide +kernel) ?_
            have hpost : gs_curP (zI ((-2))) vp va vb p a b (p, a, b) ∧ gs_st p a b n g1 g2 := by
              exact ⟨gs_curNo (gs_cur2 (by omega) hpr (by omega)) (by decide), hst⟩
            subst hAe
            exact W.iret (v := zI ((-2))) hx hb hr (fun t ht hW => ⟨⟨_, ((p, a, b), n, g1, g2), rfl, hpost, by rw [ht]; exact hP, hD⟩, hS.F ht⟩) hS.2.2 dX0_curve_41
          · refine lv_iload_n hx hb dX0_curve_30 rfl (lv_at hl 3 rfl) ?_
            refine zz_if_lt (tgt := 39) hx hb dX0_curve_31 (by decide) (by omega) (fun hc_6 => ?_) (fun hc_6 => ?_)
            · refine lv_bipush (v := zI (-2)) hx hb dX0_curve_39 (by decide +kernel) ?_
              have hpost : gs_curP (zI ((-2))) vp va vb p a b (p, a, b) ∧ gs_st p a b n g1 g2 := by
                exact ⟨gs_curNo (gs_cur2 (by omega) hpr (by omega)) (by decide), hst⟩
              subst hAe
              exact W.iret (v := zI ((-2))) hx hb hr (fun t ht hW => ⟨⟨_, ((p, a, b), n, g1, g2), rfl, hpost, by rw [ht]; exact hP, hD⟩, hS.F ht⟩) hS.2.2 dX0_curve_41
            · refine lv_iload_n hx hb dX0_curve_34 rfl (lv_at hl 3 rfl) ?_
              refine lv_iload_n hx hb dX0_curve_35 rfl (lv_at hl 1 rfl) ?_
              refine zz_icmp_lt (tgt := 42) hx hb dX0_curve_36 (by decide) (by omega) (by omega) (fun hc_7 => ?_) (fun hc_7 => ?_)
              · refine lv_iload_n hx hb dX0_curve_42 rfl (lv_at hl 1 rfl) ?_
                refine lv_iload_n hx hb dX0_curve_43 rfl (lv_at hl 2 rfl) ?_
                refine lv_iload_n hx hb dX0_curve_44 rfl (lv_at hl 3 rfl) ?_
                refine zz_callS [.int (zI (vp)), .int (zI (va)), .int (zI (vb))] [] ⟨hx, hb, hml, hown, hts⟩ (kX0_isSingular l vp va vb (by omega) (by omega) (by omega)) (va_cwS 3 hts gX0_curve_X0_isSingular rfl rfl rfl (by decide +kernel) ⟨Nat.le_of_ble_eq_true rfl, Nat.le_of_ble_eq_true rfl⟩) hP hS rfl hl.1 rfl (Nat.le_of_ble_eq_true rfl) dX0_curve_45 ⟨Nat.le_of_ble_eq_true rfl, Nat.le_of_ble_eq_true rfl⟩ (fun H locs hP hS => ?_)
                refine zz_if_eq (tgt := 54) hx hb dX0_curve_48 (by decide) (by have hzb := zB_r ((4 * (va * va * va) + 27 * (vb * vb)) % vp = 0); omega) (fun hc_8 => ?_) (fun hc_8 => ?_)
                · have hc_8 := zB_0.mp hc_8
                  have hsg := hc_8
                  refine lv_aload_n hx hb dX0_curve_54 rfl (lv_at hl 0 rfl) ?_
                  refine lv_iload_n hx hb dX0_curve_55 rfl (lv_at hl 1 rfl) ?_
                  refine lv_iload_n hx hb dX0_curve_56 rfl (lv_at hl 2 rfl) ?_
                  refine lv_iload_n hx hb dX0_curve_57 rfl (lv_at hl 3 rfl) ?_
                  refine zz_callWv (wr := []) h0 [.int (zI (vp)), .int (zI (va)), .int (zI (vb))] [] [0, 1, 2, 3] [] ⟨hx, hb, hml, hown, hts⟩ (kX0_setPresent l dC dI h0 q1 q2 q3 c1 c2 c3 p a b n g1 g2 g3 H.size vp va vb ⟨by omega, by omega, hpr, by omega, by omega, hsg⟩) (cwV 3 hts gX0_curve_X0_setPresent rfl rfl rfl (by decide +kernel) ⟨Nat.le_of_ble_eq_true rfl, Nat.le_of_ble_eq_true rfl⟩) hK 0 rfl rfl rfl hP hD hS hA rfl rfl (by decide) rfl (by decide) (by decide) rfl hl.1 rfl (Nat.le_of_ble_eq_true rfl) dX0_curve_58 ⟨Nat.le_of_ble_eq_true rfl, Nat.le_of_ble_eq_true rfl⟩ (fun u_9 H locs hw_10 hP hD hS => ?_)
                  have hP : va_P (dC, dI) vwCl (ww0 h0 q1 q2 q3 c1 c2 c3 vp va vb u_9.1 u_9.2.1 u_9.2.2 g3) H := hP
                  have hD : va_D A (ww0 h0 q1 q2 q3 c1 c2 c3 vp va vb u_9.1 u_9.2.1 u_9.2.2 g3) := hD
                  refine lv_iconst (v := zI 0) hx hb dX0_curve_61 rfl ?_
                  have hpost : gs_curP (zI (0)) vp va vb p a b (vp, va, vb) ∧ gs_st vp va vb u_9.1 u_9.2.1 u_9.2.2 := by
                    exact ⟨gs_curYes (gs_cur0 (by omega) hpr (by omega) hsg), hw_10⟩
                  subst hAe
                  exact W.iret (v := zI (0)) hx hb hr (fun t ht hW => ⟨⟨_, ((vp, va, vb), u_9.1, u_9.2.1, u_9.2.2), rfl, hpost, by rw [ht]; exact hP, hD⟩, hS.F ht⟩) hS.2.2 dX0_curve_62
                · have hc_8 := zB_1.mp hc_8
                  have hsg := hc_8
                  refine lv_bipush (v := zI (-3)) hx hb dX0_curve_51 (by decide +kernel) ?_
                  have hpost : gs_curP (zI ((-3))) vp va vb p a b (p, a, b) ∧ gs_st p a b n g1 g2 := by
                    exact ⟨gs_curNo (gs_cur3 (by omega) hpr (by omega) hsg) (by decide), hst⟩
                  subst hAe
                  exact W.iret (v := zI ((-3))) hx hb hr (fun t ht hW => ⟨⟨_, ((p, a, b), n, g1, g2), rfl, hpost, by rw [ht]; exact hP, hD⟩, hS.F ht⟩) hS.2.2 dX0_curve_53
              · refine lv_bipush (v := zI (-2)) hx hb dX0_curve_39 (by decide +kernel) ?_
                have hpost : gs_curP (zI ((-2))) vp va vb p a b (p, a, b) ∧ gs_st p a b n g1 g2 := by
                  exact ⟨gs_curNo (gs_cur2 (by omega) hpr (by omega)) (by decide), hst⟩
                subst hAe
                exact W.iret (v := zI ((-2))) hx hb hr (fun t ht hW => ⟨⟨_, ((p, a, b), n, g1, g2), rfl, hpost, by rw [ht]; exact hP, hD⟩, hS.F ht⟩) hS.2.2 dX0_curve_41
      · have hc_3 := zB_0.mp hc_3
        have hnp := hc_3
        refine lv_iconst (v := zI (-1)) hx hb dX0_curve_19 rfl ?_
        have hpost : gs_curP (zI ((-1))) vp va vb p a b (p, a, b) ∧ gs_st p a b n g1 g2 := by
          refine ⟨gs_curNo (gs_cur1 (fun q => ?_)) (by decide), hst⟩
          exact hnp q.2.2
        subst hAe
        exact W.iret (v := zI ((-1))) hx hb hr (fun t ht hW => ⟨⟨_, ((p, a, b), n, g1, g2), rfl, hpost, by rw [ht]; exact hP, hD⟩, hS.F ht⟩) hS.2.2 dX0_curve_20
