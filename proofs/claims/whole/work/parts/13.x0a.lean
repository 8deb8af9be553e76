set_option maxHeartbeats 4000000 in
set_option maxRecDepth 100000 in
theorem kJ9_floorMod_7cf53 (l : Launch)  (v : Int) (q : Int) (hrv : -2147483648 ≤ v ∧ v < 2147483648) (hq : 0 < q ∧ q < 2147483648) : Met l yJ9_floorMod_7cf53 wsJ9_floorMod_7cf53 ({ frames := 0, cells := 0, slots := 0, locals := 0 }) (zPs [.int (zI (v)), .int (zI (q))]) (zQi (zI (v % q))) 0 0 zNo := by
  refine va_MetF (cc := cJ9_floorMod_7cf53) (maxL := 3) (ret := (some .int)) (by decide +kernel) rfl ?_
  intro pp e s m args below meth c s₁ B hml hv
  obtain ⟨rfl, -⟩ := hv
  have hx := B.exec
  have hb := B.bytes
  have hr := B.returns
  have hts := atoms_spec (ws := wsJ9_floorMod_7cf53) B.pre
  have hown : s.vm.findClass RJ9 = some m.cls := findClass_of_methodNamed B.named
  have hlocks := B.notSynchronized
  have hP : va_P ((fun _ => m.cls), (fun _ _ => 0)) vwCl [] s.heap := fun k q h => by simp at h
  have hS : va_S (fun _ => False) s.heap s.heap [] := va_S.rf
  have hl := lv_entry ([.int (zI (v)), .int (zI (q))]) (n := 3) (Nat.le_of_ble_eq_true rfl)
  rw [lg_entry_eq]
  generalize (lg_sl ([.int (zI (v)), .int (zI (q))]) ++ List.replicate (3 - (lg_sl ([.int (zI (v)), .int (zI (q))])).length) Slot.unset).toArray = ls at hl ⊢
  have hl : lv_has ls 3 [(0, .int (zI (v))), (1, .int (zI (q)))] := hl
  refine lv_iload_n hx hb dJ9_floorMod_7cf53_0 rfl (lv_at hl 0 rfl) ?_
  refine lv_iload_n hx hb dJ9_floorMod_7cf53_1 rfl (lv_at hl 1 rfl) ?_
  refine zz_iremT hx hb dJ9_floorMod_7cf53_2 (by omega) ?_
  refine zz_topi (fun md emd => ?_)
  refine lv_istore_n (lv' := [(2, .int (zI (md))), (0, .int (zI (v))), (1, .int (zI (q)))]) hx hb dJ9_floorMod_7cf53_3 rfl hl (by decide) rfl (fun ls hl => ?_)
  have hmm := Int.tmod_lt_of_pos v hq.1
  have hmn := Int.lt_tmod_of_pos v hq.1
  rw [← emd] at hmm hmn
  refine lv_iload_n hx hb dJ9_floorMod_7cf53_4 rfl (lv_at hl 1 rfl) ?_
  refine lv_iload_n hx hb dJ9_floorMod_7cf53_5 rfl (lv_at hl 2 rfl) ?_
  refine zz_ixorge (tgt := 18) hx hb dJ9_floorMod_7cf53_6 dJ9_floorMod_7cf53_7 (by decide) (by omega) (by omega) (fun hc_1 => ?_) (fun hc_1 => ?_)
  · refine lv_iload_n hx hb dJ9_floorMod_7cf53_18 rfl (lv_at hl 0 rfl) ?_
    have hpost : (md : Int) = v % q := by
      rw [emd]
      exact Int.tmod_eq_emod_of_nonneg (by omega)
    exact W.iret (v := zI (md)) hx hb hr (fun t ht hW => ⟨⟨_, (), rfl, congrArg zI hpost, trivial⟩, hS.F ht⟩) hS.2.2 dJ9_floorMod_7cf53_19
  · refine lv_iload_n hx hb dJ9_floorMod_7cf53_10 rfl (lv_at hl 0 rfl) ?_
    refine zz_if_eq (tgt := 18) hx hb dJ9_floorMod_7cf53_11 (by decide) (by omega) (fun hc_2 => ?_) (fun hc_2 => ?_)
    · refine lv_iload_n hx hb dJ9_floorMod_7cf53_18 rfl (lv_at hl 0 rfl) ?_
      have hpost : (md : Int) = v % q := by
        rw [emd]
        exact zz_fmP hq.1 (by rw [← emd]; omega)
      exact W.iret (v := zI (md)) hx hb hr (fun t ht hW => ⟨⟨_, (), rfl, congrArg zI hpost, trivial⟩, hS.F ht⟩) hS.2.2 dJ9_floorMod_7cf53_19
    · refine lv_iload_n hx hb dJ9_floorMod_7cf53_14 rfl (lv_at hl 0 rfl) ?_
      refine lv_iload_n hx hb dJ9_floorMod_7cf53_15 rfl (lv_at hl 2 rfl) ?_
      refine zz_iadd hx hb dJ9_floorMod_7cf53_16 ?_
      have hpost : (md + q : Int) = v % q := by
        have h := Int.tmod_nonneg q (show 0 ≤ - v by omega)
        rw [Int.neg_tmod, ← emd] at h
        rw [emd]
        exact zz_fmN hq.1 (by rw [← emd]; omega)
      exact W.iret (v := zI (md + q)) hx hb hr (fun t ht hW => ⟨⟨_, (), rfl, congrArg zI hpost, trivial⟩, hS.F ht⟩) hS.2.2 dJ9_floorMod_7cf53_17

set_option maxHeartbeats 4000000 in
set_option maxRecDepth 100000 in
theorem kX0_xOf (l : Launch)  (u : Int) (hu : 0 ≤ u ∧ u < 2147483648) : Met l yX0_xOf wsX0_xOf ({ frames := 0, cells := 0, slots := 0, locals := 0 }) (zPs [.int (zI (u))]) (zQi (zI (u / 4096))) 0 0 zNo := by
  refine Met.ofW (cc := cX0_xOf) (maxL := 1) (ret := (some .int)) (by decide) rfl ?_
  intro pp e s m args below meth c s₁ B hml hv
  obtain ⟨rfl, -⟩ := hv
  have hx := B.exec
  have hb := B.bytes
  have hr := B.returns
  have hts := atoms_spec (ws := wsX0_xOf) B.pre
  have hown : s.vm.findClass RX0 = some m.cls := findClass_of_methodNamed B.named
  have hlocks := B.notSynchronized
  have hP : va_P ((fun _ => m.cls), (fun _ _ => 0)) vwCl [] s.heap := fun k q h => by simp at h
  have hS : va_S (fun _ => False) s.heap s.heap [] := va_S.rf
  have hl := lv_entry ([.int (zI (u))]) (n := 1) (Nat.le_of_ble_eq_true rfl)
  rw [lg_entry_eq]
  generalize (lg_sl ([.int (zI (u))]) ++ List.replicate (1 - (lg_sl ([.int (zI (u))])).length) Slot.unset).toArray = ls at hl ⊢
  have hl : lv_has ls 1 [(0, .int (zI (u)))] := hl
  refine lv_iload_n hx hb dX0_xOf_0 rfl (lv_at hl 0 rfl) ?_
  refine lv_bipush (v := zI 12) hx hb dX0_xOf_1 (by decide +kernel) ?_
  refine zz_ishr 12 (M := 4096) hx hb dX0_xOf_3 (by omega) (by decide) ?_
  have hpost : (u / 4096 : Int) = u / 4096 := by
    rfl
  exact W.iret (v := zI (u / 4096)) hx hb hr (fun t ht hW => ⟨⟨_, (), rfl, congrArg zI hpost, trivial⟩, hS.F ht⟩) hS.2.2 dX0_xOf_4

set_option maxHeartbeats 4000000 in
set_option maxRecDepth 100000 in
theorem kX0_yOf (l : Launch)  (u : Int) (hu : 0 ≤ u ∧ u < 2147483648) : Met l yX0_yOf wsX0_yOf ({ frames := 0, cells := 0, slots := 0, locals := 0 }) (zPs [.int (zI (u))]) (zQi (zI (u % 4096))) 0 0 zNo := by
  refine Met.ofW (cc := cX0_yOf) (maxL := 1) (ret := (some .int)) (by decide) rfl ?_
  intro pp e s m args below meth c s₁ B hml hv
  obtain ⟨rfl, -⟩ := hv
  have hx := B.exec
  have hb := B.bytes
  have hr := B.returns
  have hts := atoms_spec (ws := wsX0_yOf) B.pre
  have hown : s.vm.findClass RX0 = some m.cls := findClass_of_methodNamed B.named
  have hlocks := B.notSynchronized
  have hP : va_P ((fun _ => m.cls), (fun _ _ => 0)) vwCl [] s.heap := fun k q h => by simp at h
  have hS : va_S (fun _ => False) s.heap s.heap [] := va_S.rf
  have hl := lv_entry ([.int (zI (u))]) (n := 1) (Nat.le_of_ble_eq_true rfl)
  rw [lg_entry_eq]
  generalize (lg_sl ([.int (zI (u))]) ++ List.replicate (1 - (lg_sl ([.int (zI (u))])).length) Slot.unset).toArray = ls at hl ⊢
  have hl : lv_has ls 1 [(0, .int (zI (u)))] := hl
  refine lv_iload_n hx hb dX0_yOf_0 rfl (lv_at hl 0 rfl) ?_
  refine lv_sipush (v := zI 4095) hx hb dX0_yOf_1 (by decide +kernel) ?_
  refine zz_iand 12 (M := 4096) hx hb dX0_yOf_4 (by omega) (by decide +kernel) ?_
  have hpost : (u % 4096 : Int) = u % 4096 := by
    rfl
  exact W.iret (v := zI (u % 4096)) hx hb hr (fun t ht hW => ⟨⟨_, (), rfl, congrArg zI hpost, trivial⟩, hS.F ht⟩) hS.2.2 dX0_yOf_5

set_option maxHeartbeats 4000000 in
set_option maxRecDepth 100000 in
theorem kX0_pack (l : Launch)  (x : Int) (y : Int) (hx0 : 0 ≤ x ∧ x < 524288) : Met l yX0_pack wsX0_pack ({ frames := 0, cells := 0, slots := 0, locals := 0 }) (zPs [.int (zI (x)), .int (zI (y))]) (zQi (zI (x * 4096 + y))) 0 0 zNo := by
  refine Met.ofW (cc := cX0_pack) (maxL := 2) (ret := (some .int)) (by decide) rfl ?_
  intro pp e s m args below meth c s₁ B hml hv
  obtain ⟨rfl, -⟩ := hv
  have hx := B.exec
  have hb := B.bytes
  have hr := B.returns
  have hts := atoms_spec (ws := wsX0_pack) B.pre
  have hown : s.vm.findClass RX0 = some m.cls := findClass_of_methodNamed B.named
  have hlocks := B.notSynchronized
  have hP : va_P ((fun _ => m.cls), (fun _ _ => 0)) vwCl [] s.heap := fun k q h => by simp at h
  have hS : va_S (fun _ => False) s.heap s.heap [] := va_S.rf
  have hl := lv_entry ([.int (zI (x)), .int (zI (y))]) (n := 2) (Nat.le_of_ble_eq_true rfl)
  rw [lg_entry_eq]
  generalize (lg_sl ([.int (zI (x)), .int (zI (y))]) ++ List.replicate (2 - (lg_sl ([.int (zI (x)), .int (zI (y))])).length) Slot.unset).toArray = ls at hl ⊢
  have hl : lv_has ls 2 [(0, .int (zI (x))), (1, .int (zI (y)))] := hl
  refine lv_iload_n hx hb dX0_pack_0 rfl (lv_at hl 0 rfl) ?_
  refine lv_bipush (v := zI 12) hx hb dX0_pack_1 (by decide +kernel) ?_
  refine zz_ishl 12 (M := 4096) hx hb dX0_pack_3 (by omega) (by decide) ?_
  refine lv_iload_n hx hb dX0_pack_4 rfl (lv_at hl 1 rfl) ?_
  refine zz_iadd hx hb dX0_pack_5 ?_
  have hpost : ((x * 4096) + y : Int) = x * 4096 + y := by
    rfl
  exact W.iret (v := zI ((x * 4096) + y)) hx hb hr (fun t ht hW => ⟨⟨_, (), rfl, congrArg zI hpost, trivial⟩, hS.F ht⟩) hS.2.2 dX0_pack_6

set_option maxHeartbeats 4000000 in
set_option maxRecDepth 100000 in
theorem kX0_modulo (l : Launch) (dC : Nat → ClassId) (dI : Nat → Nat → Nat) (h0 q1 q2 q3 : Nat) (c1 c2 c3 : ClassId) (p a b n : Int) (g1 g2 g3 : Int → Int) (v : Int) (hp : 5 ≤ p ∧ p ≤ 4093) (hrv : -2147483648 ≤ v ∧ v < 2147483648) : Met l yX0_modulo wsX0_modulo ({ frames := 1, cells := 0, slots := 0, locals := 22 }) (zPc (dC, dI) (ww0 h0 q1 q2 q3 c1 c2 c3 p a b n g1 g2 g3) (tt0 c1 c2 c3) [.ref h0, .int (zI (v))]) (zQi (zI (v % p))) 0 0 zNo := by
  refine Met.ofW (cc := cX0_modulo) (maxL := 2) (ret := (some .int)) (by decide) rfl ?_
  intro pp e s m args below meth c s₁ B hml hv
  obtain ⟨rfl, hP, hK⟩ := hv
  have hx := B.exec
  have hb := B.bytes
  have hr := B.returns
  have hts := atoms_spec (ws := wsX0_modulo) B.pre
  have hown : s.vm.findClass RX0 = some m.cls := findClass_of_methodNamed B.named
  have hlocks := B.notSynchronized
  have hin0 : ∀ w ∈ u_ws RX0 TX0 7, w ∈ wsX0_modulo := by decide +kernel
  have hf31 := hts (.fieldLink RX0 31 "CurveDesk" "prime" "I") (by decide +kernel)
  have hS : va_S (fun _ => False) s.heap s.heap [] := va_S.rf
  have hl := lv_entry ([.ref h0, .int (zI (v))]) (n := 2) (Nat.le_of_ble_eq_true rfl)
  rw [lg_entry_eq]
  generalize (lg_sl ([.ref h0, .int (zI (v))]) ++ List.replicate (2 - (lg_sl ([.ref h0, .int (zI (v))])).length) Slot.unset).toArray = ls at hl ⊢
  have hl : lv_has ls 2 [(0, .ref h0), (1, .int (zI (v)))] := hl
  skip
  refine lv_iload_n hx hb dX0_modulo_0 rfl (lv_at hl 1 rfl) ?_
  refine lv_aload_n hx hb dX0_modulo_1 rfl (lv_at hl 0 rfl) ?_
  refine va_get (D := (dC, dI)) (ci := 0) (v := .int (zI (p))) (C := RX0) (T := TX0) (N := 7) hx hb hts hin0 hown hK hP 0 rfl rfl 0 (by decide) hf31 (fun _ h9 => h9) rfl dX0_modulo_2 ?_
  refine zz_callS [.int (zI (v)), .int (zI (p))] [] ⟨hx, hb, hml, hown, hts⟩ (kJ9_floorMod_7cf53 l v p (by omega) (by omega)) (va_cwS 2 hts gX0_modulo_J9_floorMod_7cf53 rfl rfl rfl (by decide +kernel) ⟨Nat.le_of_ble_eq_true rfl, Nat.le_of_ble_eq_true rfl⟩) hP hS rfl hl.1 rfl (Nat.le_of_ble_eq_true rfl) dX0_modulo_5 ⟨Nat.le_of_ble_eq_true rfl, Nat.le_of_ble_eq_true rfl⟩ (fun H locs hP hS => ?_)
  have hpost : (v % p : Int) = v % p := by
    rfl
  exact W.iret (v := zI (v % p)) hx hb hr (fun t ht hW => ⟨⟨_, (), rfl, congrArg zI hpost, trivial⟩, hS.F ht⟩) hS.2.2 dX0_modulo_8

set_option maxHeartbeats 4000000 in
set_option maxRecDepth 100000 in
theorem kX0_isNumber (l : Launch) (dC : Nat → ClassId) (dI : Nat → Nat → Nat) (h0 q1 q2 q3 : Nat) (c1 c2 c3 : ClassId) (p a b n : Int) (g1 g2 g3 : Int → Int) (v : Int) (hp : 5 ≤ p ∧ p ≤ 4093) (hrv : -2147483648 ≤ v ∧ v < 2147483648) : Met l yX0_isNumber wsX0_isNumber ({ frames := 0, cells := 0, slots := 0, locals := 0 }) (zPc (dC, dI) (ww0 h0 q1 q2 q3 c1 c2 c3 p a b n g1 g2 g3) (tt0 c1 c2 c3) [.ref h0, .int (zI (v))]) (zQi (zI (zB (0 ≤ v ∧ v < p)))) 0 0 zNo := by
  refine Met.ofW (cc := cX0_isNumber) (maxL := 2) (ret := (some .boolean)) (by decide) rfl ?_
  intro pp e s m args below meth c s₁ B hml hv
  obtain ⟨rfl, hP, hK⟩ := hv
  have hx := B.exec
  have hb := B.bytes
  have hr := B.returns
  have hts := atoms_spec (ws := wsX0_isNumber) B.pre
  have hown : s.vm.findClass RX0 = some m.cls := findClass_of_methodNamed B.named
  have hlocks := B.notSynchronized
  have hin0 : ∀ w ∈ u_ws RX0 TX0 7, w ∈ wsX0_isNumber := by decide +kernel
  have hf31 := hts (.fieldLink RX0 31 "CurveDesk" "prime" "I") (by decide +kernel)
  have hS : va_S (fun _ => False) s.heap s.heap [] := va_S.rf
  have hl := lv_entry ([.ref h0, .int (zI (v))]) (n := 2) (Nat.le_of_ble_eq_true rfl)
  rw [lg_entry_eq]
  generalize (lg_sl ([.ref h0, .int (zI (v))]) ++ List.replicate (2 - (lg_sl ([.ref h0, .int (zI (v))])).length) Slot.unset).toArray = ls at hl ⊢
  have hl : lv_has ls 2 [(0, .ref h0), (1, .int (zI (v)))] := hl
  skip
  refine lv_iload_n hx hb dX0_isNumber_0 rfl (lv_at hl 1 rfl) ?_
  refine zz_if_lt (tgt := 16) hx hb dX0_isNumber_1 (by decide) (by omega) (fun hc_1 => ?_) (fun hc_1 => ?_)
  · refine lv_iconst (v := zI 0) hx hb dX0_isNumber_16 rfl ?_
    have hpost : (0 : Int) = zB (0 ≤ v ∧ v < p) := by
      exact (zB_F (by omega)).symm
    exact W.zret (v := zI (0)) hx hb hr rfl (fun t ht hW => ⟨⟨_, (), rfl, congrArg zI hpost, trivial⟩, hS.F ht⟩) hS.2.2 dX0_isNumber_17
  · refine lv_iload_n hx hb dX0_isNumber_4 rfl (lv_at hl 1 rfl) ?_
    refine lv_aload_n hx hb dX0_isNumber_5 rfl (lv_at hl 0 rfl) ?_
    refine va_get (D := (dC, dI)) (ci := 0) (v := .int (zI (p))) (C := RX0) (T := TX0) (N := 7) hx hb hts hin0 hown hK hP 0 rfl rfl 0 (by decide) hf31 (fun _ h9 => h9) rfl dX0_isNumber_6 ?_
    refine zz_icmp_ge (tgt := 16) hx hb dX0_isNumber_9 (by decide) (by omega) (by omega) (fun hc_2 => ?_) (fun hc_2 => ?_)
    · refine lv_iconst (v := zI 0) hx hb dX0_isNumber_16 rfl ?_
      have hpost : (0 : Int) = zB (0 ≤ v ∧ v < p) := by
        exact (zB_F (by omega)).symm
      exact W.zret (v := zI (0)) hx hb hr rfl (fun t ht hW => ⟨⟨_, (), rfl, congrArg zI hpost, trivial⟩, hS.F ht⟩) hS.2.2 dX0_isNumber_17
    · refine lv_iconst (v := zI 1) hx hb dX0_isNumber_12 rfl ?_
      refine lv_goto (tgt := 17) hx hb dX0_isNumber_13 (by decide) ?_
      have hpost : (1 : Int) = zB (0 ≤ v ∧ v < p) := by
        exact (zB_T (by omega)).symm
      exact W.zret (v := zI (1)) hx hb hr rfl (fun t ht hW => ⟨⟨_, (), rfl, congrArg zI hpost, trivial⟩, hS.F ht⟩) hS.2.2 dX0_isNumber_17

set_option maxHeartbeats 4000000 in
set_option maxRecDepth 100000 in
theorem kX0_rightSide (l : Launch) (dC : Nat → ClassId) (dI : Nat → Nat → Nat) (h0 q1 q2 q3 : Nat) (c1 c2 c3 : ClassId) (p a b n : Int) (g1 g2 g3 : Int → Int) (x : Int) (hp : 5 ≤ p ∧ p ≤ 4093) (ha : 0 ≤ a ∧ a < p) (hbb : 0 ≤ b ∧ b < p) (hx0 : 0 ≤ x ∧ x < p) : Met l yX0_rightSide wsX0_rightSide ({ frames := 2, cells := 0, slots := 0, locals := 43 }) (zPc (dC, dI) (ww0 h0 q1 q2 q3 c1 c2 c3 p a b n g1 g2 g3) (tt0 c1 c2 c3) [.ref h0, .int (zI (x))]) (zQi (zI (gs_rhs a b x % p))) 0 0 zNo := by
  refine Met.ofW (cc := cX0_rightSide) (maxL := 2) (ret := (some .int)) (by decide) rfl ?_
  intro pp e s m args below meth c s₁ B hml hv
  obtain ⟨rfl, hP, hK⟩ := hv
  have hx := B.exec
  have hb := B.bytes
  have hr := B.returns
  have hts := atoms_spec (ws := wsX0_rightSide) B.pre
  have hown : s.vm.findClass RX0 = some m.cls := findClass_of_methodNamed B.named
  have hlocks := B.notSynchronized
  have hin0 : ∀ w ∈ u_ws RX0 TX0 7, w ∈ wsX0_rightSide := by decide +kernel
  have hf35 := hts (.fieldLink RX0 35 "CurveDesk" "a" "I") (by decide +kernel)
  have hf38 := hts (.fieldLink RX0 38 "CurveDesk" "b" "I") (by decide +kernel)
  have hS : va_S (fun _ => False) s.heap s.heap [] := va_S.rf
  have hl := lv_entry ([.ref h0, .int (zI (x))]) (n := 2) (Nat.le_of_ble_eq_true rfl)
  rw [lg_entry_eq]
  generalize (lg_sl ([.ref h0, .int (zI (x))]) ++ List.replicate (2 - (lg_sl ([.ref h0, .int (zI (x))])).length) Slot.unset).toArray = ls at hl ⊢
  have hl : lv_has ls 2 [(0, .ref h0), (1, .int (zI (x)))] := hl
  skip
  have h1 := zz_pr (x := x) (y := x) (by omega) (by omega)
  have h2 := zz_md (v := x * x + a) (p := p) (by omega)
  have h3 := zz_pr (x := (x * x + a) % p) (y := x) (by omega) (by omega)
  refine lv_aload_n hx hb dX0_rightSide_0 rfl (lv_at hl 0 rfl) ?_
  refine lv_aload_n hx hb dX0_rightSide_1 rfl (lv_at hl 0 rfl) ?_
  refine lv_iload_n hx hb dX0_rightSide_2 rfl (lv_at hl 1 rfl) ?_
  refine lv_iload_n hx hb dX0_rightSide_3 rfl (lv_at hl 1 rfl) ?_
  refine zz_imul hx hb dX0_rightSide_4 ?_
  refine lv_aload_n hx hb dX0_rightSide_5 rfl (lv_at hl 0 rfl) ?_
  refine va_get (D := (dC, dI)) (ci := 0) (v := .int (zI (a))) (C := RX0) (T := TX0) (N := 7) hx hb hts hin0 hown hK hP 0 rfl rfl 1 (by decide) hf35 (fun _ h9 => h9) rfl dX0_rightSide_6 ?_
  refine zz_iadd hx hb dX0_rightSide_9 ?_
  refine zz_callV h0 [.int (zI ((x * x) + a))] [.ref h0] ⟨hx, hb, hml, hown, hts⟩ (kX0_modulo l dC dI h0 q1 q2 q3 c1 c2 c3 p a b n g1 g2 g3 ((x * x) + a) (by omega) (by omega)) (cwV 1 hts gX0_rightSide_X0_modulo rfl rfl rfl (by decide +kernel) ⟨Nat.le_of_ble_eq_true rfl, Nat.le_of_ble_eq_true rfl⟩) hK hP 0 rfl rfl rfl hP hS rfl hl.1 rfl (Nat.le_of_ble_eq_true rfl) dX0_rightSide_10 ⟨Nat.le_of_ble_eq_true rfl, Nat.le_of_ble_eq_true rfl⟩ (fun H locs hP hS => ?_)
  refine lv_iload_n hx hb dX0_rightSide_13 rfl (lv_at hl 1 rfl) ?_
  refine zz_imul hx hb dX0_rightSide_14 ?_
  refine lv_aload_n hx hb dX0_rightSide_15 rfl (lv_at hl 0 rfl) ?_
  refine va_get (D := (dC, dI)) (ci := 0) (v := .int (zI (b))) (C := RX0) (T := TX0) (N := 7) hx hb hts hin0 hown hK hP 0 rfl rfl 2 (by decide) hf38 (fun _ h9 => h9) rfl dX0_rightSide_16 ?_
  refine zz_iadd hx hb dX0_rightSide_19 ?_
  refine zz_callV h0 [.int (zI (((((x * x) + a) % p) * x) + b))] [] ⟨hx, hb, hml, hown, hts⟩ (kX0_modulo l dC dI h0 q1 q2 q3 c1 c2 c3 p a b n g1 g2 g3 (((((x * x) + a) % p) * x) + b) (by omega) (by omega)) (cwV 1 hts gX0_rightSide_X0_modulo rfl rfl rfl (by decide +kernel) ⟨Nat.le_of_ble_eq_true rfl, Nat.le_of_ble_eq_true rfl⟩) hK hP 0 rfl rfl rfl hP hS rfl hl.1 rfl (Nat.le_of_ble_eq_true rfl) dX0_rightSide_20 ⟨Nat.le_of_ble_eq_true rfl, Nat.le_of_ble_eq_true rfl⟩ (fun H locs hP hS => ?_)
  have hpost : ((((((x * x) + a) % p) * x) + b) % p : Int) = gs_rhs a b x % p := by
    exact gs_rs p a b x
  exact W.iret (v := zI ((((((x * x) + a) % p) * x) + b) % p)) hx hb hr (fun t ht hW => ⟨⟨_, (), rfl, congrArg zI hpost, trivial⟩, hS.F ht⟩) hS.2.2 dX0_rightSide_23

set_option maxHeartbeats 4000000 in
set_option maxRecDepth 100000 in
theorem kX0_isPrime (l : Launch)  (v : Int) (hv : 5 ≤ v ∧ v ≤ 4093) : Met l yX0_isPrime wsX0_isPrime ({ frames := 0, cells := 0, slots := 0, locals := 0 }) (zPs [.int (zI (v))]) (zQi (zI (zB (gp_prime v.toNat)))) 0 0 zNo := by
  refine Met.ofW (cc := cX0_isPrime) (maxL := 2) (ret := (some .boolean)) (by decide) rfl ?_
  intro pp e s m args below meth c s₁ B hml hv
  obtain ⟨rfl, -⟩ := hv
  have hx := B.exec
  have hb := B.bytes
  have hr := B.returns
  have hts := atoms_spec (ws := wsX0_isPrime) B.pre
  have hown : s.vm.findClass RX0 = some m.cls := findClass_of_methodNamed B.named
  have hlocks := B.notSynchronized
  have hP : va_P ((fun _ => m.cls), (fun _ _ => 0)) vwCl [] s.heap := fun k q h => by simp at h
  have hS : va_S (fun _ => False) s.heap s.heap [] := va_S.rf
  have hl := lv_entry ([.int (zI (v))]) (n := 2) (Nat.le_of_ble_eq_true rfl)
  rw [lg_entry_eq]
  generalize (lg_sl ([.int (zI (v))]) ++ List.replicate (2 - (lg_sl ([.int (zI (v))])).length) Slot.unset).toArray = ls at hl ⊢
  have hl : lv_has ls 2 [(0, .int (zI (v)))] := hl
  refine lv_iconst (v := zI 2) hx hb dX0_isPrime_0 rfl ?_
  refine lv_istore_n (lv' := [(1, .int (zI (2))), (0, .int (zI (v)))]) hx hb dX0_isPrime_1 rfl hl (by decide) rfl (fun ls hl => ?_)
  have hi_2 : 2 ≤ (2 : Int) ∧ (2 : Int) ≤ 64 ∧ ∀ k : Nat, 2 ≤ k → (k : Int) < (2 : Int) → v.toNat % k ≠ 0 := by
    exact ⟨by omega, by omega, fun k h1 h2 => by omega⟩
  refine zz_loopR (σ := Int) (fun x => 2 ≤ x ∧ x ≤ 64 ∧ ∀ k : Nat, 2 ≤ k → (k : Int) < x → v.toNat % k ≠ 0) (fun x => (65 - x).toNat) (fun x => [(1, .int (zI (x))), (0, .int (zI (v)))]) ?_ 2 hi_2 _ _ _ hP hS (lv_sub hl [0, 1] rfl)
  intro x hI_2 ih_2 H locs ls hP hS hl
  clear hi_2
  obtain ⟨d, rfl⟩ : ∃ y, y = x := ⟨_, rfl⟩
  have hI_2 : 2 ≤ d ∧ d ≤ 64 ∧ ∀ k : Nat, 2 ≤ k → (k : Int) < d → v.toNat % k ≠ 0 := hI_2
  have hl : lv_has ls 2 [(1, .int (zI (d))), (0, .int (zI (v)))] := hl
  obtain ⟨hd1, hd2, hd3⟩ := hI_2
  have hdd := zz_pr (x := d) (y := d) (by omega) (by omega)
  refine lv_iload_n hx hb dX0_isPrime_2 rfl (lv_at hl 0 rfl) ?_
  refine lv_iload_n hx hb dX0_isPrime_3 rfl (lv_at hl 0 rfl) ?_
  refine zz_imul hx hb dX0_isPrime_4 ?_
  refine lv_iload_n hx hb dX0_isPrime_5 rfl (lv_at hl 1 rfl) ?_
  refine zz_icmp_gt (tgt := 23) hx hb dX0_isPrime_6 (by decide) (by omega) (by omega) (fun hc_1 => ?_) (fun hc_1 => ?_)
  · refine lv_iconst (v := zI 1) hx hb dX0_isPrime_23 rfl ?_
    have hpost : (1 : Int) = zB (gp_prime v.toNat) := by
      exact (zB_T (zz_prime hv.1 (by omega) (by omega) hd3)).symm
    exact W.zret (v := zI (1)) hx hb hr rfl (fun t ht hW => ⟨⟨_, (), rfl, congrArg zI hpost, trivial⟩, hS.F ht⟩) hS.2.2 dX0_isPrime_24
  · have hd4 := zz_sqle (d := d) (by omega) (by omega)
    refine lv_iload_n hx hb dX0_isPrime_9 rfl (lv_at hl 1 rfl) ?_
    refine lv_iload_n hx hb dX0_isPrime_10 rfl (lv_at hl 0 rfl) ?_
    refine zz_irem hx hb dX0_isPrime_11 (by omega) ?_
    refine zz_if_ne (tgt := 17) hx hb dX0_isPrime_12 (by decide) (by have h9 := zz_md (v := v) (p := d) (by omega); omega) (fun hc_2 => ?_) (fun hc_2 => ?_)
    · obtain ⟨x_3, ex_3⟩ : ∃ y : Int, y = d + 1 := ⟨_, rfl⟩
      refine zz_iinc (v := x_3) (lv' := [(1, .int (zI (x_3))), (0, .int (zI (v)))]) hx hb dX0_isPrime_17 hl (k := 0) rfl ex_3 (by decide) rfl (fun ls hl => ?_)
      refine lv_goto (tgt := 2) hx hb dX0_isPrime_20 (by decide) ?_
      have hn_2 : 2 ≤ x_3 ∧ x_3 ≤ 64 ∧ ∀ k : Nat, 2 ≤ k → (k : Int) < x_3 → v.toNat % k ≠ 0 := by
        refine ⟨by omega, by omega, fun k h1 h2 => ?_⟩
        by_cases hk : (k : Int) = d
        · exact zz_nmod hk (by omega) (by omega)
        · exact hd3 k h1 (by omega)
      have hm_2 : (65 - x_3).toNat < (65 - d).toNat := by
        omega
      exact ih_2 x_3 hn_2 hm_2 _ _ _ hP hS (lv_sub hl [0, 1] rfl)
    · have hd5 := zz_sqlt (d := d) (by omega) (show d * d ≤ v by omega)
      refine lv_iconst (v := zI 0) hx hb dX0_isPrime_15 rfl ?_
      have hpost : (0 : Int) = zB (gp_prime v.toNat) := by
        exact (zB_F (fun h => zz_notprime h hd1 hd5 (by omega))).symm
      exact W.zret (v := zI (0)) hx hb hr rfl (fun t ht hW => ⟨⟨_, (), rfl, congrArg zI hpost, trivial⟩, hS.F ht⟩) hS.2.2 dX0_isPrime_16

set_option maxHeartbeats 4000000 in
set_option maxRecDepth 100000 in
theorem kX0_isSingular (l : Launch)  (p : Int) (a : Int) (b : Int) (hp : 5 ≤ p ∧ p ≤ 4093) (ha : 0 ≤ a ∧ a < p) (hbb : 0 ≤ b ∧ b < p) : Met l yX0_isSingular wsX0_isSingular ({ frames := 0, cells := 0, slots := 0, locals := 0 }) (zPs [.int (zI (p)), .int (zI (a)), .int (zI (b))]) (zQi (zI (zB ((4 * (a * a * a) + 27 * (b * b)) % p = 0)))) 0 0 zNo := by
  refine Met.ofW (cc := cX0_isSingular) (maxL := 5) (ret := (some .boolean)) (by decide) rfl ?_
  intro pp e s m args below meth c s₁ B hml hv
  obtain ⟨rfl, -⟩ := hv
  have hx := B.exec
  have hb := B.bytes
  have hr := B.returns
  have hts := atoms_spec (ws := wsX0_isSingular) B.pre
  have hown : s.vm.findClass RX0 = some m.cls := findClass_of_methodNamed B.named
  have hlocks := B.notSynchronized
  have hP : va_P ((fun _ => m.cls), (fun _ _ => 0)) vwCl [] s.heap := fun k q h => by simp at h
  have hS : va_S (fun _ => False) s.heap s.heap [] := va_S.rf
  have hl := lv_entry ([.int (zI (p)), .int (zI (a)), .int (zI (b))]) (n := 5) (Nat.le_of_ble_eq_true rfl)
  rw [lg_entry_eq]
  generalize (lg_sl ([.int (zI (p)), .int (zI (a)), .int (zI (b))]) ++ List.replicate (5 - (lg_sl ([.int (zI (p)), .int (zI (a)), .int (zI (b))])).length) Slot.unset).toArray = ls at hl ⊢
  have hl : lv_has ls 5 [(0, .int (zI (p))), (1, .int (zI (a))), (2, .int (zI (b)))] := hl
  have h1 := zz_pr (x := a) (y := a) (by omega) (by omega)
  have h2 := zz_md (v := a * a) (p := p) (by omega)
  have h3 := zz_pr (x := a * a % p) (y := a) (by omega) (by omega)
  have h4 := zz_pr (x := b) (y := b) (by omega) (by omega)
  have h5 := zz_md (v := a * a % p * a) (p := p) (by omega)
  have h6 := zz_md (v := b * b) (p := p) (by omega)
  refine lv_iload_n hx hb dX0_isSingular_0 rfl (lv_at hl 1 rfl) ?_
  refine lv_iload_n hx hb dX0_isSingular_1 rfl (lv_at hl 1 rfl) ?_
  refine zz_imul hx hb dX0_isSingular_2 ?_
  refine lv_iload_n hx hb dX0_isSingular_3 rfl (lv_at hl 0 rfl) ?_
  refine zz_irem hx hb dX0_isSingular_4 (by omega) ?_
  refine lv_iload_n hx hb dX0_isSingular_5 rfl (lv_at hl 1 rfl) ?_
  refine zz_imul hx hb dX0_isSingular_6 ?_
  refine lv_iload_n hx hb dX0_isSingular_7 rfl (lv_at hl 0 rfl) ?_
  refine zz_irem hx hb dX0_isSingular_8 (by omega) ?_
  refine zz_topi (fun a3 ea3 => ?_)
  refine lv_istore_n (lv' := [(3, .int (zI (a3))), (0, .int (zI (p))), (1, .int (zI (a))), (2, .int (zI (b)))]) hx hb dX0_isSingular_9 rfl hl (by decide) rfl (fun ls hl => ?_)
  refine lv_iload_n hx hb dX0_isSingular_10 rfl (lv_at hl 3 rfl) ?_
  refine lv_iload_n hx hb dX0_isSingular_11 rfl (lv_at hl 3 rfl) ?_
  refine zz_imul hx hb dX0_isSingular_12 ?_
  refine lv_iload_n hx hb dX0_isSingular_13 rfl (lv_at hl 1 rfl) ?_
  refine zz_irem hx hb dX0_isSingular_14 (by omega) ?_
  refine zz_topi (fun b2 eb2 => ?_)
  refine lv_istore (lv' := [(4, .int (zI (b2))), (3, .int (zI (a3))), (0, .int (zI (p))), (1, .int (zI (a))), (2, .int (zI (b)))]) hx hb dX0_isSingular_15 hl (by decide) rfl (fun ls hl => ?_)
  refine lv_iconst (v := zI 4) hx hb dX0_isSingular_17 rfl ?_
  refine lv_iload_n hx hb dX0_isSingular_18 rfl (lv_at hl 1 rfl) ?_
  refine zz_imul hx hb dX0_isSingular_19 ?_
  refine lv_bipush (v := zI 27) hx hb dX0_isSingular_20 (by decide +kernel) ?_
  refine lv_iload hx hb dX0_isSingular_22 (lv_at hl 0 rfl) ?_
  refine zz_imul hx hb dX0_isSingular_24 ?_
  refine zz_iadd hx hb dX0_isSingular_25 ?_
  refine lv_iload_n hx hb dX0_isSingular_26 rfl (lv_at hl 2 rfl) ?_
  refine zz_irem hx hb dX0_isSingular_27 (by omega) ?_
  have h7 := zz_sg p a b a3 b2 ea3 eb2
  refine zz_if_ne (tgt := 35) hx hb dX0_isSingular_28 (by decide) (by have h8 := zz_md (v := 4 * a3 + 27 * b2) (p := p) (by omega); omega) (fun hc_1 => ?_) (fun hc_1 => ?_)
  · refine lv_iconst (v := zI 0) hx hb dX0_isSingular_35 rfl ?_
    have hpost : (0 : Int) = zB ((4 * (a * a * a) + 27 * (b * b)) % p = 0) := by
      exact (zB_F (by rw [← h7]; omega)).symm
    exact W.zret (v := zI (0)) hx hb hr rfl (fun t ht hW => ⟨⟨_, (), rfl, congrArg zI hpost, trivial⟩, hS.F ht⟩) hS.2.2 dX0_isSingular_36
  · refine lv_iconst (v := zI 1) hx hb dX0_isSingular_31 rfl ?_
    refine lv_goto (tgt := 36) hx hb dX0_isSingular_32 (by decide) ?_
    have hpost : (1 : Int) = zB ((4 * (a * a * a) + 27 * (b * b)) % p = 0) := by
      exact (zB_T (by rw [← h7]; omega)).symm
    exact W.zret (v := zI (1)) hx hb hr rfl (fun t ht hW => ⟨⟨_, (), rfl, congrArg zI hpost, trivial⟩, hS.F ht⟩) hS.2.2 dX0_isSingular_36

set_option maxHeartbeats 4000000 in
set_option maxRecDepth 100000 in
theorem kX0_inverse (l : Launch) (dC : Nat → ClassId) (dI : Nat → Nat → Nat) (h0 q1 q2 q3 : Nat) (c1 c2 c3 : ClassId) (p a b n : Int) (g1 g2 g3 : Int → Int) (v : Int) (hp : 5 ≤ p ∧ p ≤ 4093) (hv : 0 ≤ v ∧ v < p) : Met l yX0_inverse wsX0_inverse ({ frames := 2, cells := 0, slots := 0, locals := 43 }) (zPc (dC, dI) (ww0 h0 q1 q2 q3 c1 c2 c3 p a b n g1 g2 g3) (tt0 c1 c2 c3) [.ref h0, .int (zI (v))]) (zQi (zI (gs_inv p v))) 0 0 zNo := by
  refine Met.ofW (cc := cX0_inverse) (maxL := 5) (ret := (some .int)) (by decide) rfl ?_
  intro pp e s m args below meth c s₁ B hml hv
  obtain ⟨rfl, hP, hK⟩ := hv
  have hx := B.exec
  have hb := B.bytes
  have hr := B.returns
  have hts := atoms_spec (ws := wsX0_inverse) B.pre
  have hown : s.vm.findClass RX0 = some m.cls := findClass_of_methodNamed B.named
  have hlocks := B.notSynchronized
  have hin0 : ∀ w ∈ u_ws RX0 TX0 7, w ∈ wsX0_inverse := by decide +kernel
  have hf31 := hts (.fieldLink RX0 31 "CurveDesk" "prime" "I") (by decide +kernel)
  have hS : va_S (fun _ => False) s.heap s.heap [] := va_S.rf
  have hl := lv_entry ([.ref h0, .int (zI (v))]) (n := 5) (Nat.le_of_ble_eq_true rfl)
  rw [lg_entry_eq]
  generalize (lg_sl ([.ref h0, .int (zI (v))]) ++ List.replicate (5 - (lg_sl ([.ref h0, .int (zI (v))])).length) Slot.unset).toArray = ls at hl ⊢
  have hl : lv_has ls 5 [(0, .ref h0), (1, .int (zI (v)))] := hl
  skip
  refine lv_iconst (v := zI 1) hx hb dX0_inverse_0 rfl ?_
  refine lv_istore_n (lv' := [(2, .int (zI (1))), (0, .ref h0), (1, .int (zI (v)))]) hx hb dX0_inverse_1 rfl hl (by decide) rfl (fun ls hl => ?_)
  refine lv_iload_n hx hb dX0_inverse_2 rfl (lv_at hl 2 rfl) ?_
  refine lv_istore_n (lv' := [(3, .int (zI (v))), (2, .int (zI (1))), (0, .ref h0), (1, .int (zI (v)))]) hx hb dX0_inverse_3 rfl hl (by decide) rfl (fun ls hl => ?_)
  refine lv_aload_n hx hb dX0_inverse_4 rfl (lv_at hl 2 rfl) ?_
  refine va_get (D := (dC, dI)) (ci := 0) (v := .int (zI (p))) (C := RX0) (T := TX0) (N := 7) hx hb hts hin0 hown hK hP 0 rfl rfl 0 (by decide) hf31 (fun _ h9 => h9) rfl dX0_inverse_5 ?_
  refine lv_iconst (v := zI 2) hx hb dX0_inverse_8 rfl ?_
  refine zz_isub hx hb dX0_inverse_9 ?_
  refine zz_topi (fun x_1 ex_1 => ?_)
  refine lv_istore (lv' := [(4, .int (zI (x_1))), (3, .int (zI (v))), (2, .int (zI (1))), (0, .ref h0), (1, .int (zI (v)))]) hx hb dX0_inverse_10 hl (by decide) rfl (fun ls hl => ?_)
  have hi_12 : 0 ≤ x_1 ∧ x_1 ≤ 4093 ∧ 0 ≤ (1 : Int) ∧ (1 : Int) < p ∧ 0 ≤ v ∧ v < p ∧ (1 : Int) * v ^ (x_1).toNat % p = v ^ (p - 2).toNat % p := by
    refine ⟨by omega, by omega, by omega, by omega, by omega, by omega, ?_⟩
    rw [ex_1, Int.one_mul]
  refine zz_loopR (σ := Int × Int × Int) (fun x => 0 ≤ x.2.2 ∧ x.2.2 ≤ 4093 ∧ 0 ≤ x.1 ∧ x.1 < p ∧ 0 ≤ x.2.1 ∧ x.2.1 < p ∧ x.1 * x.2.1 ^ (x.2.2).toNat % p = v ^ (p - 2).toNat % p) (fun x => (x.2.2).toNat) (fun x => [(4, .int (zI (x.2.2))), (3, .int (zI (x.2.1))), (2, .int (zI (x.1))), (0, .ref h0), (1, .int (zI (v)))]) ?_ (1, v, x_1) hi_12 _ _ _ hP hS (lv_sub hl [0, 1, 2, 3, 4] rfl)
  intro x hI_12 ih_12 H locs ls hP hS hl
  clear hi_12
  obtain ⟨r, w, k⟩ := x
  have hI_12 : 0 ≤ k ∧ k ≤ 4093 ∧ 0 ≤ r ∧ r < p ∧ 0 ≤ w ∧ w < p ∧ r * w ^ (k).toNat % p = v ^ (p - 2).toNat % p := hI_12
  have hl : lv_has ls 5 [(4, .int (zI (k))), (3, .int (zI (w))), (2, .int (zI (r))), (0, .ref h0), (1, .int (zI (v)))] := hl
  have hP : va_P (dC, dI) vwCl (ww0 h0 q1 q2 q3 c1 c2 c3 p a b n g1 g2 g3) H := hP
  obtain ⟨k1, k2, k3, k4, k5, k6, k7⟩ := hI_12
  have h1 := zz_pr (x := r) (y := w) (by omega) (by omega)
  have h2 := zz_pr (x := w) (y := w) (by omega) (by omega)
  have h3 := zz_md (v := r * w) (p := p) (by omega)
  have h4 := zz_md (v := w * w) (p := p) (by omega)
  refine lv_iload hx hb dX0_inverse_12 (lv_at hl 0 rfl) ?_
  refine zz_if_le (tgt := 50) hx hb dX0_inverse_14 (by decide) (by omega) (fun hc_2 => ?_) (fun hc_2 => ?_)
  · refine lv_iload_n hx hb dX0_inverse_50 rfl (lv_at hl 2 rfl) ?_
    have hpost : (r : Int) = gs_inv p v := by
      rw [show k = 0 by omega] at k7
      rw [Int.toNat_zero, Int.pow_zero, Int.mul_one, Int.emod_eq_of_lt k3 k4] at k7
      exact k7
    exact W.iret (v := zI (r)) hx hb hr (fun t ht hW => ⟨⟨_, (), rfl, congrArg zI hpost, trivial⟩, hS.F ht⟩) hS.2.2 dX0_inverse_51
  · refine lv_iload hx hb dX0_inverse_17 (lv_at hl 0 rfl) ?_
    refine lv_iconst (v := zI 1) hx hb dX0_inverse_19 rfl ?_
    refine zz_iand 1 (M := 2) hx hb dX0_inverse_20 (by omega) (by decide +kernel) ?_
    refine lv_iconst (v := zI 1) hx hb dX0_inverse_21 rfl ?_
    refine zz_icmp_ne (tgt := 33) hx hb dX0_inverse_22 (by decide) (by omega) ⟨by decide, by decide⟩ (fun hc_3 => ?_) (fun hc_3 => ?_)
    · refine lv_aload_n hx hb dX0_inverse_33 rfl (lv_at hl 3 rfl) ?_
      refine lv_iload_n hx hb dX0_inverse_34 rfl (lv_at hl 1 rfl) ?_
      refine lv_iload_n hx hb dX0_inverse_35 rfl (lv_at hl 1 rfl) ?_
      refine zz_imul hx hb dX0_inverse_36 ?_
      refine zz_callV h0 [.int (zI (w * w))] [] ⟨hx, hb, hml, hown, hts⟩ (kX0_modulo l dC dI h0 q1 q2 q3 c1 c2 c3 p a b n g1 g2 g3 (w * w) (by omega) (by omega)) (cwV 1 hts gX0_inverse_X0_modulo rfl rfl rfl (by decide +kernel) ⟨Nat.le_of_ble_eq_true rfl, Nat.le_of_ble_eq_true rfl⟩) hK hP 0 rfl rfl rfl hP hS rfl hl.1 rfl (Nat.le_of_ble_eq_true rfl) dX0_inverse_37 ⟨Nat.le_of_ble_eq_true rfl, Nat.le_of_ble_eq_true rfl⟩ (fun H locs hP hS => ?_)
      refine zz_topi (fun w2 ew2 => ?_)
      refine lv_istore_n (lv' := [(3, .int (zI (w2))), (4, .int (zI (k))), (2, .int (zI (r))), (0, .ref h0), (1, .int (zI (v)))]) hx hb dX0_inverse_40 rfl hl (by decide) rfl (fun ls hl => ?_)
      refine lv_iload hx hb dX0_inverse_41 (lv_at hl 1 rfl) ?_
      refine lv_iconst (v := zI 1) hx hb dX0_inverse_43 rfl ?_
      refine zz_ishr 1 (M := 2) hx hb dX0_inverse_44 (by omega) (by decide) ?_
      refine zz_topi (fun k2 ek2 => ?_)
      refine lv_istore (lv' := [(4, .int (zI (k2))), (3, .int (zI (w2))), (2, .int (zI (r))), (0, .ref h0), (1, .int (zI (v)))]) hx hb dX0_inverse_45 hl (by decide) rfl (fun ls hl => ?_)
      refine lv_goto (tgt := 12) hx hb dX0_inverse_47 (by decide) ?_
      have hn_12 : 0 ≤ k2 ∧ k2 ≤ 4093 ∧ 0 ≤ r ∧ r < p ∧ 0 ≤ w2 ∧ w2 < p ∧ r * w2 ^ (k2).toNat % p = v ^ (p - 2).toNat % p := by
        refine ⟨by omega, by omega, by omega, by omega, by omega, by omega, ?_⟩
        rw [ew2, ek2, ← k7]
        exact zz_pw0 (by omega) (by omega)
      have hm_12 : (k2).toNat < (k).toNat := by
        omega
      exact ih_12 (r, w2, k2) hn_12 hm_12 _ _ _ hP hS (lv_sub hl [0, 1, 2, 3, 4] rfl)
    · refine lv_aload_n hx hb dX0_inverse_25 rfl (lv_at hl 3 rfl) ?_
      refine lv_iload_n hx hb dX0_inverse_26 rfl (lv_at hl 2 rfl) ?_
      refine lv_iload_n hx hb dX0_inverse_27 rfl (lv_at hl 1 rfl) ?_
      refine zz_imul hx hb dX0_inverse_28 ?_
      refine zz_callV h0 [.int (zI (r * w))] [] ⟨hx, hb, hml, hown, hts⟩ (kX0_modulo l dC dI h0 q1 q2 q3 c1 c2 c3 p a b n g1 g2 g3 (r * w) (by omega) (by omega)) (cwV 1 hts gX0_inverse_X0_modulo rfl rfl rfl (by decide +kernel) ⟨Nat.le_of_ble_eq_true rfl, Nat.le_of_ble_eq_true rfl⟩) hK hP 0 rfl rfl rfl hP hS rfl hl.1 rfl (Nat.le_of_ble_eq_true rfl) dX0_inverse_29 ⟨Nat.le_of_ble_eq_true rfl, Nat.le_of_ble_eq_true rfl⟩ (fun H locs hP hS => ?_)
      refine zz_topi (fun r2 er2 => ?_)
      refine lv_istore_n (lv' := [(2, .int (zI (r2))), (4, .int (zI (k))), (3, .int (zI (w))), (0, .ref h0), (1, .int (zI (v)))]) hx hb dX0_inverse_32 rfl hl (by decide) rfl (fun ls hl => ?_)
      refine lv_aload_n hx hb dX0_inverse_33 rfl (lv_at hl 3 rfl) ?_
      refine lv_iload_n hx hb dX0_inverse_34 rfl (lv_at hl 2 rfl) ?_
      refine lv_iload_n hx hb dX0_inverse_35 rfl (lv_at hl 2 rfl) ?_
      refine zz_imul hx hb dX0_inverse_36 ?_
      refine zz_callV h0 [.int (zI (w * w))] [] ⟨hx, hb, hml, hown, hts⟩ (kX0_modulo l dC dI h0 q1 q2 q3 c1 c2 c3 p a b n g1 g2 g3 (w * w) (by omega) (by omega)) (cwV 1 hts gX0_inverse_X0_modulo rfl rfl rfl (by decide +kernel) ⟨Nat.le_of_ble_eq_true rfl, Nat.le_of_ble_eq_true rfl⟩) hK hP 0 rfl rfl rfl hP hS rfl hl.1 rfl (Nat.le_of_ble_eq_true rfl) dX0_inverse_37 ⟨Nat.le_of_ble_eq_true rfl, Nat.le_of_ble_eq_true rfl⟩ (fun H locs hP hS => ?_)
      refine zz_topi (fun w2 ew2 => ?_)
      refine lv_istore_n (lv' := [(3, .int (zI (w2))), (2, .int (zI (r2))), (4, .int (zI (k))), (0, .ref h0), (1, .int (zI (v)))]) hx hb dX0_inverse_40 rfl hl (by decide) rfl (fun ls hl => ?_)
      refine lv_iload hx hb dX0_inverse_41 (lv_at hl 2 rfl) ?_
      refine lv_iconst (v := zI 1) hx hb dX0_inverse_43 rfl ?_
      refine zz_ishr 1 (M := 2) hx hb dX0_inverse_44 (by omega) (by decide) ?_
      refine zz_topi (fun k2 ek2 => ?_)
      refine lv_istore (lv' := [(4, .int (zI (k2))), (3, .int (zI (w2))), (2, .int (zI (r2))), (0, .ref h0), (1, .int (zI (v)))]) hx hb dX0_inverse_45 hl (by decide) rfl (fun ls hl => ?_)
      refine lv_goto (tgt := 12) hx hb dX0_inverse_47 (by decide) ?_
      have hn_12 : 0 ≤ k2 ∧ k2 ≤ 4093 ∧ 0 ≤ r2 ∧ r2 < p ∧ 0 ≤ w2 ∧ w2 < p ∧ r2 * w2 ^ (k2).toNat % p = v ^ (p - 2).toNat % p := by
        refine ⟨by omega, by omega, by omega, by omega, by omega, by omega, ?_⟩
        rw [er2, ew2, ek2, ← k7]
        exact zz_pw1 (by omega) (by omega)
      have hm_12 : (k2).toNat < (k).toNat := by
        omega
      exact ih_12 (r2, w2, k2) hn_12 hm_12 _ _ _ hP hS (lv_sub hl [0, 1, 2, 3, 4] rfl)

set_option maxHeartbeats 4000000 in
set_option maxRecDepth 100000 in
theorem kX0_opposite (l : Launch) (dC : Nat → ClassId) (dI : Nat → Nat → Nat) (h0 q1 q2 q3 : Nat) (c1 c2 c3 : ClassId) (p a b n : Int) (g1 g2 g3 : Int → Int) (u : Int) (hp : 5 ≤ p ∧ p ≤ 4093) (hu : u = -1 ∨ (0 ≤ u ∧ u / 4096 < p ∧ u % 4096 < p)) : Met l yX0_opposite wsX0_opposite ({ frames := 1, cells := 0, slots := 0, locals := 21 }) (zPc (dC, dI) (ww0 h0 q1 q2 q3 c1 c2 c3 p a b n g1 g2 g3) (tt0 c1 c2 c3) [.ref h0, .int (zI (u))]) (zQi (zI (gs_opp p u))) 0 0 zNo := by
  refine Met.ofW (cc := cX0_opposite) (maxL := 2) (ret := (some .int)) (by decide) rfl ?_
  intro pp e s m args below meth c s₁ B hml hv
  obtain ⟨rfl, hP, hK⟩ := hv
  have hx := B.exec
  have hb := B.bytes
  have hr := B.returns
  have hts := atoms_spec (ws := wsX0_opposite) B.pre
  have hown : s.vm.findClass RX0 = some m.cls := findClass_of_methodNamed B.named
  have hlocks := B.notSynchronized
  have hin0 : ∀ w ∈ u_ws RX0 TX0 7, w ∈ wsX0_opposite := by decide +kernel
  have hf31 := hts (.fieldLink RX0 31 "CurveDesk" "prime" "I") (by decide +kernel)
  have hS : va_S (fun _ => False) s.heap s.heap [] := va_S.rf
  have hl := lv_entry ([.ref h0, .int (zI (u))]) (n := 2) (Nat.le_of_ble_eq_true rfl)
  rw [lg_entry_eq]
  generalize (lg_sl ([.ref h0, .int (zI (u))]) ++ List.replicate (2 - (lg_sl ([.ref h0, .int (zI (u))])).length) Slot.unset).toArray = ls at hl ⊢
  have hl : lv_has ls 2 [(0, .ref h0), (1, .int (zI (u)))] := hl
  skip
  refine lv_iload_n hx hb dX0_opposite_0 rfl (lv_at hl 1 rfl) ?_
  refine lv_iconst (v := zI (-1)) hx hb dX0_opposite_1 rfl ?_
  refine zz_icmp_eq (tgt := 12) hx hb dX0_opposite_2 (by decide) (by omega) ⟨by decide, by decide⟩ (fun hc_1 => ?_) (fun hc_1 => ?_)
  · refine lv_iload_n hx hb dX0_opposite_12 rfl (lv_at hl 1 rfl) ?_
    have hpost : (u : Int) = gs_opp p u := by
      unfold gs_opp
      split
      · rfl
      · first | rfl | (split <;> first | rfl | omega)
    exact W.iret (v := zI (u)) hx hb hr (fun t ht hW => ⟨⟨_, (), rfl, congrArg zI hpost, trivial⟩, hS.F ht⟩) hS.2.2 dX0_opposite_13
  · refine lv_iload_n hx hb dX0_opposite_5 rfl (lv_at hl 1 rfl) ?_
    refine zz_callS [.int (zI (u))] [] ⟨hx, hb, hml, hown, hts⟩ (kX0_yOf l u (by omega)) (va_cwS 1 hts gX0_opposite_X0_yOf rfl rfl rfl (by decide +kernel) ⟨Nat.le_of_ble_eq_true rfl, Nat.le_of_ble_eq_true rfl⟩) hP hS rfl hl.1 rfl (Nat.le_of_ble_eq_true rfl) dX0_opposite_6 ⟨Nat.le_of_ble_eq_true rfl, Nat.le_of_ble_eq_true rfl⟩ (fun H locs hP hS => ?_)
    refine zz_if_ne (tgt := 14) hx hb dX0_opposite_9 (by decide) (by omega) (fun hc_2 => ?_) (fun hc_2 => ?_)
    · refine lv_iload_n hx hb dX0_opposite_14 rfl (lv_at hl 1 rfl) ?_
      refine zz_callS [.int (zI (u))] [] ⟨hx, hb, hml, hown, hts⟩ (kX0_xOf l u (by omega)) (va_cwS 1 hts gX0_opposite_X0_xOf rfl rfl rfl (by decide +kernel) ⟨Nat.le_of_ble_eq_true rfl, Nat.le_of_ble_eq_true rfl⟩) hP hS rfl hl.1 rfl (Nat.le_of_ble_eq_true rfl) dX0_opposite_15 ⟨Nat.le_of_ble_eq_true rfl, Nat.le_of_ble_eq_true rfl⟩ (fun H locs hP hS => ?_)
      refine lv_aload_n hx hb dX0_opposite_18 rfl (lv_at hl 0 rfl) ?_
      refine va_get (D := (dC, dI)) (ci := 0) (v := .int (zI (p))) (C := RX0) (T := TX0) (N := 7) hx hb hts hin0 hown hK hP 0 rfl rfl 0 (by decide) hf31 (fun _ h9 => h9) rfl dX0_opposite_19 ?_
      refine lv_iload_n hx hb dX0_opposite_22 rfl (lv_at hl 1 rfl) ?_
      refine zz_callS [.int (zI (u))] [.int (zI (p)), .int (zI (u / 4096))] ⟨hx, hb, hml, hown, hts⟩ (kX0_yOf l u (by omega)) (va_cwS 1 hts gX0_opposite_X0_yOf rfl rfl rfl (by decide +kernel) ⟨Nat.le_of_ble_eq_true rfl, Nat.le_of_ble_eq_true rfl⟩) hP hS rfl hl.1 rfl (Nat.le_of_ble_eq_true rfl) dX0_opposite_23 ⟨Nat.le_of_ble_eq_true rfl, Nat.le_of_ble_eq_true rfl⟩ (fun H locs hP hS => ?_)
      refine zz_isub hx hb dX0_opposite_26 ?_
      refine zz_callS [.int (zI (u / 4096)), .int (zI (p - (u % 4096)))] [] ⟨hx, hb, hml, hown, hts⟩ (kX0_pack l (u / 4096) (p - (u % 4096)) (by omega)) (va_cwS 2 hts gX0_opposite_X0_pack rfl rfl rfl (by decide +kernel) ⟨Nat.le_of_ble_eq_true rfl, Nat.le_of_ble_eq_true rfl⟩) hP hS rfl hl.1 rfl (Nat.le_of_ble_eq_true rfl) dX0_opposite_27 ⟨Nat.le_of_ble_eq_true rfl, Nat.le_of_ble_eq_true rfl⟩ (fun H locs hP hS => ?_)
      have hpost : ((u / 4096) * 4096 + (p - (u % 4096)) : Int) = gs_opp p u := by
        unfold gs_opp
        rw [if_neg (by omega), if_neg (by omega)]
      exact W.iret (v := zI ((u / 4096) * 4096 + (p - (u % 4096)))) hx hb hr (fun t ht hW => ⟨⟨_, (), rfl, congrArg zI hpost, trivial⟩, hS.F ht⟩) hS.2.2 dX0_opposite_30
    · refine lv_iload_n hx hb dX0_opposite_12 rfl (lv_at hl 1 rfl) ?_
      have hpost : (u : Int) = gs_opp p u := by
        unfold gs_opp
        split
        · rfl
        · first | rfl | (split <;> first | rfl | omega)
      exact W.iret (v := zI (u)) hx hb hr (fun t ht hW => ⟨⟨_, (), rfl, congrArg zI hpost, trivial⟩, hS.F ht⟩) hS.2.2 dX0_opposite_13

set_option maxHeartbeats 4000000 in
set_option maxRecDepth 100000 in
theorem kX0_slope (l : Launch) (dC : Nat → ClassId) (dI : Nat → Nat → Nat) (h0 q1 q2 q3 : Nat) (c1 c2 c3 : ClassId) (p a b n : Int) (g1 g2 g3 : Int → Int) (u : Int) (w : Int) (hp : 5 ≤ p ∧ p ≤ 4093) (ha : 0 ≤ a ∧ a < p) (hu : 0 ≤ u ∧ u / 4096 < p ∧ u % 4096 < p) (hw : 0 ≤ w ∧ w / 4096 < p ∧ w % 4096 < p) : Met l yX0_slope wsX0_slope ({ frames := 3, cells := 0, slots := 0, locals := 67 }) (zPc (dC, dI) (ww0 h0 q1 q2 q3 c1 c2 c3 p a b n g1 g2 g3) (tt0 c1 c2 c3) [.ref h0, .int (zI (u)), .int (zI (w))]) (zQi (zI (gs_slope p a u w))) 0 0 zNo := by
  refine Met.ofW (cc := cX0_slope) (maxL := 5) (ret := (some .int)) (by decide) rfl ?_
  intro pp e s m args below meth c s₁ B hml hv
  obtain ⟨rfl, hP, hK⟩ := hv
  have hx := B.exec
  have hb := B.bytes
  have hr := B.returns
  have hts := atoms_spec (ws := wsX0_slope) B.pre
  have hown : s.vm.findClass RX0 = some m.cls := findClass_of_methodNamed B.named
  have hlocks := B.notSynchronized
  have hin0 : ∀ w ∈ u_ws RX0 TX0 7, w ∈ wsX0_slope := by decide +kernel
  have hf35 := hts (.fieldLink RX0 35 "CurveDesk" "a" "I") (by decide +kernel)
  have hS : va_S (fun _ => False) s.heap s.heap [] := va_S.rf
  have hl := lv_entry ([.ref h0, .int (zI (u)), .int (zI (w))]) (n := 5) (Nat.le_of_ble_eq_true rfl)
  rw [lg_entry_eq]
  generalize (lg_sl ([.ref h0, .int (zI (u)), .int (zI (w))]) ++ List.replicate (5 - (lg_sl ([.ref h0, .int (zI (u)), .int (zI (w))])).length) Slot.unset).toArray = ls at hl ⊢
  have hl : lv_has ls 5 [(0, .ref h0), (1, .int (zI (u))), (2, .int (zI (w)))] := hl
  skip
  refine lv_iload_n hx hb dX0_slope_0 rfl (lv_at hl 1 rfl) ?_
  refine zz_callS [.int (zI (u))] [] ⟨hx, hb, hml, hown, hts⟩ (kX0_xOf l u (by omega)) (va_cwS 1 hts gX0_slope_X0_xOf rfl rfl rfl (by decide +kernel) ⟨Nat.le_of_ble_eq_true rfl, Nat.le_of_ble_eq_true rfl⟩) hP hS rfl hl.1 rfl (Nat.le_of_ble_eq_true rfl) dX0_slope_1 ⟨Nat.le_of_ble_eq_true rfl, Nat.le_of_ble_eq_true rfl⟩ (fun H locs hP hS => ?_)
  refine zz_topi (fun sx esx => ?_)
  refine lv_istore_n (lv' := [(3, .int (zI (sx))), (0, .ref h0), (1, .int (zI (u))), (2, .int (zI (w)))]) hx hb dX0_slope_4 rfl hl (by decide) rfl (fun ls hl => ?_)
  refine lv_iload_n hx hb dX0_slope_5 rfl (lv_at hl 2 rfl) ?_
  refine zz_callS [.int (zI (u))] [] ⟨hx, hb, hml, hown, hts⟩ (kX0_yOf l u (by omega)) (va_cwS 1 hts gX0_slope_X0_yOf rfl rfl rfl (by decide +kernel) ⟨Nat.le_of_ble_eq_true rfl, Nat.le_of_ble_eq_true rfl⟩) hP hS rfl hl.1 rfl (Nat.le_of_ble_eq_true rfl) dX0_slope_6 ⟨Nat.le_of_ble_eq_true rfl, Nat.le_of_ble_eq_true rfl⟩ (fun H locs hP hS => ?_)
  refine zz_topi (fun sy esy => ?_)
  refine lv_istore (lv' := [(4, .int (zI (sy))), (3, .int (zI (sx))), (0, .ref h0), (1, .int (zI (u))), (2, .int (zI (w)))]) hx hb dX0_slope_9 hl (by decide) rfl (fun ls hl => ?_)
  refine lv_iload_n hx hb dX0_slope_11 rfl (lv_at hl 3 rfl) ?_
  refine lv_iload_n hx hb dX0_slope_12 rfl (lv_at hl 4 rfl) ?_
  refine zz_icmp_ne (tgt := 48) hx hb dX0_slope_13 (by decide) (by omega) (by omega) (fun hc_1 => ?_) (fun hc_1 => ?_)
  · have h2 := zz_md (v := w % 4096 - sy) (p := p) (by omega)
    have h3 := zz_md (v := w / 4096 - sx) (p := p) (by omega)
    have h4 := gs_invR (v := (w / 4096 - sx) % p) (p := p) (by omega)
    have h5 := zz_pr (x := (w % 4096 - sy) % p) (y := gs_inv p ((w / 4096 - sx) % p)) (by omega) (by omega)
    refine lv_aload_n hx hb dX0_slope_48 rfl (lv_at hl 2 rfl) ?_
    refine lv_aload_n hx hb dX0_slope_49 rfl (lv_at hl 2 rfl) ?_
    refine lv_iload_n hx hb dX0_slope_50 rfl (lv_at hl 4 rfl) ?_
    refine zz_callS [.int (zI (w))] [.ref h0, .ref h0] ⟨hx, hb, hml, hown, hts⟩ (kX0_yOf l w (by omega)) (va_cwS 1 hts gX0_slope_X0_yOf rfl rfl rfl (by decide +kernel) ⟨Nat.le_of_ble_eq_true rfl, Nat.le_of_ble_eq_true rfl⟩) hP hS rfl hl.1 rfl (Nat.le_of_ble_eq_true rfl) dX0_slope_51 ⟨Nat.le_of_ble_eq_true rfl, Nat.le_of_ble_eq_true rfl⟩ (fun H locs hP hS => ?_)
    refine lv_iload hx hb dX0_slope_54 (lv_at hl 0 rfl) ?_
    refine zz_isub hx hb dX0_slope_56 ?_
    refine zz_callV h0 [.int (zI ((w % 4096) - sy))] [.ref h0] ⟨hx, hb, hml, hown, hts⟩ (kX0_modulo l dC dI h0 q1 q2 q3 c1 c2 c3 p a b n g1 g2 g3 ((w % 4096) - sy) (by omega) (by omega)) (cwV 1 hts gX0_slope_X0_modulo rfl rfl rfl (by decide +kernel) ⟨Nat.le_of_ble_eq_true rfl, Nat.le_of_ble_eq_true rfl⟩) hK hP 0 rfl rfl rfl hP hS rfl hl.1 rfl (Nat.le_of_ble_eq_true rfl) dX0_slope_57 ⟨Nat.le_of_ble_eq_true rfl, Nat.le_of_ble_eq_true rfl⟩ (fun H locs hP hS => ?_)
    refine lv_aload_n hx hb dX0_slope_60 rfl (lv_at hl 2 rfl) ?_
    refine lv_aload_n hx hb dX0_slope_61 rfl (lv_at hl 2 rfl) ?_
    refine lv_iload_n hx hb dX0_slope_62 rfl (lv_at hl 4 rfl) ?_
    refine zz_callS [.int (zI (w))] [.ref h0, .ref h0, .int (zI (((w % 4096) - sy) % p)), .ref h0] ⟨hx, hb, hml, hown, hts⟩ (kX0_xOf l w (by omega)) (va_cwS 1 hts gX0_slope_X0_xOf rfl rfl rfl (by decide +kernel) ⟨Nat.le_of_ble_eq_true rfl, Nat.le_of_ble_eq_true rfl⟩) hP hS rfl hl.1 rfl (Nat.le_of_ble_eq_true rfl) dX0_slope_63 ⟨Nat.le_of_ble_eq_true rfl, Nat.le_of_ble_eq_true rfl⟩ (fun H locs hP hS => ?_)
    refine lv_iload_n hx hb dX0_slope_66 rfl (lv_at hl 1 rfl) ?_
    refine zz_isub hx hb dX0_slope_67 ?_
    refine zz_callV h0 [.int (zI ((w / 4096) - sx))] [.ref h0, .int (zI (((w % 4096) - sy) % p)), .ref h0] ⟨hx, hb, hml, hown, hts⟩ (kX0_modulo l dC dI h0 q1 q2 q3 c1 c2 c3 p a b n g1 g2 g3 ((w / 4096) - sx) (by omega) (by omega)) (cwV 1 hts gX0_slope_X0_modulo rfl rfl rfl (by decide +kernel) ⟨Nat.le_of_ble_eq_true rfl, Nat.le_of_ble_eq_true rfl⟩) hK hP 0 rfl rfl rfl hP hS rfl hl.1 rfl (Nat.le_of_ble_eq_true rfl) dX0_slope_68 ⟨Nat.le_of_ble_eq_true rfl, Nat.le_of_ble_eq_true rfl⟩ (fun H locs hP hS => ?_)
    refine zz_callV h0 [.int (zI (((w / 4096) - sx) % p))] [.int (zI (((w % 4096) - sy) % p)), .ref h0] ⟨hx, hb, hml, hown, hts⟩ (kX0_inverse l dC dI h0 q1 q2 q3 c1 c2 c3 p a b n g1 g2 g3 (((w / 4096) - sx) % p) (by omega) (by omega)) (cwV 1 hts gX0_slope_X0_inverse rfl rfl rfl (by decide +kernel) ⟨Nat.le_of_ble_eq_true rfl, Nat.le_of_ble_eq_true rfl⟩) hK hP 0 rfl rfl rfl hP hS rfl hl.1 rfl (Nat.le_of_ble_eq_true rfl) dX0_slope_71 ⟨Nat.le_of_ble_eq_true rfl, Nat.le_of_ble_eq_true rfl⟩ (fun H locs hP hS => ?_)
    refine zz_imul hx hb dX0_slope_74 ?_
    refine zz_callV h0 [.int (zI ((((w % 4096) - sy) % p) * (gs_inv p (((w / 4096) - sx) % p))))] [] ⟨hx, hb, hml, hown, hts⟩ (kX0_modulo l dC dI h0 q1 q2 q3 c1 c2 c3 p a b n g1 g2 g3 ((((w % 4096) - sy) % p) * (gs_inv p (((w / 4096) - sx) % p))) (by omega) (by omega)) (cwV 1 hts gX0_slope_X0_modulo rfl rfl rfl (by decide +kernel) ⟨Nat.le_of_ble_eq_true rfl, Nat.le_of_ble_eq_true rfl⟩) hK hP 0 rfl rfl rfl hP hS rfl hl.1 rfl (Nat.le_of_ble_eq_true rfl) dX0_slope_75 ⟨Nat.le_of_ble_eq_true rfl, Nat.le_of_ble_eq_true rfl⟩ (fun H locs hP hS => ?_)
    have hpost : (((((w % 4096) - sy) % p) * (gs_inv p (((w / 4096) - sx) % p))) % p : Int) = gs_slope p a u w := by
      unfold gs_slope
      rw [if_neg (by omega), ← esx, ← esy]
    exact W.iret (v := zI (((((w % 4096) - sy) % p) * (gs_inv p (((w / 4096) - sx) % p))) % p)) hx hb hr (fun t ht hW => ⟨⟨_, (), rfl, congrArg zI hpost, trivial⟩, hS.F ht⟩) hS.2.2 dX0_slope_78
  · have h1 := zz_p3 (x := sx) (by omega)
    have h2 := zz_md (v := 3 * sx * sx + a) (p := p) (by omega)
    have h3 := zz_md (v := 2 * sy) (p := p) (by omega)
    have h4 := gs_invR (v := 2 * sy % p) (p := p) (by omega)
    have h5 := zz_pr (x := (3 * sx * sx + a) % p) (y := gs_inv p (2 * sy % p)) (by omega) (by omega)
    refine lv_aload_n hx hb dX0_slope_16 rfl (lv_at hl 2 rfl) ?_
    refine lv_aload_n hx hb dX0_slope_17 rfl (lv_at hl 2 rfl) ?_
    refine lv_iconst (v := zI 3) hx hb dX0_slope_18 rfl ?_
    refine lv_iload_n hx hb dX0_slope_19 rfl (lv_at hl 1 rfl) ?_
    refine zz_imul hx hb dX0_slope_20 ?_
    refine lv_iload_n hx hb dX0_slope_21 rfl (lv_at hl 1 rfl) ?_
    refine zz_imul hx hb dX0_slope_22 ?_
    refine lv_aload_n hx hb dX0_slope_23 rfl (lv_at hl 2 rfl) ?_
    refine va_get (D := (dC, dI)) (ci := 0) (v := .int (zI (a))) (C := RX0) (T := TX0) (N := 7) hx hb hts hin0 hown hK hP 0 rfl rfl 1 (by decide) hf35 (fun _ h9 => h9) rfl dX0_slope_24 ?_
    refine zz_iadd hx hb dX0_slope_27 ?_
    refine zz_callV h0 [.int (zI (((3 * sx) * sx) + a))] [.ref h0] ⟨hx, hb, hml, hown, hts⟩ (kX0_modulo l dC dI h0 q1 q2 q3 c1 c2 c3 p a b n g1 g2 g3 (((3 * sx) * sx) + a) (by omega) (by omega)) (cwV 1 hts gX0_slope_X0_modulo rfl rfl rfl (by decide +kernel) ⟨Nat.le_of_ble_eq_true rfl, Nat.le_of_ble_eq_true rfl⟩) hK hP 0 rfl rfl rfl hP hS rfl hl.1 rfl (Nat.le_of_ble_eq_true rfl) dX0_slope_28 ⟨Nat.le_of_ble_eq_true rfl, Nat.le_of_ble_eq_true rfl⟩ (fun H locs hP hS => ?_)
    refine lv_aload_n hx hb dX0_slope_31 rfl (lv_at hl 2 rfl) ?_
    refine lv_aload_n hx hb dX0_slope_32 rfl (lv_at hl 2 rfl) ?_
    refine lv_iconst (v := zI 2) hx hb dX0_slope_33 rfl ?_
    refine lv_iload hx hb dX0_slope_34 (lv_at hl 0 rfl) ?_
    refine zz_imul hx hb dX0_slope_36 ?_
    refine zz_callV h0 [.int (zI (2 * sy))] [.ref h0, .int (zI ((((3 * sx) * sx) + a) % p)), .ref h0] ⟨hx, hb, hml, hown, hts⟩ (kX0_modulo l dC dI h0 q1 q2 q3 c1 c2 c3 p a b n g1 g2 g3 (2 * sy) (by omega) (by omega)) (cwV 1 hts gX0_slope_X0_modulo rfl rfl rfl (by decide +kernel) ⟨Nat.le_of_ble_eq_true rfl, Nat.le_of_ble_eq_true rfl⟩) hK hP 0 rfl rfl rfl hP hS rfl hl.1 rfl (Nat.le_of_ble_eq_true rfl) dX0_slope_37 ⟨Nat.le_of_ble_eq_true rfl, Nat.le_of_ble_eq_true rfl⟩ (fun H locs hP hS => ?_)
    refine zz_callV h0 [.int (zI ((2 * sy) % p))] [.int (zI ((((3 * sx) * sx) + a) % p)), .ref h0] ⟨hx, hb, hml, hown, hts⟩ (kX0_inverse l dC dI h0 q1 q2 q3 c1 c2 c3 p a b n g1 g2 g3 ((2 * sy) % p) (by omega) (by omega)) (cwV 1 hts gX0_slope_X0_inverse rfl rfl rfl (by decide +kernel) ⟨Nat.le_of_ble_eq_true rfl, Nat.le_of_ble_eq_true rfl⟩) hK hP 0 rfl rfl rfl hP hS rfl hl.1 rfl (Nat.le_of_ble_eq_true rfl) dX0_slope_40 ⟨Nat.le_of_ble_eq_true rfl, Nat.le_of_ble_eq_true rfl⟩ (fun H locs hP hS => ?_)
    refine zz_imul hx hb dX0_slope_43 ?_
    refine zz_callV h0 [.int (zI (((((3 * sx) * sx) + a) % p) * (gs_inv p ((2 * sy) % p))))] [] ⟨hx, hb, hml, hown, hts⟩ (kX0_modulo l dC dI h0 q1 q2 q3 c1 c2 c3 p a b n g1 g2 g3 (((((3 * sx) * sx) + a) % p) * (gs_inv p ((2 * sy) % p))) (by omega) (by omega)) (cwV 1 hts gX0_slope_X0_modulo rfl rfl rfl (by decide +kernel) ⟨Nat.le_of_ble_eq_true rfl, Nat.le_of_ble_eq_true rfl⟩) hK hP 0 rfl rfl rfl hP hS rfl hl.1 rfl (Nat.le_of_ble_eq_true rfl) dX0_slope_44 ⟨Nat.le_of_ble_eq_true rfl, Nat.le_of_ble_eq_true rfl⟩ (fun H locs hP hS => ?_)
    have hpost : ((((((3 * sx) * sx) + a) % p) * (gs_inv p ((2 * sy) % p))) % p : Int) = gs_slope p a u w := by
      unfold gs_slope
      rw [if_pos (by omega), ← esx, ← esy]
    exact W.iret (v := zI ((((((3 * sx) * sx) + a) % p) * (gs_inv p ((2 * sy) % p))) % p)) hx hb hr (fun t ht hW => ⟨⟨_, (), rfl, congrArg zI hpost, trivial⟩, hS.F ht⟩) hS.2.2 dX0_slope_47

set_option maxHeartbeats 4000000 in
set_option maxRecDepth 100000 in
theorem kX0_sum (l : Launch) (dC : Nat → ClassId) (dI : Nat → Nat → Nat) (h0 q1 q2 q3 : Nat) (c1 c2 c3 : ClassId) (p a b n : Int) (g1 g2 g3 : Int → Int) (u : Int) (w : Int) (hp : 5 ≤ p ∧ p ≤ 4093) (ha : 0 ≤ a ∧ a < p) (hu : u = -1 ∨ (0 ≤ u ∧ u / 4096 < p ∧ u % 4096 < p)) (hw : w = -1 ∨ (0 ≤ w ∧ w / 4096 < p ∧ w % 4096 < p)) : Met l yX0_sum wsX0_sum ({ frames := 4, cells := 0, slots := 0, locals := 91 }) (zPc (dC, dI) (ww0 h0 q1 q2 q3 c1 c2 c3 p a b n g1 g2 g3) (tt0 c1 c2 c3) [.ref h0, .int (zI (u)), .int (zI (w))]) (zQi (zI (gs_sum p a u w))) 0 0 zNo := by
  refine Met.ofW (cc := cX0_sum) (maxL := 6) (ret := (some .int)) (by decide) rfl ?_
  intro pp e s m args below meth c s₁ B hml hv
  obtain ⟨rfl, hP, hK⟩ := hv
  have hx := B.exec
  have hb := B.bytes
  have hr := B.returns
  have hts := atoms_spec (ws := wsX0_sum) B.pre
  have hown : s.vm.findClass RX0 = some m.cls := findClass_of_methodNamed B.named
  have hlocks := B.notSynchronized
  have hS : va_S (fun _ => False) s.heap s.heap [] := va_S.rf
  have hl := lv_entry ([.ref h0, .int (zI (u)), .int (zI (w))]) (n := 6) (Nat.le_of_ble_eq_true rfl)
  rw [lg_entry_eq]
  generalize (lg_sl ([.ref h0, .int (zI (u)), .int (zI (w))]) ++ List.replicate (6 - (lg_sl ([.ref h0, .int (zI (u)), .int (zI (w))])).length) Slot.unset).toArray = ls at hl ⊢
  have hl : lv_has ls 6 [(0, .ref h0), (1, .int (zI (u))), (2, .int (zI (w)))] := hl
  skip
  refine lv_iload_n hx hb dX0_sum_0 rfl (lv_at hl 1 rfl) ?_
  refine lv_iconst (v := zI (-1)) hx hb dX0_sum_1 rfl ?_
  refine zz_icmp_ne (tgt := 7) hx hb dX0_sum_2 (by decide) (by omega) ⟨by decide, by decide⟩ (fun hc_1 => ?_) (fun hc_1 => ?_)
  · refine lv_iload_n hx hb dX0_sum_7 rfl (lv_at hl 2 rfl) ?_
    refine lv_iconst (v := zI (-1)) hx hb dX0_sum_8 rfl ?_
    refine zz_icmp_ne (tgt := 14) hx hb dX0_sum_9 (by decide) (by omega) ⟨by decide, by decide⟩ (fun hc_2 => ?_) (fun hc_2 => ?_)
    · refine lv_iload_n hx hb dX0_sum_14 rfl (lv_at hl 2 rfl) ?_
      refine lv_aload_n hx hb dX0_sum_15 rfl (lv_at hl 0 rfl) ?_
      refine lv_iload_n hx hb dX0_sum_16 rfl (lv_at hl 1 rfl) ?_
      refine zz_callV h0 [.int (zI (u))] [.int (zI (w))] ⟨hx, hb, hml, hown, hts⟩ (kX0_opposite l dC dI h0 q1 q2 q3 c1 c2 c3 p a b n g1 g2 g3 u (by omega) (by omega)) (cwV 1 hts gX0_sum_X0_opposite rfl rfl rfl (by decide +kernel) ⟨Nat.le_of_ble_eq_true rfl, Nat.le_of_ble_eq_true rfl⟩) hK hP 0 rfl rfl rfl hP hS rfl hl.1 rfl (Nat.le_of_ble_eq_true rfl) dX0_sum_17 ⟨Nat.le_of_ble_eq_true rfl, Nat.le_of_ble_eq_true rfl⟩ (fun H locs hP hS => ?_)
      have hop := gs_oppR (p := p) (u := u) hp (by omega)
      refine zz_icmp_ne (tgt := 25) hx hb dX0_sum_20 (by decide) (by omega) (by omega) (fun hc_3 => ?_) (fun hc_3 => ?_)
      · refine lv_aload_n hx hb dX0_sum_25 rfl (lv_at hl 0 rfl) ?_
        refine lv_iload_n hx hb dX0_sum_26 rfl (lv_at hl 1 rfl) ?_
        refine lv_iload_n hx hb dX0_sum_27 rfl (lv_at hl 2 rfl) ?_
        refine zz_callV h0 [.int (zI (u)), .int (zI (w))] [] ⟨hx, hb, hml, hown, hts⟩ (kX0_slope l dC dI h0 q1 q2 q3 c1 c2 c3 p a b n g1 g2 g3 u w (by omega) (by omega) (by omega) (by omega)) (cwV 2 hts gX0_sum_X0_slope rfl rfl rfl (by decide +kernel) ⟨Nat.le_of_ble_eq_true rfl, Nat.le_of_ble_eq_true rfl⟩) hK hP 0 rfl rfl rfl hP hS rfl hl.1 rfl (Nat.le_of_ble_eq_true rfl) dX0_sum_28 ⟨Nat.le_of_ble_eq_true rfl, Nat.le_of_ble_eq_true rfl⟩ (fun H locs hP hS => ?_)
        refine zz_topi (fun ms ems => ?_)
        refine lv_istore_n (lv' := [(3, .int (zI (ms))), (0, .ref h0), (1, .int (zI (u))), (2, .int (zI (w)))]) hx hb dX0_sum_31 rfl hl (by decide) rfl (fun ls hl => ?_)
        have h1 : 0 ≤ ms ∧ ms < p := by rw [ems]; exact gs_slopeR p a u w (by omega)
        have h2 := zz_pr (x := ms) (y := ms) (by omega) (by omega)
        refine lv_aload_n hx hb dX0_sum_32 rfl (lv_at hl 1 rfl) ?_
        refine lv_iload_n hx hb dX0_sum_33 rfl (lv_at hl 0 rfl) ?_
        refine lv_iload_n hx hb dX0_sum_34 rfl (lv_at hl 0 rfl) ?_
        refine zz_imul hx hb dX0_sum_35 ?_
        refine lv_iload_n hx hb dX0_sum_36 rfl (lv_at hl 2 rfl) ?_
        refine zz_callS [.int (zI (u))] [.int (zI (ms * ms)), .ref h0] ⟨hx, hb, hml, hown, hts⟩ (kX0_xOf l u (by omega)) (va_cwS 1 hts gX0_sum_X0_xOf rfl rfl rfl (by decide +kernel) ⟨Nat.le_of_ble_eq_true rfl, Nat.le_of_ble_eq_true rfl⟩) hP hS rfl hl.1 rfl (Nat.le_of_ble_eq_true rfl) dX0_sum_37 ⟨Nat.le_of_ble_eq_true rfl, Nat.le_of_ble_eq_true rfl⟩ (fun H locs hP hS => ?_)
        refine zz_isub hx hb dX0_sum_40 ?_
        refine lv_iload_n hx hb dX0_sum_41 rfl (lv_at hl 3 rfl) ?_
        refine zz_callS [.int (zI (w))] [.int (zI ((ms * ms) - (u / 4096))), .ref h0] ⟨hx, hb, hml, hown, hts⟩ (kX0_xOf l w (by omega)) (va_cwS 1 hts gX0_sum_X0_xOf rfl rfl rfl (by decide +kernel) ⟨Nat.le_of_ble_eq_true rfl, Nat.le_of_ble_eq_true rfl⟩) hP hS rfl hl.1 rfl (Nat.le_of_ble_eq_true rfl) dX0_sum_42 ⟨Nat.le_of_ble_eq_true rfl, Nat.le_of_ble_eq_true rfl⟩ (fun H locs hP hS => ?_)
        refine zz_isub hx hb dX0_sum_45 ?_
        refine zz_callV h0 [.int (zI (((ms * ms) - (u / 4096)) - (w / 4096)))] [] ⟨hx, hb, hml, hown, hts⟩ (kX0_modulo l dC dI h0 q1 q2 q3 c1 c2 c3 p a b n g1 g2 g3 (((ms * ms) - (u / 4096)) - (w / 4096)) (by omega) (by omega)) (cwV 1 hts gX0_sum_X0_modulo rfl rfl rfl (by decide +kernel) ⟨Nat.le_of_ble_eq_true rfl, Nat.le_of_ble_eq_true rfl⟩) hK hP 0 rfl rfl rfl hP hS rfl hl.1 rfl (Nat.le_of_ble_eq_true rfl) dX0_sum_46 ⟨Nat.le_of_ble_eq_true rfl, Nat.le_of_ble_eq_true rfl⟩ (fun H locs hP hS => ?_)
        refine zz_topi (fun x3 ex3 => ?_)
        refine lv_istore (lv' := [(4, .int (zI (x3))), (3, .int (zI (ms))), (0, .ref h0), (1, .int (zI (u))), (2, .int (zI (w)))]) hx hb dX0_sum_49 hl (by decide) rfl (fun ls hl => ?_)
        have h3 : 0 ≤ x3 ∧ x3 < p := by rw [ex3]; exact zz_md (by omega)
        have h4 := zz_md (v := u / 4096 - x3) (p := p) (by omega)
        have h5 := zz_pr (x := ms) (y := (u / 4096 - x3) % p) (by omega) (by omega)
        refine lv_aload_n hx hb dX0_sum_51 rfl (lv_at hl 2 rfl) ?_
        refine lv_iload_n hx hb dX0_sum_52 rfl (lv_at hl 1 rfl) ?_
        refine lv_aload_n hx hb dX0_sum_53 rfl (lv_at hl 2 rfl) ?_
        refine lv_iload_n hx hb dX0_sum_54 rfl (lv_at hl 3 rfl) ?_
        refine zz_callS [.int (zI (u))] [.ref h0, .int (zI (ms)), .ref h0] ⟨hx, hb, hml, hown, hts⟩ (kX0_xOf l u (by omega)) (va_cwS 1 hts gX0_sum_X0_xOf rfl rfl rfl (by decide +kernel) ⟨Nat.le_of_ble_eq_true rfl, Nat.le_of_ble_eq_true rfl⟩) hP hS rfl hl.1 rfl (Nat.le_of_ble_eq_true rfl) dX0_sum_55 ⟨Nat.le_of_ble_eq_true rfl, Nat.le_of_ble_eq_true rfl⟩ (fun H locs hP hS => ?_)
        refine lv_iload hx hb dX0_sum_58 (lv_at hl 0 rfl) ?_
        refine zz_isub hx hb dX0_sum_60 ?_
        refine zz_callV h0 [.int (zI ((u / 4096) - x3))] [.int (zI (ms)), .ref h0] ⟨hx, hb, hml, hown, hts⟩ (kX0_modulo l dC dI h0 q1 q2 q3 c1 c2 c3 p a b n g1 g2 g3 ((u / 4096) - x3) (by omega) (by omega)) (cwV 1 hts gX0_sum_X0_modulo rfl rfl rfl (by decide +kernel) ⟨Nat.le_of_ble_eq_true rfl, Nat.le_of_ble_eq_true rfl⟩) hK hP 0 rfl rfl rfl hP hS rfl hl.1 rfl (Nat.le_of_ble_eq_true rfl) dX0_sum_61 ⟨Nat.le_of_ble_eq_true rfl, Nat.le_of_ble_eq_true rfl⟩ (fun H locs hP hS => ?_)
        refine zz_imul hx hb dX0_sum_64 ?_
        refine lv_iload_n hx hb dX0_sum_65 rfl (lv_at hl 3 rfl) ?_
        refine zz_callS [.int (zI (u))] [.int (zI (ms * (((u / 4096) - x3) % p))), .ref h0] ⟨hx, hb, hml, hown, hts⟩ (kX0_yOf l u (by omega)) (va_cwS 1 hts gX0_sum_X0_yOf rfl rfl rfl (by decide +kernel) ⟨Nat.le_of_ble_eq_true rfl, Nat.le_of_ble_eq_true rfl⟩) hP hS rfl hl.1 rfl (Nat.le_of_ble_eq_true rfl) dX0_sum_66 ⟨Nat.le_of_ble_eq_true rfl, Nat.le_of_ble_eq_true rfl⟩ (fun H locs hP hS => ?_)
        refine zz_isub hx hb dX0_sum_69 ?_
        refine zz_callV h0 [.int (zI ((ms * (((u / 4096) - x3) % p)) - (u % 4096)))] [] ⟨hx, hb, hml, hown, hts⟩ (kX0_modulo l dC dI h0 q1 q2 q3 c1 c2 c3 p a b n g1 g2 g3 ((ms * (((u / 4096) - x3) % p)) - (u % 4096)) (by omega) (by omega)) (cwV 1 hts gX0_sum_X0_modulo rfl rfl rfl (by decide +kernel) ⟨Nat.le_of_ble_eq_true rfl, Nat.le_of_ble_eq_true rfl⟩) hK hP 0 rfl rfl rfl hP hS rfl hl.1 rfl (Nat.le_of_ble_eq_true rfl) dX0_sum_70 ⟨Nat.le_of_ble_eq_true rfl, Nat.le_of_ble_eq_true rfl⟩ (fun H locs hP hS => ?_)
        refine zz_topi (fun y3 ey3 => ?_)
        refine lv_istore (lv' := [(5, .int (zI (y3))), (4, .int (zI (x3))), (3, .int (zI (ms))), (0, .ref h0), (1, .int (zI (u))), (2, .int (zI (w)))]) hx hb dX0_sum_73 hl (by decide) rfl (fun ls hl => ?_)
        refine lv_iload hx hb dX0_sum_75 (lv_at hl 1 rfl) ?_
        refine lv_iload hx hb dX0_sum_77 (lv_at hl 0 rfl) ?_
        refine zz_callS [.int (zI (x3)), .int (zI (y3))] [] ⟨hx, hb, hml, hown, hts⟩ (kX0_pack l x3 y3 (by omega)) (va_cwS 2 hts gX0_sum_X0_pack rfl rfl rfl (by decide +kernel) ⟨Nat.le_of_ble_eq_true rfl, Nat.le_of_ble_eq_true rfl⟩) hP hS rfl hl.1 rfl (Nat.le_of_ble_eq_true rfl) dX0_sum_79 ⟨Nat.le_of_ble_eq_true rfl, Nat.le_of_ble_eq_true rfl⟩ (fun H locs hP hS => ?_)
        have hpost : (x3 * 4096 + y3 : Int) = gs_sum p a u w := by
          unfold gs_sum gs_y gs_x
          rw [if_neg (by omega), if_neg (by omega), if_neg (by omega), ← ems, ← ex3, ← ey3]
        exact W.iret (v := zI (x3 * 4096 + y3)) hx hb hr (fun t ht hW => ⟨⟨_, (), rfl, congrArg zI hpost, trivial⟩, hS.F ht⟩) hS.2.2 dX0_sum_82
      · refine lv_iconst (v := zI (-1)) hx hb dX0_sum_23 rfl ?_
        have hpost : ((-1) : Int) = gs_sum p a u w := by
          unfold gs_sum
          rw [if_neg (by omega), if_neg (by omega), if_pos (by omega)]
        exact W.iret (v := zI ((-1))) hx hb hr (fun t ht hW => ⟨⟨_, (), rfl, congrArg zI hpost, trivial⟩, hS.F ht⟩) hS.2.2 dX0_sum_24
    · refine lv_iload_n hx hb dX0_sum_12 rfl (lv_at hl 1 rfl) ?_
      have hpost : (u : Int) = gs_sum p a u w := by
        unfold gs_sum
        rw [if_neg (by omega), if_pos (by omega)]
      exact W.iret (v := zI (u)) hx hb hr (fun t ht hW => ⟨⟨_, (), rfl, congrArg zI hpost, trivial⟩, hS.F ht⟩) hS.2.2 dX0_sum_13
  · refine lv_iload_n hx hb dX0_sum_5 rfl (lv_at hl 2 rfl) ?_
    have hpost : (w : Int) = gs_sum p a u w := by
      unfold gs_sum
      rw [if_pos (by omega)]
    exact W.iret (v := zI (w)) hx hb hr (fun t ht hW => ⟨⟨_, (), rfl, congrArg zI hpost, trivial⟩, hS.F ht⟩) hS.2.2 dX0_sum_6
