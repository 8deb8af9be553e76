set_option maxHeartbeats 4000000 in
set_option maxRecDepth 100000 in
theorem kX0_multiple (l : Launch) (dC : Nat → ClassId) (dI : Nat → Nat → Nat) (h0 q1 q2 q3 : Nat) (c1 c2 c3 : ClassId) (p a b n : Int) (g1 g2 g3 : Int → Int) (k : Int) (u : Int) (hcv : gs_cv p a b) (hk : 0 ≤ k ∧ k ≤ 2147483648) (hu : gs_ok p a b u) : Met l yX0_multiple wsX0_multiple ({ frames := 5, cells := 0, slots := 0, locals := 116 }) (zPc (dC, dI) (ww0 h0 q1 q2 q3 c1 c2 c3 p a b n g1 g2 g3) (tt0 c1 c2 c3) [.ref h0, .long (zL (k)), .int (zI (u))]) (zQi (zI (gs_pw p a u k.toNat))) 0 0 zNo := by
  obtain ⟨hp1, hp2, hpp, ha, hbb, hdd⟩ := id hcv
  have hp : 5 ≤ p ∧ p ≤ 4093 := ⟨hp1, hp2⟩
  refine Met.ofW (cc := cX0_multiple) (maxL := 8) (ret := (some .int)) (by decide) rfl ?_
  intro pp e s m args below meth c s₁ B hml hv
  obtain ⟨rfl, hP, hK⟩ := hv
  have hx := B.exec
  have hb := B.bytes
  have hr := B.returns
  have hts := atoms_spec (ws := wsX0_multiple) B.pre
  have hown : s.vm.findClass RX0 = some m.cls := findClass_of_methodNamed B.named
  have hlocks := B.notSynchronized
  have hS : va_S (fun _ => False) s.heap s.heap [] := va_S.rf
  have hl := lv_entry ([.ref h0, .long (zL (k)), .int (zI (u))]) (n := 8) (Nat.le_of_ble_eq_true rfl)
  rw [lg_entry_eq]
  generalize (lg_sl ([.ref h0, .long (zL (k)), .int (zI (u))]) ++ List.replicate (8 - (lg_sl ([.ref h0, .long (zL (k)), .int (zI (u))])).length) Slot.unset).toArray = ls at hl ⊢
  have hl : lv_has ls 8 [(0, .ref h0), (1, .long (zL (k))), (3, .int (zI (u)))] := hl
  skip
  refine lv_iconst (v := zI (-1)) hx hb dX0_multiple_0 rfl ?_
  refine lv_istore (lv' := [(4, .int (zI ((-1)))), (0, .ref h0), (1, .long (zL (k))), (3, .int (zI (u)))]) hx hb dX0_multiple_1 hl (by decide) rfl (fun ls hl => ?_)
  refine lv_iload_n hx hb dX0_multiple_3 rfl (lv_at hl 3 rfl) ?_
  refine lv_istore (lv' := [(5, .int (zI (u))), (4, .int (zI ((-1)))), (0, .ref h0), (1, .long (zL (k))), (3, .int (zI (u)))]) hx hb dX0_multiple_4 hl (by decide) rfl (fun ls hl => ?_)
  refine lv_lload_n hx hb dX0_multiple_6 rfl (lv_at hl 3 rfl) ?_
  refine lv_lstore (lv' := [(6, .long (zL (k))), (5, .int (zI (u))), (4, .int (zI ((-1)))), (0, .ref h0), (1, .long (zL (k))), (3, .int (zI (u)))]) hx hb dX0_multiple_7 hl (by decide) rfl (fun ls hl => ?_)
  have hi_9 : 0 ≤ k ∧ k ≤ 2147483648 ∧ gs_ok p a b (-1 : Int) ∧ gs_ok p a b u ∧ gs_sum p a (-1 : Int) (gs_pw p a u (k).toNat) = gs_pw p a u k.toNat := by
    exact ⟨hk.1, hk.2, Or.inl rfl, hu, gs_1sum p a _⟩
  refine zz_loopR (σ := Int × Int × Int) (fun x => 0 ≤ x.2.2 ∧ x.2.2 ≤ 2147483648 ∧ gs_ok p a b x.1 ∧ gs_ok p a b x.2.1 ∧ gs_sum p a x.1 (gs_pw p a x.2.1 (x.2.2).toNat) = gs_pw p a u k.toNat) (fun x => (x.2.2).toNat) (fun x => [(6, .long (zL (x.2.2))), (5, .int (zI (x.2.1))), (4, .int (zI (x.1))), (0, .ref h0), (1, .long (zL (k))), (3, .int (zI (u)))]) ?_ ((-1), u, k) hi_9 _ _ _ hP hS (lv_sub hl [0, 1, 2, 3, 4, 5] rfl)
  intro x hI_9 ih_9 H locs ls hP hS hl
  clear hi_9
  obtain ⟨rc, dc, kc⟩ := x
  have hI_9 : 0 ≤ kc ∧ kc ≤ 2147483648 ∧ gs_ok p a b rc ∧ gs_ok p a b dc ∧ gs_sum p a rc (gs_pw p a dc (kc).toNat) = gs_pw p a u k.toNat := hI_9
  have hl : lv_has ls 8 [(6, .long (zL (kc))), (5, .int (zI (dc))), (4, .int (zI (rc))), (0, .ref h0), (1, .long (zL (k))), (3, .int (zI (u)))] := hl
  have hP : va_P (dC, dI) vwCl (ww0 h0 q1 q2 q3 c1 c2 c3 p a b n g1 g2 g3) H := hP
  obtain ⟨ik1, ik2, ir, id_, ie⟩ := hI_9
  refine lv_lload hx hb dX0_multiple_9 (lv_at hl 0 rfl) ?_
  refine lv_lconst (v := zL 0) hx hb dX0_multiple_11 rfl ?_
  refine zz_lcmp hx hb dX0_multiple_12 (by omega) (by omega) ?_
  have hq := zC_pos (a := kc) (b := 0)
  refine zz_if_le (tgt := 54) hx hb dX0_multiple_13 (by decide) (by have hzc := zC_r kc 0; omega) (fun hc_1 => ?_) (fun hc_1 => ?_)
  · refine lv_iload hx hb dX0_multiple_54 (lv_at hl 2 rfl) ?_
    have hpost : (rc : Int) = gs_pw p a u k.toNat := by
      have hz : kc = 0 := by omega
      rw [hz] at ie
      rw [← ie]
      exact (gs_sum1 p a rc).symm
    exact W.iret (v := zI (rc)) hx hb hr (fun t ht hW => ⟨⟨_, (), rfl, congrArg zI hpost, trivial⟩, hS.F ht⟩) hS.2.2 dX0_multiple_56
  · refine lv_lload hx hb dX0_multiple_16 (lv_at hl 0 rfl) ?_
    refine lv_lconst (v := zL 1) hx hb dX0_multiple_18 rfl ?_
    refine zz_land1 hx hb dX0_multiple_19 (by omega) ?_
    refine lv_lconst (v := zL 1) hx hb dX0_multiple_20 rfl ?_
    refine zz_lcmp hx hb dX0_multiple_21 (by omega) (by omega) ?_
    have hq2 := zC_0 (a := kc % 2) (b := 1)
    refine zz_if_ne (tgt := 35) hx hb dX0_multiple_22 (by decide) (by have hzc := zC_r (kc % 2) 1; omega) (fun hc_2 => ?_) (fun hc_2 => ?_)
    · refine lv_aload_n hx hb dX0_multiple_35 rfl (lv_at hl 3 rfl) ?_
      refine lv_iload hx hb dX0_multiple_36 (lv_at hl 1 rfl) ?_
      refine lv_iload hx hb dX0_multiple_38 (lv_at hl 1 rfl) ?_
      refine zz_callV h0 [.int (zI (dc)), .int (zI (dc))] [] ⟨hx, hb, hml, hown, hts⟩ (kX0_sum l dC dI h0 q1 q2 q3 c1 c2 c3 p a b n g1 g2 g3 dc dc hp ha (gs_okR id_) (gs_okR id_)) (cwV 2 hts gX0_multiple_X0_sum rfl rfl rfl (by decide +kernel) ⟨Nat.le_of_ble_eq_true rfl, Nat.le_of_ble_eq_true rfl⟩) hK hP 0 rfl rfl rfl hP hS rfl hl.1 rfl (Nat.le_of_ble_eq_true rfl) dX0_multiple_40 ⟨Nat.le_of_ble_eq_true rfl, Nat.le_of_ble_eq_true rfl⟩ (fun H locs hP hS => ?_)
      refine zz_topi (fun dd edd => ?_)
      refine lv_istore (lv' := [(5, .int (zI (dd))), (6, .long (zL (kc))), (4, .int (zI (rc))), (0, .ref h0), (1, .long (zL (k))), (3, .int (zI (u)))]) hx hb dX0_multiple_43 hl (by decide) rfl (fun ls hl => ?_)
      refine lv_lload hx hb dX0_multiple_45 (lv_at hl 1 rfl) ?_
      refine lv_iconst (v := zI 1) hx hb dX0_multiple_47 rfl ?_
      refine zz_lshr1 hx hb dX0_multiple_48 (by omega) ?_
      refine zz_topl (fun kk ekk => ?_)
      refine lv_lstore (lv' := [(6, .long (zL (kk))), (5, .int (zI (dd))), (4, .int (zI (rc))), (0, .ref h0), (1, .long (zL (k))), (3, .int (zI (u)))]) hx hb dX0_multiple_49 hl (by decide) rfl (fun ls hl => ?_)
      refine lv_goto (tgt := 9) hx hb dX0_multiple_51 (by decide) ?_
      have hn_9 : 0 ≤ kk ∧ kk ≤ 2147483648 ∧ gs_ok p a b rc ∧ gs_ok p a b dd ∧ gs_sum p a rc (gs_pw p a dd (kk).toNat) = gs_pw p a u k.toNat := by
        refine ⟨by omega, by omega, ?_, ?_, ?_⟩
        · exact ir
        · rw [edd]; exact gs_sumOk hcv id_ id_
        · rw [edd, ekk, ← ie]; exact gs_mul0 hcv id_ (by omega) (by omega)
      have hm_9 : (kk).toNat < (kc).toNat := by
        omega
      exact ih_9 (rc, dd, kk) hn_9 hm_9 _ _ _ hP hS (lv_sub hl [0, 1, 2, 3, 4, 5] rfl)
    · refine lv_aload_n hx hb dX0_multiple_25 rfl (lv_at hl 3 rfl) ?_
      refine lv_iload hx hb dX0_multiple_26 (lv_at hl 2 rfl) ?_
      refine lv_iload hx hb dX0_multiple_28 (lv_at hl 1 rfl) ?_
      refine zz_callV h0 [.int (zI (rc)), .int (zI (dc))] [] ⟨hx, hb, hml, hown, hts⟩ (kX0_sum l dC dI h0 q1 q2 q3 c1 c2 c3 p a b n g1 g2 g3 rc dc hp ha (gs_okR ir) (gs_okR id_)) (cwV 2 hts gX0_multiple_X0_sum rfl rfl rfl (by decide +kernel) ⟨Nat.le_of_ble_eq_true rfl, Nat.le_of_ble_eq_true rfl⟩) hK hP 0 rfl rfl rfl hP hS rfl hl.1 rfl (Nat.le_of_ble_eq_true rfl) dX0_multiple_30 ⟨Nat.le_of_ble_eq_true rfl, Nat.le_of_ble_eq_true rfl⟩ (fun H locs hP hS => ?_)
      refine zz_topi (fun rr err => ?_)
      refine lv_istore (lv' := [(4, .int (zI (rr))), (6, .long (zL (kc))), (5, .int (zI (dc))), (0, .ref h0), (1, .long (zL (k))), (3, .int (zI (u)))]) hx hb dX0_multiple_33 hl (by decide) rfl (fun ls hl => ?_)
      refine lv_aload_n hx hb dX0_multiple_35 rfl (lv_at hl 3 rfl) ?_
      refine lv_iload hx hb dX0_multiple_36 (lv_at hl 2 rfl) ?_
      refine lv_iload hx hb dX0_multiple_38 (lv_at hl 2 rfl) ?_
      refine zz_callV h0 [.int (zI (dc)), .int (zI (dc))] [] ⟨hx, hb, hml, hown, hts⟩ (kX0_sum l dC dI h0 q1 q2 q3 c1 c2 c3 p a b n g1 g2 g3 dc dc hp ha (gs_okR id_) (gs_okR id_)) (cwV 2 hts gX0_multiple_X0_sum rfl rfl rfl (by decide +kernel) ⟨Nat.le_of_ble_eq_true rfl, Nat.le_of_ble_eq_true rfl⟩) hK hP 0 rfl rfl rfl hP hS rfl hl.1 rfl (Nat.le_of_ble_eq_true rfl) dX0_multiple_40 ⟨Nat.le_of_ble_eq_true rfl, Nat.le_of_ble_eq_true rfl⟩ (fun H locs hP hS => ?_)
      refine zz_topi (fun dd edd => ?_)
      refine lv_istore (lv' := [(5, .int (zI (dd))), (4, .int (zI (rr))), (6, .long (zL (kc))), (0, .ref h0), (1, .long (zL (k))), (3, .int (zI (u)))]) hx hb dX0_multiple_43 hl (by decide) rfl (fun ls hl => ?_)
      refine lv_lload hx hb dX0_multiple_45 (lv_at hl 2 rfl) ?_
      refine lv_iconst (v := zI 1) hx hb dX0_multiple_47 rfl ?_
      refine zz_lshr1 hx hb dX0_multiple_48 (by omega) ?_
      refine zz_topl (fun kk ekk => ?_)
      refine lv_lstore (lv' := [(6, .long (zL (kk))), (5, .int (zI (dd))), (4, .int (zI (rr))), (0, .ref h0), (1, .long (zL (k))), (3, .int (zI (u)))]) hx hb dX0_multiple_49 hl (by decide) rfl (fun ls hl => ?_)
      refine lv_goto (tgt := 9) hx hb dX0_multiple_51 (by decide) ?_
      have hn_9 : 0 ≤ kk ∧ kk ≤ 2147483648 ∧ gs_ok p a b rr ∧ gs_ok p a b dd ∧ gs_sum p a rr (gs_pw p a dd (kk).toNat) = gs_pw p a u k.toNat := by
        refine ⟨by omega, by omega, ?_, ?_, ?_⟩
        · rw [err]; exact gs_sumOk hcv ir id_
        · rw [edd]; exact gs_sumOk hcv id_ id_
        · rw [err, edd, ekk, ← ie]; exact gs_mul1 hcv ir id_ (by omega) (by omega)
      have hm_9 : (kk).toNat < (kc).toNat := by
        omega
      exact ih_9 (rr, dd, kk) hn_9 hm_9 _ _ _ hP hS (lv_sub hl [0, 1, 2, 3, 4, 5] rfl)

set_option maxHeartbeats 4000000 in
set_option maxRecDepth 100000 in
theorem kX0_isPoint (l : Launch) (dC : Nat → ClassId) (dI : Nat → Nat → Nat) (h0 q1 q2 q3 : Nat) (c1 c2 c3 : ClassId) (p a b n : Int) (g1 g2 g3 : Int → Int) (u : Int) (hp : 5 ≤ p ∧ p ≤ 4093) (ha : 0 ≤ a ∧ a < p) (hbb : 0 ≤ b ∧ b < p) (hru : -2147483648 ≤ u ∧ u < 2147483648) : Met l yX0_isPoint wsX0_isPoint ({ frames := 3, cells := 0, slots := 0, locals := 64 }) (zPc (dC, dI) (ww0 h0 q1 q2 q3 c1 c2 c3 p a b n g1 g2 g3) (tt0 c1 c2 c3) [.ref h0, .int (zI (u))]) (zQi (zI (zB (gs_ok p a b u)))) 0 0 zNo := by
  refine Met.ofW (cc := cX0_isPoint) (maxL := 4) (ret := (some .boolean)) (by decide) rfl ?_
  intro pp e s m args below meth c s₁ B hml hv
  obtain ⟨rfl, hP, hK⟩ := hv
  have hx := B.exec
  have hb := B.bytes
  have hr := B.returns
  have hts := atoms_spec (ws := wsX0_isPoint) B.pre
  have hown : s.vm.findClass RX0 = some m.cls := findClass_of_methodNamed B.named
  have hlocks := B.notSynchronized
  have hS : va_S (fun _ => False) s.heap s.heap [] := va_S.rf
  have hl := lv_entry ([.ref h0, .int (zI (u))]) (n := 4) (Nat.le_of_ble_eq_true rfl)
  rw [lg_entry_eq]
  generalize (lg_sl ([.ref h0, .int (zI (u))]) ++ List.replicate (4 - (lg_sl ([.ref h0, .int (zI (u))])).length) Slot.unset).toArray = ls at hl ⊢
  have hl : lv_has ls 4 [(0, .ref h0), (1, .int (zI (u)))] := hl
  skip
  refine lv_iload_n hx hb dX0_isPoint_0 rfl (lv_at hl 1 rfl) ?_
  refine zz_if_ge (tgt := 15) hx hb dX0_isPoint_1 (by decide) (by omega) (fun hc_1 => ?_) (fun hc_1 => ?_)
  · refine lv_iload_n hx hb dX0_isPoint_15 rfl (lv_at hl 1 rfl) ?_
    refine zz_callS [.int (zI (u))] [] ⟨hx, hb, hml, hown, hts⟩ (kX0_xOf l u (by omega)) (va_cwS 1 hts gX0_isPoint_X0_xOf rfl rfl rfl (by decide +kernel) ⟨Nat.le_of_ble_eq_true rfl, Nat.le_of_ble_eq_true rfl⟩) hP hS rfl hl.1 rfl (Nat.le_of_ble_eq_true rfl) dX0_isPoint_16 ⟨Nat.le_of_ble_eq_true rfl, Nat.le_of_ble_eq_true rfl⟩ (fun H locs hP hS => ?_)
    refine zz_topi (fun px epx => ?_)
    refine lv_istore_n (lv' := [(2, .int (zI (px))), (0, .ref h0), (1, .int (zI (u)))]) hx hb dX0_isPoint_19 rfl hl (by decide) rfl (fun ls hl => ?_)
    refine lv_iload_n hx hb dX0_isPoint_20 rfl (lv_at hl 2 rfl) ?_
    refine zz_callS [.int (zI (u))] [] ⟨hx, hb, hml, hown, hts⟩ (kX0_yOf l u (by omega)) (va_cwS 1 hts gX0_isPoint_X0_yOf rfl rfl rfl (by decide +kernel) ⟨Nat.le_of_ble_eq_true rfl, Nat.le_of_ble_eq_true rfl⟩) hP hS rfl hl.1 rfl (Nat.le_of_ble_eq_true rfl) dX0_isPoint_21 ⟨Nat.le_of_ble_eq_true rfl, Nat.le_of_ble_eq_true rfl⟩ (fun H locs hP hS => ?_)
    refine zz_topi (fun py epy => ?_)
    refine lv_istore_n (lv' := [(3, .int (zI (py))), (2, .int (zI (px))), (0, .ref h0), (1, .int (zI (u)))]) hx hb dX0_isPoint_24 rfl hl (by decide) rfl (fun ls hl => ?_)
    refine lv_aload_n hx hb dX0_isPoint_25 rfl (lv_at hl 2 rfl) ?_
    refine lv_iload_n hx hb dX0_isPoint_26 rfl (lv_at hl 1 rfl) ?_
    refine zz_callV h0 [.int (zI (px))] [] ⟨hx, hb, hml, hown, hts⟩ (kX0_isNumber l dC dI h0 q1 q2 q3 c1 c2 c3 p a b n g1 g2 g3 px (by omega) (by omega)) (cwV 1 hts gX0_isPoint_X0_isNumber rfl rfl rfl (by decide +kernel) ⟨Nat.le_of_ble_eq_true rfl, Nat.le_of_ble_eq_true rfl⟩) hK hP 0 rfl rfl rfl hP hS rfl hl.1 rfl (Nat.le_of_ble_eq_true rfl) dX0_isPoint_27 ⟨Nat.le_of_ble_eq_true rfl, Nat.le_of_ble_eq_true rfl⟩ (fun H locs hP hS => ?_)
    refine zz_if_eq (tgt := 60) hx hb dX0_isPoint_30 (by decide) (by have hzb := zB_r (0 ≤ px ∧ px < p); omega) (fun hc_2 => ?_) (fun hc_2 => ?_)
    · have hc_2 := zB_0.mp hc_2
      refine lv_iconst (v := zI 0) hx hb dX0_isPoint_60 rfl ?_
      have hpost : (0 : Int) = zB (gs_ok p a b u) := by
        refine (zB_F (fun h => ?_)).symm
        rcases h with h | h
        · omega
        · rw [← epx, ← epy] at h
          omega
      exact W.zret (v := zI (0)) hx hb hr rfl (fun t ht hW => ⟨⟨_, (), rfl, congrArg zI hpost, trivial⟩, hS.F ht⟩) hS.2.2 dX0_isPoint_61
    · have hc_2 := zB_1.mp hc_2
      refine lv_aload_n hx hb dX0_isPoint_33 rfl (lv_at hl 2 rfl) ?_
      refine lv_iload_n hx hb dX0_isPoint_34 rfl (lv_at hl 0 rfl) ?_
      refine zz_callV h0 [.int (zI (py))] [] ⟨hx, hb, hml, hown, hts⟩ (kX0_isNumber l dC dI h0 q1 q2 q3 c1 c2 c3 p a b n g1 g2 g3 py (by omega) (by omega)) (cwV 1 hts gX0_isPoint_X0_isNumber rfl rfl rfl (by decide +kernel) ⟨Nat.le_of_ble_eq_true rfl, Nat.le_of_ble_eq_true rfl⟩) hK hP 0 rfl rfl rfl hP hS rfl hl.1 rfl (Nat.le_of_ble_eq_true rfl) dX0_isPoint_35 ⟨Nat.le_of_ble_eq_true rfl, Nat.le_of_ble_eq_true rfl⟩ (fun H locs hP hS => ?_)
      refine zz_if_eq (tgt := 60) hx hb dX0_isPoint_38 (by decide) (by have hzb := zB_r (0 ≤ py ∧ py < p); omega) (fun hc_3 => ?_) (fun hc_3 => ?_)
      · have hc_3 := zB_0.mp hc_3
        refine lv_iconst (v := zI 0) hx hb dX0_isPoint_60 rfl ?_
        have hpost : (0 : Int) = zB (gs_ok p a b u) := by
          refine (zB_F (fun h => ?_)).symm
          rcases h with h | h
          · omega
          · rw [← epx, ← epy] at h
            omega
        exact W.zret (v := zI (0)) hx hb hr rfl (fun t ht hW => ⟨⟨_, (), rfl, congrArg zI hpost, trivial⟩, hS.F ht⟩) hS.2.2 dX0_isPoint_61
      · have hc_3 := zB_1.mp hc_3
        have h1 := zz_pr (x := py) (y := py) (by omega) (by omega)
        refine lv_aload_n hx hb dX0_isPoint_41 rfl (lv_at hl 2 rfl) ?_
        refine lv_iload_n hx hb dX0_isPoint_42 rfl (lv_at hl 0 rfl) ?_
        refine lv_iload_n hx hb dX0_isPoint_43 rfl (lv_at hl 0 rfl) ?_
        refine zz_imul hx hb dX0_isPoint_44 ?_
        refine zz_callV h0 [.int (zI (py * py))] [] ⟨hx, hb, hml, hown, hts⟩ (kX0_modulo l dC dI h0 q1 q2 q3 c1 c2 c3 p a b n g1 g2 g3 (py * py) (by omega) (by omega)) (cwV 1 hts gX0_isPoint_X0_modulo rfl rfl rfl (by decide +kernel) ⟨Nat.le_of_ble_eq_true rfl, Nat.le_of_ble_eq_true rfl⟩) hK hP 0 rfl rfl rfl hP hS rfl hl.1 rfl (Nat.le_of_ble_eq_true rfl) dX0_isPoint_45 ⟨Nat.le_of_ble_eq_true rfl, Nat.le_of_ble_eq_true rfl⟩ (fun H locs hP hS => ?_)
        refine lv_aload_n hx hb dX0_isPoint_48 rfl (lv_at hl 2 rfl) ?_
        refine lv_iload_n hx hb dX0_isPoint_49 rfl (lv_at hl 1 rfl) ?_
        refine zz_callV h0 [.int (zI (px))] [.int (zI ((py * py) % p))] ⟨hx, hb, hml, hown, hts⟩ (kX0_rightSide l dC dI h0 q1 q2 q3 c1 c2 c3 p a b n g1 g2 g3 px (by omega) (by omega) (by omega) (by omega)) (cwV 1 hts gX0_isPoint_X0_rightSide rfl rfl rfl (by decide +kernel) ⟨Nat.le_of_ble_eq_true rfl, Nat.le_of_ble_eq_true rfl⟩) hK hP 0 rfl rfl rfl hP hS rfl hl.1 rfl (Nat.le_of_ble_eq_true rfl) dX0_isPoint_50 ⟨Nat.le_of_ble_eq_true rfl, Nat.le_of_ble_eq_true rfl⟩ (fun H locs hP hS => ?_)
        have h2 := zz_md (v := py * py) (p := p) (by omega)
        have h3 := zz_md (v := gs_rhs a b px) (p := p) (by omega)
        refine zz_icmp_ne (tgt := 60) hx hb dX0_isPoint_53 (by decide) (by omega) (by omega) (fun hc_4 => ?_) (fun hc_4 => ?_)
        · have hne := hc_4
          refine lv_iconst (v := zI 0) hx hb dX0_isPoint_60 rfl ?_
          have hpost : (0 : Int) = zB (gs_ok p a b u) := by
            refine (zB_F (fun h => ?_)).symm
            rcases h with h | h
            · omega
            · rw [← epx, ← epy] at h
              exact hne h.2.2.2
          exact W.zret (v := zI (0)) hx hb hr rfl (fun t ht hW => ⟨⟨_, (), rfl, congrArg zI hpost, trivial⟩, hS.F ht⟩) hS.2.2 dX0_isPoint_61
        · have heq := hc_4
          refine lv_iconst (v := zI 1) hx hb dX0_isPoint_56 rfl ?_
          refine lv_goto (tgt := 61) hx hb dX0_isPoint_57 (by decide) ?_
          have hpost : (1 : Int) = zB (gs_ok p a b u) := by
            refine (zB_T (Or.inr ⟨by omega, by omega, by omega, ?_⟩)).symm
            rw [← epx, ← epy]
            exact heq
          exact W.zret (v := zI (1)) hx hb hr rfl (fun t ht hW => ⟨⟨_, (), rfl, congrArg zI hpost, trivial⟩, hS.F ht⟩) hS.2.2 dX0_isPoint_61
  · refine lv_iload_n hx hb dX0_isPoint_4 rfl (lv_at hl 1 rfl) ?_
    refine lv_iconst (v := zI (-1)) hx hb dX0_isPoint_5 rfl ?_
    refine zz_icmp_ne (tgt := 13) hx hb dX0_isPoint_6 (by decide) (by omega) ⟨by decide, by decide⟩ (fun hc_5 => ?_) (fun hc_5 => ?_)
    · refine lv_iconst (v := zI 0) hx hb dX0_isPoint_13 rfl ?_
      have hpost : (0 : Int) = zB (gs_ok p a b u) := by
        exact (zB_F (fun h => by rcases h with h | h <;> omega)).symm
      exact W.zret (v := zI (0)) hx hb hr rfl (fun t ht hW => ⟨⟨_, (), rfl, congrArg zI hpost, trivial⟩, hS.F ht⟩) hS.2.2 dX0_isPoint_14
    · refine lv_iconst (v := zI 1) hx hb dX0_isPoint_9 rfl ?_
      refine lv_goto (tgt := 14) hx hb dX0_isPoint_10 (by decide) ?_
      have hpost : (1 : Int) = zB (gs_ok p a b u) := by
        exact (zB_T (Or.inl (by omega))).symm
      exact W.zret (v := zI (1)) hx hb hr rfl (fun t ht hW => ⟨⟨_, (), rfl, congrArg zI hpost, trivial⟩, hS.F ht⟩) hS.2.2 dX0_isPoint_14

set_option maxHeartbeats 4000000 in
set_option maxRecDepth 100000 in
theorem kX0_rootCount (l : Launch) (dC : Nat → ClassId) (dI : Nat → Nat → Nat) (h0 q1 q2 q3 : Nat) (c1 c2 c3 : ClassId) (p a b n : Int) (g1 g2 g3 : Int → Int) (v : Int) (hp : 5 ≤ p ∧ p ≤ 4093) (hv : 0 ≤ v ∧ v < p) (hg1 : -1 ≤ g1 v ∧ g1 v < 2147483648) : Met l yX0_rootCount wsX0_rootCount ({ frames := 0, cells := 0, slots := 0, locals := 0 }) (zPc (dC, dI) (ww0 h0 q1 q2 q3 c1 c2 c3 p a b n g1 g2 g3) (tt0 c1 c2 c3) [.ref h0, .int (zI (v))]) (zQi (zI ((if v = 0 then (1 : Int) else if g1 v = -1 then 0 else 2)))) 0 0 zNo := by
  refine Met.ofW (cc := cX0_rootCount) (maxL := 2) (ret := (some .int)) (by decide) rfl ?_
  intro pp e s m args below meth c s₁ B hml hv
  obtain ⟨rfl, hP, hK⟩ := hv
  have hx := B.exec
  have hb := B.bytes
  have hr := B.returns
  have hts := atoms_spec (ws := wsX0_rootCount) B.pre
  have hown : s.vm.findClass RX0 = some m.cls := findClass_of_methodNamed B.named
  have hlocks := B.notSynchronized
  have hin0 : ∀ w ∈ u_ws RX0 TX0 7, w ∈ wsX0_rootCount := by decide +kernel
  have hf9 := hts (.fieldLink RX0 9 "CurveDesk" "lesserRoot" "[I") (by decide +kernel)
  have hS : va_S (fun _ => False) s.heap s.heap [] := va_S.rf
  have hl := lv_entry ([.ref h0, .int (zI (v))]) (n := 2) (Nat.le_of_ble_eq_true rfl)
  rw [lg_entry_eq]
  generalize (lg_sl ([.ref h0, .int (zI (v))]) ++ List.replicate (2 - (lg_sl ([.ref h0, .int (zI (v))])).length) Slot.unset).toArray = ls at hl ⊢
  have hl : lv_has ls 2 [(0, .ref h0), (1, .int (zI (v)))] := hl
  skip
  refine lv_iload_n hx hb dX0_rootCount_0 rfl (lv_at hl 1 rfl) ?_
  refine zz_if_ne (tgt := 6) hx hb dX0_rootCount_1 (by decide) (by omega) (fun hc_1 => ?_) (fun hc_1 => ?_)
  · refine lv_aload_n hx hb dX0_rootCount_6 rfl (lv_at hl 0 rfl) ?_
    refine va_get (D := (dC, dI)) (ci := 0) (v := .ref q1) (C := RX0) (T := TX0) (N := 7) hx hb hts hin0 hown hK hP 0 rfl rfl 4 (by decide) hf9 (fun _ h9 => h9) rfl dX0_rootCount_7 ?_
    refine lv_iload_n hx hb dX0_rootCount_10 rfl (lv_at hl 1 rfl) ?_
    refine zz_iald (g := g1) hx hb hK hP 1 0 rfl rfl (by omega) dX0_rootCount_11 ?_
    refine lv_iconst (v := zI (-1)) hx hb dX0_rootCount_12 rfl ?_
    refine zz_icmp_ne (tgt := 20) hx hb dX0_rootCount_13 (by decide) (by omega) ⟨by decide, by decide⟩ (fun hc_2 => ?_) (fun hc_2 => ?_)
    · refine lv_iconst (v := zI 2) hx hb dX0_rootCount_20 rfl ?_
      have hpost : (2 : Int) = (if v = 0 then (1 : Int) else if g1 v = -1 then 0 else 2) := by
        rw [if_neg (by omega), if_neg (by omega)]
      exact W.iret (v := zI (2)) hx hb hr (fun t ht hW => ⟨⟨_, (), rfl, congrArg zI hpost, trivial⟩, hS.F ht⟩) hS.2.2 dX0_rootCount_21
    · refine lv_iconst (v := zI 0) hx hb dX0_rootCount_16 rfl ?_
      refine lv_goto (tgt := 21) hx hb dX0_rootCount_17 (by decide) ?_
      have hpost : (0 : Int) = (if v = 0 then (1 : Int) else if g1 v = -1 then 0 else 2) := by
        rw [if_neg (by omega), if_pos (by omega)]
      exact W.iret (v := zI (0)) hx hb hr (fun t ht hW => ⟨⟨_, (), rfl, congrArg zI hpost, trivial⟩, hS.F ht⟩) hS.2.2 dX0_rootCount_21
  · refine lv_iconst (v := zI 1) hx hb dX0_rootCount_4 rfl ?_
    have hpost : (1 : Int) = (if v = 0 then (1 : Int) else if g1 v = -1 then 0 else 2) := by
      rw [if_pos (by omega)]
    exact W.iret (v := zI (1)) hx hb hr (fun t ht hW => ⟨⟨_, (), rfl, congrArg zI hpost, trivial⟩, hS.F ht⟩) hS.2.2 dX0_rootCount_5

set_option maxHeartbeats 4000000 in
set_option maxRecDepth 100000 in
theorem kX0_xOfPoint (l : Launch) (dC : Nat → ClassId) (dI : Nat → Nat → Nat) (h0 q1 q2 q3 : Nat) (c1 c2 c3 : ClassId) (p a b n : Int) (g1 g2 g3 : Int → Int) (k : Int) (hp : 5 ≤ p ∧ p ≤ 4093) (hpp : gp_prime p.toNat) (hk : 0 ≤ k ∧ k < 2147483648) (hpb : gs_pb p a b g2) (X : Int) (hX : 0 ≤ X ∧ X < p ∧ g2 X ≤ k ∧ k < g2 (X + 1)) : Met l yX0_xOfPoint wsX0_xOfPoint ({ frames := 0, cells := 0, slots := 0, locals := 0 }) (zPc (dC, dI) (ww0 h0 q1 q2 q3 c1 c2 c3 p a b n g1 g2 g3) (tt0 c1 c2 c3) [.ref h0, .int (zI (k))]) (zQi (zI (X))) 0 0 zNo := by
  refine Met.ofW (cc := cX0_xOfPoint) (maxL := 4) (ret := (some .int)) (by decide) rfl ?_
  intro pp e s m args below meth c s₁ B hml hv
  obtain ⟨rfl, hP, hK⟩ := hv
  have hx := B.exec
  have hb := B.bytes
  have hr := B.returns
  have hts := atoms_spec (ws := wsX0_xOfPoint) B.pre
  have hown : s.vm.findClass RX0 = some m.cls := findClass_of_methodNamed B.named
  have hlocks := B.notSynchronized
  have hin0 : ∀ w ∈ u_ws RX0 TX0 7, w ∈ wsX0_xOfPoint := by decide +kernel
  have hf13 := hts (.fieldLink RX0 13 "CurveDesk" "pointsBefore" "[I") (by decide +kernel)
  have hf31 := hts (.fieldLink RX0 31 "CurveDesk" "prime" "I") (by decide +kernel)
  have hS : va_S (fun _ => False) s.heap s.heap [] := va_S.rf
  have hl := lv_entry ([.ref h0, .int (zI (k))]) (n := 4) (Nat.le_of_ble_eq_true rfl)
  rw [lg_entry_eq]
  generalize (lg_sl ([.ref h0, .int (zI (k))]) ++ List.replicate (4 - (lg_sl ([.ref h0, .int (zI (k))])).length) Slot.unset).toArray = ls at hl ⊢
  have hl : lv_has ls 4 [(0, .ref h0), (1, .int (zI (k)))] := hl
  skip
  refine lv_iconst (v := zI 0) hx hb dX0_xOfPoint_0 rfl ?_
  refine lv_istore_n (lv' := [(2, .int (zI (0))), (0, .ref h0), (1, .int (zI (k)))]) hx hb dX0_xOfPoint_1 rfl hl (by decide) rfl (fun ls hl => ?_)
  refine lv_sipush (v := zI 4096) hx hb dX0_xOfPoint_2 (by decide +kernel) ?_
  refine lv_istore_n (lv' := [(3, .int (zI (4096))), (2, .int (zI (0))), (0, .ref h0), (1, .int (zI (k)))]) hx hb dX0_xOfPoint_5 rfl hl (by decide) rfl (fun ls hl => ?_)
  have hi_6 : 0 ≤ (0 : Int) ∧ (0 : Int) ≤ X ∧ ((4096 : Int) = 4096 ∨ (4096 : Int) = 2048 ∨ (4096 : Int) = 1024 ∨ (4096 : Int) = 512 ∨ (4096 : Int) = 256 ∨ (4096 : Int) = 128 ∨ (4096 : Int) = 64 ∨ (4096 : Int) = 32 ∨ (4096 : Int) = 16 ∨ (4096 : Int) = 8 ∨ (4096 : Int) = 4 ∨ (4096 : Int) = 2 ∨ (4096 : Int) = 1 ∨ (4096 : Int) = 0) ∧ ((4096 : Int) = 0 → (0 : Int) = X) ∧ (0 < (4096 : Int) → X < (0 : Int) + 2 * (4096 : Int)) := by
    omega
  refine zz_loopR (σ := Int × Int) (fun x => 0 ≤ x.1 ∧ x.1 ≤ X ∧ (x.2 = 4096 ∨ x.2 = 2048 ∨ x.2 = 1024 ∨ x.2 = 512 ∨ x.2 = 256 ∨ x.2 = 128 ∨ x.2 = 64 ∨ x.2 = 32 ∨ x.2 = 16 ∨ x.2 = 8 ∨ x.2 = 4 ∨ x.2 = 2 ∨ x.2 = 1 ∨ x.2 = 0) ∧ (x.2 = 0 → x.1 = X) ∧ (0 < x.2 → X < x.1 + 2 * x.2)) (fun x => (x.2).toNat) (fun x => [(3, .int (zI (x.2))), (2, .int (zI (x.1))), (0, .ref h0), (1, .int (zI (k)))]) ?_ (0, 4096) hi_6 _ _ _ hP hS (lv_sub hl [0, 1, 2, 3] rfl)
  intro x hI_6 ih_6 H locs ls hP hS hl
  clear hi_6
  obtain ⟨xc, sc⟩ := x
  have hI_6 : 0 ≤ xc ∧ xc ≤ X ∧ (sc = 4096 ∨ sc = 2048 ∨ sc = 1024 ∨ sc = 512 ∨ sc = 256 ∨ sc = 128 ∨ sc = 64 ∨ sc = 32 ∨ sc = 16 ∨ sc = 8 ∨ sc = 4 ∨ sc = 2 ∨ sc = 1 ∨ sc = 0) ∧ (sc = 0 → xc = X) ∧ (0 < sc → X < xc + 2 * sc) := hI_6
  have hl : lv_has ls 4 [(3, .int (zI (sc))), (2, .int (zI (xc))), (0, .ref h0), (1, .int (zI (k)))] := hl
  have hP : va_P (dC, dI) vwCl (ww0 h0 q1 q2 q3 c1 c2 c3 p a b n g1 g2 g3) H := hP
  obtain ⟨i1, i2, i3, i4, i5⟩ := hI_6
  refine lv_iload_n hx hb dX0_xOfPoint_6 rfl (lv_at hl 0 rfl) ?_
  refine zz_if_le (tgt := 43) hx hb dX0_xOfPoint_7 (by decide) (by omega) (fun hc_1 => ?_) (fun hc_1 => ?_)
  · refine lv_iload_n hx hb dX0_xOfPoint_43 rfl (lv_at hl 1 rfl) ?_
    have hpost : (xc : Int) = X := by
      omega
    exact W.iret (v := zI (xc)) hx hb hr (fun t ht hW => ⟨⟨_, (), rfl, congrArg zI hpost, trivial⟩, hS.F ht⟩) hS.2.2 dX0_xOfPoint_44
  · refine lv_iload_n hx hb dX0_xOfPoint_10 rfl (lv_at hl 1 rfl) ?_
    refine lv_iload_n hx hb dX0_xOfPoint_11 rfl (lv_at hl 0 rfl) ?_
    refine zz_iadd hx hb dX0_xOfPoint_12 ?_
    refine lv_aload_n hx hb dX0_xOfPoint_13 rfl (lv_at hl 2 rfl) ?_
    refine va_get (D := (dC, dI)) (ci := 0) (v := .int (zI (p))) (C := RX0) (T := TX0) (N := 7) hx hb hts hin0 hown hK hP 0 rfl rfl 0 (by decide) hf31 (fun _ h9 => h9) rfl dX0_xOfPoint_14 ?_
    refine zz_icmp_ge (tgt := 36) hx hb dX0_xOfPoint_17 (by decide) (by omega) (by omega) (fun hc_2 => ?_) (fun hc_2 => ?_)
    · refine lv_iload_n hx hb dX0_xOfPoint_36 rfl (lv_at hl 0 rfl) ?_
      refine lv_iconst (v := zI 1) hx hb dX0_xOfPoint_37 rfl ?_
      refine zz_ishr 1 (M := 2) hx hb dX0_xOfPoint_38 (by omega) (by decide) ?_
      refine zz_topi (fun x_3 ex_3 => ?_)
      refine lv_istore_n (lv' := [(3, .int (zI (x_3))), (2, .int (zI (xc))), (0, .ref h0), (1, .int (zI (k)))]) hx hb dX0_xOfPoint_39 rfl hl (by decide) rfl (fun ls hl => ?_)
      refine lv_goto (tgt := 6) hx hb dX0_xOfPoint_40 (by decide) ?_
      have hn_6 : 0 ≤ xc ∧ xc ≤ X ∧ (x_3 = 4096 ∨ x_3 = 2048 ∨ x_3 = 1024 ∨ x_3 = 512 ∨ x_3 = 256 ∨ x_3 = 128 ∨ x_3 = 64 ∨ x_3 = 32 ∨ x_3 = 16 ∨ x_3 = 8 ∨ x_3 = 4 ∨ x_3 = 2 ∨ x_3 = 1 ∨ x_3 = 0) ∧ (x_3 = 0 → xc = X) ∧ (0 < x_3 → X < xc + 2 * x_3) := by
        omega
      have hm_6 : (x_3).toNat < (sc).toNat := by
        omega
      exact ih_6 (xc, x_3) hn_6 hm_6 _ _ _ hP hS (lv_sub hl [0, 1, 2, 3] rfl)
    · refine lv_aload_n hx hb dX0_xOfPoint_20 rfl (lv_at hl 2 rfl) ?_
      refine va_get (D := (dC, dI)) (ci := 0) (v := .ref q2) (C := RX0) (T := TX0) (N := 7) hx hb hts hin0 hown hK hP 0 rfl rfl 5 (by decide) hf13 (fun _ h9 => h9) rfl dX0_xOfPoint_21 ?_
      refine lv_iload_n hx hb dX0_xOfPoint_24 rfl (lv_at hl 1 rfl) ?_
      refine lv_iload_n hx hb dX0_xOfPoint_25 rfl (lv_at hl 0 rfl) ?_
      refine zz_iadd hx hb dX0_xOfPoint_26 ?_
      refine zz_iald (g := g2) hx hb hK hP 2 1 rfl rfl (by omega) dX0_xOfPoint_27 ?_
      have hb2 := gs_pbLe hpb hp hpp (x := xc + sc) (by omega)
      refine lv_iload_n hx hb dX0_xOfPoint_28 rfl (lv_at hl 3 rfl) ?_
      refine zz_icmp_gt (tgt := 36) hx hb dX0_xOfPoint_29 (by decide) (by omega) (by omega) (fun hc_4 => ?_) (fun hc_4 => ?_)
      · have hX2 : X < xc + sc := by
          rcases Int.lt_or_le X (xc + sc) with h | h
          · exact h
          · have h7 := gs_pbMono hpb (x := xc + sc) (y := X) (by omega) h (by omega)
            omega
        refine lv_iload_n hx hb dX0_xOfPoint_36 rfl (lv_at hl 0 rfl) ?_
        refine lv_iconst (v := zI 1) hx hb dX0_xOfPoint_37 rfl ?_
        refine zz_ishr 1 (M := 2) hx hb dX0_xOfPoint_38 (by omega) (by decide) ?_
        refine zz_topi (fun x_5 ex_5 => ?_)
        refine lv_istore_n (lv' := [(3, .int (zI (x_5))), (2, .int (zI (xc))), (0, .ref h0), (1, .int (zI (k)))]) hx hb dX0_xOfPoint_39 rfl hl (by decide) rfl (fun ls hl => ?_)
        refine lv_goto (tgt := 6) hx hb dX0_xOfPoint_40 (by decide) ?_
        have hn_6 : 0 ≤ xc ∧ xc ≤ X ∧ (x_5 = 4096 ∨ x_5 = 2048 ∨ x_5 = 1024 ∨ x_5 = 512 ∨ x_5 = 256 ∨ x_5 = 128 ∨ x_5 = 64 ∨ x_5 = 32 ∨ x_5 = 16 ∨ x_5 = 8 ∨ x_5 = 4 ∨ x_5 = 2 ∨ x_5 = 1 ∨ x_5 = 0) ∧ (x_5 = 0 → xc = X) ∧ (0 < x_5 → X < xc + 2 * x_5) := by
          omega
        have hm_6 : (x_5).toNat < (sc).toNat := by
          omega
        exact ih_6 (xc, x_5) hn_6 hm_6 _ _ _ hP hS (lv_sub hl [0, 1, 2, 3] rfl)
      · have hX2 : xc + sc ≤ X := by
          rcases Int.lt_or_le X (xc + sc) with h | h
          · have h7 := gs_pbMono hpb (x := X + 1) (y := xc + sc) (by omega) (by omega) (by omega)
            omega
          · exact h
        refine lv_iload_n hx hb dX0_xOfPoint_32 rfl (lv_at hl 1 rfl) ?_
        refine lv_iload_n hx hb dX0_xOfPoint_33 rfl (lv_at hl 0 rfl) ?_
        refine zz_iadd hx hb dX0_xOfPoint_34 ?_
        refine zz_topi (fun x_6 ex_6 => ?_)
        refine lv_istore_n (lv' := [(2, .int (zI (x_6))), (3, .int (zI (sc))), (0, .ref h0), (1, .int (zI (k)))]) hx hb dX0_xOfPoint_35 rfl hl (by decide) rfl (fun ls hl => ?_)
        refine lv_iload_n hx hb dX0_xOfPoint_36 rfl (lv_at hl 1 rfl) ?_
        refine lv_iconst (v := zI 1) hx hb dX0_xOfPoint_37 rfl ?_
        refine zz_ishr 1 (M := 2) hx hb dX0_xOfPoint_38 (by omega) (by decide) ?_
        refine zz_topi (fun x_7 ex_7 => ?_)
        refine lv_istore_n (lv' := [(3, .int (zI (x_7))), (2, .int (zI (x_6))), (0, .ref h0), (1, .int (zI (k)))]) hx hb dX0_xOfPoint_39 rfl hl (by decide) rfl (fun ls hl => ?_)
        refine lv_goto (tgt := 6) hx hb dX0_xOfPoint_40 (by decide) ?_
        have hn_6 : 0 ≤ x_6 ∧ x_6 ≤ X ∧ (x_7 = 4096 ∨ x_7 = 2048 ∨ x_7 = 1024 ∨ x_7 = 512 ∨ x_7 = 256 ∨ x_7 = 128 ∨ x_7 = 64 ∨ x_7 = 32 ∨ x_7 = 16 ∨ x_7 = 8 ∨ x_7 = 4 ∨ x_7 = 2 ∨ x_7 = 1 ∨ x_7 = 0) ∧ (x_7 = 0 → x_6 = X) ∧ (0 < x_7 → X < x_6 + 2 * x_7) := by
          omega
        have hm_6 : (x_7).toNat < (sc).toNat := by
          omega
        exact ih_6 (x_6, x_7) hn_6 hm_6 _ _ _ hP hS (lv_sub hl [0, 1, 2, 3] rfl)

set_option maxHeartbeats 4000000 in
set_option maxRecDepth 100000 in
theorem kX0_coefficient (l : Launch) (dC : Nat → ClassId) (dI : Nat → Nat → Nat) (h0 q1 q2 q3 : Nat) (c1 c2 c3 : ClassId) (p a b n : Int) (g1 g2 g3 : Int → Int) (k : Int) (hp : 5 ≤ p ∧ p ≤ 4093) (hrk : -2147483648 ≤ k ∧ k < 2147483648) : Met l yX0_coefficient wsX0_coefficient ({ frames := 0, cells := 0, slots := 0, locals := 0 }) (zPc (dC, dI) (ww0 h0 q1 q2 q3 c1 c2 c3 p a b n g1 g2 g3) (tt0 c1 c2 c3) [.ref h0, .int (zI (k))]) (zQi (zI (gs_aCoef p a b k))) 0 0 zNo := by
  refine Met.ofW (cc := cX0_coefficient) (maxL := 2) (ret := (some .int)) (by decide) rfl ?_
  intro pp e s m args below meth c s₁ B hml hv
  obtain ⟨rfl, hP, hK⟩ := hv
  have hx := B.exec
  have hb := B.bytes
  have hr := B.returns
  have hts := atoms_spec (ws := wsX0_coefficient) B.pre
  have hown : s.vm.findClass RX0 = some m.cls := findClass_of_methodNamed B.named
  have hlocks := B.notSynchronized
  have hin0 : ∀ w ∈ u_ws RX0 TX0 7, w ∈ wsX0_coefficient := by decide +kernel
  have hf31 := hts (.fieldLink RX0 31 "CurveDesk" "prime" "I") (by decide +kernel)
  have hf35 := hts (.fieldLink RX0 35 "CurveDesk" "a" "I") (by decide +kernel)
  have hf38 := hts (.fieldLink RX0 38 "CurveDesk" "b" "I") (by decide +kernel)
  have hS : va_S (fun _ => False) s.heap s.heap [] := va_S.rf
  have hl := lv_entry ([.ref h0, .int (zI (k))]) (n := 2) (Nat.le_of_ble_eq_true rfl)
  rw [lg_entry_eq]
  generalize (lg_sl ([.ref h0, .int (zI (k))]) ++ List.replicate (2 - (lg_sl ([.ref h0, .int (zI (k))])).length) Slot.unset).toArray = ls at hl ⊢
  have hl : lv_has ls 2 [(0, .ref h0), (1, .int (zI (k)))] := hl
  skip
  refine lv_iload_n hx hb dX0_coefficient_0 rfl (lv_at hl 1 rfl) ?_
  rcases (show k = 0 ∨ k = 1 ∨ k = 2 ∨ (k < 0 ∨ 2 < k) by omega) with hs_1 | hs_1 | hs_1 | hs_1
  · refine zz_tableIn (tgt := 28) 0 hx hb dX0_coefficient_1 hs_1 (by decide) (by decide) rfl (by decide) ?_
    refine lv_aload_n hx hb dX0_coefficient_28 rfl (lv_at hl 0 rfl) ?_
    refine va_get (D := (dC, dI)) (ci := 0) (v := .int (zI (p))) (C := RX0) (T := TX0) (N := 7) hx hb hts hin0 hown hK hP 0 rfl rfl 0 (by decide) hf31 (fun _ h9 => h9) rfl dX0_coefficient_29 ?_
    have hpost : (p : Int) = gs_aCoef p a b k := by
      unfold gs_aCoef
      rw [if_pos (by omega)]
    exact W.iret (v := zI (p)) hx hb hr (fun t ht hW => ⟨⟨_, (), rfl, congrArg zI hpost, trivial⟩, hS.F ht⟩) hS.2.2 dX0_coefficient_32
  · refine zz_tableIn (tgt := 33) 1 hx hb dX0_coefficient_1 hs_1 (by decide) (by decide) rfl (by decide) ?_
    refine lv_aload_n hx hb dX0_coefficient_33 rfl (lv_at hl 0 rfl) ?_
    refine va_get (D := (dC, dI)) (ci := 0) (v := .int (zI (a))) (C := RX0) (T := TX0) (N := 7) hx hb hts hin0 hown hK hP 0 rfl rfl 1 (by decide) hf35 (fun _ h9 => h9) rfl dX0_coefficient_34 ?_
    have hpost : (a : Int) = gs_aCoef p a b k := by
      unfold gs_aCoef
      rw [if_neg (by omega), if_pos (by omega)]
    exact W.iret (v := zI (a)) hx hb hr (fun t ht hW => ⟨⟨_, (), rfl, congrArg zI hpost, trivial⟩, hS.F ht⟩) hS.2.2 dX0_coefficient_37
  · refine zz_tableIn (tgt := 38) 2 hx hb dX0_coefficient_1 hs_1 (by decide) (by decide) rfl (by decide) ?_
    refine lv_aload_n hx hb dX0_coefficient_38 rfl (lv_at hl 0 rfl) ?_
    refine va_get (D := (dC, dI)) (ci := 0) (v := .int (zI (b))) (C := RX0) (T := TX0) (N := 7) hx hb hts hin0 hown hK hP 0 rfl rfl 2 (by decide) hf38 (fun _ h9 => h9) rfl dX0_coefficient_39 ?_
    have hpost : (b : Int) = gs_aCoef p a b k := by
      unfold gs_aCoef
      rw [if_neg (by omega), if_neg (by omega), if_pos (by omega)]
    exact W.iret (v := zI (b)) hx hb hr (fun t ht hW => ⟨⟨_, (), rfl, congrArg zI hpost, trivial⟩, hS.F ht⟩) hS.2.2 dX0_coefficient_42
  · refine zz_tableOut (tgt := 43) hx hb dX0_coefficient_1 (by omega) hs_1 (by decide) ?_
    refine lv_iconst (v := zI (-1)) hx hb dX0_coefficient_43 rfl ?_
    have hpost : ((-1) : Int) = gs_aCoef p a b k := by
      unfold gs_aCoef
      rw [if_neg (by omega), if_neg (by omega), if_neg (by omega)]
    exact W.iret (v := zI ((-1))) hx hb hr (fun t ht hW => ⟨⟨_, (), rfl, congrArg zI hpost, trivial⟩, hS.F ht⟩) hS.2.2 dX0_coefficient_44

set_option maxHeartbeats 4000000 in
set_option maxRecDepth 100000 in
theorem kX0_count (l : Launch) (dC : Nat → ClassId) (dI : Nat → Nat → Nat) (h0 q1 q2 q3 : Nat) (c1 c2 c3 : ClassId) (p a b n : Int) (g1 g2 g3 : Int → Int)   : Met l yX0_count wsX0_count ({ frames := 0, cells := 0, slots := 0, locals := 0 }) (zPc (dC, dI) (ww0 h0 q1 q2 q3 c1 c2 c3 p a b n g1 g2 g3) (tt0 c1 c2 c3) [.ref h0]) (zQi (zI (n))) 0 0 zNo := by
  refine Met.ofW (cc := cX0_count) (maxL := 1) (ret := (some .int)) (by decide) rfl ?_
  intro pp e s m args below meth c s₁ B hml hv
  obtain ⟨rfl, hP, hK⟩ := hv
  have hx := B.exec
  have hb := B.bytes
  have hr := B.returns
  have hts := atoms_spec (ws := wsX0_count) B.pre
  have hown : s.vm.findClass RX0 = some m.cls := findClass_of_methodNamed B.named
  have hlocks := B.notSynchronized
  have hin0 : ∀ w ∈ u_ws RX0 TX0 7, w ∈ wsX0_count := by decide +kernel
  have hf41 := hts (.fieldLink RX0 41 "CurveDesk" "count" "I") (by decide +kernel)
  have hS : va_S (fun _ => False) s.heap s.heap [] := va_S.rf
  have hl := lv_entry ([.ref h0]) (n := 1) (Nat.le_of_ble_eq_true rfl)
  rw [lg_entry_eq]
  generalize (lg_sl ([.ref h0]) ++ List.replicate (1 - (lg_sl ([.ref h0])).length) Slot.unset).toArray = ls at hl ⊢
  have hl : lv_has ls 1 [(0, .ref h0)] := hl
  skip
  refine lv_aload_n hx hb dX0_count_0 rfl (lv_at hl 0 rfl) ?_
  refine va_get (D := (dC, dI)) (ci := 0) (v := .int (zI (n))) (C := RX0) (T := TX0) (N := 7) hx hb hts hin0 hown hK hP 0 rfl rfl 3 (by decide) hf41 (fun _ h9 => h9) rfl dX0_count_1 ?_
  have hpost : (n : Int) = n := by
    rfl
  exact W.iret (v := zI (n)) hx hb hr (fun t ht hW => ⟨⟨_, (), rfl, congrArg zI hpost, trivial⟩, hS.F ht⟩) hS.2.2 dX0_count_4

set_option maxHeartbeats 4000000 in
set_option maxRecDepth 100000 in
theorem kX0_trace (l : Launch) (dC : Nat → ClassId) (dI : Nat → Nat → Nat) (h0 q1 q2 q3 : Nat) (c1 c2 c3 : ClassId) (p a b n : Int) (g1 g2 g3 : Int → Int) (k : Int) (hp : 5 ≤ p ∧ p ≤ 4093) (hn : 1 ≤ n ∧ n ≤ 8187) (hrk : -2147483648 ≤ k ∧ k < 2147483648) : Met l yX0_trace wsX0_trace ({ frames := 1, cells := 0, slots := 0, locals := 22 }) (zPc (dC, dI) (ww0 h0 q1 q2 q3 c1 c2 c3 p a b n g1 g2 g3) (tt0 c1 c2 c3) [.ref h0, .int (zI (k))]) (zQi (zI ((if 2 ≤ k ∧ k ≤ 1000 then (p + 1 - n) % k else -1)))) 0 0 zNo := by
  refine Met.ofW (cc := cX0_trace) (maxL := 2) (ret := (some .int)) (by decide) rfl ?_
  intro pp e s m args below meth c s₁ B hml hv
  obtain ⟨rfl, hP, hK⟩ := hv
  have hx := B.exec
  have hb := B.bytes
  have hr := B.returns
  have hts := atoms_spec (ws := wsX0_trace) B.pre
  have hown : s.vm.findClass RX0 = some m.cls := findClass_of_methodNamed B.named
  have hlocks := B.notSynchronized
  have hin0 : ∀ w ∈ u_ws RX0 TX0 7, w ∈ wsX0_trace := by decide +kernel
  have hf31 := hts (.fieldLink RX0 31 "CurveDesk" "prime" "I") (by decide +kernel)
  have hf41 := hts (.fieldLink RX0 41 "CurveDesk" "count" "I") (by decide +kernel)
  have hS : va_S (fun _ => False) s.heap s.heap [] := va_S.rf
  have hl := lv_entry ([.ref h0, .int (zI (k))]) (n := 2) (Nat.le_of_ble_eq_true rfl)
  rw [lg_entry_eq]
  generalize (lg_sl ([.ref h0, .int (zI (k))]) ++ List.replicate (2 - (lg_sl ([.ref h0, .int (zI (k))])).length) Slot.unset).toArray = ls at hl ⊢
  have hl : lv_has ls 2 [(0, .ref h0), (1, .int (zI (k)))] := hl
  skip
  refine lv_iload_n hx hb dX0_trace_0 rfl (lv_at hl 1 rfl) ?_
  refine lv_iconst (v := zI 2) hx hb dX0_trace_1 rfl ?_
  refine zz_icmp_lt (tgt := 12) hx hb dX0_trace_2 (by decide) (by omega) ⟨by decide, by decide⟩ (fun hc_1 => ?_) (fun hc_1 => ?_)
  · refine lv_iconst (v := zI (-1)) hx hb dX0_trace_12 rfl ?_
    have hpost : ((-1) : Int) = (if 2 ≤ k ∧ k ≤ 1000 then (p + 1 - n) % k else -1) := by
      rw [if_neg (by omega)]
    exact W.iret (v := zI ((-1))) hx hb hr (fun t ht hW => ⟨⟨_, (), rfl, congrArg zI hpost, trivial⟩, hS.F ht⟩) hS.2.2 dX0_trace_13
  · refine lv_iload_n hx hb dX0_trace_5 rfl (lv_at hl 1 rfl) ?_
    refine lv_sipush (v := zI 1000) hx hb dX0_trace_6 (by decide +kernel) ?_
    refine zz_icmp_le (tgt := 14) hx hb dX0_trace_9 (by decide) (by omega) ⟨by decide, by decide⟩ (fun hc_2 => ?_) (fun hc_2 => ?_)
    · refine lv_aload_n hx hb dX0_trace_14 rfl (lv_at hl 0 rfl) ?_
      refine va_get (D := (dC, dI)) (ci := 0) (v := .int (zI (p))) (C := RX0) (T := TX0) (N := 7) hx hb hts hin0 hown hK hP 0 rfl rfl 0 (by decide) hf31 (fun _ h9 => h9) rfl dX0_trace_15 ?_
      refine lv_iconst (v := zI 1) hx hb dX0_trace_18 rfl ?_
      refine zz_iadd hx hb dX0_trace_19 ?_
      refine lv_aload_n hx hb dX0_trace_20 rfl (lv_at hl 0 rfl) ?_
      refine va_get (D := (dC, dI)) (ci := 0) (v := .int (zI (n))) (C := RX0) (T := TX0) (N := 7) hx hb hts hin0 hown hK hP 0 rfl rfl 3 (by decide) hf41 (fun _ h9 => h9) rfl dX0_trace_21 ?_
      refine zz_isub hx hb dX0_trace_24 ?_
      refine lv_iload_n hx hb dX0_trace_25 rfl (lv_at hl 1 rfl) ?_
      refine zz_callS [.int (zI ((p + 1) - n)), .int (zI (k))] [] ⟨hx, hb, hml, hown, hts⟩ (kJ9_floorMod_7cf53 l ((p + 1) - n) k (by omega) (by omega)) (va_cwS 2 hts gX0_trace_J9_floorMod_7cf53 rfl rfl rfl (by decide +kernel) ⟨Nat.le_of_ble_eq_true rfl, Nat.le_of_ble_eq_true rfl⟩) hP hS rfl hl.1 rfl (Nat.le_of_ble_eq_true rfl) dX0_trace_26 ⟨Nat.le_of_ble_eq_true rfl, Nat.le_of_ble_eq_true rfl⟩ (fun H locs hP hS => ?_)
      have hpost : (((p + 1) - n) % k : Int) = (if 2 ≤ k ∧ k ≤ 1000 then (p + 1 - n) % k else -1) := by
        rw [if_pos (by omega)]
      exact W.iret (v := zI (((p + 1) - n) % k)) hx hb hr (fun t ht hW => ⟨⟨_, (), rfl, congrArg zI hpost, trivial⟩, hS.F ht⟩) hS.2.2 dX0_trace_29
    · refine lv_iconst (v := zI (-1)) hx hb dX0_trace_12 rfl ?_
      have hpost : ((-1) : Int) = (if 2 ≤ k ∧ k ≤ 1000 then (p + 1 - n) % k else -1) := by
        rw [if_neg (by omega)]
      exact W.iret (v := zI ((-1))) hx hb hr (fun t ht hW => ⟨⟨_, (), rfl, congrArg zI hpost, trivial⟩, hS.F ht⟩) hS.2.2 dX0_trace_13

set_option maxHeartbeats 4000000 in
set_option maxRecDepth 100000 in
theorem kX0_roots (l : Launch) (dC : Nat → ClassId) (dI : Nat → Nat → Nat) (h0 q1 q2 q3 : Nat) (c1 c2 c3 : ClassId) (p a b n : Int) (g1 g2 g3 : Int → Int) (x : Int) (hp : 5 ≤ p ∧ p ≤ 4093) (hrx : -2147483648 ≤ x ∧ x < 2147483648) : Met l yX0_roots wsX0_roots ({ frames := 1, cells := 0, slots := 0, locals := 21 }) (zPc (dC, dI) (ww0 h0 q1 q2 q3 c1 c2 c3 p a b n g1 g2 g3) (tt0 c1 c2 c3) [.ref h0, .int (zI (x))]) (zQi (zI ((if 0 ≤ x ∧ x < p then g2 (x + 1) - g2 x else -1)))) 0 0 zNo := by
  refine Met.ofW (cc := cX0_roots) (maxL := 2) (ret := (some .int)) (by decide) rfl ?_
  intro pp e s m args below meth c s₁ B hml hv
  obtain ⟨rfl, hP, hK⟩ := hv
  have hx := B.exec
  have hb := B.bytes
  have hr := B.returns
  have hts := atoms_spec (ws := wsX0_roots) B.pre
  have hown : s.vm.findClass RX0 = some m.cls := findClass_of_methodNamed B.named
  have hlocks := B.notSynchronized
  have hin0 : ∀ w ∈ u_ws RX0 TX0 7, w ∈ wsX0_roots := by decide +kernel
  have hf13 := hts (.fieldLink RX0 13 "CurveDesk" "pointsBefore" "[I") (by decide +kernel)
  have hS : va_S (fun _ => False) s.heap s.heap [] := va_S.rf
  have hl := lv_entry ([.ref h0, .int (zI (x))]) (n := 2) (Nat.le_of_ble_eq_true rfl)
  rw [lg_entry_eq]
  generalize (lg_sl ([.ref h0, .int (zI (x))]) ++ List.replicate (2 - (lg_sl ([.ref h0, .int (zI (x))])).length) Slot.unset).toArray = ls at hl ⊢
  have hl : lv_has ls 2 [(0, .ref h0), (1, .int (zI (x)))] := hl
  skip
  refine lv_aload_n hx hb dX0_roots_0 rfl (lv_at hl 0 rfl) ?_
  refine lv_iload_n hx hb dX0_roots_1 rfl (lv_at hl 1 rfl) ?_
  refine zz_callV h0 [.int (zI (x))] [] ⟨hx, hb, hml, hown, hts⟩ (kX0_isNumber l dC dI h0 q1 q2 q3 c1 c2 c3 p a b n g1 g2 g3 x (by omega) (by omega)) (cwV 1 hts gX0_roots_X0_isNumber rfl rfl rfl (by decide +kernel) ⟨Nat.le_of_ble_eq_true rfl, Nat.le_of_ble_eq_true rfl⟩) hK hP 0 rfl rfl rfl hP hS rfl hl.1 rfl (Nat.le_of_ble_eq_true rfl) dX0_roots_2 ⟨Nat.le_of_ble_eq_true rfl, Nat.le_of_ble_eq_true rfl⟩ (fun H locs hP hS => ?_)
  refine zz_if_ne (tgt := 10) hx hb dX0_roots_5 (by decide) (by have hzb := zB_r (0 ≤ x ∧ x < p); omega) (fun hc_1 => ?_) (fun hc_1 => ?_)
  · have hc_1 := zB_1.mp hc_1
    refine lv_aload_n hx hb dX0_roots_10 rfl (lv_at hl 0 rfl) ?_
    refine va_get (D := (dC, dI)) (ci := 0) (v := .ref q2) (C := RX0) (T := TX0) (N := 7) hx hb hts hin0 hown hK hP 0 rfl rfl 5 (by decide) hf13 (fun _ h9 => h9) rfl dX0_roots_11 ?_
    refine lv_iload_n hx hb dX0_roots_14 rfl (lv_at hl 1 rfl) ?_
    refine lv_iconst (v := zI 1) hx hb dX0_roots_15 rfl ?_
    refine zz_iadd hx hb dX0_roots_16 ?_
    refine zz_iald (g := g2) hx hb hK hP 2 1 rfl rfl (by omega) dX0_roots_17 ?_
    refine lv_aload_n hx hb dX0_roots_18 rfl (lv_at hl 0 rfl) ?_
    refine va_get (D := (dC, dI)) (ci := 0) (v := .ref q2) (C := RX0) (T := TX0) (N := 7) hx hb hts hin0 hown hK hP 0 rfl rfl 5 (by decide) hf13 (fun _ h9 => h9) rfl dX0_roots_19 ?_
    refine lv_iload_n hx hb dX0_roots_22 rfl (lv_at hl 1 rfl) ?_
    refine zz_iald (g := g2) hx hb hK hP 2 1 rfl rfl (by omega) dX0_roots_23 ?_
    refine zz_isub hx hb dX0_roots_24 ?_
    have hpost : ((g2 (x + 1)) - (g2 x) : Int) = (if 0 ≤ x ∧ x < p then g2 (x + 1) - g2 x else -1) := by
      rw [if_pos (by omega)]
    exact W.iret (v := zI ((g2 (x + 1)) - (g2 x))) hx hb hr (fun t ht hW => ⟨⟨_, (), rfl, congrArg zI hpost, trivial⟩, hS.F ht⟩) hS.2.2 dX0_roots_25
  · have hc_1 := zB_0.mp hc_1
    refine lv_iconst (v := zI (-1)) hx hb dX0_roots_8 rfl ?_
    have hpost : ((-1) : Int) = (if 0 ≤ x ∧ x < p then g2 (x + 1) - g2 x else -1) := by
      rw [if_neg (by omega)]
    exact W.iret (v := zI ((-1))) hx hb hr (fun t ht hW => ⟨⟨_, (), rfl, congrArg zI hpost, trivial⟩, hS.F ht⟩) hS.2.2 dX0_roots_9

set_option maxHeartbeats 4000000 in
set_option maxRecDepth 100000 in
theorem kX0_point (l : Launch) (dC : Nat → ClassId) (dI : Nat → Nat → Nat) (h0 q1 q2 q3 : Nat) (c1 c2 c3 : ClassId) (p a b n : Int) (g1 g2 g3 : Int → Int) (k : Int) (hst : gs_st p a b n g1 g2) (hrk : -2147483648 ≤ k ∧ k < 2147483648) : Met l yX0_point wsX0_point ({ frames := 3, cells := 0, slots := 0, locals := 64 }) (zPc (dC, dI) (ww0 h0 q1 q2 q3 c1 c2 c3 p a b n g1 g2 g3) (tt0 c1 c2 c3) [.ref h0, .int (zI (k))]) (zQi (zI (gs_aPoint p a b k))) 0 0 zNo := by
  obtain ⟨hcv, hnn, hlr, hpb⟩ := id hst
  obtain ⟨hp1, hp2, hpp, ha, hbb, hdd⟩ := id hcv
  have hp : 5 ≤ p ∧ p ≤ 4093 := ⟨hp1, hp2⟩
  have hnl : 1 ≤ n ∧ n ≤ 2 * p + 1 := by rw [hnn]; exact gs_nLe hp hpp
  refine Met.ofW (cc := cX0_point) (maxL := 4) (ret := (some .int)) (by decide) rfl ?_
  intro pp e s m args below meth c s₁ B hml hv
  obtain ⟨rfl, hP, hK⟩ := hv
  have hx := B.exec
  have hb := B.bytes
  have hr := B.returns
  have hts := atoms_spec (ws := wsX0_point) B.pre
  have hown : s.vm.findClass RX0 = some m.cls := findClass_of_methodNamed B.named
  have hlocks := B.notSynchronized
  have hin0 : ∀ w ∈ u_ws RX0 TX0 7, w ∈ wsX0_point := by decide +kernel
  have hf9 := hts (.fieldLink RX0 9 "CurveDesk" "lesserRoot" "[I") (by decide +kernel)
  have hf13 := hts (.fieldLink RX0 13 "CurveDesk" "pointsBefore" "[I") (by decide +kernel)
  have hf31 := hts (.fieldLink RX0 31 "CurveDesk" "prime" "I") (by decide +kernel)
  have hf41 := hts (.fieldLink RX0 41 "CurveDesk" "count" "I") (by decide +kernel)
  have hS : va_S (fun _ => False) s.heap s.heap [] := va_S.rf
  have hl := lv_entry ([.ref h0, .int (zI (k))]) (n := 4) (Nat.le_of_ble_eq_true rfl)
  rw [lg_entry_eq]
  generalize (lg_sl ([.ref h0, .int (zI (k))]) ++ List.replicate (4 - (lg_sl ([.ref h0, .int (zI (k))])).length) Slot.unset).toArray = ls at hl ⊢
  have hl : lv_has ls 4 [(0, .ref h0), (1, .int (zI (k)))] := hl
  skip
  refine lv_iload_n hx hb dX0_point_0 rfl (lv_at hl 1 rfl) ?_
  refine zz_if_lt (tgt := 12) hx hb dX0_point_1 (by decide) (by omega) (fun hc_1 => ?_) (fun hc_1 => ?_)
  · refine lv_bipush (v := zI (-2)) hx hb dX0_point_12 (by decide +kernel) ?_
    have hpost : ((-2) : Int) = gs_aPoint p a b k := by
      unfold gs_aPoint
      rw [if_neg (by omega)]
    exact W.iret (v := zI ((-2))) hx hb hr (fun t ht hW => ⟨⟨_, (), rfl, congrArg zI hpost, trivial⟩, hS.F ht⟩) hS.2.2 dX0_point_14
  · refine lv_iload_n hx hb dX0_point_4 rfl (lv_at hl 1 rfl) ?_
    refine lv_aload_n hx hb dX0_point_5 rfl (lv_at hl 0 rfl) ?_
    refine va_get (D := (dC, dI)) (ci := 0) (v := .int (zI (n))) (C := RX0) (T := TX0) (N := 7) hx hb hts hin0 hown hK hP 0 rfl rfl 3 (by decide) hf41 (fun _ h9 => h9) rfl dX0_point_6 ?_
    refine zz_icmp_lt (tgt := 15) hx hb dX0_point_9 (by decide) (by omega) (by omega) (fun hc_2 => ?_) (fun hc_2 => ?_)
    · refine lv_iload_n hx hb dX0_point_15 rfl (lv_at hl 1 rfl) ?_
      refine lv_aload_n hx hb dX0_point_16 rfl (lv_at hl 0 rfl) ?_
      refine va_get (D := (dC, dI)) (ci := 0) (v := .int (zI (n))) (C := RX0) (T := TX0) (N := 7) hx hb hts hin0 hown hK hP 0 rfl rfl 3 (by decide) hf41 (fun _ h9 => h9) rfl dX0_point_17 ?_
      refine lv_iconst (v := zI 1) hx hb dX0_point_20 rfl ?_
      refine zz_isub hx hb dX0_point_21 ?_
      refine zz_icmp_ne (tgt := 27) hx hb dX0_point_22 (by decide) (by omega) (by omega) (fun hc_3 => ?_) (fun hc_3 => ?_)
      · obtain ⟨X, hX⟩ := gs_pbFind hpb (by omega) hnn (k := k) (by omega)
        refine lv_aload_n hx hb dX0_point_27 rfl (lv_at hl 0 rfl) ?_
        refine lv_iload_n hx hb dX0_point_28 rfl (lv_at hl 1 rfl) ?_
        refine zz_callV h0 [.int (zI (k))] [] ⟨hx, hb, hml, hown, hts⟩ (kX0_xOfPoint l dC dI h0 q1 q2 q3 c1 c2 c3 p a b n g1 g2 g3 k hp hpp (by omega) hpb X hX) (cwV 1 hts gX0_point_X0_xOfPoint rfl rfl rfl (by decide +kernel) ⟨Nat.le_of_ble_eq_true rfl, Nat.le_of_ble_eq_true rfl⟩) hK hP 0 rfl rfl rfl hP hS rfl hl.1 rfl (Nat.le_of_ble_eq_true rfl) dX0_point_29 ⟨Nat.le_of_ble_eq_true rfl, Nat.le_of_ble_eq_true rfl⟩ (fun H locs hP hS => ?_)
        refine lv_istore_n (lv' := [(2, .int (zI (X))), (0, .ref h0), (1, .int (zI (k)))]) hx hb dX0_point_32 rfl hl (by decide) rfl (fun ls hl => ?_)
        have h3 := zz_md (v := gs_rhs a b X) (p := p) (by omega)
        refine lv_aload_n hx hb dX0_point_33 rfl (lv_at hl 1 rfl) ?_
        refine va_get (D := (dC, dI)) (ci := 0) (v := .ref q1) (C := RX0) (T := TX0) (N := 7) hx hb hts hin0 hown hK hP 0 rfl rfl 4 (by decide) hf9 (fun _ h9 => h9) rfl dX0_point_34 ?_
        refine lv_aload_n hx hb dX0_point_37 rfl (lv_at hl 1 rfl) ?_
        refine lv_iload_n hx hb dX0_point_38 rfl (lv_at hl 0 rfl) ?_
        refine zz_callV h0 [.int (zI (X))] [.ref q1] ⟨hx, hb, hml, hown, hts⟩ (kX0_rightSide l dC dI h0 q1 q2 q3 c1 c2 c3 p a b n g1 g2 g3 X (by omega) (by omega) (by omega) (by omega)) (cwV 1 hts gX0_point_X0_rightSide rfl rfl rfl (by decide +kernel) ⟨Nat.le_of_ble_eq_true rfl, Nat.le_of_ble_eq_true rfl⟩) hK hP 0 rfl rfl rfl hP hS rfl hl.1 rfl (Nat.le_of_ble_eq_true rfl) dX0_point_39 ⟨Nat.le_of_ble_eq_true rfl, Nat.le_of_ble_eq_true rfl⟩ (fun H locs hP hS => ?_)
        refine zz_iald (g := g1) hx hb hK hP 1 0 rfl rfl (by omega) dX0_point_42 ?_
        refine zz_topi (fun py epy => ?_)
        refine lv_istore_n (lv' := [(3, .int (zI (py))), (2, .int (zI (X))), (0, .ref h0), (1, .int (zI (k)))]) hx hb dX0_point_43 rfl hl (by decide) rfl (fun ls hl => ?_)
        refine lv_iload_n hx hb dX0_point_44 rfl (lv_at hl 3 rfl) ?_
        refine lv_aload_n hx hb dX0_point_45 rfl (lv_at hl 2 rfl) ?_
        refine va_get (D := (dC, dI)) (ci := 0) (v := .ref q2) (C := RX0) (T := TX0) (N := 7) hx hb hts hin0 hown hK hP 0 rfl rfl 5 (by decide) hf13 (fun _ h9 => h9) rfl dX0_point_46 ?_
        refine lv_iload_n hx hb dX0_point_49 rfl (lv_at hl 1 rfl) ?_
        refine zz_iald (g := g2) hx hb hK hP 2 1 rfl rfl (by omega) dX0_point_50 ?_
        have hb2 := gs_pbLe hpb hp hpp (x := X) (by omega)
        refine zz_icmp_ne (tgt := 62) hx hb dX0_point_51 (by decide) (by omega) (by omega) (fun hc_4 => ?_) (fun hc_4 => ?_)
        · refine lv_iload_n hx hb dX0_point_62 rfl (lv_at hl 1 rfl) ?_
          refine lv_aload_n hx hb dX0_point_63 rfl (lv_at hl 2 rfl) ?_
          refine va_get (D := (dC, dI)) (ci := 0) (v := .int (zI (p))) (C := RX0) (T := TX0) (N := 7) hx hb hts hin0 hown hK hP 0 rfl rfl 0 (by decide) hf31 (fun _ h9 => h9) rfl dX0_point_64 ?_
          refine lv_iload_n hx hb dX0_point_67 rfl (lv_at hl 0 rfl) ?_
          refine zz_isub hx hb dX0_point_68 ?_
          refine zz_callS [.int (zI (X)), .int (zI (p - py))] [] ⟨hx, hb, hml, hown, hts⟩ (kX0_pack l X (p - py) (by omega)) (va_cwS 2 hts gX0_point_X0_pack rfl rfl rfl (by decide +kernel) ⟨Nat.le_of_ble_eq_true rfl, Nat.le_of_ble_eq_true rfl⟩) hP hS rfl hl.1 rfl (Nat.le_of_ble_eq_true rfl) dX0_point_69 ⟨Nat.le_of_ble_eq_true rfl, Nat.le_of_ble_eq_true rfl⟩ (fun H locs hP hS => ?_)
          have hpost : (X * 4096 + (p - py) : Int) = gs_aPoint p a b k := by
            rw [gs_pointEq hst (by omega) (by omega) hX.2.2.1 hX.2.2.2, if_neg (by omega), epy]
          exact W.iret (v := zI (X * 4096 + (p - py))) hx hb hr (fun t ht hW => ⟨⟨_, (), rfl, congrArg zI hpost, trivial⟩, hS.F ht⟩) hS.2.2 dX0_point_72
        · refine lv_iload_n hx hb dX0_point_54 rfl (lv_at hl 1 rfl) ?_
          refine lv_iload_n hx hb dX0_point_55 rfl (lv_at hl 0 rfl) ?_
          refine zz_callS [.int (zI (X)), .int (zI (py))] [] ⟨hx, hb, hml, hown, hts⟩ (kX0_pack l X py (by omega)) (va_cwS 2 hts gX0_point_X0_pack rfl rfl rfl (by decide +kernel) ⟨Nat.le_of_ble_eq_true rfl, Nat.le_of_ble_eq_true rfl⟩) hP hS rfl hl.1 rfl (Nat.le_of_ble_eq_true rfl) dX0_point_56 ⟨Nat.le_of_ble_eq_true rfl, Nat.le_of_ble_eq_true rfl⟩ (fun H locs hP hS => ?_)
          refine lv_goto (tgt := 72) hx hb dX0_point_59 (by decide) ?_
          have hpost : (X * 4096 + py : Int) = gs_aPoint p a b k := by
            rw [gs_pointEq hst (by omega) (by omega) hX.2.2.1 hX.2.2.2, if_pos (by omega), epy]
          exact W.iret (v := zI (X * 4096 + py)) hx hb hr (fun t ht hW => ⟨⟨_, (), rfl, congrArg zI hpost, trivial⟩, hS.F ht⟩) hS.2.2 dX0_point_72
      · refine lv_iconst (v := zI (-1)) hx hb dX0_point_25 rfl ?_
        have hpost : ((-1) : Int) = gs_aPoint p a b k := by
          rw [show k = gs_n p a b - 1 by omega]
          exact (gs_pointLast hp).symm
        exact W.iret (v := zI ((-1))) hx hb hr (fun t ht hW => ⟨⟨_, (), rfl, congrArg zI hpost, trivial⟩, hS.F ht⟩) hS.2.2 dX0_point_26
    · refine lv_bipush (v := zI (-2)) hx hb dX0_point_12 (by decide +kernel) ?_
      have hpost : ((-2) : Int) = gs_aPoint p a b k := by
        unfold gs_aPoint
        rw [if_neg (by omega)]
      exact W.iret (v := zI ((-2))) hx hb hr (fun t ht hW => ⟨⟨_, (), rfl, congrArg zI hpost, trivial⟩, hS.F ht⟩) hS.2.2 dX0_point_14

set_option maxHeartbeats 4000000 in
set_option maxRecDepth 100000 in
theorem kX0_on (l : Launch) (dC : Nat → ClassId) (dI : Nat → Nat → Nat) (h0 q1 q2 q3 : Nat) (c1 c2 c3 : ClassId) (p a b n : Int) (g1 g2 g3 : Int → Int) (u : Int) (hp : 5 ≤ p ∧ p ≤ 4093) (ha : 0 ≤ a ∧ a < p) (hbb : 0 ≤ b ∧ b < p) (hru : -2147483648 ≤ u ∧ u < 2147483648) : Met l yX0_on wsX0_on ({ frames := 4, cells := 0, slots := 0, locals := 87 }) (zPc (dC, dI) (ww0 h0 q1 q2 q3 c1 c2 c3 p a b n g1 g2 g3) (tt0 c1 c2 c3) [.ref h0, .int (zI (u))]) (zQi (zI (zB (gs_ok p a b u)))) 0 0 zNo := by
  refine Met.ofW (cc := cX0_on) (maxL := 2) (ret := (some .boolean)) (by decide) rfl ?_
  intro pp e s m args below meth c s₁ B hml hv
  obtain ⟨rfl, hP, hK⟩ := hv
  have hx := B.exec
  have hb := B.bytes
  have hr := B.returns
  have hts := atoms_spec (ws := wsX0_on) B.pre
  have hown : s.vm.findClass RX0 = some m.cls := findClass_of_methodNamed B.named
  have hlocks := B.notSynchronized
  have hS : va_S (fun _ => False) s.heap s.heap [] := va_S.rf
  have hl := lv_entry ([.ref h0, .int (zI (u))]) (n := 2) (Nat.le_of_ble_eq_true rfl)
  rw [lg_entry_eq]
  generalize (lg_sl ([.ref h0, .int (zI (u))]) ++ List.replicate (2 - (lg_sl ([.ref h0, .int (zI (u))])).length) Slot.unset).toArray = ls at hl ⊢
  have hl : lv_has ls 2 [(0, .ref h0), (1, .int (zI (u)))] := hl
  skip
  refine lv_aload_n hx hb dX0_on_0 rfl (lv_at hl 0 rfl) ?_
  refine lv_iload_n hx hb dX0_on_1 rfl (lv_at hl 1 rfl) ?_
  refine zz_callV h0 [.int (zI (u))] [] ⟨hx, hb, hml, hown, hts⟩ (kX0_isPoint l dC dI h0 q1 q2 q3 c1 c2 c3 p a b n g1 g2 g3 u (by omega) (by omega) (by omega) (by omega)) (cwV 1 hts gX0_on_X0_isPoint rfl rfl rfl (by decide +kernel) ⟨Nat.le_of_ble_eq_true rfl, Nat.le_of_ble_eq_true rfl⟩) hK hP 0 rfl rfl rfl hP hS rfl hl.1 rfl (Nat.le_of_ble_eq_true rfl) dX0_on_2 ⟨Nat.le_of_ble_eq_true rfl, Nat.le_of_ble_eq_true rfl⟩ (fun H locs hP hS => ?_)
  have hpost : (zB (gs_ok p a b u) : Int) = zB (gs_ok p a b u) := by
    rfl
  exact W.zret (v := zI (zB (gs_ok p a b u))) hx hb hr (zB_nar (gs_ok p a b u)) (fun t ht hW => ⟨⟨_, (), rfl, congrArg zI hpost, trivial⟩, hS.F ht⟩) hS.2.2 dX0_on_5

set_option maxHeartbeats 4000000 in
set_option maxRecDepth 100000 in
theorem kX0_add (l : Launch) (dC : Nat → ClassId) (dI : Nat → Nat → Nat) (h0 q1 q2 q3 : Nat) (c1 c2 c3 : ClassId) (p a b n : Int) (g1 g2 g3 : Int → Int) (u : Int) (w : Int) (hcv : gs_cv p a b) (hru : -2147483648 ≤ u ∧ u < 2147483648) (hrw : -2147483648 ≤ w ∧ w < 2147483648) : Met l yX0_add wsX0_add ({ frames := 5, cells := 0, slots := 0, locals := 116 }) (zPc (dC, dI) (ww0 h0 q1 q2 q3 c1 c2 c3 p a b n g1 g2 g3) (tt0 c1 c2 c3) [.ref h0, .int (zI (u)), .int (zI (w))]) (zQi (zI (gs_aAdd p a b u w))) 0 0 zNo := by
  obtain ⟨hp1, hp2, hpp, ha, hbb, hdd⟩ := id hcv
  have hp : 5 ≤ p ∧ p ≤ 4093 := ⟨hp1, hp2⟩
  refine Met.ofW (cc := cX0_add) (maxL := 3) (ret := (some .int)) (by decide) rfl ?_
  intro pp e s m args below meth c s₁ B hml hv
  obtain ⟨rfl, hP, hK⟩ := hv
  have hx := B.exec
  have hb := B.bytes
  have hr := B.returns
  have hts := atoms_spec (ws := wsX0_add) B.pre
  have hown : s.vm.findClass RX0 = some m.cls := findClass_of_methodNamed B.named
  have hlocks := B.notSynchronized
  have hS : va_S (fun _ => False) s.heap s.heap [] := va_S.rf
  have hl := lv_entry ([.ref h0, .int (zI (u)), .int (zI (w))]) (n := 3) (Nat.le_of_ble_eq_true rfl)
  rw [lg_entry_eq]
  generalize (lg_sl ([.ref h0, .int (zI (u)), .int (zI (w))]) ++ List.replicate (3 - (lg_sl ([.ref h0, .int (zI (u)), .int (zI (w))])).length) Slot.unset).toArray = ls at hl ⊢
  have hl : lv_has ls 3 [(0, .ref h0), (1, .int (zI (u))), (2, .int (zI (w)))] := hl
  skip
  refine lv_aload_n hx hb dX0_add_0 rfl (lv_at hl 0 rfl) ?_
  refine lv_iload_n hx hb dX0_add_1 rfl (lv_at hl 1 rfl) ?_
  refine zz_callV h0 [.int (zI (u))] [] ⟨hx, hb, hml, hown, hts⟩ (kX0_isPoint l dC dI h0 q1 q2 q3 c1 c2 c3 p a b n g1 g2 g3 u (by omega) (by omega) (by omega) (by omega)) (cwV 1 hts gX0_add_X0_isPoint rfl rfl rfl (by decide +kernel) ⟨Nat.le_of_ble_eq_true rfl, Nat.le_of_ble_eq_true rfl⟩) hK hP 0 rfl rfl rfl hP hS rfl hl.1 rfl (Nat.le_of_ble_eq_true rfl) dX0_add_2 ⟨Nat.le_of_ble_eq_true rfl, Nat.le_of_ble_eq_true rfl⟩ (fun H locs hP hS => ?_)
  refine zz_if_eq (tgt := 25) hx hb dX0_add_5 (by decide) (by have hzb := zB_r (gs_ok p a b u); omega) (fun hc_1 => ?_) (fun hc_1 => ?_)
  · have hc_1 := zB_0.mp hc_1
    have hf1 := hc_1
    refine lv_bipush (v := zI (-2)) hx hb dX0_add_25 (by decide +kernel) ?_
    have hpost : ((-2) : Int) = gs_aAdd p a b u w := by
      unfold gs_aAdd
      rw [gg_ifF (fun h => hf1 h.1)]
    exact W.iret (v := zI ((-2))) hx hb hr (fun t ht hW => ⟨⟨_, (), rfl, congrArg zI hpost, trivial⟩, hS.F ht⟩) hS.2.2 dX0_add_27
  · have hc_1 := zB_1.mp hc_1
    have ht1 := hc_1
    refine lv_aload_n hx hb dX0_add_8 rfl (lv_at hl 0 rfl) ?_
    refine lv_iload_n hx hb dX0_add_9 rfl (lv_at hl 2 rfl) ?_
    refine zz_callV h0 [.int (zI (w))] [] ⟨hx, hb, hml, hown, hts⟩ (kX0_isPoint l dC dI h0 q1 q2 q3 c1 c2 c3 p a b n g1 g2 g3 w (by omega) (by omega) (by omega) (by omega)) (cwV 1 hts gX0_add_X0_isPoint rfl rfl rfl (by decide +kernel) ⟨Nat.le_of_ble_eq_true rfl, Nat.le_of_ble_eq_true rfl⟩) hK hP 0 rfl rfl rfl hP hS rfl hl.1 rfl (Nat.le_of_ble_eq_true rfl) dX0_add_10 ⟨Nat.le_of_ble_eq_true rfl, Nat.le_of_ble_eq_true rfl⟩ (fun H locs hP hS => ?_)
    refine zz_if_eq (tgt := 25) hx hb dX0_add_13 (by decide) (by have hzb := zB_r (gs_ok p a b w); omega) (fun hc_2 => ?_) (fun hc_2 => ?_)
    · have hc_2 := zB_0.mp hc_2
      have hf2 := hc_2
      refine lv_bipush (v := zI (-2)) hx hb dX0_add_25 (by decide +kernel) ?_
      have hpost : ((-2) : Int) = gs_aAdd p a b u w := by
        unfold gs_aAdd
        rw [gg_ifF (fun h => hf2 h.2)]
      exact W.iret (v := zI ((-2))) hx hb hr (fun t ht hW => ⟨⟨_, (), rfl, congrArg zI hpost, trivial⟩, hS.F ht⟩) hS.2.2 dX0_add_27
    · have hc_2 := zB_1.mp hc_2
      have ht2 := hc_2
      refine lv_aload_n hx hb dX0_add_16 rfl (lv_at hl 0 rfl) ?_
      refine lv_iload_n hx hb dX0_add_17 rfl (lv_at hl 1 rfl) ?_
      refine lv_iload_n hx hb dX0_add_18 rfl (lv_at hl 2 rfl) ?_
      refine zz_callV h0 [.int (zI (u)), .int (zI (w))] [] ⟨hx, hb, hml, hown, hts⟩ (kX0_sum l dC dI h0 q1 q2 q3 c1 c2 c3 p a b n g1 g2 g3 u w hp ha (gs_okR ht1) (gs_okR ht2)) (cwV 2 hts gX0_add_X0_sum rfl rfl rfl (by decide +kernel) ⟨Nat.le_of_ble_eq_true rfl, Nat.le_of_ble_eq_true rfl⟩) hK hP 0 rfl rfl rfl hP hS rfl hl.1 rfl (Nat.le_of_ble_eq_true rfl) dX0_add_19 ⟨Nat.le_of_ble_eq_true rfl, Nat.le_of_ble_eq_true rfl⟩ (fun H locs hP hS => ?_)
      refine lv_goto (tgt := 27) hx hb dX0_add_22 (by decide) ?_
      have hpost : (gs_sum p a u w : Int) = gs_aAdd p a b u w := by
        unfold gs_aAdd
        rw [gg_ifT ⟨ht1, ht2⟩]
      exact W.iret (v := zI (gs_sum p a u w)) hx hb hr (fun t ht hW => ⟨⟨_, (), rfl, congrArg zI hpost, trivial⟩, hS.F ht⟩) hS.2.2 dX0_add_27

set_option maxHeartbeats 4000000 in
set_option maxRecDepth 100000 in
theorem kX0_negative (l : Launch) (dC : Nat → ClassId) (dI : Nat → Nat → Nat) (h0 q1 q2 q3 : Nat) (c1 c2 c3 : ClassId) (p a b n : Int) (g1 g2 g3 : Int → Int) (u : Int) (hcv : gs_cv p a b) (hru : -2147483648 ≤ u ∧ u < 2147483648) : Met l yX0_negative wsX0_negative ({ frames := 4, cells := 0, slots := 0, locals := 87 }) (zPc (dC, dI) (ww0 h0 q1 q2 q3 c1 c2 c3 p a b n g1 g2 g3) (tt0 c1 c2 c3) [.ref h0, .int (zI (u))]) (zQi (zI (gs_aNeg p a b u))) 0 0 zNo := by
  obtain ⟨hp1, hp2, hpp, ha, hbb, hdd⟩ := id hcv
  have hp : 5 ≤ p ∧ p ≤ 4093 := ⟨hp1, hp2⟩
  refine Met.ofW (cc := cX0_negative) (maxL := 2) (ret := (some .int)) (by decide) rfl ?_
  intro pp e s m args below meth c s₁ B hml hv
  obtain ⟨rfl, hP, hK⟩ := hv
  have hx := B.exec
  have hb := B.bytes
  have hr := B.returns
  have hts := atoms_spec (ws := wsX0_negative) B.pre
  have hown : s.vm.findClass RX0 = some m.cls := findClass_of_methodNamed B.named
  have hlocks := B.notSynchronized
  have hS : va_S (fun _ => False) s.heap s.heap [] := va_S.rf
  have hl := lv_entry ([.ref h0, .int (zI (u))]) (n := 2) (Nat.le_of_ble_eq_true rfl)
  rw [lg_entry_eq]
  generalize (lg_sl ([.ref h0, .int (zI (u))]) ++ List.replicate (2 - (lg_sl ([.ref h0, .int (zI (u))])).length) Slot.unset).toArray = ls at hl ⊢
  have hl : lv_has ls 2 [(0, .ref h0), (1, .int (zI (u)))] := hl
  skip
  refine lv_aload_n hx hb dX0_negative_0 rfl (lv_at hl 0 rfl) ?_
  refine lv_iload_n hx hb dX0_negative_1 rfl (lv_at hl 1 rfl) ?_
  refine zz_callV h0 [.int (zI (u))] [] ⟨hx, hb, hml, hown, hts⟩ (kX0_isPoint l dC dI h0 q1 q2 q3 c1 c2 c3 p a b n g1 g2 g3 u (by omega) (by omega) (by omega) (by omega)) (cwV 1 hts gX0_negative_X0_isPoint rfl rfl rfl (by decide +kernel) ⟨Nat.le_of_ble_eq_true rfl, Nat.le_of_ble_eq_true rfl⟩) hK hP 0 rfl rfl rfl hP hS rfl hl.1 rfl (Nat.le_of_ble_eq_true rfl) dX0_negative_2 ⟨Nat.le_of_ble_eq_true rfl, Nat.le_of_ble_eq_true rfl⟩ (fun H locs hP hS => ?_)
  refine zz_if_eq (tgt := 16) hx hb dX0_negative_5 (by decide) (by have hzb := zB_r (gs_ok p a b u); omega) (fun hc_1 => ?_) (fun hc_1 => ?_)
  · have hc_1 := zB_0.mp hc_1
    have hf1 := hc_1
    refine lv_bipush (v := zI (-2)) hx hb dX0_negative_16 (by decide +kernel) ?_
    have hpost : ((-2) : Int) = gs_aNeg p a b u := by
      unfold gs_aNeg
      rw [gg_ifF hf1]
    exact W.iret (v := zI ((-2))) hx hb hr (fun t ht hW => ⟨⟨_, (), rfl, congrArg zI hpost, trivial⟩, hS.F ht⟩) hS.2.2 dX0_negative_18
  · have hc_1 := zB_1.mp hc_1
    have ht1 := hc_1
    refine lv_aload_n hx hb dX0_negative_8 rfl (lv_at hl 0 rfl) ?_
    refine lv_iload_n hx hb dX0_negative_9 rfl (lv_at hl 1 rfl) ?_
    refine zz_callV h0 [.int (zI (u))] [] ⟨hx, hb, hml, hown, hts⟩ (kX0_opposite l dC dI h0 q1 q2 q3 c1 c2 c3 p a b n g1 g2 g3 u hp (gs_okR ht1)) (cwV 1 hts gX0_negative_X0_opposite rfl rfl rfl (by decide +kernel) ⟨Nat.le_of_ble_eq_true rfl, Nat.le_of_ble_eq_true rfl⟩) hK hP 0 rfl rfl rfl hP hS rfl hl.1 rfl (Nat.le_of_ble_eq_true rfl) dX0_negative_10 ⟨Nat.le_of_ble_eq_true rfl, Nat.le_of_ble_eq_true rfl⟩ (fun H locs hP hS => ?_)
    refine lv_goto (tgt := 18) hx hb dX0_negative_13 (by decide) ?_
    have hpost : (gs_opp p u : Int) = gs_aNeg p a b u := by
      unfold gs_aNeg
      rw [gg_ifT ht1]
    exact W.iret (v := zI (gs_opp p u)) hx hb hr (fun t ht hW => ⟨⟨_, (), rfl, congrArg zI hpost, trivial⟩, hS.F ht⟩) hS.2.2 dX0_negative_18

set_option maxHeartbeats 4000000 in
set_option maxRecDepth 100000 in
theorem kX0_times (l : Launch) (dC : Nat → ClassId) (dI : Nat → Nat → Nat) (h0 q1 q2 q3 : Nat) (c1 c2 c3 : ClassId) (p a b n : Int) (g1 g2 g3 : Int → Int) (k : Int) (u : Int) (hcv : gs_cv p a b) (hrk : -2147483648 ≤ k ∧ k < 2147483648) (hru : -2147483648 ≤ u ∧ u < 2147483648) : Met l yX0_times wsX0_times ({ frames := 6, cells := 0, slots := 0, locals := 143 }) (zPc (dC, dI) (ww0 h0 q1 q2 q3 c1 c2 c3 p a b n g1 g2 g3) (tt0 c1 c2 c3) [.ref h0, .int (zI (k)), .int (zI (u))]) (zQi (zI (gs_aTimes p a b k u))) 0 0 zNo := by
  obtain ⟨hp1, hp2, hpp, ha, hbb, hdd⟩ := id hcv
  have hp : 5 ≤ p ∧ p ≤ 4093 := ⟨hp1, hp2⟩
  refine Met.ofW (cc := cX0_times) (maxL := 5) (ret := (some .int)) (by decide) rfl ?_
  intro pp e s m args below meth c s₁ B hml hv
  obtain ⟨rfl, hP, hK⟩ := hv
  have hx := B.exec
  have hb := B.bytes
  have hr := B.returns
  have hts := atoms_spec (ws := wsX0_times) B.pre
  have hown : s.vm.findClass RX0 = some m.cls := findClass_of_methodNamed B.named
  have hlocks := B.notSynchronized
  have hS : va_S (fun _ => False) s.heap s.heap [] := va_S.rf
  have hl := lv_entry ([.ref h0, .int (zI (k)), .int (zI (u))]) (n := 5) (Nat.le_of_ble_eq_true rfl)
  rw [lg_entry_eq]
  generalize (lg_sl ([.ref h0, .int (zI (k)), .int (zI (u))]) ++ List.replicate (5 - (lg_sl ([.ref h0, .int (zI (k)), .int (zI (u))])).length) Slot.unset).toArray = ls at hl ⊢
  have hl : lv_has ls 5 [(0, .ref h0), (1, .int (zI (k))), (2, .int (zI (u)))] := hl
  skip
  refine lv_aload_n hx hb dX0_times_0 rfl (lv_at hl 0 rfl) ?_
  refine lv_iload_n hx hb dX0_times_1 rfl (lv_at hl 2 rfl) ?_
  refine zz_callV h0 [.int (zI (u))] [] ⟨hx, hb, hml, hown, hts⟩ (kX0_isPoint l dC dI h0 q1 q2 q3 c1 c2 c3 p a b n g1 g2 g3 u (by omega) (by omega) (by omega) (by omega)) (cwV 1 hts gX0_times_X0_isPoint rfl rfl rfl (by decide +kernel) ⟨Nat.le_of_ble_eq_true rfl, Nat.le_of_ble_eq_true rfl⟩) hK hP 0 rfl rfl rfl hP hS rfl hl.1 rfl (Nat.le_of_ble_eq_true rfl) dX0_times_2 ⟨Nat.le_of_ble_eq_true rfl, Nat.le_of_ble_eq_true rfl⟩ (fun H locs hP hS => ?_)
  refine zz_if_ne (tgt := 11) hx hb dX0_times_5 (by decide) (by have hzb := zB_r (gs_ok p a b u); omega) (fun hc_1 => ?_) (fun hc_1 => ?_)
  · have hc_1 := zB_1.mp hc_1
    have ht1 := hc_1
    refine lv_iload_n hx hb dX0_times_11 rfl (lv_at hl 1 rfl) ?_
    refine zz_i2l hx hb dX0_times_12 (by omega) ?_
    refine lv_lstore_n (lv' := [(3, .long (zL (k))), (0, .ref h0), (1, .int (zI (k))), (2, .int (zI (u)))]) hx hb dX0_times_13 rfl hl (by decide) rfl (fun ls hl => ?_)
    refine lv_lload_n hx hb dX0_times_14 rfl (lv_at hl 0 rfl) ?_
    refine lv_lconst (v := zL 0) hx hb dX0_times_15 rfl ?_
    refine zz_lcmp hx hb dX0_times_16 (by omega) (by omega) ?_
    have hq := zC_neg (a := k) (b := 0)
    refine zz_if_ge (tgt := 34) hx hb dX0_times_17 (by decide) (by have hzc := zC_r k 0; omega) (fun hc_2 => ?_) (fun hc_2 => ?_)
    · refine lv_aload_n hx hb dX0_times_34 rfl (lv_at hl 1 rfl) ?_
      refine lv_lload_n hx hb dX0_times_35 rfl (lv_at hl 0 rfl) ?_
      refine lv_iload_n hx hb dX0_times_36 rfl (lv_at hl 3 rfl) ?_
      refine zz_callV h0 [.long (zL (k)), .int (zI (u))] [] ⟨hx, hb, hml, hown, hts⟩ (kX0_multiple l dC dI h0 q1 q2 q3 c1 c2 c3 p a b n g1 g2 g3 k u hcv (by omega) ht1) (cwV 2 hts gX0_times_X0_multiple rfl rfl rfl (by decide +kernel) ⟨Nat.le_of_ble_eq_true rfl, Nat.le_of_ble_eq_true rfl⟩) hK hP 0 rfl rfl rfl hP hS rfl hl.1 rfl (Nat.le_of_ble_eq_true rfl) dX0_times_37 ⟨Nat.le_of_ble_eq_true rfl, Nat.le_of_ble_eq_true rfl⟩ (fun H locs hP hS => ?_)
      have hpost : (gs_pw p a u k.toNat : Int) = gs_aTimes p a b k u := by
        unfold gs_aTimes gs_times
        rw [gg_ifT ht1, if_pos (by omega)]
      exact W.iret (v := zI (gs_pw p a u k.toNat)) hx hb hr (fun t ht hW => ⟨⟨_, (), rfl, congrArg zI hpost, trivial⟩, hS.F ht⟩) hS.2.2 dX0_times_40
    · refine lv_aload_n hx hb dX0_times_20 rfl (lv_at hl 1 rfl) ?_
      refine lv_lload_n hx hb dX0_times_21 rfl (lv_at hl 0 rfl) ?_
      refine zz_lneg hx hb dX0_times_22 ?_
      refine lv_aload_n hx hb dX0_times_23 rfl (lv_at hl 1 rfl) ?_
      refine lv_iload_n hx hb dX0_times_24 rfl (lv_at hl 3 rfl) ?_
      refine zz_callV h0 [.int (zI (u))] [.long (zL (- k)), .ref h0] ⟨hx, hb, hml, hown, hts⟩ (kX0_opposite l dC dI h0 q1 q2 q3 c1 c2 c3 p a b n g1 g2 g3 u hp (gs_okR ht1)) (cwV 1 hts gX0_times_X0_opposite rfl rfl rfl (by decide +kernel) ⟨Nat.le_of_ble_eq_true rfl, Nat.le_of_ble_eq_true rfl⟩) hK hP 0 rfl rfl rfl hP hS rfl hl.1 rfl (Nat.le_of_ble_eq_true rfl) dX0_times_25 ⟨Nat.le_of_ble_eq_true rfl, Nat.le_of_ble_eq_true rfl⟩ (fun H locs hP hS => ?_)
      refine zz_callV h0 [.long (zL (- k)), .int (zI (gs_opp p u))] [] ⟨hx, hb, hml, hown, hts⟩ (kX0_multiple l dC dI h0 q1 q2 q3 c1 c2 c3 p a b n g1 g2 g3 (- k) (gs_opp p u) hcv (by omega) (gs_oppOkZ hcv ht1)) (cwV 2 hts gX0_times_X0_multiple rfl rfl rfl (by decide +kernel) ⟨Nat.le_of_ble_eq_true rfl, Nat.le_of_ble_eq_true rfl⟩) hK hP 0 rfl rfl rfl hP hS rfl hl.1 rfl (Nat.le_of_ble_eq_true rfl) dX0_times_28 ⟨Nat.le_of_ble_eq_true rfl, Nat.le_of_ble_eq_true rfl⟩ (fun H locs hP hS => ?_)
      refine lv_goto (tgt := 40) hx hb dX0_times_31 (by decide) ?_
      have hpost : (gs_pw p a (gs_opp p u) (- k).toNat : Int) = gs_aTimes p a b k u := by
        unfold gs_aTimes gs_times
        rw [gg_ifT ht1, if_neg (by omega)]
      exact W.iret (v := zI (gs_pw p a (gs_opp p u) (- k).toNat)) hx hb hr (fun t ht hW => ⟨⟨_, (), rfl, congrArg zI hpost, trivial⟩, hS.F ht⟩) hS.2.2 dX0_times_40
  · have hc_1 := zB_0.mp hc_1
    have hf1 := hc_1
    refine lv_bipush (v := zI (-2)) hx hb dX0_times_8 (by decide +kernel) ?_
    have hpost : ((-2) : Int) = gs_aTimes p a b k u := by
      unfold gs_aTimes
      rw [gg_ifF hf1]
    exact W.iret (v := zI ((-2))) hx hb hr (fun t ht hW => ⟨⟨_, (), rfl, congrArg zI hpost, trivial⟩, hS.F ht⟩) hS.2.2 dX0_times_10

set_option maxHeartbeats 4000000 in
set_option maxRecDepth 100000 in
theorem kX0_order (l : Launch) (dC : Nat → ClassId) (dI : Nat → Nat → Nat) (h0 q1 q2 q3 : Nat) (c1 c2 c3 : ClassId) (p a b n : Int) (g1 g2 g3 : Int → Int) (u : Int) (hcv : gs_cv p a b) (hnn : n = gs_n p a b) (hru : -2147483648 ≤ u ∧ u < 2147483648) : Met l yX0_order wsX0_order ({ frames := 6, cells := 0, slots := 0, locals := 143 }) (zPc (dC, dI) (ww0 h0 q1 q2 q3 c1 c2 c3 p a b n g1 g2 g3) (tt0 c1 c2 c3) [.ref h0, .int (zI (u))]) (zQi (zI (gs_aOrder p a b u))) 0 0 zNo := by
  obtain ⟨hp1, hp2, hpp, ha, hbb, hdd⟩ := id hcv
  have hp : 5 ≤ p ∧ p ≤ 4093 := ⟨hp1, hp2⟩
  have hnl : 1 ≤ n ∧ n ≤ 2 * p + 1 := by rw [hnn]; exact gs_nLe hp hpp
  refine Met.ofW (cc := cX0_order) (maxL := 3) (ret := (some .int)) (by decide) rfl ?_
  intro pp e s m args below meth c s₁ B hml hv
  obtain ⟨rfl, hP, hK⟩ := hv
  have hx := B.exec
  have hb := B.bytes
  have hr := B.returns
  have hts := atoms_spec (ws := wsX0_order) B.pre
  have hown : s.vm.findClass RX0 = some m.cls := findClass_of_methodNamed B.named
  have hlocks := B.notSynchronized
  have hin0 : ∀ w ∈ u_ws RX0 TX0 7, w ∈ wsX0_order := by decide +kernel
  have hf41 := hts (.fieldLink RX0 41 "CurveDesk" "count" "I") (by decide +kernel)
  have hS : va_S (fun _ => False) s.heap s.heap [] := va_S.rf
  have hl := lv_entry ([.ref h0, .int (zI (u))]) (n := 3) (Nat.le_of_ble_eq_true rfl)
  rw [lg_entry_eq]
  generalize (lg_sl ([.ref h0, .int (zI (u))]) ++ List.replicate (3 - (lg_sl ([.ref h0, .int (zI (u))])).length) Slot.unset).toArray = ls at hl ⊢
  have hl : lv_has ls 3 [(0, .ref h0), (1, .int (zI (u)))] := hl
  skip
  refine lv_aload_n hx hb dX0_order_0 rfl (lv_at hl 0 rfl) ?_
  refine lv_iload_n hx hb dX0_order_1 rfl (lv_at hl 1 rfl) ?_
  refine zz_callV h0 [.int (zI (u))] [] ⟨hx, hb, hml, hown, hts⟩ (kX0_isPoint l dC dI h0 q1 q2 q3 c1 c2 c3 p a b n g1 g2 g3 u (by omega) (by omega) (by omega) (by omega)) (cwV 1 hts gX0_order_X0_isPoint rfl rfl rfl (by decide +kernel) ⟨Nat.le_of_ble_eq_true rfl, Nat.le_of_ble_eq_true rfl⟩) hK hP 0 rfl rfl rfl hP hS rfl hl.1 rfl (Nat.le_of_ble_eq_true rfl) dX0_order_2 ⟨Nat.le_of_ble_eq_true rfl, Nat.le_of_ble_eq_true rfl⟩ (fun H locs hP hS => ?_)
  refine zz_if_ne (tgt := 11) hx hb dX0_order_5 (by decide) (by have hzb := zB_r (gs_ok p a b u); omega) (fun hc_1 => ?_) (fun hc_1 => ?_)
  · have hc_1 := zB_1.mp hc_1
    have ht1 := hc_1
    have hKo := gs_orderOk hcv ht1
    have hKn := gs_ordLe hcv ht1 hKo
    have hKd := gs_ordDvd hcv ht1 hKo
    rw [← hnn] at hKn hKd
    refine lv_iconst (v := zI 1) hx hb dX0_order_11 rfl ?_
    refine lv_istore_n (lv' := [(2, .int (zI (1))), (0, .ref h0), (1, .int (zI (u)))]) hx hb dX0_order_12 rfl hl (by decide) rfl (fun ls hl => ?_)
    have hi_13 : 1 ≤ (1 : Int) ∧ (1 : Int) ≤ n ∧ ∀ j : Nat, 0 < j → (j : Int) < (1 : Int) → (j : Int) ≠ gs_order p a u := by
      exact ⟨by omega, by omega, fun j h1 h2 => by omega⟩
    refine zz_loopR (σ := Int) (fun x => 1 ≤ x ∧ x ≤ n ∧ ∀ j : Nat, 0 < j → (j : Int) < x → (j : Int) ≠ gs_order p a u) (fun x => (n - x).toNat) (fun x => [(2, .int (zI (x))), (0, .ref h0), (1, .int (zI (u)))]) ?_ 1 hi_13 _ _ _ hP hS (lv_sub hl [0, 1, 2] rfl)
    intro x hI_13 ih_13 H locs ls hP hS hl
    clear hi_13
    obtain ⟨kc, rfl⟩ : ∃ y, y = x := ⟨_, rfl⟩
    have hI_13 : 1 ≤ kc ∧ kc ≤ n ∧ ∀ j : Nat, 0 < j → (j : Int) < kc → (j : Int) ≠ gs_order p a u := hI_13
    have hl : lv_has ls 3 [(2, .int (zI (kc))), (0, .ref h0), (1, .int (zI (u)))] := hl
    have hP : va_P (dC, dI) vwCl (ww0 h0 q1 q2 q3 c1 c2 c3 p a b n g1 g2 g3) H := hP
    obtain ⟨i1, i2, i3⟩ := hI_13
    refine lv_iload_n hx hb dX0_order_13 rfl (lv_at hl 0 rfl) ?_
    refine lv_aload_n hx hb dX0_order_14 rfl (lv_at hl 1 rfl) ?_
    refine va_get (D := (dC, dI)) (ci := 0) (v := .int (zI (n))) (C := RX0) (T := TX0) (N := 7) hx hb hts hin0 hown hK hP 0 rfl rfl 3 (by decide) hf41 (fun _ h9 => h9) rfl dX0_order_15 ?_
    refine zz_icmp_ge (tgt := 49) hx hb dX0_order_18 (by decide) (by omega) (by omega) (fun hc_2 => ?_) (fun hc_2 => ?_)
    · refine lv_aload_n hx hb dX0_order_49 rfl (lv_at hl 1 rfl) ?_
      refine va_get (D := (dC, dI)) (ci := 0) (v := .int (zI (n))) (C := RX0) (T := TX0) (N := 7) hx hb hts hin0 hown hK hP 0 rfl rfl 3 (by decide) hf41 (fun _ h9 => h9) rfl dX0_order_50 ?_
      have hpost : (n : Int) = gs_aOrder p a b u := by
        unfold gs_aOrder
        rw [gg_ifT ht1]
        rcases Int.lt_or_le (gs_order p a u) n with h | h
        · have h2 := hKo.1
          exact absurd (Int.toNat_of_nonneg (by omega)) (i3 (gs_order p a u).toNat (by omega) (by omega))
        · omega
      exact W.iret (v := zI (n)) hx hb hr (fun t ht hW => ⟨⟨_, (), rfl, congrArg zI hpost, trivial⟩, hS.F ht⟩) hS.2.2 dX0_order_53
    · refine lv_aload_n hx hb dX0_order_21 rfl (lv_at hl 1 rfl) ?_
      refine va_get (D := (dC, dI)) (ci := 0) (v := .int (zI (n))) (C := RX0) (T := TX0) (N := 7) hx hb hts hin0 hown hK hP 0 rfl rfl 3 (by decide) hf41 (fun _ h9 => h9) rfl dX0_order_22 ?_
      refine lv_iload_n hx hb dX0_order_25 rfl (lv_at hl 0 rfl) ?_
      refine zz_irem hx hb dX0_order_26 (by omega) ?_
      have h9 := zz_md (v := n) (p := kc) (by omega)
      refine zz_if_ne (tgt := 43) hx hb dX0_order_27 (by decide) (by omega) (fun hc_3 => ?_) (fun hc_3 => ?_)
      · have hd0 := hc_3
        obtain ⟨kd, ekd⟩ : ∃ y : Int, y = kc + 1 := ⟨_, rfl⟩
        refine zz_iinc (v := kd) (lv' := [(2, .int (zI (kd))), (0, .ref h0), (1, .int (zI (u)))]) hx hb dX0_order_43 hl (k := 0) rfl ekd (by decide) rfl (fun ls hl => ?_)
        refine lv_goto (tgt := 13) hx hb dX0_order_46 (by decide) ?_
        have hn_13 : 1 ≤ kd ∧ kd ≤ n ∧ ∀ j : Nat, 0 < j → (j : Int) < kd → (j : Int) ≠ gs_order p a u := by
          refine ⟨by omega, by omega, fun j h1 h2 h3 => ?_⟩
          by_cases hj : (j : Int) = kc
          · rw [← h3, hj] at hKd
            exact hd0 hKd
          · exact i3 j h1 (by omega) h3
        have hm_13 : (n - kd).toNat < (n - kc).toNat := by
          omega
        exact ih_13 kd hn_13 hm_13 _ _ _ hP hS (lv_sub hl [0, 1, 2] rfl)
      · refine lv_aload_n hx hb dX0_order_30 rfl (lv_at hl 1 rfl) ?_
        refine lv_iload_n hx hb dX0_order_31 rfl (lv_at hl 0 rfl) ?_
        refine zz_i2l hx hb dX0_order_32 (by omega) ?_
        refine lv_iload_n hx hb dX0_order_33 rfl (lv_at hl 2 rfl) ?_
        refine zz_callV h0 [.long (zL (kc)), .int (zI (u))] [] ⟨hx, hb, hml, hown, hts⟩ (kX0_multiple l dC dI h0 q1 q2 q3 c1 c2 c3 p a b n g1 g2 g3 kc u hcv (by omega) ht1) (cwV 2 hts gX0_order_X0_multiple rfl rfl rfl (by decide +kernel) ⟨Nat.le_of_ble_eq_true rfl, Nat.le_of_ble_eq_true rfl⟩) hK hP 0 rfl rfl rfl hP hS rfl hl.1 rfl (Nat.le_of_ble_eq_true rfl) dX0_order_34 ⟨Nat.le_of_ble_eq_true rfl, Nat.le_of_ble_eq_true rfl⟩ (fun H locs hP hS => ?_)
        refine lv_iconst (v := zI (-1)) hx hb dX0_order_37 rfl ?_
        have h8 := gs_okR (gs_pwOk hcv ht1 kc.toNat)
        refine zz_icmp_ne (tgt := 43) hx hb dX0_order_38 (by decide) (by omega) ⟨by decide, by decide⟩ (fun hc_4 => ?_) (fun hc_4 => ?_)
        · have hw0 := hc_4
          obtain ⟨kd, ekd⟩ : ∃ y : Int, y = kc + 1 := ⟨_, rfl⟩
          refine zz_iinc (v := kd) (lv' := [(2, .int (zI (kd))), (0, .ref h0), (1, .int (zI (u)))]) hx hb dX0_order_43 hl (k := 0) rfl ekd (by decide) rfl (fun ls hl => ?_)
          refine lv_goto (tgt := 13) hx hb dX0_order_46 (by decide) ?_
          have hn_13 : 1 ≤ kd ∧ kd ≤ n ∧ ∀ j : Nat, 0 < j → (j : Int) < kd → (j : Int) ≠ gs_order p a u := by
            refine ⟨by omega, by omega, fun j h1 h2 h3 => ?_⟩
            by_cases hj : (j : Int) = kc
            · apply hw0
              rw [← hj, h3]
              exact hKo.2.1
            · exact i3 j h1 (by omega) h3
          have hm_13 : (n - kd).toNat < (n - kc).toNat := by
            omega
          exact ih_13 kd hn_13 hm_13 _ _ _ hP hS (lv_sub hl [0, 1, 2] rfl)
        · have hw1 := hc_4
          refine lv_iload_n hx hb dX0_order_41 rfl (lv_at hl 0 rfl) ?_
          have hpost : (kc : Int) = gs_aOrder p a b u := by
            unfold gs_aOrder
            rw [gg_ifT ht1]
            exact gs_ordUniq hKo i1 hw1 i3
          exact W.iret (v := zI (kc)) hx hb hr (fun t ht hW => ⟨⟨_, (), rfl, congrArg zI hpost, trivial⟩, hS.F ht⟩) hS.2.2 dX0_order_42
  · have hc_1 := zB_0.mp hc_1
    have hf1 := hc_1
    refine lv_bipush (v := zI (-2)) hx hb dX0_order_8 (by decide +kernel) ?_
    have hpost : ((-2) : Int) = gs_aOrder p a b u := by
      unfold gs_aOrder
      rw [gg_ifF hf1]
    exact W.iret (v := zI ((-2))) hx hb hr (fun t ht hW => ⟨⟨_, (), rfl, congrArg zI hpost, trivial⟩, hS.F ht⟩) hS.2.2 dX0_order_10

set_option maxHeartbeats 4000000 in
set_option maxRecDepth 100000 in
theorem kX0_twist (l : Launch) (dC : Nat → ClassId) (dI : Nat → Nat → Nat) (h0 q1 q2 q3 : Nat) (c1 c2 c3 : ClassId) (p a b n : Int) (g1 g2 g3 : Int → Int) (g : Int) (hp : 5 ≤ p ∧ p ≤ 4093) (hlr : gs_lr p g1) (hrg : -2147483648 ≤ g ∧ g < 2147483648) : Met l yX0_twist wsX0_twist ({ frames := 0, cells := 0, slots := 0, locals := 0 }) (zPc (dC, dI) (ww0 h0 q1 q2 q3 c1 c2 c3 p a b n g1 g2 g3) (tt0 c1 c2 c3) [.ref h0, .int (zI (g))]) (zQi (zI ((if 1 ≤ g ∧ g < p then (if g1 g = -1 then 2 * p + 2 - n else n) else -1)))) 0 0 zNo := by
  refine Met.ofW (cc := cX0_twist) (maxL := 2) (ret := (some .int)) (by decide) rfl ?_
  intro pp e s m args below meth c s₁ B hml hv
  obtain ⟨rfl, hP, hK⟩ := hv
  have hx := B.exec
  have hb := B.bytes
  have hr := B.returns
  have hts := atoms_spec (ws := wsX0_twist) B.pre
  have hown : s.vm.findClass RX0 = some m.cls := findClass_of_methodNamed B.named
  have hlocks := B.notSynchronized
  have hin0 : ∀ w ∈ u_ws RX0 TX0 7, w ∈ wsX0_twist := by decide +kernel
  have hf9 := hts (.fieldLink RX0 9 "CurveDesk" "lesserRoot" "[I") (by decide +kernel)
  have hf31 := hts (.fieldLink RX0 31 "CurveDesk" "prime" "I") (by decide +kernel)
  have hf41 := hts (.fieldLink RX0 41 "CurveDesk" "count" "I") (by decide +kernel)
  have hS : va_S (fun _ => False) s.heap s.heap [] := va_S.rf
  have hl := lv_entry ([.ref h0, .int (zI (g))]) (n := 2) (Nat.le_of_ble_eq_true rfl)
  rw [lg_entry_eq]
  generalize (lg_sl ([.ref h0, .int (zI (g))]) ++ List.replicate (2 - (lg_sl ([.ref h0, .int (zI (g))])).length) Slot.unset).toArray = ls at hl ⊢
  have hl : lv_has ls 2 [(0, .ref h0), (1, .int (zI (g)))] := hl
  skip
  refine lv_iload_n hx hb dX0_twist_0 rfl (lv_at hl 1 rfl) ?_
  refine lv_iconst (v := zI 1) hx hb dX0_twist_1 rfl ?_
  refine zz_icmp_lt (tgt := 13) hx hb dX0_twist_2 (by decide) (by omega) ⟨by decide, by decide⟩ (fun hc_1 => ?_) (fun hc_1 => ?_)
  · refine lv_iconst (v := zI (-1)) hx hb dX0_twist_13 rfl ?_
    have hpost : ((-1) : Int) = (if 1 ≤ g ∧ g < p then (if g1 g = -1 then 2 * p + 2 - n else n) else -1) := by
      rw [if_neg (by omega)]
    exact W.iret (v := zI ((-1))) hx hb hr (fun t ht hW => ⟨⟨_, (), rfl, congrArg zI hpost, trivial⟩, hS.F ht⟩) hS.2.2 dX0_twist_14
  · refine lv_iload_n hx hb dX0_twist_5 rfl (lv_at hl 1 rfl) ?_
    refine lv_aload_n hx hb dX0_twist_6 rfl (lv_at hl 0 rfl) ?_
    refine va_get (D := (dC, dI)) (ci := 0) (v := .int (zI (p))) (C := RX0) (T := TX0) (N := 7) hx hb hts hin0 hown hK hP 0 rfl rfl 0 (by decide) hf31 (fun _ h9 => h9) rfl dX0_twist_7 ?_
    refine zz_icmp_lt (tgt := 15) hx hb dX0_twist_10 (by decide) (by omega) (by omega) (fun hc_2 => ?_) (fun hc_2 => ?_)
    · refine lv_aload_n hx hb dX0_twist_15 rfl (lv_at hl 0 rfl) ?_
      refine va_get (D := (dC, dI)) (ci := 0) (v := .ref q1) (C := RX0) (T := TX0) (N := 7) hx hb hts hin0 hown hK hP 0 rfl rfl 4 (by decide) hf9 (fun _ h9 => h9) rfl dX0_twist_16 ?_
      refine lv_iload_n hx hb dX0_twist_19 rfl (lv_at hl 1 rfl) ?_
      refine zz_iald (g := g1) hx hb hK hP 1 0 rfl rfl (by omega) dX0_twist_20 ?_
      refine lv_iconst (v := zI (-1)) hx hb dX0_twist_21 rfl ?_
      have hgr : -1 ≤ g1 g ∧ g1 g < p := by
        rcases hlr g (by omega) (by omega) with h | h <;> omega
      refine zz_icmp_eq (tgt := 32) hx hb dX0_twist_22 (by decide) (by omega) ⟨by decide, by decide⟩ (fun hc_3 => ?_) (fun hc_3 => ?_)
      · refine lv_iconst (v := zI 2) hx hb dX0_twist_32 rfl ?_
        refine lv_aload_n hx hb dX0_twist_33 rfl (lv_at hl 0 rfl) ?_
        refine va_get (D := (dC, dI)) (ci := 0) (v := .int (zI (p))) (C := RX0) (T := TX0) (N := 7) hx hb hts hin0 hown hK hP 0 rfl rfl 0 (by decide) hf31 (fun _ h9 => h9) rfl dX0_twist_34 ?_
        refine zz_imul hx hb dX0_twist_37 ?_
        refine lv_iconst (v := zI 2) hx hb dX0_twist_38 rfl ?_
        refine zz_iadd hx hb dX0_twist_39 ?_
        refine lv_aload_n hx hb dX0_twist_40 rfl (lv_at hl 0 rfl) ?_
        refine va_get (D := (dC, dI)) (ci := 0) (v := .int (zI (n))) (C := RX0) (T := TX0) (N := 7) hx hb hts hin0 hown hK hP 0 rfl rfl 3 (by decide) hf41 (fun _ h9 => h9) rfl dX0_twist_41 ?_
        refine zz_isub hx hb dX0_twist_44 ?_
        have hpost : (((2 * p) + 2) - n : Int) = (if 1 ≤ g ∧ g < p then (if g1 g = -1 then 2 * p + 2 - n else n) else -1) := by
          rw [if_pos (by omega), if_pos (by omega)]
        exact W.iret (v := zI (((2 * p) + 2) - n)) hx hb hr (fun t ht hW => ⟨⟨_, (), rfl, congrArg zI hpost, trivial⟩, hS.F ht⟩) hS.2.2 dX0_twist_45
      · refine lv_aload_n hx hb dX0_twist_25 rfl (lv_at hl 0 rfl) ?_
        refine va_get (D := (dC, dI)) (ci := 0) (v := .int (zI (n))) (C := RX0) (T := TX0) (N := 7) hx hb hts hin0 hown hK hP 0 rfl rfl 3 (by decide) hf41 (fun _ h9 => h9) rfl dX0_twist_26 ?_
        refine lv_goto (tgt := 45) hx hb dX0_twist_29 (by decide) ?_
        have hpost : (n : Int) = (if 1 ≤ g ∧ g < p then (if g1 g = -1 then 2 * p + 2 - n else n) else -1) := by
          rw [if_pos (by omega), if_neg (by omega)]
        exact W.iret (v := zI (n)) hx hb hr (fun t ht hW => ⟨⟨_, (), rfl, congrArg zI hpost, trivial⟩, hS.F ht⟩) hS.2.2 dX0_twist_45
    · refine lv_iconst (v := zI (-1)) hx hb dX0_twist_13 rfl ?_
      have hpost : ((-1) : Int) = (if 1 ≤ g ∧ g < p then (if g1 g = -1 then 2 * p + 2 - n else n) else -1) := by
        rw [if_neg (by omega)]
      exact W.iret (v := zI ((-1))) hx hb hr (fun t ht hW => ⟨⟨_, (), rfl, congrArg zI hpost, trivial⟩, hS.F ht⟩) hS.2.2 dX0_twist_14
