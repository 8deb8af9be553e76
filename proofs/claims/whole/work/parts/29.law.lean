section
theorem gs_rootsEq {p a b x : Int} {g2 : Int → Int} (h : gs_pb p a b g2) : (if 0 ≤ x ∧ x < p then g2 (x + 1) - g2 x else -1) = gs_aRoots p a b x := by
  unfold gs_aRoots
  by_cases hx : 0 ≤ x ∧ x < p
  · rw [if_pos hx, if_pos hx]
    have e1 := h x.toNat (by omega)
    have e2 := h (x + 1).toNat (by omega)
    rw [Int.toNat_of_nonneg hx.1] at e1
    rw [Int.toNat_of_nonneg (by omega), gs_preSz hx.1] at e2
    omega
  · rw [if_neg hx, if_neg hx]
theorem gs_curEq {ra rb : Int32} {vp va vb p a b : Int} {u w : Int × Int × Int} (h1 : gs_curP rb vp va vb p a b w) (h2 : gs_curP ra vp va vb p a b u) : w = u := by
  by_cases h : gs_aCurve vp va vb = 0
  · rw [h1.2.1 h, h2.2.1 h]
  · rw [h1.2.2 h, h2.2.2 h]
end
section
variable {p : Program} {l : Launch} {e : Env} {R : Room} {s : State} {m : MethodId} {args : Array Value} {below : List Frame} {meth : Method} {c : Code} {H : Heap} {locs : List Loc} {cells slots : Nat} {Q : State → Prop}
variable {cc : ByteArray} {pc : Nat} {ls : Array Slot} {rest : List Value} {A : Nat → Prop} {H0 : Heap}
theorem zz_cast {x : Int32} (a : Int) (h : x = zI a) (k : W p l e R s m args below meth c H locs cells slots Q (F0 m pc ls (.int (zI a) :: rest))) : W p l e R s m args below meth c H locs cells slots Q (F0 m pc ls (.int x :: rest)) := by
  subst h
  exact k
theorem zz_sld (hexec : p.tables.exec = Jvm.exec) (hb : c.code = cc) {b L : Nat} {xs : Nat → Int32} (hX : va_X b L xs s H0) (hbl : b < H0.size) (hbA : ¬ A b) (hS : va_S A H0 H locs) {i : Int} (v : Int) (hv : v = (xs i.toNat).toInt) (hi : 0 ≤ i ∧ i < L ∧ i < 2147483648) (hdg : decode cc pc = .ok (.iaload, 1))
    (kk : W p l e R s m args below meth c H locs cells slots Q (F0 m (pc + 1) ls (.int (zI v) :: rest))) : W p l e R s m args below meth c H locs cells slots Q (F0 m pc ls (.int (zI i) :: .ref b :: rest)) := by
  refine va_sld hexec hb hX hbl hbA hS (zI_in ⟨hi.1, hi.2.2⟩ hi.2.1) hdg ?_
  refine zz_cast v ?_ kk
  rw [zI_clamp ⟨hi.1, hi.2.2⟩, hv]
  exact zI_of _
end
set_option maxHeartbeats 4000000 in
set_option maxRecDepth 100000 in
/-- THE LAW'S LOOP -/
theorem law_loop {pp : Program} {l : Launch} {e : Env} {s : State} {m : MethodId} {below : List Frame} {meth : Method} {c : Code} {dC : Nat → ClassId} {dI : Nat → Nat → Nat} {sb L : Nat} {xs : Nat → Int32} (hL : L ≤ 2048) (C0 : lw_At pp s m meth c sb L xs) (h0 q1 q2 q3 k0 r1 r2 : Nat) (c1 c2 c3 d1 d2 : ClassId) (hK0 : va_K (dC, dI) vwCl (tt0 c1 c2 c3) s) (hK1 : va_K (dC, dI) vwCl (tt1 d1 d2) s) :
    ∀ zs : Int × (Int × Int × Int × Int) × (Int → Int) × (Int → Int) × (Int → Int) × (Int → Int) × (Int → Int), (0 ≤ zs.1 ∧ zs.1 ≤ 2052 ∧ gs_st zs.2.1.1 zs.2.1.2.1 zs.2.1.2.2.1 zs.2.1.2.2.2 zs.2.2.1 zs.2.2.2.1) → ∀ (H : Heap) (locs : List Loc) (ls : Array Slot), va_P (dC, dI) vwCl (ww0 h0 q1 q2 q3 c1 c2 c3 zs.2.1.1 zs.2.1.2.1 zs.2.1.2.2.1 zs.2.1.2.2.2 zs.2.2.1 zs.2.2.2.1 zs.2.2.2.2.1 ++ ww1 k0 r1 r2 d1 d2 zs.2.1.1 zs.2.1.2.1 zs.2.1.2.2.1 zs.2.2.2.2.2.1 zs.2.2.2.2.2.2) H → va_D (fun q : Nat => s.heap.size ≤ q) (ww0 h0 q1 q2 q3 c1 c2 c3 zs.2.1.1 zs.2.1.2.1 zs.2.1.2.2.1 zs.2.1.2.2.2 zs.2.2.1 zs.2.2.2.1 zs.2.2.2.2.1 ++ ww1 k0 r1 r2 d1 d2 zs.2.1.1 zs.2.1.2.1 zs.2.1.2.2.1 zs.2.2.2.2.2.1 zs.2.2.2.2.2.2) → va_S (fun q : Nat => s.heap.size ≤ q) s.heap H locs → lv_has ls 4 [(3, .int (zI zs.1)), (2, .ref k0), (1, .ref h0), (0, .ref sb)] → W pp l e room_1 s m #[Value.ref sb] below meth c H locs 7 12384 (lw_Z below #[Value.ref sb] s) (F0 m 18 ls []) := by
  obtain ⟨hx, hb, hr, hml, hown0, hts0, hX, hbl, hlocks, hgv⟩ := C0
  have hts : ∀ w ∈ wsL_law, w.before #[Value.ref sb] s = true := fun w h => hts0 w (wsL_law_in w h)
  have hown : s.vm.findClass RL = some m.cls := hown0
  have hA : ∀ q : Nat, s.heap.size ≤ q → (fun q : Nat => s.heap.size ≤ q) q := fun _ h => h
  have hbA : ¬ (fun q : Nat => s.heap.size ≤ q) sb := Nat.not_le.mpr hbl
  refine zz_loopW (σ := Int × (Int × Int × Int × Int) × (Int → Int) × (Int → Int) × (Int → Int) × (Int → Int) × (Int → Int)) (fun zs => 0 ≤ zs.1 ∧ zs.1 ≤ 2052 ∧ gs_st zs.2.1.1 zs.2.1.2.1 zs.2.1.2.2.1 zs.2.1.2.2.2 zs.2.2.1 zs.2.2.2.1) (fun zs => (2052 - zs.1).toNat) (fun zs => [(3, .int (zI zs.1)), (2, .ref k0), (1, .ref h0), (0, .ref sb)]) (fun zs => (ww0 h0 q1 q2 q3 c1 c2 c3 zs.2.1.1 zs.2.1.2.1 zs.2.1.2.2.1 zs.2.1.2.2.2 zs.2.2.1 zs.2.2.2.1 zs.2.2.2.2.1 ++ ww1 k0 r1 r2 d1 d2 zs.2.1.1 zs.2.1.2.1 zs.2.1.2.2.1 zs.2.2.2.2.2.1 zs.2.2.2.2.2.2)) ?_
  intro zs hI ih H locs ls hP hD hS hl
  obtain ⟨i, ⟨p, a, b, n⟩, g1, g2, g3, s1, s2⟩ := zs
  have hI : 0 ≤ i ∧ i ≤ 2052 ∧ gs_st p a b n g1 g2 := hI
  have hl : lv_has ls 4 [(3, .int (zI i)), (2, .ref k0), (1, .ref h0), (0, .ref sb)] := hl
  have hP : va_P (dC, dI) vwCl (ww0 h0 q1 q2 q3 c1 c2 c3 p a b n g1 g2 g3 ++ ww1 k0 r1 r2 d1 d2 p a b s1 s2) H := hP
  have hD : va_D (fun q : Nat => s.heap.size ≤ q) (ww0 h0 q1 q2 q3 c1 c2 c3 p a b n g1 g2 g3 ++ ww1 k0 r1 r2 d1 d2 p a b s1 s2) := hD
  obtain ⟨hi0, hi1, hst⟩ := hI
  obtain ⟨hcv, hnn, hlr, hpb⟩ := id hst
  obtain ⟨hp1, hp2, hpp, ha, hbb, hdd⟩ := id hcv
  have hp : 5 ≤ p ∧ p ≤ 4093 := ⟨hp1, hp2⟩
  have hnl : 1 ≤ n ∧ n ≤ 2 * p + 1 := by rw [hnn]; exact gs_nLe hp hpp
  refine lv_iload_n hx hb dL_law_18 rfl (lv_at hl 0 rfl) ?_
  refine lv_aload_n hx hb dL_law_19 rfl (lv_at hl 3 rfl) ?_
  refine va_slen hx hb hX hbl hbA hS dL_law_20 ?_
  refine zz_cast (L : Int) (zI_nI L) ?_
  refine lv_iconst (v := zI 4) hx hb dL_law_21 rfl ?_
  refine zz_isub hx hb dL_law_22 ?_
  refine zz_icmp_gt (tgt := 445) hx hb dL_law_23 (by decide) (by omega) (by omega) (fun hc => ?_) (fun hc => ?_)
  · refine lv_iconst (v := 1) hx hb dL_law_445 (by decide) ?_
    refine va_forget (fun q hq => hS.2.2 q hq) ?_
    exact lw_ret hx hb hr hlocks dL_law_446
  obtain ⟨v0, ev0⟩ : ∃ z : Int, z = (xs i.toNat).toInt := ⟨_, rfl⟩
  obtain ⟨v1, ev1⟩ : ∃ z : Int, z = (xs (i + 1).toNat).toInt := ⟨_, rfl⟩
  obtain ⟨v2, ev2⟩ : ∃ z : Int, z = (xs (i + 2).toNat).toInt := ⟨_, rfl⟩
  obtain ⟨v3, ev3⟩ : ∃ z : Int, z = (xs (i + 3).toNat).toInt := ⟨_, rfl⟩
  have hr1 : -2147483648 ≤ v1 ∧ v1 < 2147483648 := by rw [ev1]; exact zI_rng _
  have hr2 : -2147483648 ≤ v2 ∧ v2 < 2147483648 := by rw [ev2]; exact zI_rng _
  have hr3 : -2147483648 ≤ v3 ∧ v3 < 2147483648 := by rw [ev3]; exact zI_rng _
  refine lv_aload_n hx hb dL_law_26 rfl (lv_at hl 3 rfl) ?_
  refine lv_iload_n hx hb dL_law_27 rfl (lv_at hl 0 rfl) ?_
  refine zz_sld hx hb hX hbl hbA hS v0 ev0 (by omega) dL_law_28 ?_
  refine lv_bipush (v := zI 15) hx hb dL_law_29 (by decide +kernel) ?_
  refine lv_iand hx hb dL_law_31 ?_
  obtain ⟨j, hj, ej⟩ := pk_andE (zI v0) (m := zI 15) 4 (by decide +kernel)
  refine zz_cast (j : Int) (by rw [ej]; exact zI_nI j) ?_
  rcases (show (j : Int) = 0 ∨ (j : Int) = 1 ∨ (j : Int) = 2 ∨ (j : Int) = 3 ∨ (j : Int) = 4 ∨ (j : Int) = 5 ∨ (j : Int) = 6 ∨ (j : Int) = 7 ∨ (j : Int) = 8 ∨ (j : Int) = 9 ∨ (j : Int) = 10 ∨ (j : Int) = 11 ∨ (j : Int) = 12 ∨ ((j : Int) < 0 ∨ 12 < (j : Int)) by omega) with hs | hs | hs | hs | hs | hs | hs | hs | hs | hs | hs | hs | hs | hs
  · refine zz_tableIn (tgt := 100) 0 hx hb dL_law_32 hs (by decide) (by decide) rfl (by decide) ?_
    refine lv_aload_n hx hb dL_law_100 rfl (lv_at hl 2 rfl) ?_
    refine lv_aload_n hx hb dL_law_101 rfl (lv_at hl 3 rfl) ?_
    refine lv_iload_n hx hb dL_law_102 rfl (lv_at hl 0 rfl) ?_
    refine lv_iconst (v := zI 1) hx hb dL_law_103 rfl ?_
    refine zz_iadd hx hb dL_law_104 ?_
    refine zz_sld hx hb hX hbl hbA hS v1 ev1 (by omega) dL_law_105 ?_
    refine lv_aload_n hx hb dL_law_106 rfl (lv_at hl 3 rfl) ?_
    refine lv_iload_n hx hb dL_law_107 rfl (lv_at hl 0 rfl) ?_
    refine lv_iconst (v := zI 2) hx hb dL_law_108 rfl ?_
    refine zz_iadd hx hb dL_law_109 ?_
    refine zz_sld hx hb hX hbl hbA hS v2 ev2 (by omega) dL_law_110 ?_
    refine lv_aload_n hx hb dL_law_111 rfl (lv_at hl 3 rfl) ?_
    refine lv_iload_n hx hb dL_law_112 rfl (lv_at hl 0 rfl) ?_
    refine lv_iconst (v := zI 3) hx hb dL_law_113 rfl ?_
    refine zz_iadd hx hb dL_law_114 ?_
    refine zz_sld hx hb hX hbl hbA hS v3 ev3 (by omega) dL_law_115 ?_
    refine zz_callWi (wr := ww1 k0 r1 r2 d1 d2 p a b s1 s2) h0 [.int (zI v1), .int (zI v2), .int (zI v3)] [] [0, 1, 2, 3] [4, 5, 6] ⟨hx, hb, hml, hown, hts⟩ (kX0_curve l dC dI h0 q1 q2 q3 c1 c2 c3 p a b n g1 g2 g3 H.size v1 v2 v3 hst hr1 hr2 hr3) (cwV 3 hts gL_law_X0_curve rfl rfl rfl (by decide +kernel) ⟨Nat.le_of_ble_eq_true rfl, Nat.le_of_ble_eq_true rfl⟩) hK0 0 rfl rfl rfl hP hD hS hA rfl rfl (by decide) rfl (by decide) (by decide) rfl hl.1 rfl (Nat.le_of_ble_eq_true rfl) dL_law_116 ⟨Nat.le_of_ble_eq_true rfl, Nat.le_of_ble_eq_true rfl⟩ (fun ra u H locs hw hP hD hS => ?_)
    obtain ⟨⟨p2, a2, b2⟩, n2, g12, g22⟩ := u
    obtain ⟨hcu, hst2⟩ := hw
    have hcu : gs_curP ra v1 v2 v3 p a b (p2, a2, b2) := hcu
    have hst2 : gs_st p2 a2 b2 n2 g12 g22 := hst2
    have hP : va_P (dC, dI) vwCl (ww0 h0 q1 q2 q3 c1 c2 c3 p2 a2 b2 n2 g12 g22 g3 ++ ww1 k0 r1 r2 d1 d2 p a b s1 s2) H := hP.sub [3, 4, 5, 6, 0, 1, 2] rfl
    have hD : va_D (fun q : Nat => s.heap.size ≤ q) (ww0 h0 q1 q2 q3 c1 c2 c3 p2 a2 b2 n2 g12 g22 g3 ++ ww1 k0 r1 r2 d1 d2 p a b s1 s2) := hD.sub [3, 4, 5, 6, 0, 1, 2] (by decide) rfl
    refine lv_aload_n hx hb dL_law_119 rfl (lv_at hl 1 rfl) ?_
    refine lv_aload_n hx hb dL_law_120 rfl (lv_at hl 3 rfl) ?_
    refine lv_iload_n hx hb dL_law_121 rfl (lv_at hl 0 rfl) ?_
    refine lv_iconst (v := zI 1) hx hb dL_law_122 rfl ?_
    refine zz_iadd hx hb dL_law_123 ?_
    refine zz_sld hx hb hX hbl hbA hS v1 ev1 (by omega) dL_law_124 ?_
    refine lv_aload_n hx hb dL_law_125 rfl (lv_at hl 3 rfl) ?_
    refine lv_iload_n hx hb dL_law_126 rfl (lv_at hl 0 rfl) ?_
    refine lv_iconst (v := zI 2) hx hb dL_law_127 rfl ?_
    refine zz_iadd hx hb dL_law_128 ?_
    refine zz_sld hx hb hX hbl hbA hS v2 ev2 (by omega) dL_law_129 ?_
    refine lv_aload_n hx hb dL_law_130 rfl (lv_at hl 3 rfl) ?_
    refine lv_iload_n hx hb dL_law_131 rfl (lv_at hl 0 rfl) ?_
    refine lv_iconst (v := zI 3) hx hb dL_law_132 rfl ?_
    refine zz_iadd hx hb dL_law_133 ?_
    refine zz_sld hx hb hX hbl hbA hS v3 ev3 (by omega) dL_law_134 ?_
    refine zz_callWi (wr := ww0 h0 q1 q2 q3 c1 c2 c3 p2 a2 b2 n2 g12 g22 g3) k0 [.int (zI v1), .int (zI v2), .int (zI v3)] [.int ra] [4, 5, 6] [0, 1, 2, 3] ⟨hx, hb, hml, hown, hts⟩ (kX1_curve l dC dI k0 r1 r2 d1 d2 p a b s1 s2 H.size v1 v2 v3 hr1 hr2 hr3) (cwV 3 hts gL_law_X1_curve rfl rfl rfl (by decide +kernel) ⟨Nat.le_of_ble_eq_true rfl, Nat.le_of_ble_eq_true rfl⟩) hK1 0 rfl rfl rfl hP hD hS hA rfl rfl (by decide) rfl (by decide) (by decide) rfl hl.1 rfl (Nat.le_of_ble_eq_true rfl) dL_law_135 ⟨Nat.le_of_ble_eq_true rfl, Nat.le_of_ble_eq_true rfl⟩ (fun rb w H locs hw hP hD hS => ?_)
    obtain ⟨p3, a3, b3⟩ := w
    have hw : gs_curP rb v1 v2 v3 p a b (p3, a3, b3) := hw
    have h33 : (p3, a3, b3) = (p2, a2, b2) := gs_curEq hw hcu
    obtain ⟨h31, h32⟩ := Prod.mk.inj h33
    obtain ⟨h34, h35⟩ := Prod.mk.inj h32
    subst h31
    subst h34
    subst h35
    have hP : va_P (dC, dI) vwCl (ww0 h0 q1 q2 q3 c1 c2 c3 p3 a3 b3 n2 g12 g22 g3 ++ ww1 k0 r1 r2 d1 d2 p3 a3 b3 s1 s2) H := hP
    have hD : va_D (fun q : Nat => s.heap.size ≤ q) (ww0 h0 q1 q2 q3 c1 c2 c3 p3 a3 b3 n2 g12 g22 g3 ++ ww1 k0 r1 r2 d1 d2 p3 a3 b3 s1 s2) := hD
    refine lv_icmp_eq (tgt := 439) hx hb dL_law_138 (by decide) (fun _ => ?_) (fun hne => absurd (hcu.1.trans hw.1.symm) hne)
    obtain ⟨i9, ei9⟩ : ∃ y : Int, y = i + 4 := ⟨_, rfl⟩
    refine zz_iinc (v := i9) (lv' := [(3, .int (zI i9)), (2, .ref k0), (1, .ref h0), (0, .ref sb)]) hx hb dL_law_439 hl (k := 0) rfl ei9 (by decide) rfl (fun ls hl => ?_)
    refine lv_goto (tgt := 18) hx hb dL_law_442 (by decide) ?_
    have hn9 : 0 ≤ i9 ∧ i9 ≤ 2052 := by omega
    have hm9 : (2052 - i9).toNat < (2052 - i).toNat := by omega
    exact ih (i9, (p3, a3, b3, n2), g12, g22, g3, s1, s2) ⟨hn9.1, hn9.2, hst2⟩ hm9 _ _ _ hP hD hS hl
  · refine zz_tableIn (tgt := 143) 1 hx hb dL_law_32 hs (by decide) (by decide) rfl (by decide) ?_
    refine lv_aload_n hx hb dL_law_143 rfl (lv_at hl 2 rfl) ?_
    refine lv_aload_n hx hb dL_law_144 rfl (lv_at hl 3 rfl) ?_
    refine lv_iload_n hx hb dL_law_145 rfl (lv_at hl 0 rfl) ?_
    refine lv_iconst (v := zI 1) hx hb dL_law_146 rfl ?_
    refine zz_iadd hx hb dL_law_147 ?_
    refine zz_sld hx hb hX hbl hbA hS v1 ev1 (by omega) dL_law_148 ?_
    refine zz_callV h0 [.int (zI v1)] [] ⟨hx, hb, hml, hown, hts⟩ (kX0_coefficient l dC dI h0 q1 q2 q3 c1 c2 c3 p a b n g1 g2 g3 v1 hp hr1) (cwV 1 hts gL_law_X0_coefficient rfl rfl rfl (by decide +kernel) ⟨Nat.le_of_ble_eq_true rfl, Nat.le_of_ble_eq_true rfl⟩) hK0 (hP.sub [0, 1, 2, 3] rfl) 0 rfl rfl rfl hP hS rfl hl.1 rfl (Nat.le_of_ble_eq_true rfl) dL_law_149 ⟨Nat.le_of_ble_eq_true rfl, Nat.le_of_ble_eq_true rfl⟩ (fun H locs hP hS => ?_)
    refine lv_aload_n hx hb dL_law_152 rfl (lv_at hl 1 rfl) ?_
    refine lv_aload_n hx hb dL_law_153 rfl (lv_at hl 3 rfl) ?_
    refine lv_iload_n hx hb dL_law_154 rfl (lv_at hl 0 rfl) ?_
    refine lv_iconst (v := zI 1) hx hb dL_law_155 rfl ?_
    refine zz_iadd hx hb dL_law_156 ?_
    refine zz_sld hx hb hX hbl hbA hS v1 ev1 (by omega) dL_law_157 ?_
    refine zz_callV k0 [.int (zI v1)] [.int (zI (gs_aCoef p a b v1))] ⟨hx, hb, hml, hown, hts⟩ (kX1_coefficient l dC dI k0 r1 r2 d1 d2 p a b s1 s2 v1 hp hr1) (cwV 1 hts gL_law_X1_coefficient rfl rfl rfl (by decide +kernel) ⟨Nat.le_of_ble_eq_true rfl, Nat.le_of_ble_eq_true rfl⟩) hK1 (hP.sub [4, 5, 6] rfl) 0 rfl rfl rfl hP hS rfl hl.1 rfl (Nat.le_of_ble_eq_true rfl) dL_law_158 ⟨Nat.le_of_ble_eq_true rfl, Nat.le_of_ble_eq_true rfl⟩ (fun H locs hP hS => ?_)
    refine lv_icmp_eq (tgt := 439) hx hb dL_law_161 (by decide) (fun _ => ?_) (fun hne => absurd (congrArg zI rfl) hne)
    obtain ⟨i9, ei9⟩ : ∃ y : Int, y = i + 4 := ⟨_, rfl⟩
    refine zz_iinc (v := i9) (lv' := [(3, .int (zI i9)), (2, .ref k0), (1, .ref h0), (0, .ref sb)]) hx hb dL_law_439 hl (k := 0) rfl ei9 (by decide) rfl (fun ls hl => ?_)
    refine lv_goto (tgt := 18) hx hb dL_law_442 (by decide) ?_
    have hn9 : 0 ≤ i9 ∧ i9 ≤ 2052 := by omega
    have hm9 : (2052 - i9).toNat < (2052 - i).toNat := by omega
    exact ih (i9, (p, a, b, n), g1, g2, g3, s1, s2) ⟨hn9.1, hn9.2, hst⟩ hm9 _ _ _ hP hD hS hl
  · refine zz_tableIn (tgt := 166) 2 hx hb dL_law_32 hs (by decide) (by decide) rfl (by decide) ?_
    refine lv_aload_n hx hb dL_law_166 rfl (lv_at hl 2 rfl) ?_
    refine zz_callV h0 [] [] ⟨hx, hb, hml, hown, hts⟩ (kX0_count l dC dI h0 q1 q2 q3 c1 c2 c3 p a b n g1 g2 g3  ) (cwV 0 hts gL_law_X0_count rfl rfl rfl (by decide +kernel) ⟨Nat.le_of_ble_eq_true rfl, Nat.le_of_ble_eq_true rfl⟩) hK0 (hP.sub [0, 1, 2, 3] rfl) 0 rfl rfl rfl hP hS rfl hl.1 rfl (Nat.le_of_ble_eq_true rfl) dL_law_167 ⟨Nat.le_of_ble_eq_true rfl, Nat.le_of_ble_eq_true rfl⟩ (fun H locs hP hS => ?_)
    refine lv_aload_n hx hb dL_law_170 rfl (lv_at hl 1 rfl) ?_
    refine zz_callWi (wr := ww0 h0 q1 q2 q3 c1 c2 c3 p a b n g1 g2 g3) k0 [] [.int (zI (n))] [4, 5, 6] [0, 1, 2, 3] ⟨hx, hb, hml, hown, hts⟩ (kX1_count l dC dI k0 r1 r2 d1 d2 p a b s1 s2 H.size  hp ha hbb) (cwV 0 hts gL_law_X1_count rfl rfl rfl (by decide +kernel) ⟨Nat.le_of_ble_eq_true rfl, Nat.le_of_ble_eq_true rfl⟩) hK1 0 rfl rfl rfl hP hD hS hA rfl rfl (by decide) rfl (by decide) (by decide) rfl hl.1 rfl (Nat.le_of_ble_eq_true rfl) dL_law_171 ⟨Nat.le_of_ble_eq_true rfl, Nat.le_of_ble_eq_true rfl⟩ (fun rb w H locs hw hP hD hS => ?_)
    subst hw
    have hP : va_P (dC, dI) vwCl (ww0 h0 q1 q2 q3 c1 c2 c3 p a b n g1 g2 g3 ++ ww1 k0 r1 r2 d1 d2 p a b w s2) H := hP
    have hD : va_D (fun q : Nat => s.heap.size ≤ q) (ww0 h0 q1 q2 q3 c1 c2 c3 p a b n g1 g2 g3 ++ ww1 k0 r1 r2 d1 d2 p a b w s2) := hD
    refine lv_icmp_eq (tgt := 439) hx hb dL_law_174 (by decide) (fun _ => ?_) (fun hne => absurd (congrArg zI hnn) hne)
    obtain ⟨i9, ei9⟩ : ∃ y : Int, y = i + 4 := ⟨_, rfl⟩
    refine zz_iinc (v := i9) (lv' := [(3, .int (zI i9)), (2, .ref k0), (1, .ref h0), (0, .ref sb)]) hx hb dL_law_439 hl (k := 0) rfl ei9 (by decide) rfl (fun ls hl => ?_)
    refine lv_goto (tgt := 18) hx hb dL_law_442 (by decide) ?_
    have hn9 : 0 ≤ i9 ∧ i9 ≤ 2052 := by omega
    have hm9 : (2052 - i9).toNat < (2052 - i).toNat := by omega
    exact ih (i9, (p, a, b, n), g1, g2, g3, w, s2) ⟨hn9.1, hn9.2, hst⟩ hm9 _ _ _ hP hD hS hl
  · refine zz_tableIn (tgt := 179) 3 hx hb dL_law_32 hs (by decide) (by decide) rfl (by decide) ?_
    refine lv_aload_n hx hb dL_law_179 rfl (lv_at hl 2 rfl) ?_
    refine lv_aload_n hx hb dL_law_180 rfl (lv_at hl 3 rfl) ?_
    refine lv_iload_n hx hb dL_law_181 rfl (lv_at hl 0 rfl) ?_
    refine lv_iconst (v := zI 1) hx hb dL_law_182 rfl ?_
    refine zz_iadd hx hb dL_law_183 ?_
    refine zz_sld hx hb hX hbl hbA hS v1 ev1 (by omega) dL_law_184 ?_
    refine zz_callV h0 [.int (zI v1)] [] ⟨hx, hb, hml, hown, hts⟩ (kX0_trace l dC dI h0 q1 q2 q3 c1 c2 c3 p a b n g1 g2 g3 v1 hp (by omega) hr1) (cwV 1 hts gL_law_X0_trace rfl rfl rfl (by decide +kernel) ⟨Nat.le_of_ble_eq_true rfl, Nat.le_of_ble_eq_true rfl⟩) hK0 (hP.sub [0, 1, 2, 3] rfl) 0 rfl rfl rfl hP hS rfl hl.1 rfl (Nat.le_of_ble_eq_true rfl) dL_law_185 ⟨Nat.le_of_ble_eq_true rfl, Nat.le_of_ble_eq_true rfl⟩ (fun H locs hP hS => ?_)
    refine lv_aload_n hx hb dL_law_188 rfl (lv_at hl 1 rfl) ?_
    refine lv_aload_n hx hb dL_law_189 rfl (lv_at hl 3 rfl) ?_
    refine lv_iload_n hx hb dL_law_190 rfl (lv_at hl 0 rfl) ?_
    refine lv_iconst (v := zI 1) hx hb dL_law_191 rfl ?_
    refine zz_iadd hx hb dL_law_192 ?_
    refine zz_sld hx hb hX hbl hbA hS v1 ev1 (by omega) dL_law_193 ?_
    refine zz_callWi (wr := ww0 h0 q1 q2 q3 c1 c2 c3 p a b n g1 g2 g3) k0 [.int (zI v1)] [.int (zI ((if 2 ≤ v1 ∧ v1 ≤ 1000 then (p + 1 - n) % v1 else -1)))] [4, 5, 6] [0, 1, 2, 3] ⟨hx, hb, hml, hown, hts⟩ (kX1_trace l dC dI k0 r1 r2 d1 d2 p a b s1 s2 H.size v1 hcv hr1) (cwV 1 hts gL_law_X1_trace rfl rfl rfl (by decide +kernel) ⟨Nat.le_of_ble_eq_true rfl, Nat.le_of_ble_eq_true rfl⟩) hK1 0 rfl rfl rfl hP hD hS hA rfl rfl (by decide) rfl (by decide) (by decide) rfl hl.1 rfl (Nat.le_of_ble_eq_true rfl) dL_law_194 ⟨Nat.le_of_ble_eq_true rfl, Nat.le_of_ble_eq_true rfl⟩ (fun rb w H locs hw hP hD hS => ?_)
    subst hw
    have hP : va_P (dC, dI) vwCl (ww0 h0 q1 q2 q3 c1 c2 c3 p a b n g1 g2 g3 ++ ww1 k0 r1 r2 d1 d2 p a b w s2) H := hP
    have hD : va_D (fun q : Nat => s.heap.size ≤ q) (ww0 h0 q1 q2 q3 c1 c2 c3 p a b n g1 g2 g3 ++ ww1 k0 r1 r2 d1 d2 p a b w s2) := hD
    refine lv_icmp_eq (tgt := 439) hx hb dL_law_197 (by decide) (fun _ => ?_) (fun hne => absurd (congrArg zI (by unfold gs_aTrace; rw [hnn])) hne)
    obtain ⟨i9, ei9⟩ : ∃ y : Int, y = i + 4 := ⟨_, rfl⟩
    refine zz_iinc (v := i9) (lv' := [(3, .int (zI i9)), (2, .ref k0), (1, .ref h0), (0, .ref sb)]) hx hb dL_law_439 hl (k := 0) rfl ei9 (by decide) rfl (fun ls hl => ?_)
    refine lv_goto (tgt := 18) hx hb dL_law_442 (by decide) ?_
    have hn9 : 0 ≤ i9 ∧ i9 ≤ 2052 := by omega
    have hm9 : (2052 - i9).toNat < (2052 - i).toNat := by omega
    exact ih (i9, (p, a, b, n), g1, g2, g3, w, s2) ⟨hn9.1, hn9.2, hst⟩ hm9 _ _ _ hP hD hS hl
  · refine zz_tableIn (tgt := 202) 4 hx hb dL_law_32 hs (by decide) (by decide) rfl (by decide) ?_
    refine lv_aload_n hx hb dL_law_202 rfl (lv_at hl 2 rfl) ?_
    refine lv_aload_n hx hb dL_law_203 rfl (lv_at hl 3 rfl) ?_
    refine lv_iload_n hx hb dL_law_204 rfl (lv_at hl 0 rfl) ?_
    refine lv_iconst (v := zI 1) hx hb dL_law_205 rfl ?_
    refine zz_iadd hx hb dL_law_206 ?_
    refine zz_sld hx hb hX hbl hbA hS v1 ev1 (by omega) dL_law_207 ?_
    refine zz_callV h0 [.int (zI v1)] [] ⟨hx, hb, hml, hown, hts⟩ (kX0_roots l dC dI h0 q1 q2 q3 c1 c2 c3 p a b n g1 g2 g3 v1 hp hr1) (cwV 1 hts gL_law_X0_roots rfl rfl rfl (by decide +kernel) ⟨Nat.le_of_ble_eq_true rfl, Nat.le_of_ble_eq_true rfl⟩) hK0 (hP.sub [0, 1, 2, 3] rfl) 0 rfl rfl rfl hP hS rfl hl.1 rfl (Nat.le_of_ble_eq_true rfl) dL_law_208 ⟨Nat.le_of_ble_eq_true rfl, Nat.le_of_ble_eq_true rfl⟩ (fun H locs hP hS => ?_)
    refine lv_aload_n hx hb dL_law_211 rfl (lv_at hl 1 rfl) ?_
    refine lv_aload_n hx hb dL_law_212 rfl (lv_at hl 3 rfl) ?_
    refine lv_iload_n hx hb dL_law_213 rfl (lv_at hl 0 rfl) ?_
    refine lv_iconst (v := zI 1) hx hb dL_law_214 rfl ?_
    refine zz_iadd hx hb dL_law_215 ?_
    refine zz_sld hx hb hX hbl hbA hS v1 ev1 (by omega) dL_law_216 ?_
    refine zz_callV k0 [.int (zI v1)] [.int (zI ((if 0 ≤ v1 ∧ v1 < p then g2 (v1 + 1) - g2 v1 else -1)))] ⟨hx, hb, hml, hown, hts⟩ (kX1_roots l dC dI k0 r1 r2 d1 d2 p a b s1 s2 v1 hp ha hbb hr1) (cwV 1 hts gL_law_X1_roots rfl rfl rfl (by decide +kernel) ⟨Nat.le_of_ble_eq_true rfl, Nat.le_of_ble_eq_true rfl⟩) hK1 (hP.sub [4, 5, 6] rfl) 0 rfl rfl rfl hP hS rfl hl.1 rfl (Nat.le_of_ble_eq_true rfl) dL_law_217 ⟨Nat.le_of_ble_eq_true rfl, Nat.le_of_ble_eq_true rfl⟩ (fun H locs hP hS => ?_)
    refine lv_icmp_eq (tgt := 439) hx hb dL_law_220 (by decide) (fun _ => ?_) (fun hne => absurd (congrArg zI (gs_rootsEq hpb)) hne)
    obtain ⟨i9, ei9⟩ : ∃ y : Int, y = i + 4 := ⟨_, rfl⟩
    refine zz_iinc (v := i9) (lv' := [(3, .int (zI i9)), (2, .ref k0), (1, .ref h0), (0, .ref sb)]) hx hb dL_law_439 hl (k := 0) rfl ei9 (by decide) rfl (fun ls hl => ?_)
    refine lv_goto (tgt := 18) hx hb dL_law_442 (by decide) ?_
    have hn9 : 0 ≤ i9 ∧ i9 ≤ 2052 := by omega
    have hm9 : (2052 - i9).toNat < (2052 - i).toNat := by omega
    exact ih (i9, (p, a, b, n), g1, g2, g3, s1, s2) ⟨hn9.1, hn9.2, hst⟩ hm9 _ _ _ hP hD hS hl
  · refine zz_tableIn (tgt := 225) 5 hx hb dL_law_32 hs (by decide) (by decide) rfl (by decide) ?_
    refine lv_aload_n hx hb dL_law_225 rfl (lv_at hl 2 rfl) ?_
    refine lv_aload_n hx hb dL_law_226 rfl (lv_at hl 3 rfl) ?_
    refine lv_iload_n hx hb dL_law_227 rfl (lv_at hl 0 rfl) ?_
    refine lv_iconst (v := zI 1) hx hb dL_law_228 rfl ?_
    refine zz_iadd hx hb dL_law_229 ?_
    refine zz_sld hx hb hX hbl hbA hS v1 ev1 (by omega) dL_law_230 ?_
    refine zz_callV h0 [.int (zI v1)] [] ⟨hx, hb, hml, hown, hts⟩ (kX0_point l dC dI h0 q1 q2 q3 c1 c2 c3 p a b n g1 g2 g3 v1 hst hr1) (cwV 1 hts gL_law_X0_point rfl rfl rfl (by decide +kernel) ⟨Nat.le_of_ble_eq_true rfl, Nat.le_of_ble_eq_true rfl⟩) hK0 (hP.sub [0, 1, 2, 3] rfl) 0 rfl rfl rfl hP hS rfl hl.1 rfl (Nat.le_of_ble_eq_true rfl) dL_law_231 ⟨Nat.le_of_ble_eq_true rfl, Nat.le_of_ble_eq_true rfl⟩ (fun H locs hP hS => ?_)
    refine lv_aload_n hx hb dL_law_234 rfl (lv_at hl 1 rfl) ?_
    refine lv_aload_n hx hb dL_law_235 rfl (lv_at hl 3 rfl) ?_
    refine lv_iload_n hx hb dL_law_236 rfl (lv_at hl 0 rfl) ?_
    refine lv_iconst (v := zI 1) hx hb dL_law_237 rfl ?_
    refine zz_iadd hx hb dL_law_238 ?_
    refine zz_sld hx hb hX hbl hbA hS v1 ev1 (by omega) dL_law_239 ?_
    refine zz_callWi (wr := ww0 h0 q1 q2 q3 c1 c2 c3 p a b n g1 g2 g3) k0 [.int (zI v1)] [.int (zI (gs_aPoint p a b v1))] [4, 5, 6] [0, 1, 2, 3] ⟨hx, hb, hml, hown, hts⟩ (kX1_point l dC dI k0 r1 r2 d1 d2 p a b s1 s2 H.size v1 hp ha hbb hr1) (cwV 1 hts gL_law_X1_point rfl rfl rfl (by decide +kernel) ⟨Nat.le_of_ble_eq_true rfl, Nat.le_of_ble_eq_true rfl⟩) hK1 0 rfl rfl rfl hP hD hS hA rfl rfl (by decide) rfl (by decide) (by decide) rfl hl.1 rfl (Nat.le_of_ble_eq_true rfl) dL_law_240 ⟨Nat.le_of_ble_eq_true rfl, Nat.le_of_ble_eq_true rfl⟩ (fun rb w H locs hw hP hD hS => ?_)
    subst hw
    have hP : va_P (dC, dI) vwCl (ww0 h0 q1 q2 q3 c1 c2 c3 p a b n g1 g2 g3 ++ ww1 k0 r1 r2 d1 d2 p a b w s2) H := hP
    have hD : va_D (fun q : Nat => s.heap.size ≤ q) (ww0 h0 q1 q2 q3 c1 c2 c3 p a b n g1 g2 g3 ++ ww1 k0 r1 r2 d1 d2 p a b w s2) := hD
    refine lv_icmp_eq (tgt := 439) hx hb dL_law_243 (by decide) (fun _ => ?_) (fun hne => absurd (congrArg zI rfl) hne)
    obtain ⟨i9, ei9⟩ : ∃ y : Int, y = i + 4 := ⟨_, rfl⟩
    refine zz_iinc (v := i9) (lv' := [(3, .int (zI i9)), (2, .ref k0), (1, .ref h0), (0, .ref sb)]) hx hb dL_law_439 hl (k := 0) rfl ei9 (by decide) rfl (fun ls hl => ?_)
    refine lv_goto (tgt := 18) hx hb dL_law_442 (by decide) ?_
    have hn9 : 0 ≤ i9 ∧ i9 ≤ 2052 := by omega
    have hm9 : (2052 - i9).toNat < (2052 - i).toNat := by omega
    exact ih (i9, (p, a, b, n), g1, g2, g3, w, s2) ⟨hn9.1, hn9.2, hst⟩ hm9 _ _ _ hP hD hS hl
  · refine zz_tableIn (tgt := 248) 6 hx hb dL_law_32 hs (by decide) (by decide) rfl (by decide) ?_
    refine lv_aload_n hx hb dL_law_248 rfl (lv_at hl 2 rfl) ?_
    refine lv_aload_n hx hb dL_law_249 rfl (lv_at hl 3 rfl) ?_
    refine lv_iload_n hx hb dL_law_250 rfl (lv_at hl 0 rfl) ?_
    refine lv_iconst (v := zI 1) hx hb dL_law_251 rfl ?_
    refine zz_iadd hx hb dL_law_252 ?_
    refine zz_sld hx hb hX hbl hbA hS v1 ev1 (by omega) dL_law_253 ?_
    refine zz_callV h0 [.int (zI v1)] [] ⟨hx, hb, hml, hown, hts⟩ (kX0_on l dC dI h0 q1 q2 q3 c1 c2 c3 p a b n g1 g2 g3 v1 hp ha hbb hr1) (cwV 1 hts gL_law_X0_on rfl rfl rfl (by decide +kernel) ⟨Nat.le_of_ble_eq_true rfl, Nat.le_of_ble_eq_true rfl⟩) hK0 (hP.sub [0, 1, 2, 3] rfl) 0 rfl rfl rfl hP hS rfl hl.1 rfl (Nat.le_of_ble_eq_true rfl) dL_law_254 ⟨Nat.le_of_ble_eq_true rfl, Nat.le_of_ble_eq_true rfl⟩ (fun H locs hP hS => ?_)
    refine lv_aload_n hx hb dL_law_257 rfl (lv_at hl 1 rfl) ?_
    refine lv_aload_n hx hb dL_law_258 rfl (lv_at hl 3 rfl) ?_
    refine lv_iload_n hx hb dL_law_259 rfl (lv_at hl 0 rfl) ?_
    refine lv_iconst (v := zI 1) hx hb dL_law_260 rfl ?_
    refine zz_iadd hx hb dL_law_261 ?_
    refine zz_sld hx hb hX hbl hbA hS v1 ev1 (by omega) dL_law_262 ?_
    refine zz_callV k0 [.int (zI v1)] [.int (zI (zB (gs_ok p a b v1)))] ⟨hx, hb, hml, hown, hts⟩ (kX1_on l dC dI k0 r1 r2 d1 d2 p a b s1 s2 v1 hp ha hbb hr1) (cwV 1 hts gL_law_X1_on rfl rfl rfl (by decide +kernel) ⟨Nat.le_of_ble_eq_true rfl, Nat.le_of_ble_eq_true rfl⟩) hK1 (hP.sub [4, 5, 6] rfl) 0 rfl rfl rfl hP hS rfl hl.1 rfl (Nat.le_of_ble_eq_true rfl) dL_law_263 ⟨Nat.le_of_ble_eq_true rfl, Nat.le_of_ble_eq_true rfl⟩ (fun H locs hP hS => ?_)
    refine lv_icmp_eq (tgt := 439) hx hb dL_law_266 (by decide) (fun _ => ?_) (fun hne => absurd (congrArg zI rfl) hne)
    obtain ⟨i9, ei9⟩ : ∃ y : Int, y = i + 4 := ⟨_, rfl⟩
    refine zz_iinc (v := i9) (lv' := [(3, .int (zI i9)), (2, .ref k0), (1, .ref h0), (0, .ref sb)]) hx hb dL_law_439 hl (k := 0) rfl ei9 (by decide) rfl (fun ls hl => ?_)
    refine lv_goto (tgt := 18) hx hb dL_law_442 (by decide) ?_
    have hn9 : 0 ≤ i9 ∧ i9 ≤ 2052 := by omega
    have hm9 : (2052 - i9).toNat < (2052 - i).toNat := by omega
    exact ih (i9, (p, a, b, n), g1, g2, g3, s1, s2) ⟨hn9.1, hn9.2, hst⟩ hm9 _ _ _ hP hD hS hl
  · refine zz_tableIn (tgt := 271) 7 hx hb dL_law_32 hs (by decide) (by decide) rfl (by decide) ?_
    refine lv_aload_n hx hb dL_law_271 rfl (lv_at hl 2 rfl) ?_
    refine lv_aload_n hx hb dL_law_272 rfl (lv_at hl 3 rfl) ?_
    refine lv_iload_n hx hb dL_law_273 rfl (lv_at hl 0 rfl) ?_
    refine lv_iconst (v := zI 1) hx hb dL_law_274 rfl ?_
    refine zz_iadd hx hb dL_law_275 ?_
    refine zz_sld hx hb hX hbl hbA hS v1 ev1 (by omega) dL_law_276 ?_
    refine lv_aload_n hx hb dL_law_277 rfl (lv_at hl 3 rfl) ?_
    refine lv_iload_n hx hb dL_law_278 rfl (lv_at hl 0 rfl) ?_
    refine lv_iconst (v := zI 2) hx hb dL_law_279 rfl ?_
    refine zz_iadd hx hb dL_law_280 ?_
    refine zz_sld hx hb hX hbl hbA hS v2 ev2 (by omega) dL_law_281 ?_
    refine zz_callV h0 [.int (zI v1), .int (zI v2)] [] ⟨hx, hb, hml, hown, hts⟩ (kX0_add l dC dI h0 q1 q2 q3 c1 c2 c3 p a b n g1 g2 g3 v1 v2 hcv hr1 hr2) (cwV 2 hts gL_law_X0_add rfl rfl rfl (by decide +kernel) ⟨Nat.le_of_ble_eq_true rfl, Nat.le_of_ble_eq_true rfl⟩) hK0 (hP.sub [0, 1, 2, 3] rfl) 0 rfl rfl rfl hP hS rfl hl.1 rfl (Nat.le_of_ble_eq_true rfl) dL_law_282 ⟨Nat.le_of_ble_eq_true rfl, Nat.le_of_ble_eq_true rfl⟩ (fun H locs hP hS => ?_)
    refine lv_aload_n hx hb dL_law_285 rfl (lv_at hl 1 rfl) ?_
    refine lv_aload_n hx hb dL_law_286 rfl (lv_at hl 3 rfl) ?_
    refine lv_iload_n hx hb dL_law_287 rfl (lv_at hl 0 rfl) ?_
    refine lv_iconst (v := zI 1) hx hb dL_law_288 rfl ?_
    refine zz_iadd hx hb dL_law_289 ?_
    refine zz_sld hx hb hX hbl hbA hS v1 ev1 (by omega) dL_law_290 ?_
    refine lv_aload_n hx hb dL_law_291 rfl (lv_at hl 3 rfl) ?_
    refine lv_iload_n hx hb dL_law_292 rfl (lv_at hl 0 rfl) ?_
    refine lv_iconst (v := zI 2) hx hb dL_law_293 rfl ?_
    refine zz_iadd hx hb dL_law_294 ?_
    refine zz_sld hx hb hX hbl hbA hS v2 ev2 (by omega) dL_law_295 ?_
    refine zz_callV k0 [.int (zI v1), .int (zI v2)] [.int (zI (gs_aAdd p a b v1 v2))] ⟨hx, hb, hml, hown, hts⟩ (kX1_add l dC dI k0 r1 r2 d1 d2 p a b s1 s2 v1 v2 hcv hr1 hr2) (cwV 2 hts gL_law_X1_add rfl rfl rfl (by decide +kernel) ⟨Nat.le_of_ble_eq_true rfl, Nat.le_of_ble_eq_true rfl⟩) hK1 (hP.sub [4, 5, 6] rfl) 0 rfl rfl rfl hP hS rfl hl.1 rfl (Nat.le_of_ble_eq_true rfl) dL_law_296 ⟨Nat.le_of_ble_eq_true rfl, Nat.le_of_ble_eq_true rfl⟩ (fun H locs hP hS => ?_)
    refine lv_icmp_eq (tgt := 439) hx hb dL_law_299 (by decide) (fun _ => ?_) (fun hne => absurd (congrArg zI rfl) hne)
    obtain ⟨i9, ei9⟩ : ∃ y : Int, y = i + 4 := ⟨_, rfl⟩
    refine zz_iinc (v := i9) (lv' := [(3, .int (zI i9)), (2, .ref k0), (1, .ref h0), (0, .ref sb)]) hx hb dL_law_439 hl (k := 0) rfl ei9 (by decide) rfl (fun ls hl => ?_)
    refine lv_goto (tgt := 18) hx hb dL_law_442 (by decide) ?_
    have hn9 : 0 ≤ i9 ∧ i9 ≤ 2052 := by omega
    have hm9 : (2052 - i9).toNat < (2052 - i).toNat := by omega
    exact ih (i9, (p, a, b, n), g1, g2, g3, s1, s2) ⟨hn9.1, hn9.2, hst⟩ hm9 _ _ _ hP hD hS hl
  · refine zz_tableIn (tgt := 304) 8 hx hb dL_law_32 hs (by decide) (by decide) rfl (by decide) ?_
    refine lv_aload_n hx hb dL_law_304 rfl (lv_at hl 2 rfl) ?_
    refine lv_aload_n hx hb dL_law_305 rfl (lv_at hl 3 rfl) ?_
    refine lv_iload_n hx hb dL_law_306 rfl (lv_at hl 0 rfl) ?_
    refine lv_iconst (v := zI 1) hx hb dL_law_307 rfl ?_
    refine zz_iadd hx hb dL_law_308 ?_
    refine zz_sld hx hb hX hbl hbA hS v1 ev1 (by omega) dL_law_309 ?_
    refine zz_callV h0 [.int (zI v1)] [] ⟨hx, hb, hml, hown, hts⟩ (kX0_negative l dC dI h0 q1 q2 q3 c1 c2 c3 p a b n g1 g2 g3 v1 hcv hr1) (cwV 1 hts gL_law_X0_negative rfl rfl rfl (by decide +kernel) ⟨Nat.le_of_ble_eq_true rfl, Nat.le_of_ble_eq_true rfl⟩) hK0 (hP.sub [0, 1, 2, 3] rfl) 0 rfl rfl rfl hP hS rfl hl.1 rfl (Nat.le_of_ble_eq_true rfl) dL_law_310 ⟨Nat.le_of_ble_eq_true rfl, Nat.le_of_ble_eq_true rfl⟩ (fun H locs hP hS => ?_)
    refine lv_aload_n hx hb dL_law_313 rfl (lv_at hl 1 rfl) ?_
    refine lv_aload_n hx hb dL_law_314 rfl (lv_at hl 3 rfl) ?_
    refine lv_iload_n hx hb dL_law_315 rfl (lv_at hl 0 rfl) ?_
    refine lv_iconst (v := zI 1) hx hb dL_law_316 rfl ?_
    refine zz_iadd hx hb dL_law_317 ?_
    refine zz_sld hx hb hX hbl hbA hS v1 ev1 (by omega) dL_law_318 ?_
    refine zz_callV k0 [.int (zI v1)] [.int (zI (gs_aNeg p a b v1))] ⟨hx, hb, hml, hown, hts⟩ (kX1_negative l dC dI k0 r1 r2 d1 d2 p a b s1 s2 v1 hcv hr1) (cwV 1 hts gL_law_X1_negative rfl rfl rfl (by decide +kernel) ⟨Nat.le_of_ble_eq_true rfl, Nat.le_of_ble_eq_true rfl⟩) hK1 (hP.sub [4, 5, 6] rfl) 0 rfl rfl rfl hP hS rfl hl.1 rfl (Nat.le_of_ble_eq_true rfl) dL_law_319 ⟨Nat.le_of_ble_eq_true rfl, Nat.le_of_ble_eq_true rfl⟩ (fun H locs hP hS => ?_)
    refine lv_icmp_eq (tgt := 439) hx hb dL_law_322 (by decide) (fun _ => ?_) (fun hne => absurd (congrArg zI rfl) hne)
    obtain ⟨i9, ei9⟩ : ∃ y : Int, y = i + 4 := ⟨_, rfl⟩
    refine zz_iinc (v := i9) (lv' := [(3, .int (zI i9)), (2, .ref k0), (1, .ref h0), (0, .ref sb)]) hx hb dL_law_439 hl (k := 0) rfl ei9 (by decide) rfl (fun ls hl => ?_)
    refine lv_goto (tgt := 18) hx hb dL_law_442 (by decide) ?_
    have hn9 : 0 ≤ i9 ∧ i9 ≤ 2052 := by omega
    have hm9 : (2052 - i9).toNat < (2052 - i).toNat := by omega
    exact ih (i9, (p, a, b, n), g1, g2, g3, s1, s2) ⟨hn9.1, hn9.2, hst⟩ hm9 _ _ _ hP hD hS hl
  · refine zz_tableIn (tgt := 327) 9 hx hb dL_law_32 hs (by decide) (by decide) rfl (by decide) ?_
    refine lv_aload_n hx hb dL_law_327 rfl (lv_at hl 2 rfl) ?_
    refine lv_aload_n hx hb dL_law_328 rfl (lv_at hl 3 rfl) ?_
    refine lv_iload_n hx hb dL_law_329 rfl (lv_at hl 0 rfl) ?_
    refine lv_iconst (v := zI 1) hx hb dL_law_330 rfl ?_
    refine zz_iadd hx hb dL_law_331 ?_
    refine zz_sld hx hb hX hbl hbA hS v1 ev1 (by omega) dL_law_332 ?_
    refine lv_aload_n hx hb dL_law_333 rfl (lv_at hl 3 rfl) ?_
    refine lv_iload_n hx hb dL_law_334 rfl (lv_at hl 0 rfl) ?_
    refine lv_iconst (v := zI 2) hx hb dL_law_335 rfl ?_
    refine zz_iadd hx hb dL_law_336 ?_
    refine zz_sld hx hb hX hbl hbA hS v2 ev2 (by omega) dL_law_337 ?_
    refine zz_callV h0 [.int (zI v1), .int (zI v2)] [] ⟨hx, hb, hml, hown, hts⟩ (kX0_times l dC dI h0 q1 q2 q3 c1 c2 c3 p a b n g1 g2 g3 v1 v2 hcv hr1 hr2) (cwV 2 hts gL_law_X0_times rfl rfl rfl (by decide +kernel) ⟨Nat.le_of_ble_eq_true rfl, Nat.le_of_ble_eq_true rfl⟩) hK0 (hP.sub [0, 1, 2, 3] rfl) 0 rfl rfl rfl hP hS rfl hl.1 rfl (Nat.le_of_ble_eq_true rfl) dL_law_338 ⟨Nat.le_of_ble_eq_true rfl, Nat.le_of_ble_eq_true rfl⟩ (fun H locs hP hS => ?_)
    refine lv_aload_n hx hb dL_law_341 rfl (lv_at hl 1 rfl) ?_
    refine lv_aload_n hx hb dL_law_342 rfl (lv_at hl 3 rfl) ?_
    refine lv_iload_n hx hb dL_law_343 rfl (lv_at hl 0 rfl) ?_
    refine lv_iconst (v := zI 1) hx hb dL_law_344 rfl ?_
    refine zz_iadd hx hb dL_law_345 ?_
    refine zz_sld hx hb hX hbl hbA hS v1 ev1 (by omega) dL_law_346 ?_
    refine lv_aload_n hx hb dL_law_347 rfl (lv_at hl 3 rfl) ?_
    refine lv_iload_n hx hb dL_law_348 rfl (lv_at hl 0 rfl) ?_
    refine lv_iconst (v := zI 2) hx hb dL_law_349 rfl ?_
    refine zz_iadd hx hb dL_law_350 ?_
    refine zz_sld hx hb hX hbl hbA hS v2 ev2 (by omega) dL_law_351 ?_
    refine zz_callV k0 [.int (zI v1), .int (zI v2)] [.int (zI (gs_aTimes p a b v1 v2))] ⟨hx, hb, hml, hown, hts⟩ (kX1_times l dC dI k0 r1 r2 d1 d2 p a b s1 s2 v1 v2 hcv hr1 hr2) (cwV 2 hts gL_law_X1_times rfl rfl rfl (by decide +kernel) ⟨Nat.le_of_ble_eq_true rfl, Nat.le_of_ble_eq_true rfl⟩) hK1 (hP.sub [4, 5, 6] rfl) 0 rfl rfl rfl hP hS rfl hl.1 rfl (Nat.le_of_ble_eq_true rfl) dL_law_352 ⟨Nat.le_of_ble_eq_true rfl, Nat.le_of_ble_eq_true rfl⟩ (fun H locs hP hS => ?_)
    refine lv_icmp_eq (tgt := 439) hx hb dL_law_355 (by decide) (fun _ => ?_) (fun hne => absurd (congrArg zI rfl) hne)
    obtain ⟨i9, ei9⟩ : ∃ y : Int, y = i + 4 := ⟨_, rfl⟩
    refine zz_iinc (v := i9) (lv' := [(3, .int (zI i9)), (2, .ref k0), (1, .ref h0), (0, .ref sb)]) hx hb dL_law_439 hl (k := 0) rfl ei9 (by decide) rfl (fun ls hl => ?_)
    refine lv_goto (tgt := 18) hx hb dL_law_442 (by decide) ?_
    have hn9 : 0 ≤ i9 ∧ i9 ≤ 2052 := by omega
    have hm9 : (2052 - i9).toNat < (2052 - i).toNat := by omega
    exact ih (i9, (p, a, b, n), g1, g2, g3, s1, s2) ⟨hn9.1, hn9.2, hst⟩ hm9 _ _ _ hP hD hS hl
  · refine zz_tableIn (tgt := 360) 10 hx hb dL_law_32 hs (by decide) (by decide) rfl (by decide) ?_
    refine lv_aload_n hx hb dL_law_360 rfl (lv_at hl 2 rfl) ?_
    refine lv_aload_n hx hb dL_law_361 rfl (lv_at hl 3 rfl) ?_
    refine lv_iload_n hx hb dL_law_362 rfl (lv_at hl 0 rfl) ?_
    refine lv_iconst (v := zI 1) hx hb dL_law_363 rfl ?_
    refine zz_iadd hx hb dL_law_364 ?_
    refine zz_sld hx hb hX hbl hbA hS v1 ev1 (by omega) dL_law_365 ?_
    refine zz_callV h0 [.int (zI v1)] [] ⟨hx, hb, hml, hown, hts⟩ (kX0_order l dC dI h0 q1 q2 q3 c1 c2 c3 p a b n g1 g2 g3 v1 hcv hnn hr1) (cwV 1 hts gL_law_X0_order rfl rfl rfl (by decide +kernel) ⟨Nat.le_of_ble_eq_true rfl, Nat.le_of_ble_eq_true rfl⟩) hK0 (hP.sub [0, 1, 2, 3] rfl) 0 rfl rfl rfl hP hS rfl hl.1 rfl (Nat.le_of_ble_eq_true rfl) dL_law_366 ⟨Nat.le_of_ble_eq_true rfl, Nat.le_of_ble_eq_true rfl⟩ (fun H locs hP hS => ?_)
    refine lv_aload_n hx hb dL_law_369 rfl (lv_at hl 1 rfl) ?_
    refine lv_aload_n hx hb dL_law_370 rfl (lv_at hl 3 rfl) ?_
    refine lv_iload_n hx hb dL_law_371 rfl (lv_at hl 0 rfl) ?_
    refine lv_iconst (v := zI 1) hx hb dL_law_372 rfl ?_
    refine zz_iadd hx hb dL_law_373 ?_
    refine zz_sld hx hb hX hbl hbA hS v1 ev1 (by omega) dL_law_374 ?_
    refine zz_callV k0 [.int (zI v1)] [.int (zI (gs_aOrder p a b v1))] ⟨hx, hb, hml, hown, hts⟩ (kX1_order l dC dI k0 r1 r2 d1 d2 p a b s1 s2 v1 hcv hr1) (cwV 1 hts gL_law_X1_order rfl rfl rfl (by decide +kernel) ⟨Nat.le_of_ble_eq_true rfl, Nat.le_of_ble_eq_true rfl⟩) hK1 (hP.sub [4, 5, 6] rfl) 0 rfl rfl rfl hP hS rfl hl.1 rfl (Nat.le_of_ble_eq_true rfl) dL_law_375 ⟨Nat.le_of_ble_eq_true rfl, Nat.le_of_ble_eq_true rfl⟩ (fun H locs hP hS => ?_)
    refine lv_icmp_eq (tgt := 439) hx hb dL_law_378 (by decide) (fun _ => ?_) (fun hne => absurd (congrArg zI rfl) hne)
    obtain ⟨i9, ei9⟩ : ∃ y : Int, y = i + 4 := ⟨_, rfl⟩
    refine zz_iinc (v := i9) (lv' := [(3, .int (zI i9)), (2, .ref k0), (1, .ref h0), (0, .ref sb)]) hx hb dL_law_439 hl (k := 0) rfl ei9 (by decide) rfl (fun ls hl => ?_)
    refine lv_goto (tgt := 18) hx hb dL_law_442 (by decide) ?_
    have hn9 : 0 ≤ i9 ∧ i9 ≤ 2052 := by omega
    have hm9 : (2052 - i9).toNat < (2052 - i).toNat := by omega
    exact ih (i9, (p, a, b, n), g1, g2, g3, s1, s2) ⟨hn9.1, hn9.2, hst⟩ hm9 _ _ _ hP hD hS hl
  · refine zz_tableIn (tgt := 383) 11 hx hb dL_law_32 hs (by decide) (by decide) rfl (by decide) ?_
    refine lv_aload_n hx hb dL_law_383 rfl (lv_at hl 2 rfl) ?_
    refine lv_aload_n hx hb dL_law_384 rfl (lv_at hl 3 rfl) ?_
    refine lv_iload_n hx hb dL_law_385 rfl (lv_at hl 0 rfl) ?_
    refine lv_iconst (v := zI 1) hx hb dL_law_386 rfl ?_
    refine zz_iadd hx hb dL_law_387 ?_
    refine zz_sld hx hb hX hbl hbA hS v1 ev1 (by omega) dL_law_388 ?_
    refine lv_aload_n hx hb dL_law_389 rfl (lv_at hl 3 rfl) ?_
    refine lv_iload_n hx hb dL_law_390 rfl (lv_at hl 0 rfl) ?_
    refine lv_iconst (v := zI 2) hx hb dL_law_391 rfl ?_
    refine zz_iadd hx hb dL_law_392 ?_
    refine zz_sld hx hb hX hbl hbA hS v2 ev2 (by omega) dL_law_393 ?_
    refine zz_callWi (wr := ww1 k0 r1 r2 d1 d2 p a b s1 s2) h0 [.int (zI v1), .int (zI v2)] [] [0, 1, 2, 3] [4, 5, 6] ⟨hx, hb, hml, hown, hts⟩ (kX0_division l dC dI h0 q1 q2 q3 c1 c2 c3 p a b n g1 g2 g3 H.size v1 v2 hcv hr1 hr2) (cwV 2 hts gL_law_X0_division rfl rfl rfl (by decide +kernel) ⟨Nat.le_of_ble_eq_true rfl, Nat.le_of_ble_eq_true rfl⟩) hK0 0 rfl rfl rfl hP hD hS hA rfl rfl (by decide) rfl (by decide) (by decide) rfl hl.1 rfl (Nat.le_of_ble_eq_true rfl) dL_law_394 ⟨Nat.le_of_ble_eq_true rfl, Nat.le_of_ble_eq_true rfl⟩ (fun ra u H locs hw hP hD hS => ?_)
    subst hw
    have hP : va_P (dC, dI) vwCl (ww0 h0 q1 q2 q3 c1 c2 c3 p a b n g1 g2 u ++ ww1 k0 r1 r2 d1 d2 p a b s1 s2) H := hP.sub [3, 4, 5, 6, 0, 1, 2] rfl
    have hD : va_D (fun q : Nat => s.heap.size ≤ q) (ww0 h0 q1 q2 q3 c1 c2 c3 p a b n g1 g2 u ++ ww1 k0 r1 r2 d1 d2 p a b s1 s2) := hD.sub [3, 4, 5, 6, 0, 1, 2] (by decide) rfl
    refine lv_aload_n hx hb dL_law_397 rfl (lv_at hl 1 rfl) ?_
    refine lv_aload_n hx hb dL_law_398 rfl (lv_at hl 3 rfl) ?_
    refine lv_iload_n hx hb dL_law_399 rfl (lv_at hl 0 rfl) ?_
    refine lv_iconst (v := zI 1) hx hb dL_law_400 rfl ?_
    refine zz_iadd hx hb dL_law_401 ?_
    refine zz_sld hx hb hX hbl hbA hS v1 ev1 (by omega) dL_law_402 ?_
    refine lv_aload_n hx hb dL_law_403 rfl (lv_at hl 3 rfl) ?_
    refine lv_iload_n hx hb dL_law_404 rfl (lv_at hl 0 rfl) ?_
    refine lv_iconst (v := zI 2) hx hb dL_law_405 rfl ?_
    refine zz_iadd hx hb dL_law_406 ?_
    refine zz_sld hx hb hX hbl hbA hS v2 ev2 (by omega) dL_law_407 ?_
    refine zz_callWi (wr := ww0 h0 q1 q2 q3 c1 c2 c3 p a b n g1 g2 u) k0 [.int (zI v1), .int (zI v2)] [.int (zI (gs_aDiv p a b v1 v2))] [4, 5, 6] [0, 1, 2, 3] ⟨hx, hb, hml, hown, hts⟩ (kX1_division l dC dI k0 r1 r2 d1 d2 p a b s1 s2 H.size v1 v2 hcv hr1 hr2) (cwV 2 hts gL_law_X1_division rfl rfl rfl (by decide +kernel) ⟨Nat.le_of_ble_eq_true rfl, Nat.le_of_ble_eq_true rfl⟩) hK1 0 rfl rfl rfl hP hD hS hA rfl rfl (by decide) rfl (by decide) (by decide) rfl hl.1 rfl (Nat.le_of_ble_eq_true rfl) dL_law_408 ⟨Nat.le_of_ble_eq_true rfl, Nat.le_of_ble_eq_true rfl⟩ (fun rb w H locs hw hP hD hS => ?_)
    subst hw
    have hP : va_P (dC, dI) vwCl (ww0 h0 q1 q2 q3 c1 c2 c3 p a b n g1 g2 u ++ ww1 k0 r1 r2 d1 d2 p a b s1 w) H := hP
    have hD : va_D (fun q : Nat => s.heap.size ≤ q) (ww0 h0 q1 q2 q3 c1 c2 c3 p a b n g1 g2 u ++ ww1 k0 r1 r2 d1 d2 p a b s1 w) := hD
    refine lv_icmp_eq (tgt := 439) hx hb dL_law_411 (by decide) (fun _ => ?_) (fun hne => absurd (congrArg zI rfl) hne)
    obtain ⟨i9, ei9⟩ : ∃ y : Int, y = i + 4 := ⟨_, rfl⟩
    refine zz_iinc (v := i9) (lv' := [(3, .int (zI i9)), (2, .ref k0), (1, .ref h0), (0, .ref sb)]) hx hb dL_law_439 hl (k := 0) rfl ei9 (by decide) rfl (fun ls hl => ?_)
    refine lv_goto (tgt := 18) hx hb dL_law_442 (by decide) ?_
    have hn9 : 0 ≤ i9 ∧ i9 ≤ 2052 := by omega
    have hm9 : (2052 - i9).toNat < (2052 - i).toNat := by omega
    exact ih (i9, (p, a, b, n), g1, g2, u, s1, w) ⟨hn9.1, hn9.2, hst⟩ hm9 _ _ _ hP hD hS hl
  · refine zz_tableIn (tgt := 416) 12 hx hb dL_law_32 hs (by decide) (by decide) rfl (by decide) ?_
    refine lv_aload_n hx hb dL_law_416 rfl (lv_at hl 2 rfl) ?_
    refine lv_aload_n hx hb dL_law_417 rfl (lv_at hl 3 rfl) ?_
    refine lv_iload_n hx hb dL_law_418 rfl (lv_at hl 0 rfl) ?_
    refine lv_iconst (v := zI 1) hx hb dL_law_419 rfl ?_
    refine zz_iadd hx hb dL_law_420 ?_
    refine zz_sld hx hb hX hbl hbA hS v1 ev1 (by omega) dL_law_421 ?_
    refine zz_callV h0 [.int (zI v1)] [] ⟨hx, hb, hml, hown, hts⟩ (kX0_twist l dC dI h0 q1 q2 q3 c1 c2 c3 p a b n g1 g2 g3 v1 hp hlr hr1) (cwV 1 hts gL_law_X0_twist rfl rfl rfl (by decide +kernel) ⟨Nat.le_of_ble_eq_true rfl, Nat.le_of_ble_eq_true rfl⟩) hK0 (hP.sub [0, 1, 2, 3] rfl) 0 rfl rfl rfl hP hS rfl hl.1 rfl (Nat.le_of_ble_eq_true rfl) dL_law_422 ⟨Nat.le_of_ble_eq_true rfl, Nat.le_of_ble_eq_true rfl⟩ (fun H locs hP hS => ?_)
    refine lv_aload_n hx hb dL_law_425 rfl (lv_at hl 1 rfl) ?_
    refine lv_aload_n hx hb dL_law_426 rfl (lv_at hl 3 rfl) ?_
    refine lv_iload_n hx hb dL_law_427 rfl (lv_at hl 0 rfl) ?_
    refine lv_iconst (v := zI 1) hx hb dL_law_428 rfl ?_
    refine zz_iadd hx hb dL_law_429 ?_
    refine zz_sld hx hb hX hbl hbA hS v1 ev1 (by omega) dL_law_430 ?_
    refine zz_callWi (wr := ww0 h0 q1 q2 q3 c1 c2 c3 p a b n g1 g2 g3) k0 [.int (zI v1)] [.int (zI ((if 1 ≤ v1 ∧ v1 < p then (if g1 v1 = -1 then 2 * p + 2 - n else n) else -1)))] [4, 5, 6] [0, 1, 2, 3] ⟨hx, hb, hml, hown, hts⟩ (kX1_twist l dC dI k0 r1 r2 d1 d2 p a b s1 s2 H.size v1 hp ha hbb hr1) (cwV 1 hts gL_law_X1_twist rfl rfl rfl (by decide +kernel) ⟨Nat.le_of_ble_eq_true rfl, Nat.le_of_ble_eq_true rfl⟩) hK1 0 rfl rfl rfl hP hD hS hA rfl rfl (by decide) rfl (by decide) (by decide) rfl hl.1 rfl (Nat.le_of_ble_eq_true rfl) dL_law_431 ⟨Nat.le_of_ble_eq_true rfl, Nat.le_of_ble_eq_true rfl⟩ (fun rb w H locs hw hP hD hS => ?_)
    subst hw
    have hP : va_P (dC, dI) vwCl (ww0 h0 q1 q2 q3 c1 c2 c3 p a b n g1 g2 g3 ++ ww1 k0 r1 r2 d1 d2 p a b w s2) H := hP
    have hD : va_D (fun q : Nat => s.heap.size ≤ q) (ww0 h0 q1 q2 q3 c1 c2 c3 p a b n g1 g2 g3 ++ ww1 k0 r1 r2 d1 d2 p a b w s2) := hD
    refine lv_icmp_eq (tgt := 439) hx hb dL_law_434 (by decide) (fun _ => ?_) (fun hne => absurd (congrArg zI (gt_twist hcv hnn hlr)) hne)
    obtain ⟨i9, ei9⟩ : ∃ y : Int, y = i + 4 := ⟨_, rfl⟩
    refine zz_iinc (v := i9) (lv' := [(3, .int (zI i9)), (2, .ref k0), (1, .ref h0), (0, .ref sb)]) hx hb dL_law_439 hl (k := 0) rfl ei9 (by decide) rfl (fun ls hl => ?_)
    refine lv_goto (tgt := 18) hx hb dL_law_442 (by decide) ?_
    have hn9 : 0 ≤ i9 ∧ i9 ≤ 2052 := by omega
    have hm9 : (2052 - i9).toNat < (2052 - i).toNat := by omega
    exact ih (i9, (p, a, b, n), g1, g2, g3, w, s2) ⟨hn9.1, hn9.2, hst⟩ hm9 _ _ _ hP hD hS hl
  · refine zz_tableOut (tgt := 439) hx hb dL_law_32 (by omega) hs (by decide) ?_
    obtain ⟨i9, ei9⟩ : ∃ y : Int, y = i + 4 := ⟨_, rfl⟩
    refine zz_iinc (v := i9) (lv' := [(3, .int (zI i9)), (2, .ref k0), (1, .ref h0), (0, .ref sb)]) hx hb dL_law_439 hl (k := 0) rfl ei9 (by decide) rfl (fun ls hl => ?_)
    refine lv_goto (tgt := 18) hx hb dL_law_442 (by decide) ?_
    have hn9 : 0 ≤ i9 ∧ i9 ≤ 2052 := by omega
    have hm9 : (2052 - i9).toNat < (2052 - i).toNat := by omega
    exact ih (i9, (p, a, b, n), g1, g2, g3, s1, s2) ⟨hn9.1, hn9.2, hst⟩ hm9 _ _ _ hP hD hS hl
