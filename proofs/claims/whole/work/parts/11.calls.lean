-- Worlds of the two objects, calls that change nothing, calls that change a world, loops.
section
abbrev ww0 (h0 q1 q2 q3 : Nat) (c1 c2 c3 : ClassId) (p a b n : Int) (g1 g2 g3 : Int → Int) : va_W :=
  [(h0, .inr (0, [.int (zI p), .int (zI a), .int (zI b), .int (zI n), .ref q1, .ref q2, .ref q3])), (q1, .inl (c1, 4093, .inl (zA g1))), (q2, .inl (c2, 4094, .inl (zA g2))), (q3, .inl (c3, 41, .inl (zA g3)))]
abbrev tt0 (c1 c2 c3 : ClassId) : List (ClassId × FieldType) := [(c1, .int), (c2, .int), (c3, .int)]
abbrev ww1 (k0 r1 r2 : Nat) (d1 d2 : ClassId) (p a b : Int) (s1 s2 : Int → Int) : va_W :=
  [(k0, .inr (1, [.int (zI p), .int (zI a), .int (zI b), .ref r1, .ref r2])), (r1, .inl (d1, 4096, .inl (zA s1))), (r2, .inl (d2, 48, .inl (zA s2)))]
abbrev tt1 (d1 d2 : ClassId) : List (ClassId × FieldType) := [(d1, .int), (d2, .int)]
/-- the start and the end of a method that changes nothing -/
abbrev zPc (D : va_G) (W0 : va_W) (T : List (ClassId × FieldType)) (av : List Value) : Array Value → State → Prop :=
  va_Pc av (fun U => va_P D vwCl W0 U.heap ∧ va_K D vwCl T U)
abbrev zPs (av : List Value) : Array Value → State → Prop := va_Pc av (fun _ => True)
abbrev zQi (v : Int32) : Array Value → State → Outcome → State → Prop := va_Qi (fun r (_ : Unit) => r = v) (fun _ _ => True) (fun _ => False)
abbrev zNo : Addr → Prop := fun _ => False
/-- the start and the end of a method that changes its world -/
abbrev zPw (D : va_G) (W0 : va_W) (T : List (ClassId × FieldType)) (sz : Nat) (av : List Value) : Array Value → State → Prop :=
  va_Pc av (fun U => U.heap.size = sz ∧ va_P D vwCl W0 U.heap ∧ va_K D vwCl T U ∧ va_D (fun _ => True) W0)
abbrev zQwi {S : Type} (D : va_G) (W0 : va_W) (sz : Nat) (Wf : S → va_W) (post : Int32 → S → Prop) : Array Value → State → Outcome → State → Prop :=
  va_Qi post (fun u t => va_P D vwCl (Wf u) t.heap ∧ va_D (va_A W0 sz) (Wf u)) (va_A W0 sz)
abbrev zQwv {S : Type} (D : va_G) (W0 : va_W) (sz : Nat) (Wf : S → va_W) (post : S → Prop) : Array Value → State → Outcome → State → Prop :=
  va_Qv post (fun u t => va_P D vwCl (Wf u) t.heap ∧ va_D (va_A W0 sz) (Wf u)) (va_A W0 sz)

variable {p : Program} {l : Launch} {e : Env} {R : Room} {s : State} {m : MethodId} {args : Array Value} {below : List Frame} {meth : Method} {c : Code} {H : Heap} {locs : List Loc} {cells slots : Nat} {Q : State → Prop}
variable {cc : ByteArray} {pc nL n index maxL : Nat} {ls : Array Slot} {st0 : List Value} {D : va_G} {A : Nat → Prop} {ws : va_W} {H0 : Heap} {Ts wsx : List Cond} {own C : String} {y : MethodName} {rm : Room} {bytes : ByteArray} {ret : Option FieldType} {W0 : va_W} {T : List (ClassId × FieldType)} {v : Int32}

theorem zz_blind {av : List Value} : FrameBlind (zPc D W0 T av) := fun a U g mk q => by
  obtain ⟨q0, qP, qK⟩ := q
  exact ⟨q0, qP, va_K.moved (u := U) (U := U.calling g mk a) (Vm.Alike.refl U.vm) qK⟩
theorem zz_blindW {sz : Nat} {av : List Value} : FrameBlind (zPw D W0 T sz av) := fun a U g mk q => by
  obtain ⟨q0, q1, qP, qK, qD⟩ := q
  exact ⟨q0, q1, qP, va_K.moved (u := U) (U := U.calling g mk a) (Vm.Alike.refl U.vm) qK, qD⟩

theorem zz_callV (a : Nat) (As rest : List Value) (Sf : CallFix p m c cc nL s args Ts own) (hM : Met l y wsx rm (zPc D W0 T (.ref a :: As)) (zQi v) 0 0 zNo)
    (cw : CallW R s args own C index y bytes maxL ret wsx rm 0 0 n) (hKc : va_K D vwCl T s) (hPc : va_P D vwCl W0 H) (q0 : Nat) {ci : Nat} {fs : List Value} {q : vw_C} (hc : vwCl[ci]? = some q) (he : W0[q0]? = some (a, .inr (ci, fs))) (hC : q.1 = C)
    (hP : va_P D vwCl ws H) (hS : va_S A H0 H locs) (hn : As.length = n) (hsize : ls.size = nL) (hst : st0 = As.reverse ++ .ref a :: rest) (hW : (rest.map fun v => v.category).sum ≤ 8) (hdg : decode cc pc = .ok (.invokevirtual index, 3)) (hf : cells ≤ R.cells ∧ slots ≤ R.slots)
    (kk : ∀ (H1 : Heap) (locs1 : List Loc), va_P D vwCl ws H1 → va_S A H0 H1 locs1 → W p l e R s m args below meth c H1 locs1 cells slots Q (F0 m (pc + 3) ls (.int v :: rest))) :
    W p l e R s m args below meth c H locs cells slots Q (F0 m pc ls st0) := by
  subst hC
  subst hst
  refine va_calli (va_runV (As := As) (rest := rest) Sf hM cw ⟨zz_blind, va_recv hKc hPc hc he, fun U hU hW => ⟨rfl, by rw [hU]; exact hPc, va_K.moved hW.alike hKc⟩⟩ rfl hn hsize rfl (lv_room hW) hdg hf) hS (fun q _ h => absurd h (fun f => f)) (fun q h => absurd h (fun f => f)) (fun r u t H1 locs1 ht hvm hw hB hz1 hk1 hS1 => ?_)
  subst hw
  exact kk H1 locs1 (zz_keep hP hk1) hS1

theorem zz_callS (As rest : List Value) (Sf : CallFix p m c cc nL s args Ts own) (hM : Met l y wsx rm (zPs As) (zQi v) 0 0 zNo)
    (cw : CallB R s args own index y bytes maxL ret wsx rm 0 0 n ∧ (Cond.static y).before args s = true)
    (hP : va_P D vwCl ws H) (hS : va_S A H0 H locs) (hn : As.length = n) (hsize : ls.size = nL) (hst : st0 = As.reverse ++ rest) (hW : (rest.map fun v => v.category).sum ≤ 8) (hdg : decode cc pc = .ok (.invokestatic index, 3)) (hf : cells ≤ R.cells ∧ slots ≤ R.slots)
    (kk : ∀ (H1 : Heap) (locs1 : List Loc), va_P D vwCl ws H1 → va_S A H0 H1 locs1 → W p l e R s m args below meth c H1 locs1 cells slots Q (F0 m (pc + 3) ls (.int v :: rest))) :
    W p l e R s m args below meth c H locs cells slots Q (F0 m pc ls st0) := by
  subst hst
  refine va_calli (va_runS (As := As) (rest := rest) Sf hM cw ⟨fun _ _ _ _ q => ⟨q.1, trivial⟩, fun U hU hW => ⟨rfl, trivial⟩⟩ rfl hn hsize rfl (lv_room hW) hdg hf) hS (fun q _ h => absurd h (fun f => f)) (fun q h => absurd h (fun f => f)) (fun r u t H1 locs1 ht hvm hw hB hz1 hk1 hS1 => ?_)
  subst hw
  exact kk H1 locs1 (zz_keep hP hk1) hS1

theorem zz_callWi {S : Type} {post : Int32 → S → Prop} {Wf : S → va_W} {mc ms : Nat} (a : Nat) (As rest : List Value) (isC isR : List Nat) {wr : va_W} (Sf : CallFix p m c cc nL s args Ts own) (hM : Met l y wsx rm (zPw D W0 T H.size (.ref a :: As)) (zQwi D W0 H.size Wf post) mc ms (va_A W0 H.size))
    (cw : CallW R s args own C index y bytes maxL ret wsx rm mc ms n) (hKc : va_K D vwCl T s) (q0 : Nat) {ci : Nat} {fs : List Value} {q : vw_C} (hc : vwCl[ci]? = some q) (he : W0[q0]? = some (a, .inr (ci, fs))) (hC : q.1 = C)
    (hP : va_P D vwCl ws H) (hD : va_D A ws) (hS : va_S A H0 H locs) (hA : ∀ q, H0.size ≤ q → A q)
    (hsf : isC.filterMap (fun i => ws[i]?) = W0) (hsC : isC.map (fun i => ws[i]?) = W0.map some) (hnC : va_nd isC = true) (hsR : isR.map (fun i => ws[i]?) = wr.map some) (hnR : va_nd isR = true) (hdis : ∀ i ∈ isR, i ∉ isC)
    (hn : As.length = n) (hsize : ls.size = nL) (hst : st0 = As.reverse ++ .ref a :: rest) (hW : (rest.map fun v => v.category).sum ≤ 8) (hdg : decode cc pc = .ok (.invokevirtual index, 3)) (hf : cells + mc ≤ R.cells ∧ slots + ms ≤ R.slots)
    (kk : ∀ (r : Int32) (u : S) (H1 : Heap) (locs1 : List Loc), post r u → va_P D vwCl (wr ++ Wf u) H1 → va_D A (wr ++ Wf u) → va_S A H0 H1 locs1 → W p l e R s m args below meth c H1 locs1 (cells + mc) (slots + ms) Q (F0 m (pc + 3) ls (.int r :: rest))) :
    W p l e R s m args below meth c H locs cells slots Q (F0 m pc ls st0) := by
  subst hC
  subst hst
  have hPc := hP.sub isC hsf
  have hDc := hD.sub isC hnC hsC
  have hFc := va_free (wc := W0) hD hS hA isC hsC
  refine va_calli (va_runV (As := As) (rest := rest) Sf hM cw ⟨zz_blindW, va_recv hKc hPc hc he, fun U hU hW => ⟨rfl, by rw [hU], by rw [hU]; exact hPc, va_K.moved hW.alike hKc, hDc.weaken (fun _ _ _ _ => trivial)⟩⟩ rfl hn hsize rfl (lv_room hW) hdg hf) hS (fun q _ h => hFc q h) hFc (fun r u t H1 locs1 ht hvm hw hB hz1 hk1 hS1 => ?_)
  obtain ⟨hP1, hD1⟩ := hB
  rw [ht] at hP1
  obtain ⟨hP2, hD2⟩ := va_join (wr := wr) (w1 := Wf u) hP hD isC isR hsC hsR hnR hdis hk1 hFc hP1 hD1
  exact kk r u H1 locs1 hw hP2 hD2 hS1

theorem zz_callWv {S : Type} {post : S → Prop} {Wf : S → va_W} {mc ms : Nat} (a : Nat) (As rest : List Value) (isC isR : List Nat) {wr : va_W} (Sf : CallFix p m c cc nL s args Ts own) (hM : Met l y wsx rm (zPw D W0 T H.size (.ref a :: As)) (zQwv D W0 H.size Wf post) mc ms (va_A W0 H.size))
    (cw : CallW R s args own C index y bytes maxL ret wsx rm mc ms n) (hKc : va_K D vwCl T s) (q0 : Nat) {ci : Nat} {fs : List Value} {q : vw_C} (hc : vwCl[ci]? = some q) (he : W0[q0]? = some (a, .inr (ci, fs))) (hC : q.1 = C)
    (hP : va_P D vwCl ws H) (hD : va_D A ws) (hS : va_S A H0 H locs) (hA : ∀ q, H0.size ≤ q → A q)
    (hsf : isC.filterMap (fun i => ws[i]?) = W0) (hsC : isC.map (fun i => ws[i]?) = W0.map some) (hnC : va_nd isC = true) (hsR : isR.map (fun i => ws[i]?) = wr.map some) (hnR : va_nd isR = true) (hdis : ∀ i ∈ isR, i ∉ isC)
    (hn : As.length = n) (hsize : ls.size = nL) (hst : st0 = As.reverse ++ .ref a :: rest) (hW : (rest.map fun v => v.category).sum ≤ 8) (hdg : decode cc pc = .ok (.invokevirtual index, 3)) (hf : cells + mc ≤ R.cells ∧ slots + ms ≤ R.slots)
    (kk : ∀ (u : S) (H1 : Heap) (locs1 : List Loc), post u → va_P D vwCl (wr ++ Wf u) H1 → va_D A (wr ++ Wf u) → va_S A H0 H1 locs1 → W p l e R s m args below meth c H1 locs1 (cells + mc) (slots + ms) Q (F0 m (pc + 3) ls rest)) :
    W p l e R s m args below meth c H locs cells slots Q (F0 m pc ls st0) := by
  subst hC
  subst hst
  have hPc := hP.sub isC hsf
  have hDc := hD.sub isC hnC hsC
  have hFc := va_free (wc := W0) hD hS hA isC hsC
  refine va_callv (va_runV (As := As) (rest := rest) Sf hM cw ⟨zz_blindW, va_recv hKc hPc hc he, fun U hU hW => ⟨rfl, by rw [hU], by rw [hU]; exact hPc, va_K.moved hW.alike hKc, hDc.weaken (fun _ _ _ _ => trivial)⟩⟩ rfl hn hsize rfl (lv_room hW) hdg hf) hS (fun q _ h => hFc q h) hFc (fun u t H1 locs1 ht hvm hw hB hz1 hk1 hS1 => ?_)
  obtain ⟨hP1, hD1⟩ := hB
  rw [ht] at hP1
  obtain ⟨hP2, hD2⟩ := va_join (wr := wr) (w1 := Wf u) hP hD isC isR hsC hsR hnR hdis hk1 hFc hP1 hD1
  exact kk u H1 locs1 hw hP2 hD2 hS1

/-- a loop that reads -/
theorem zz_loopR {σ : Type} (Inv : σ → Prop) (μ : σ → Nat) (st : σ → List (Nat × Value))
    (step : ∀ x, Inv x → (∀ y, Inv y → μ y < μ x → ∀ (H : Heap) (locs : List Loc) (ls : Array Slot), va_P D vwCl ws H → va_S A H0 H locs → lv_has ls nL (st y) → W p l e R s m args below meth c H locs cells slots Q (F0 m pc ls [])) →
      ∀ (H : Heap) (locs : List Loc) (ls : Array Slot), va_P D vwCl ws H → va_S A H0 H locs → lv_has ls nL (st x) → W p l e R s m args below meth c H locs cells slots Q (F0 m pc ls [])) :
    ∀ x, Inv x → ∀ (H : Heap) (locs : List Loc) (ls : Array Slot), va_P D vwCl ws H → va_S A H0 H locs → lv_has ls nL (st x) → W p l e R s m args below meth c H locs cells slots Q (F0 m pc ls []) := by
  have key : ∀ (k : Nat) (x : σ), μ x < k → Inv x → ∀ (H : Heap) (locs : List Loc) (ls : Array Slot), va_P D vwCl ws H → va_S A H0 H locs → lv_has ls nL (st x) → W p l e R s m args below meth c H locs cells slots Q (F0 m pc ls []) := by
    intro k
    induction k with
    | zero => intro x h; exact absurd h (Nat.not_lt_zero _)
    | succ k ih =>
      intro x hx hI
      exact step x hI (fun y hy hm => ih y (by omega) hy)
  exact fun x hI => key (μ x + 1) x (Nat.lt_succ_self _) hI

/-- a loop that writes -/
theorem zz_loopW {σ : Type} (Inv : σ → Prop) (μ : σ → Nat) (st : σ → List (Nat × Value)) (wf : σ → va_W)
    (step : ∀ x, Inv x → (∀ y, Inv y → μ y < μ x → ∀ (H : Heap) (locs : List Loc) (ls : Array Slot), va_P D vwCl (wf y) H → va_D A (wf y) → va_S A H0 H locs → lv_has ls nL (st y) → W p l e R s m args below meth c H locs cells slots Q (F0 m pc ls [])) →
      ∀ (H : Heap) (locs : List Loc) (ls : Array Slot), va_P D vwCl (wf x) H → va_D A (wf x) → va_S A H0 H locs → lv_has ls nL (st x) → W p l e R s m args below meth c H locs cells slots Q (F0 m pc ls [])) :
    ∀ x, Inv x → ∀ (H : Heap) (locs : List Loc) (ls : Array Slot), va_P D vwCl (wf x) H → va_D A (wf x) → va_S A H0 H locs → lv_has ls nL (st x) → W p l e R s m args below meth c H locs cells slots Q (F0 m pc ls []) := by
  have key : ∀ (k : Nat) (x : σ), μ x < k → Inv x → ∀ (H : Heap) (locs : List Loc) (ls : Array Slot), va_P D vwCl (wf x) H → va_D A (wf x) → va_S A H0 H locs → lv_has ls nL (st x) → W p l e R s m args below meth c H locs cells slots Q (F0 m pc ls []) := by
    intro k
    induction k with
    | zero => intro x h; exact absurd h (Nat.not_lt_zero _)
    | succ k ih =>
      intro x hx hI
      exact step x hI (fun y hy hm => ih y (by omega) hy)
  exact fun x hI => key (μ x + 1) x (Nat.lt_succ_self _) hI
end

section
/-- a condition as a number -/
noncomputable def zB (c : Prop) : Int := @ite Int c (Classical.propDecidable c) 1 0
theorem zB_T {c : Prop} (h : c) : zB c = 1 := by
  unfold zB
  exact if_pos h
theorem zB_F {c : Prop} (h : ¬ c) : zB c = 0 := by
  unfold zB
  exact if_neg h
theorem zB_0 {c : Prop} : zB c = 0 ↔ ¬ c := by
  constructor
  · intro h hc
    rw [zB_T hc] at h
    omega
  · exact zB_F
theorem zB_1 {c : Prop} : ¬ zB c = 0 ↔ c := by
  constructor
  · intro h
    apply Classical.byContradiction
    intro hc
    exact h (zB_F hc)
  · intro hc h
    rw [zB_T hc] at h
    omega
theorem zB_r (c : Prop) : 0 ≤ zB c ∧ zB c ≤ 1 := by
  rcases Classical.em c with h | h
  · rw [zB_T h]; omega
  · rw [zB_F h]; omega
theorem zB_nar (c : Prop) : narrow .boolean (.int (zI (zB c))) = .int (zI (zB c)) := by
  rcases Classical.em c with h | h
  · rw [zB_T h]; rfl
  · rw [zB_F h]; rfl
theorem zB_congr {c d : Prop} (h : c ↔ d) : zB c = zB d := by
  rw [show c = d from propext h]
/-- a product of two numbers below 4096 -/
theorem zz_pr {x y : Int} (hx : 0 ≤ x ∧ x < 4096) (hy : 0 ≤ y ∧ y < 4096) : 0 ≤ x * y ∧ x * y ≤ 16769025 := by
  refine ⟨Int.mul_nonneg hx.1 hy.1, ?_⟩
  have h1 : x * y ≤ 4095 * y := Int.mul_le_mul_of_nonneg_right (by omega) hy.1
  omega
theorem zz_md {v p : Int} (hp : 0 < p) : 0 ≤ v % p ∧ v % p < p := ⟨Int.emod_nonneg v (by omega), Int.emod_lt_of_pos v hp⟩
end
