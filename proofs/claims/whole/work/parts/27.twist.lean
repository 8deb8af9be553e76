-- The twisted curve: how many points it has.
section
def gt_ls : List Nat → Nat
  | [] => 0
  | x :: l => x + gt_ls l
theorem gt_lsApp (l k : List Nat) : gt_ls (l ++ k) = gt_ls l + gt_ls k := by
  induction l with
  | nil =>
    show gt_ls k = 0 + gt_ls k
    omega
  | cons x l ih =>
    show x + gt_ls (l ++ k) = x + gt_ls l + gt_ls k
    omega
theorem gt_lsPerm {l k : List Nat} (h : l.Perm k) : gt_ls l = gt_ls k := by
  induction h with
  | nil => rfl
  | cons x _ ih =>
    show x + _ = x + _
    omega
  | swap x y l =>
    show y + (x + gt_ls l) = x + (y + gt_ls l)
    omega
  | trans _ _ h1 h2 => omega
theorem gt_pre (N : Nat) (a b : Int) (x : Nat) : (gs_pre N a b x).length = gt_ls ((List.range x).map (fun u : Nat => gs_cnt N (gs_rhs a b u % N) N)) := by
  induction x with
  | zero => rfl
  | succ x ih =>
    rw [gs_preL, gs_rowLen, ih, List.range_succ, List.map_append, gt_lsApp]
    rfl
-- how many roots a number has
theorem gt_root {N : Nat} (hp : gp_prime N) {v : Int} (h : gq_sq N v) : ∃ y : Int, 0 ≤ y ∧ y < N ∧ y * y % N = v % N := by
  obtain ⟨y, hy⟩ := h
  have h2 := hp.1
  have hm := zz_md (v := y) (p := (N : Int)) (by omega)
  exact ⟨y % N, hm.1, hm.2, (zm_m zm_e zm_e).trans hy⟩
theorem gt_c0 {N : Nat} (hp : gp_prime N) (h1 : N ≤ 4096) : gs_cnt N 0 N = 1 := by
  have e : gs_rhs 0 0 ((0 : Nat) : Int) % N = 0 := by
    show (0 * 0 * 0 + 0 * 0 + 0 : Int) % N = 0
    rw [show (0 * 0 * 0 + 0 * 0 + 0 : Int) = 0 from rfl, Int.zero_emod]
  have h := gs_rowLen N 0 0 0
  rw [gs_rowZero hp h1 0 0 0 e, e] at h
  exact h.symm
theorem gt_rhs (v : Int) : gs_rhs 0 v ((0 : Nat) : Int) = v := by
  unfold gs_rhs
  show (0 * 0 * 0 + 0 * 0 + v : Int) = v
  omega
theorem gt_cN {N : Nat} (hp : gp_prime N) (h1 : N ≤ 4096) {v : Int} (hv : 0 ≤ v ∧ v < N) (h : ¬ gq_sq N v) : gs_cnt N v N = 0 := by
  have e : gs_rhs 0 v ((0 : Nat) : Int) % N = v := by rw [gt_rhs, Int.emod_eq_of_lt hv.1 hv.2]
  have hl := gs_rowLen N 0 v 0
  rw [gs_rowNone h1 0 v 0 (fun y _ _ hy => h ⟨y, by rw [hy, gt_rhs]⟩), e] at hl
  exact hl.symm
theorem gt_c2 {N : Nat} (hp : gp_prime N) (h5 : 5 ≤ N) (h1 : N ≤ 4096) {v : Int} (hv : 0 ≤ v ∧ v < N) (hv0 : v ≠ 0) (h : gq_sq N v) : gs_cnt N v N = 2 := by
  have e : gs_rhs 0 v ((0 : Nat) : Int) % N = v := by rw [gt_rhs, Int.emod_eq_of_lt hv.1 hv.2]
  have hl := gs_rowLen N 0 v 0
  rw [e] at hl
  obtain ⟨y, y1, y2, y3⟩ := gt_root hp h
  rw [Int.emod_eq_of_lt hv.1 hv.2] at y3
  by_cases h2 : 2 * y ≤ N
  · rw [gs_rowTwo hp h5 h1 0 v 0 y ⟨y1, h2⟩ (by rw [e]; exact y3) (by rw [e]; exact hv0)] at hl
    exact hl.symm
  · have y4 : ((N : Int) - y) * (N - y) % N = v := by
      rw [← y3]
      apply Int.emod_eq_emod_iff_emod_sub_eq_zero.mpr
      have e3 : ((N : Int) - y) * (N - y) - y * y = N * (N - 2 * y) := by grind
      rw [e3]
      exact Int.mul_emod_right _ _
    rw [gs_rowTwo hp h5 h1 0 v 0 (N - y) ⟨by omega, by omega⟩ (by rw [e]; exact y4) (by rw [e]; exact hv0)] at hl
    exact hl.symm
-- squares and products
theorem gt_sqMod {N : Nat} {x y : Int} (h : x % N = y % N) (hx : gq_sq N x) : gq_sq N y := by
  obtain ⟨z, hz⟩ := hx
  exact ⟨z, by rw [hz, h]⟩
theorem gt_sqMul {N : Nat} {x y : Int} (hx : gq_sq N x) (hy : gq_sq N y) : gq_sq N (x * y) := by
  obtain ⟨s, hs⟩ := hx
  obtain ⟨t, ht⟩ := hy
  refine ⟨s * t, ?_⟩
  have e : s * t * (s * t) = s * s * (t * t) := by grind
  rw [e]
  exact zm_m hs ht
theorem gt_sqDiv {N : Nat} (hp : gp_prime N) {x y : Int} (hxy : gq_sq N (x * y)) (hx : gq_sq N x) (h0 : x % N ≠ 0) : gq_sq N y := by
  obtain ⟨s, hs⟩ := hx
  obtain ⟨t, ht⟩ := hxy
  have hs0 : s % N ≠ 0 := by
    intro h
    apply h0
    rw [← hs, Int.mul_emod, h]
    rfl
  obtain ⟨r, hr⟩ := gq_invEx hp hs0
  have h1 : (1 : Int) = 1 % N := by
    have := hp.1
    exact (Int.emod_eq_of_lt (by omega) (by omega)).symm
  rw [h1] at hr
  refine ⟨t * r, ?_⟩
  have e1 : t * r * (t * r) = t * t * (r * r) := by grind
  have e2 : s * s * y * (r * r) = (s * r) * (s * r) * y := by grind
  rw [e1, zm_m ht rfl, zm_m (zm_m hs.symm rfl) rfl, e2, zm_m (zm_m hr hr) rfl, Int.one_mul, Int.one_mul]
theorem gt_sqSelf (N : Nat) (g : Int) : gq_sq N (g * g) := ⟨g, rfl⟩
theorem gt_nzMod {N : Nat} {v : Int} (hv : 0 ≤ v ∧ v < N) (h0 : v ≠ 0) : v % N ≠ 0 := by
  rw [Int.emod_eq_of_lt hv.1 hv.2]
  exact h0
-- one number and g g g times it
theorem gt_oneS {N : Nat} (hp : gp_prime N) (h5 : 5 ≤ N) (h1 : N ≤ 4096) {g v : Int} (hg : 1 ≤ g ∧ g < N) (hs : gq_sq N g) (hv : 0 ≤ v ∧ v < N) :
    gs_cnt N (g * g * g * v % N) N = gs_cnt N v N := by
  have hg0 : g % N ≠ 0 := gt_nzMod ⟨by omega, hg.2⟩ (by omega)
  have hc : (g * g * g) % N ≠ 0 := gp_mulNz hp (gp_mulNz hp hg0 hg0) hg0
  have hcs : gq_sq N (g * g * g) := gt_sqMul (gt_sqSelf N g) hs
  by_cases h0 : v = 0
  · rw [h0, Int.mul_zero, Int.zero_emod]
  · have hr := zz_md (v := g * g * g * v) (p := (N : Int)) (by omega)
    have hn := gp_mulNz hp hc (gt_nzMod hv h0)
    by_cases hq : gq_sq N v
    · rw [gt_c2 hp h5 h1 hv h0 hq, gt_c2 hp h5 h1 hr hn (gt_sqMod zm_e.symm (gt_sqMul hcs hq))]
    · rw [gt_cN hp h1 hv hq, gt_cN hp h1 hr (fun q => hq (gt_sqDiv hp (gt_sqMod zm_e q) hcs hc))]
theorem gt_oneN {N : Nat} (hp : gp_prime N) (h5 : 5 ≤ N) (h1 : N ≤ 4096) {g v : Int} (hg : 1 ≤ g ∧ g < N) (hs : ¬ gq_sq N g) (hv : 0 ≤ v ∧ v < N) :
    gs_cnt N (g * g * g * v % N) N + gs_cnt N v N = 2 := by
  have ho := gs_odd hp h5
  have hg0 : g % N ≠ 0 := gt_nzMod ⟨by omega, hg.2⟩ (by omega)
  have hc2 : (g * g) % N ≠ 0 := gp_mulNz hp hg0 hg0
  have hc : (g * g * g) % N ≠ 0 := gp_mulNz hp hc2 hg0
  by_cases h0 : v = 0
  · rw [h0, Int.mul_zero, Int.zero_emod, gt_c0 hp h1]
  · have hr := zz_md (v := g * g * g * v) (p := (N : Int)) (by omega)
    have hn := gp_mulNz hp hc (gt_nzMod hv h0)
    have e : g * g * g * v = g * g * (g * v) := by grind
    by_cases hq : gq_sq N v
    · rw [gt_c2 hp h5 h1 hv h0 hq, gt_cN hp h1 hr ?_]
      intro q
      have q2 : gq_sq N (g * g * (g * v)) := by
        rw [← e]
        exact gt_sqMod zm_e q
      have q3 := gt_sqDiv hp q2 (gt_sqSelf N g) hc2
      rw [Int.mul_comm] at q3
      exact hs (gt_sqDiv hp q3 hq (gt_nzMod hv h0))
    · rw [gt_cN hp h1 hv hq, gt_c2 hp h5 h1 hr hn ?_]
      refine gt_sqMod zm_e.symm ?_
      rw [e]
      exact gt_sqMul (gt_sqSelf N g) (gq_prod hp ho hs hq)
-- the numbers g u, u 0 .. N - 1, are the numbers 0 .. N - 1
theorem gt_perm {N : Nat} (hp : gp_prime N) {g : Int} (hg : 1 ≤ g ∧ g < N) : ((List.range N).map (fun u : Nat => (g * (u : Int) % N).toNat)).Perm (List.range N) := by
  have h2 := hp.1
  have hg0 : g % N ≠ 0 := gt_nzMod ⟨by omega, hg.2⟩ (by omega)
  have hnd : ((List.range N).map (fun u : Nat => (g * (u : Int) % N).toNat)).Nodup := by
    unfold List.Nodup
    rw [List.pairwise_map]
    refine List.Pairwise.imp_of_mem ?_ (List.nodup_range (n := N))
    intro u v hu hv huv h
    rw [List.mem_range] at hu hv
    apply huv
    have ru := zz_md (v := g * (u : Int)) (p := (N : Int)) (by omega)
    have rv := zz_md (v := g * (v : Int)) (p := (N : Int)) (by omega)
    have h' : g * (u : Int) % N = g * (v : Int) % N := by omega
    have h3 : (g * ((u : Int) - v)) % N = 0 := by
      rw [Int.mul_sub]
      exact Int.emod_eq_emod_iff_emod_sub_eq_zero.mp h'
    have h4 : ((u : Int) - v) % N = 0 := by
      apply Classical.byContradiction
      intro h5
      exact gp_mulNz hp hg0 h5 h3
    have h5 := Int.emod_eq_emod_iff_emod_sub_eq_zero.mpr h4
    rw [Int.emod_eq_of_lt (by omega) (by omega), Int.emod_eq_of_lt (by omega) (by omega)] at h5
    omega
  have hsub : ∀ x ∈ (List.range N).map (fun u : Nat => (g * (u : Int) % N).toNat), x ∈ List.range N := by
    intro x hx
    obtain ⟨u, hu, rfl⟩ := List.mem_map.mp hx
    have ru := zz_md (v := g * (u : Int)) (p := (N : Int)) (by omega)
    rw [List.mem_range]
    omega
  rw [List.perm_ext_iff_of_nodup hnd (List.nodup_range (n := N))]
  intro x
  exact ⟨hsub x, gp_pigeon _ _ hnd hsub (by rw [List.length_map]; exact Nat.le_refl _) x⟩
theorem gt_rhsG (N : Nat) (a b g u : Int) : gs_rhs (a * g * g % N) (b * g * g * g % N) (g * u % N) % N = g * g * g * (gs_rhs a b u % N) % N := by
  unfold gs_rhs
  have e : g * u * (g * u) * (g * u) + a * g * g * (g * u) + b * g * g * g = g * g * g * (u * u * u + a * u + b) := by grind
  have h1 : (g * u % N * (g * u % N) * (g * u % N) + a * g * g % N * (g * u % N) + b * g * g * g % N) % N = (g * u * (g * u) * (g * u) + a * g * g * (g * u) + b * g * g * g) % N :=
    zm_a (zm_a (zm_m (zm_m zm_e zm_e) zm_e) (zm_m zm_e zm_e)) zm_e
  rw [h1, e]
  exact (zm_m rfl zm_e).symm
theorem gt_sumT {N : Nat} (hp : gp_prime N) {g : Int} (hg : 1 ≤ g ∧ g < N) (a b : Int) :
    (gs_pre N (a * g * g % N) (b * g * g * g % N) N).length = gt_ls ((List.range N).map (fun u : Nat => gs_cnt N (g * g * g * (gs_rhs a b u % N) % N) N)) := by
  have h2 := hp.1
  rw [gt_pre, ← gt_lsPerm ((gt_perm hp hg).map (fun u : Nat => gs_cnt N (gs_rhs (a * g * g % N) (b * g * g * g % N) u % N) N)), List.map_map]
  congr 1
  apply List.map_congr_left
  intro u hu
  show gs_cnt N (gs_rhs (a * g * g % N) (b * g * g * g % N) ((g * (u : Int) % N).toNat : Int) % N) N = _
  have ru := zz_md (v := g * (u : Int)) (p := (N : Int)) (by omega)
  rw [Int.toNat_of_nonneg ru.1, gt_rhsG]
theorem gt_sumS {N : Nat} (hp : gp_prime N) (h5 : 5 ≤ N) (h1 : N ≤ 4096) {g : Int} (hg : 1 ≤ g ∧ g < N) (hs : gq_sq N g) (a b : Int) (x : Nat) :
    gt_ls ((List.range x).map (fun u : Nat => gs_cnt N (g * g * g * (gs_rhs a b u % N) % N) N)) = gt_ls ((List.range x).map (fun u : Nat => gs_cnt N (gs_rhs a b u % N) N)) := by
  congr 1
  apply List.map_congr_left
  intro u _
  exact gt_oneS hp h5 h1 hg hs (zz_md (by omega))
theorem gt_sumN {N : Nat} (hp : gp_prime N) (h5 : 5 ≤ N) (h1 : N ≤ 4096) {g : Int} (hg : 1 ≤ g ∧ g < N) (hs : ¬ gq_sq N g) (a b : Int) (x : Nat) :
    gt_ls ((List.range x).map (fun u : Nat => gs_cnt N (g * g * g * (gs_rhs a b u % N) % N) N)) + gt_ls ((List.range x).map (fun u : Nat => gs_cnt N (gs_rhs a b u % N) N)) = 2 * x := by
  induction x with
  | zero => rfl
  | succ x ih =>
    rw [List.range_succ, List.map_append, List.map_append, gt_lsApp, gt_lsApp]
    have h := gt_oneN hp h5 h1 hg hs (v := gs_rhs a b (x : Int) % N) (zz_md (by omega))
    show _ + (gs_cnt N (g * g * g * (gs_rhs a b (x : Int) % N) % N) N + 0) + (_ + (gs_cnt N (gs_rhs a b (x : Int) % N) N + 0)) = 2 * (x + 1)
    omega
theorem gt_twist {p a b n g : Int} {g1 : Int → Int} (hcv : gs_cv p a b) (hn : n = gs_n p a b) (hlr : gs_lr p g1) :
    (if 1 ≤ g ∧ g < p then (if g1 g = -1 then 2 * p + 2 - n else n) else -1) = gs_aTwist p a b g := by
  obtain ⟨c1, c2, c3, c4, c5, c6⟩ := hcv
  unfold gs_aTwist
  by_cases hg : 1 ≤ g ∧ g < p
  · rw [if_pos hg, if_pos hg, hn, gs_nPre, gs_nPre]
    obtain ⟨N, hN⟩ : ∃ N : Nat, p = N := ⟨p.toNat, by omega⟩
    subst hN
    rw [Int.toNat_natCast] at c3 ⊢
    have hT := gt_sumT c3 hg a b
    have hP := gt_pre N a b N
    rcases hlr g (by omega) hg.2 with ⟨h1, h2⟩ | ⟨h1, h2, h3⟩
    · rw [if_pos h1]
      have hs : ¬ gq_sq N g := by
        intro q
        obtain ⟨y, y1, y2, y3⟩ := gt_root c3 q
        rw [Int.emod_eq_of_lt (by omega) hg.2] at y3
        exact h2 y y1 y2 y3
      have hS := gt_sumN c3 (by omega) (by omega) hg hs a b N
      omega
    · rw [if_neg (by omega)]
      have hs : gq_sq N g := ⟨g1 g, by rw [h3, Int.emod_eq_of_lt (by omega) hg.2]⟩
      have hS := gt_sumS c3 (by omega) (by omega) hg hs a b N
      omega
  · rw [if_neg hg, if_neg hg]
end
