-- What filling the rows does; what curve answers.
section
def gs_lp (p : Int) (g : Int → Int) (y : Int) : Prop := ∀ v, 0 ≤ v → v < p → (g v = -1 ∧ ∀ z, 0 ≤ z → z < y → z * z % p ≠ v) ∨ (0 ≤ g v ∧ g v < y ∧ g v * g v % p = v)
theorem gs_lp0 {p : Int} {g : Int → Int} (h : ∀ j, 0 ≤ j → j < p → g j = -1) : gs_lp p g 0 := fun v h1 h2 => Or.inl ⟨h v h1 h2, fun z h3 h4 => by omega⟩
theorem gs_lpS {p : Int} {g : Int → Int} {y : Int} (hy : 0 ≤ y) (h : gs_lp p g y) : gs_lp p (zU g (y * y % p) y) (y + 1) := by
  intro v h1 h2
  by_cases hv : v = y * y % p
  · right
    rw [hv, zU_eq]
    exact ⟨hy, by omega, rfl⟩
  · rw [zU_ne _ _ _ hv]
    rcases h v h1 h2 with ⟨h3, h4⟩ | ⟨h3, h4, h5⟩
    · left
      refine ⟨h3, fun z h6 h7 => ?_⟩
      by_cases hz : z = y
      · rw [hz]
        exact fun q => hv q.symm
      · exact h4 z h6 (by omega)
    · right
      exact ⟨h3, by omega, h5⟩
theorem gs_lpEnd {p : Int} {g : Int → Int} {y : Int} (hp : 5 ≤ p) (h1 : p / 2 < y) (h2 : y ≤ p / 2 + 1) (h : gs_lp p g y) : gs_lr p g := by
  intro v h3 h4
  rcases h v h3 h4 with ⟨h5, h6⟩ | ⟨h5, h6, h7⟩
  · left
    refine ⟨h5, fun z h8 h9 => ?_⟩
    by_cases hz : z < y
    · exact h6 z h8 hz
    · have e : z * z % p = (p - z) * (p - z) % p := by
        apply Int.emod_eq_emod_iff_emod_sub_eq_zero.mpr
        have e3 : z * z - (p - z) * (p - z) = p * (2 * z - p) := by grind
        rw [e3]
        exact Int.mul_emod_right _ _
      rw [e]
      exact h6 (p - z) (by omega) (by omega)
  · right
    exact ⟨h5, by omega, h7⟩
theorem gs_pbS {p a b x r : Int} {g : Int → Int} (hx : 0 ≤ x) (h : ∀ j : Nat, (j : Int) ≤ x → g (j : Int) = ((gs_pre p.toNat a b j).length : Int)) (hr : r = ((gs_row p.toNat a b x.toNat).length : Int)) :
    ∀ j : Nat, (j : Int) ≤ x + 1 → zU g (x + 1) (g x + r) (j : Int) = ((gs_pre p.toNat a b j).length : Int) := by
  intro j hj
  by_cases h1 : (j : Int) = x + 1
  · rw [h1, zU_eq]
    have e1 := h x.toNat (by omega)
    rw [Int.toNat_of_nonneg hx] at e1
    have e2 : j = x.toNat + 1 := by omega
    rw [e2, gs_preL, e1, hr]
    omega
  · rw [zU_ne _ _ _ h1]
    exact h j (by omega)
theorem gs_lrR {p : Int} {g : Int → Int} (h : gs_lr p g) {v : Int} (hp : p ≤ 4093) (hv : 0 ≤ v ∧ v < p) : -1 ≤ g v ∧ g v < 2147483648 := by
  rcases h v hv.1 hv.2 with h1 | h1 <;> omega
noncomputable def gs_aCurve (vp va vb : Int) : Int :=
  gg_if (¬ (5 ≤ vp ∧ vp ≤ 4093 ∧ gp_prime vp.toNat)) (-1) (gg_if (¬ (0 ≤ va ∧ va < vp ∧ 0 ≤ vb ∧ vb < vp)) (-2) (gg_if ((4 * (va * va * va) + 27 * (vb * vb)) % vp = 0) (-3) 0))
theorem gs_cur1 {vp va vb : Int} (h : ¬ (5 ≤ vp ∧ vp ≤ 4093 ∧ gp_prime vp.toNat)) : gs_aCurve vp va vb = -1 := gg_ifT h _ _
theorem gs_cur2 {vp va vb : Int} (h1 : 5 ≤ vp ∧ vp ≤ 4093) (h2 : gp_prime vp.toNat) (h : ¬ (0 ≤ va ∧ va < vp ∧ 0 ≤ vb ∧ vb < vp)) : gs_aCurve vp va vb = -2 := by
  unfold gs_aCurve
  rw [gg_ifF (fun q => q ⟨h1.1, h1.2, h2⟩), gg_ifT h]
theorem gs_cur3 {vp va vb : Int} (h1 : 5 ≤ vp ∧ vp ≤ 4093) (h2 : gp_prime vp.toNat) (h3 : 0 ≤ va ∧ va < vp ∧ 0 ≤ vb ∧ vb < vp) (h : (4 * (va * va * va) + 27 * (vb * vb)) % vp = 0) : gs_aCurve vp va vb = -3 := by
  unfold gs_aCurve
  rw [gg_ifF (fun q => q ⟨h1.1, h1.2, h2⟩), gg_ifF (fun q => q h3), gg_ifT h]
theorem gs_cur0 {vp va vb : Int} (h1 : 5 ≤ vp ∧ vp ≤ 4093) (h2 : gp_prime vp.toNat) (h3 : 0 ≤ va ∧ va < vp ∧ 0 ≤ vb ∧ vb < vp) (h : ¬ (4 * (va * va * va) + 27 * (vb * vb)) % vp = 0) : gs_aCurve vp va vb = 0 := by
  unfold gs_aCurve
  rw [gg_ifF (fun q => q ⟨h1.1, h1.2, h2⟩), gg_ifF (fun q => q h3), gg_ifF h]
def gs_curP (r : Int32) (vp va vb p a b : Int) (u : Int × Int × Int) : Prop :=
  r = zI (gs_aCurve vp va vb) ∧ (gs_aCurve vp va vb = 0 → u = (vp, va, vb)) ∧ (gs_aCurve vp va vb ≠ 0 → u = (p, a, b))
theorem gs_curNo {vp va vb p a b k : Int} (h : gs_aCurve vp va vb = k) (hk : k ≠ 0) : gs_curP (zI k) vp va vb p a b (p, a, b) := ⟨by rw [h], fun q => absurd (h.symm.trans q) hk, fun _ => rfl⟩
theorem gs_curYes {vp va vb p a b : Int} (h : gs_aCurve vp va vb = 0) : gs_curP (zI 0) vp va vb p a b (vp, va, vb) := ⟨by rw [h], fun _ => rfl, fun q => absurd h q⟩
end
