-- What the reference's methods need.
section
theorem gs_rs1 (p a b x : Int) : ((x * x % p * x) % p + (a * x) % p + b) % p = gs_rhs a b x % p := by
  unfold gs_rhs
  exact zm_a (zm_a (zm_e.trans (zm_m zm_e rfl)) zm_e) rfl
theorem gs_cntLe (p v : Int) (Y : Nat) : gs_cnt p v Y ≤ Y := by
  unfold gs_cnt
  have h := List.length_filter_le (fun y : Nat => decide ((y : Int) * y % p = v)) (List.range Y)
  rw [List.length_range] at h
  exact h
theorem gs_rowLenZ {p a b x : Int} (hp : 0 ≤ p) (hx : 0 ≤ x) : ((gs_row p.toNat a b x.toNat).length : Int) = (gs_cnt p (gs_rhs a b x % p) p.toNat : Int) := by
  obtain ⟨N, hN⟩ : ∃ N : Nat, p = N := ⟨p.toNat, by omega⟩
  obtain ⟨X, hX⟩ : ∃ X : Nat, x = X := ⟨x.toNat, by omega⟩
  subst hN
  subst hX
  rw [Int.toNat_natCast, Int.toNat_natCast, gs_rowLen]
theorem gs_cntTz {p v y : Int} (hy : 0 ≤ y) (h : y * y % p = v) : (gs_cnt p v (y + 1).toNat : Int) = gs_cnt p v y.toNat + 1 := by
  rw [show (y + 1).toNat = y.toNat + 1 by omega, gs_cntT (by rw [Int.toNat_of_nonneg hy]; exact h)]
  rfl
theorem gs_cntFz {p v y : Int} (hy : 0 ≤ y) (h : ¬ y * y % p = v) : (gs_cnt p v (y + 1).toNat : Int) = gs_cnt p v y.toNat := by
  rw [show (y + 1).toNat = y.toNat + 1 by omega, gs_cntF (by rw [Int.toNat_of_nonneg hy]; exact h)]
def gs_sq (p : Int) (g : Int → Int) (y : Int) : Prop := ∀ v, 0 ≤ v → v < p → g v = (gs_cnt p v y.toNat : Int)
theorem gs_sqS {p y : Int} {g : Int → Int} (hy : 0 ≤ y) (h : gs_sq p g y) (hm : 0 ≤ y * y % p ∧ y * y % p < p) : gs_sq p (zU g (y * y % p) (g (y * y % p) + 1)) (y + 1) := by
  intro v h1 h2
  by_cases hv : v = y * y % p
  · rw [hv, zU_eq, gs_cntTz hy rfl, h _ hm.1 hm.2]
  · rw [zU_ne _ _ _ hv, gs_cntFz hy (fun q => hv q.symm), h v h1 h2]
theorem gs_preSz {p a b x : Int} (hx : 0 ≤ x) : ((gs_pre p.toNat a b (x + 1).toNat).length : Int) = (gs_pre p.toNat a b x.toNat).length + (gs_row p.toNat a b x.toNat).length := by
  rw [show (x + 1).toNat = x.toNat + 1 by omega, gs_preL]
  rfl
theorem gs_oppZ {p u w : Int} (hp : 5 ≤ p ∧ p ≤ 4093) (hu : 0 ≤ u ∧ u / 4096 < p ∧ u % 4096 < p) (hw : 0 ≤ w ∧ w / 4096 < p ∧ w % 4096 < p) :
    w = gs_opp p u ↔ (u / 4096 = w / 4096 ∧ (u % 4096 + w % 4096) % p = 0) := by
  obtain ⟨N, hN⟩ : ∃ N : Nat, p = N := ⟨p.toNat, by omega⟩
  subst hN
  obtain ⟨F, R, f, hf⟩ := gp_ring N (by omega)
  have h := gs_oppIff (p := N) (by omega) hf u w hu hw
  rw [h, ← gp_zero hf]
  obtain ⟨g1, g2, g3, g4, g5, g6, g7⟩ := hf
  rw [g1, g6, Int.emod_eq_of_lt (by omega) hu.2.1, Int.emod_eq_of_lt (by omega) hw.2.1]
theorem gs_sameX {p a b u w : Int} (hcv : gs_cv p a b) (hu : gs_ok p a b u) (hw : gs_ok p a b w) (h1 : u ≠ -1) (h2 : w ≠ -1) (hx : u / 4096 = w / 4096) (hy : (u % 4096 + w % 4096) % p ≠ 0) : u = w := by
  obtain ⟨c1, c2, c3, _⟩ := hcv
  have hu' := hu.resolve_left h1
  have hw' := hw.resolve_left h2
  obtain ⟨N, hN⟩ : ∃ N : Nat, p = N := ⟨p.toNat, by omega⟩
  subst hN
  rw [Int.toNat_natCast] at c3
  have e : (u % 4096) * (u % 4096) % N = (w % 4096) * (w % 4096) % N := by
    rw [hu'.2.2.2, hw'.2.2.2, hx]
  rcases gs_sqEq c3 (y := u % 4096) (z := w % 4096) (by omega) (by omega) e with h | h
  · omega
  · rw [h, Int.emod_self] at hy
    exact absurd rfl hy
theorem gs_slopeS {p a u : Int} (x y : Int) (hx : x = u / 4096) (hy : y = u % 4096) : (3 * (x * x % p) + a) % p * gs_inv p (2 * y % p) % p = gs_slope p a u u := by
  unfold gs_slope
  rw [if_pos rfl, hx, hy]
  have e : (3 * (u / 4096 * (u / 4096) % p) + a) % p = (3 * (u / 4096) * (u / 4096) + a) % p := by
    rw [Int.mul_assoc]
    exact zm_a (zm_m rfl zm_e) rfl
  rw [e]
theorem gs_ov0 {p u v r w : Int} (hr : 0 ≤ r ∧ r < p) (h : r * w ^ (0 : Int).toNat % p = u * v ^ (p - 2).toNat % p) : r = u * gs_inv p v % p := by
  unfold gs_inv
  rw [gp_mm2, ← h]
  show r = r * w ^ 0 % p
  rw [Int.pow_zero, Int.mul_one, Int.emod_eq_of_lt hr.1 hr.2]
theorem gs_min {p u : Int} (hp : 5 ≤ p ∧ p ≤ 4093) (hu : 0 ≤ u ∧ u / 4096 < p ∧ u % 4096 < p) : u / 4096 * 4096 + (- (u % 4096)) % p = gs_opp p u := by
  unfold gs_opp
  rw [if_neg (by omega)]
  by_cases h : u % 4096 = 0
  · rw [if_pos h, h]
    show u / 4096 * 4096 + 0 % p = u
    rw [Int.zero_emod]
    omega
  · rw [if_neg h]
    have e : (- (u % 4096)) % p = p - u % 4096 := by
      rw [← Int.add_emod_right, Int.emod_eq_of_lt (by omega) (by omega)]
      omega
    rw [e]
theorem gs_ptAt {p a b k x y : Int} (hp : 5 ≤ p ∧ p ≤ 4093) (hx : 0 ≤ x ∧ x < p) (hy : 0 ≤ y ∧ y < p) (hyy : y * y % p = gs_rhs a b x % p)
    (hk : k = ((gs_pre p.toNat a b x.toNat).length : Int) + gs_cnt p (gs_rhs a b x % p) y.toNat) (hc : (gs_cnt p (gs_rhs a b x % p) y.toNat : Int) < gs_cnt p (gs_rhs a b x % p) p.toNat) :
    gs_aPoint p a b k = 4096 * x + y := by
  have hl := gs_rowLenZ (p := p) (a := a) (b := b) (x := x) (by omega) hx.1
  have hs := gs_preSz (p := p) (a := a) (b := b) (x := x) hx.1
  have hm := gs_preMono p.toNat a b (show (x + 1).toNat ≤ p.toNat by omega)
  have hn := gs_nPre p a b
  unfold gs_aPoint
  rw [if_pos (by omega)]
  obtain ⟨N, hN⟩ : ∃ N : Nat, p = N := ⟨p.toNat, by omega⟩
  obtain ⟨X, hX⟩ : ∃ X : Nat, x = X := ⟨x.toNat, by omega⟩
  obtain ⟨Y, hY⟩ : ∃ Y : Nat, y = Y := ⟨y.toNat, by omega⟩
  subst hN
  subst hX
  subst hY
  unfold gs_L
  rw [show ((X : Int) + 1).toNat = X + 1 by omega] at hs hm
  simp only [Int.toNat_natCast] at hl hs hk hc hm hn ⊢
  rw [gs_ptsAt N a b (X := X) (k := k.toNat) (by omega) (by omega) (by omega)]
  rw [show k.toNat - (gs_pre N a b X).length = gs_cnt N (gs_rhs a b X % N) Y by omega, gs_rowAt a b X Y (by omega) hyy]
  show (X : Int) * 4096 + Y = 4096 * X + Y
  omega
theorem gs_ptOut {p a b k x l : Int} (hp : 5 ≤ p) (hx : x = p) (hk : k = l + ((gs_pre p.toNat a b x.toNat).length : Int)) (hl : 0 ≤ l) (h : ¬ l = 0) : gs_aPoint p a b k = -2 := by
  have hn := gs_nPre p a b
  subst hx
  unfold gs_aPoint
  rw [if_neg (by omega)]
theorem gs_ptEnd {p a b k x l : Int} (hp : 5 ≤ p ∧ p ≤ 4093) (hx : x = p) (hk : k = l + ((gs_pre p.toNat a b x.toNat).length : Int)) (h : l = 0) : gs_aPoint p a b k = -1 := by
  have hn := gs_nPre p a b
  subst hx
  rw [show k = gs_n x a b - 1 by omega]
  exact gs_pointLast hp
theorem gs_pwSz (p a u : Int) {k : Int} (hk : 0 ≤ k) : gs_pw p a u (k + 1).toNat = gs_sum p a (gs_pw p a u k.toNat) u := by
  rw [show (k + 1).toNat = k.toNat + 1 by omega]
  rfl
end
section
theorem gs_tw1 (p a g : Int) : a * (g * g % p) % p = a * g * g % p := by
  rw [gp_mm2, Int.mul_assoc]
theorem gs_tw2 (p b g : Int) : b * (g * g % p) % p * g % p = b * g * g * g % p := by
  rw [gp_mm1, Int.mul_assoc, Int.mul_comm (g * g % p) g, ← Int.mul_assoc, gp_mm2]
  congr 1
  grind
end
