-- Small facts that the walks use.
section
theorem zm_e {p x : Int} : x % p % p = x % p := Int.emod_emod x p
theorem zm_a {p x x' y y' : Int} (h1 : x % p = x' % p) (h2 : y % p = y' % p) : (x + y) % p = (x' + y') % p := by
  rw [Int.add_emod, h1, h2, ← Int.add_emod]
theorem zm_s {p x x' y y' : Int} (h1 : x % p = x' % p) (h2 : y % p = y' % p) : (x - y) % p = (x' - y') % p := by
  rw [Int.sub_emod, h1, h2, ← Int.sub_emod]
theorem zm_m {p x x' y y' : Int} (h1 : x % p = x' % p) (h2 : y % p = y' % p) : (x * y) % p = (x' * y') % p := by
  rw [Int.mul_emod, h1, h2, ← Int.mul_emod]
theorem gs_rs (p a b x : Int) : ((x * x + a) % p * x + b) % p = gs_rhs a b x % p := by
  unfold gs_rhs
  have e : x * x * x + a * x + b = (x * x + a) * x + b := by rw [Int.add_mul]
  rw [e]
  exact zm_a (zm_m zm_e rfl) rfl
theorem zz_nmod {k : Nat} {d v : Int} (hk : (k : Int) = d) (hv : 0 ≤ v) (h : ¬ v % d = 0) : v.toNat % k ≠ 0 := by
  intro h0
  apply h
  rw [← hk, ← Int.toNat_of_nonneg hv, ← Int.natCast_emod, h0]
  rfl
theorem zz_sqle {d : Int} (h0 : 0 ≤ d) (h : d * d ≤ 4095) : d ≤ 63 := by
  rcases Int.lt_or_le 63 d with h1 | h1
  · have h2 : 64 * d ≤ d * d := Int.mul_le_mul_of_nonneg_right (by omega) h0
    omega
  · exact h1
theorem zz_sqlt {d v : Int} (h0 : 2 ≤ d) (h : d * d ≤ v) : d < v := by
  have h2 : 2 * d ≤ d * d := Int.mul_le_mul_of_nonneg_right h0 (by omega)
  omega
theorem zz_notprime {v d : Int} (h : gp_prime v.toNat) (h1 : 2 ≤ d) (h2 : d < v) (h3 : v % d = 0) : False := by
  apply h.2 d.toNat (by omega) (by omega)
  have e : ((v.toNat % d.toNat : Nat) : Int) = 0 := by
    rw [Int.natCast_emod, Int.toNat_of_nonneg (by omega), Int.toNat_of_nonneg (by omega)]
    exact h3
  omega
theorem zz_prime {v d : Int} (h5 : 5 ≤ v) (h0 : 0 ≤ d) (h1 : v < d * d) (h : ∀ k : Nat, 2 ≤ k → (k : Int) < d → v.toNat % k ≠ 0) : gp_prime v.toNat := by
  refine gp_primeOf (by omega) (fun k hk hkk => h k hk ?_)
  rcases Int.lt_or_le (k : Int) d with h2 | h2
  · exact h2
  · have h3 : d * d ≤ (k : Int) * k := Int.mul_le_mul h2 h2 h0 (by omega)
    have h4 : ((k * k : Nat) : Int) ≤ v.toNat := by omega
    rw [Int.natCast_mul] at h4
    omega
theorem zz_sg (p a b a3 b2 : Int) (h1 : a3 = a * a % p * a % p) (h2 : b2 = b * b % p) : (4 * a3 + 27 * b2) % p = (4 * (a * a * a) + 27 * (b * b)) % p := by
  rw [h1, h2]
  exact zm_a (zm_m rfl (zm_e.trans (zm_m zm_e rfl))) (zm_m rfl zm_e)
theorem zz_pw0 {p r w k : Int} (hk : 0 < k) (h : k % 2 = 0) : r * (w * w % p) ^ (k / 2).toNat % p = r * w ^ k.toNat % p := by
  have e : k.toNat = (k / 2).toNat + (k / 2).toNat := by omega
  rw [e, Int.pow_add, ← Int.mul_pow]
  generalize (k / 2).toNat = n
  refine zm_m rfl ?_
  induction n with
  | zero => rw [Int.pow_zero, Int.pow_zero]
  | succ n ih => rw [Int.pow_succ, Int.pow_succ]; exact zm_m ih zm_e
theorem zz_pw1 {p r w k : Int} (hk : 0 < k) (h : k % 2 = 1) : r * w % p * (w * w % p) ^ (k / 2).toNat % p = r * w ^ k.toNat % p := by
  have e : k.toNat = 1 + ((k / 2).toNat + (k / 2).toNat) := by omega
  rw [e, Int.pow_add, Int.pow_add, ← Int.mul_pow, ← Int.mul_assoc]
  generalize (k / 2).toNat = n
  refine zm_m (zm_e.trans ?_) ?_
  · rw [Int.pow_succ, Int.pow_zero, Int.one_mul]
  · induction n with
    | zero => rw [Int.pow_zero, Int.pow_zero]
    | succ n ih => rw [Int.pow_succ, Int.pow_succ]; exact zm_m ih zm_e
theorem gs_invR {p v : Int} (hp : 0 < p) : 0 ≤ gs_inv p v ∧ gs_inv p v < p := zz_md hp
theorem zz_p3 {x : Int} (hx : 0 ≤ x ∧ x < 4096) : 0 ≤ 3 * x * x ∧ 3 * x * x ≤ 50307075 := by
  have h := zz_pr hx hx
  rw [Int.mul_assoc]
  omega
theorem gs_slopeR (p a u w : Int) (hp : 0 < p) : 0 ≤ gs_slope p a u w ∧ gs_slope p a u w < p := by
  unfold gs_slope
  split
  · exact zz_md hp
  · exact zz_md hp
theorem gs_oppR {p u : Int} (hp : 5 ≤ p ∧ p ≤ 4093) (hu : u = -1 ∨ (0 ≤ u ∧ u / 4096 < p ∧ u % 4096 < p)) : -1 ≤ gs_opp p u ∧ gs_opp p u < 2147483648 := by
  unfold gs_opp
  split
  · omega
  · split <;> omega
end
