-- Division values.
section
def gs_f3 (p a b x : Int) : Int := (3 * (x * x * x * x) + 6 * (a * x * x) + 12 * (b * x) - a * a) % p
def gs_f4 (p a b x : Int) : Int := (2 * (x * x * x * x * x * x + 5 * (a * x * x * x * x) + 20 * (b * x * x * x) - 5 * (a * a * x * x) - 4 * (a * b * x) - 8 * (b * b) - a * a * a)) % p
def gs_qq (p a b x : Int) : Int := (4 * (gs_rhs a b x % p)) % p * ((4 * (gs_rhs a b x % p)) % p) % p
def gs_cub (p v : Int) : Int := v * v % p * v % p
def gs_ev (p : Int) (f : Int → Int) (j : Int) : Int := f j * ((f (j + 2) * (f (j - 1) * f (j - 1) % p) % p - f (j - 2) * (f (j + 1) * f (j + 1) % p) % p) % p) % p
def gs_od (p qq : Int) (f : Int → Int) (j : Int) : Int :=
  if j % 2 = 0 then (qq * (f (j + 2) * gs_cub p (f j) % p) - f (j - 1) * gs_cub p (f (j + 1)) % p) % p
  else (f (j + 2) * gs_cub p (f j) % p - qq * (f (j - 1) * gs_cub p (f (j + 1)) % p)) % p
def gs_stp (p qq : Int) (f : Int → Int) (i : Int) : Int := if i % 2 = 0 then gs_ev p f (i / 2) else gs_od p qq f (i / 2)
def gs_base (p a b x : Int) : Int → Int := fun j => if j = 0 then 0 else if j = 1 then 1 else if j = 2 then 1 else if j = 3 then gs_f3 p a b x else if j = 4 then gs_f4 p a b x else 0
def gs_G (p a b x : Int) : Nat → (Int → Int)
  | 0 => gs_base p a b x
  | k + 1 => zU (gs_G p a b x k) ((k : Int) + 5) (gs_stp p (gs_qq p a b x) (gs_G p a b x k) ((k : Int) + 5))
def gs_F (p a b x i : Int) : Int := gs_G p a b x i.toNat i
theorem gs_Gs (p a b x : Int) (k : Nat) {j : Int} (h : j ≤ (k : Int) + 4) : gs_G p a b x (k + 1) j = gs_G p a b x k j := zU_ne _ _ _ (by omega)
theorem gs_Gm (p a b x : Int) {k k' : Nat} (hk : k ≤ k') {j : Int} (h : j ≤ (k : Int) + 4) : gs_G p a b x k' j = gs_G p a b x k j := by
  induction k' with
  | zero =>
    have : k = 0 := by omega
    subst this
    rfl
  | succ k' ih =>
    by_cases h1 : k = k' + 1
    · subst h1
      rfl
    · rw [gs_Gs p a b x k' (by omega)]
      exact ih (by omega)
theorem gs_GF (p a b x : Int) (k : Nat) {j : Int} (h0 : 0 ≤ j) (h : j ≤ (k : Int) + 4) : gs_G p a b x k j = gs_F p a b x j := by
  unfold gs_F
  rcases Nat.le_total k j.toNat with h1 | h1
  · exact (gs_Gm p a b x h1 h).symm
  · exact gs_Gm p a b x h1 (by omega)
theorem gs_F0 (p a b x : Int) : gs_F p a b x 0 = 0 := (gs_GF p a b x 0 (j := 0) (by omega) (by omega)).symm
theorem gs_F1 (p a b x : Int) : gs_F p a b x 1 = 1 := (gs_GF p a b x 0 (j := 1) (by omega) (by omega)).symm
theorem gs_F2 (p a b x : Int) : gs_F p a b x 2 = 1 := (gs_GF p a b x 0 (j := 2) (by omega) (by omega)).symm
theorem gs_F3 (p a b x : Int) : gs_F p a b x 3 = gs_f3 p a b x := (gs_GF p a b x 0 (j := 3) (by omega) (by omega)).symm
theorem gs_F4 (p a b x : Int) : gs_F p a b x 4 = gs_f4 p a b x := (gs_GF p a b x 0 (j := 4) (by omega) (by omega)).symm
theorem gs_evC {p : Int} {f f' : Int → Int} {j : Int} (h : ∀ i, j - 2 ≤ i → i ≤ j + 2 → f i = f' i) : gs_ev p f j = gs_ev p f' j := by
  unfold gs_ev
  rw [h j (by omega) (by omega), h (j + 2) (by omega) (by omega), h (j - 1) (by omega) (by omega), h (j - 2) (by omega) (by omega), h (j + 1) (by omega) (by omega)]
theorem gs_odC {p qq : Int} {f f' : Int → Int} {j : Int} (h : ∀ i, j - 1 ≤ i → i ≤ j + 2 → f i = f' i) : gs_od p qq f j = gs_od p qq f' j := by
  unfold gs_od
  rw [h j (by omega) (by omega), h (j + 2) (by omega) (by omega), h (j - 1) (by omega) (by omega), h (j + 1) (by omega) (by omega)]
theorem gs_stpC {p qq : Int} {f f' : Int → Int} {i : Int} (hi : 5 ≤ i) (h : ∀ j, 0 ≤ j → j < i → f j = f' j) : gs_stp p qq f i = gs_stp p qq f' i := by
  unfold gs_stp
  by_cases h0 : i % 2 = 0
  · rw [if_pos h0, if_pos h0]
    exact gs_evC (fun j h1 h2 => h j (by omega) (by omega))
  · rw [if_neg h0, if_neg h0]
    exact gs_odC (fun j h1 h2 => h j (by omega) (by omega))
theorem gs_FS (p a b x : Int) {i : Int} (hi : 5 ≤ i) : gs_F p a b x i = gs_stp p (gs_qq p a b x) (gs_F p a b x) i := by
  have e : gs_F p a b x i = gs_G p a b x ((i - 5).toNat + 1) i := (gs_GF p a b x _ (by omega) (by omega)).symm
  rw [e]
  show zU (gs_G p a b x (i - 5).toNat) (((i - 5).toNat : Int) + 5) (gs_stp p (gs_qq p a b x) (gs_G p a b x (i - 5).toNat) (((i - 5).toNat : Int) + 5)) i = _
  rw [show (((i - 5).toNat : Nat) : Int) + 5 = i by omega, zU_eq]
  exact gs_stpC hi (fun j h1 h2 => gs_GF p a b x _ h1 (by omega))
theorem gs_FR {p a b x : Int} (hp : 5 ≤ p) {i : Int} (hi : 0 ≤ i) : 0 ≤ gs_F p a b x i ∧ gs_F p a b x i < p := by
  rcases Int.lt_or_le 4 i with h | h
  · rw [gs_FS p a b x (by omega)]
    unfold gs_stp gs_ev gs_od
    split
    · exact zz_md (by omega)
    · split
      · exact zz_md (by omega)
      · exact zz_md (by omega)
  · rcases (show i = 0 ∨ i = 1 ∨ i = 2 ∨ i = 3 ∨ i = 4 by omega) with h1 | h1 | h1 | h1 | h1
    · rw [h1, gs_F0]; omega
    · rw [h1, gs_F1]; omega
    · rw [h1, gs_F2]; omega
    · rw [h1, gs_F3]; exact zz_md (by omega)
    · rw [h1, gs_F4]; exact zz_md (by omega)
def gs_aDiv (p a b k x : Int) : Int := if 0 ≤ k ∧ k ≤ 40 ∧ 0 ≤ x ∧ x < p then gs_F p a b x k else -1
theorem gs_t3 (p a b x : Int) : (((3 * x * x + 6 * a) % p * x + 12 * b) % p * x - a * a) % p = gs_f3 p a b x := by
  unfold gs_f3
  have e : 3 * (x * x * x * x) + 6 * (a * x * x) + 12 * (b * x) - a * a = ((3 * x * x + 6 * a) * x + 12 * b) * x - a * a := by grind
  rw [e]
  exact zm_s (zm_m (zm_e.trans (zm_a (zm_m zm_e rfl) rfl)) rfl) rfl
theorem gs_t4 (p a b x : Int) : (2 * ((((((x * x + 5 * a) % p * x + 20 * b) % p * x - 5 * a * a) % p * x - 4 * a * b) % p * x - 8 * b * b - a * a % p * a) % p)) % p = gs_f4 p a b x := by
  unfold gs_f4
  have e : x * x * x * x * x * x + 5 * (a * x * x * x * x) + 20 * (b * x * x * x) - 5 * (a * a * x * x) - 4 * (a * b * x) - 8 * (b * b) - a * a * a
      = ((((x * x + 5 * a) * x + 20 * b) * x - 5 * a * a) * x - 4 * a * b) * x - 8 * b * b - a * a * a := by grind
  rw [e]
  refine zm_m rfl (zm_e.trans ?_)
  refine zm_s (zm_s (zm_m (zm_e.trans ?_) rfl) rfl) (zm_m zm_e rfl)
  refine zm_s (zm_m (zm_e.trans ?_) rfl) rfl
  refine zm_s (zm_m (zm_e.trans ?_) rfl) rfl
  exact zm_a (zm_m zm_e rfl) rfl
theorem gs_cubR {p v : Int} (hp : 0 < p) : 0 ≤ gs_cub p v ∧ gs_cub p v < p := zz_md hp
theorem zz_kp {k x y : Int} (hx : 0 ≤ x ∧ x < 4096) (hy : 0 ≤ y ∧ y < 4096) (hk : 0 ≤ k) : 0 ≤ k * x * y ∧ k * x * y ≤ k * 16769025 := by
  have h := zz_pr hx hy
  rw [Int.mul_assoc]
  exact ⟨Int.mul_nonneg hk h.1, Int.mul_le_mul_of_nonneg_left h.2 hk⟩
end
