-- The reference's first division values; the first curve.
section
theorem gs_t3m {p a b x xa aa : Int} (hxa : xa = x * x % p) (haa : aa = a * a % p) : (3 * (xa * xa % p) + 6 * (a * xa % p) + 12 * (b * x % p) - aa) % p = gs_f3 p a b x := by
  unfold gs_f3
  have e1 : xa * xa % p % p = x * x * x * x % p := by
    rw [hxa]
    refine zm_e.trans ((zm_m zm_e zm_e).trans ?_)
    congr 1
    grind
  have e2 : a * xa % p % p = a * x * x % p := by
    rw [hxa]
    refine zm_e.trans ((zm_m rfl zm_e).trans ?_)
    congr 1
    grind
  have e3 : aa % p = a * a % p := by
    rw [haa]
    exact zm_e
  exact zm_s (zm_a (zm_a (zm_m rfl e1) (zm_m rfl e2)) (zm_m rfl zm_e)) e3
theorem gs_t4m {p a b x xa xb aa : Int} (hxa : xa = x * x % p) (hxb : xb = xa * x % p) (haa : aa = a * a % p) :
    (2 * ((xb * xb % p + 5 * (a * xa % p * xa % p) + 20 * (b * xb % p) - 5 * (aa * xa % p) - 4 * (a * b % p * x % p) - 8 * (b * b % p) - aa * a % p) % p)) % p = gs_f4 p a b x := by
  unfold gs_f4
  have ex : xa % p = x * x % p := by
    rw [hxa]
    exact zm_e
  have e0 : xb % p = x * x * x % p := by
    rw [hxb]
    exact zm_e.trans (zm_m ex rfl)
  have ea : aa % p = a * a % p := by
    rw [haa]
    exact zm_e
  have e1 : xb * xb % p % p = x * x * x * x * x * x % p := by
    refine zm_e.trans ((zm_m e0 e0).trans ?_)
    congr 1
    grind
  have e2 : a * xa % p * xa % p % p = a * x * x * x * x % p := by
    refine zm_e.trans ((zm_m (zm_e.trans (zm_m rfl ex)) ex).trans ?_)
    congr 1
    grind
  have e3 : b * xb % p % p = b * x * x * x % p := by
    refine zm_e.trans ((zm_m rfl e0).trans ?_)
    congr 1
    grind
  have e4 : aa * xa % p % p = a * a * x * x % p := by
    refine zm_e.trans ((zm_m ea ex).trans ?_)
    congr 1
    grind
  have e5 : a * b % p * x % p % p = a * b * x % p := zm_e.trans (zm_m zm_e rfl)
  have e6 : b * b % p % p = b * b % p := zm_e
  have e7 : aa * a % p % p = a * a * a % p := zm_e.trans (zm_m ea rfl)
  exact zm_m rfl (zm_e.trans (zm_s (zm_s (zm_s (zm_s (zm_a (zm_a e1 (zm_m rfl e2)) (zm_m rfl e3)) (zm_m rfl e4)) (zm_m rfl e5)) (zm_m rfl e6)) e7))
theorem gs_cv511 : gs_cv 5 1 1 := by
  refine ⟨by decide, by decide, ⟨by decide, fun d h1 h2 => ?_⟩, ⟨by decide, by decide⟩, ⟨by decide, by decide⟩, by decide⟩
  have h3 : d < 5 := h2
  rcases (show d = 2 ∨ d = 3 ∨ d = 4 by omega) with h | h | h
  · subst h; decide
  · subst h; decide
  · subst h; decide
abbrev wz0 (h0 : Nat) : va_W := [(h0, .inr (0, [.int 0, .int 0, .int 0, .int 0, .null, .null, .null]))]
abbrev wz1 (k0 : Nat) : va_W := [(k0, .inr (1, [.int 0, .int 0, .int 0, .null, .null]))]
abbrev zz : Int → Int := fun _ => 0
end
