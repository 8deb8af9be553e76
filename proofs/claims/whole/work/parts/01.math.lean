-- The sum of points over any ring in which a product is 0 only where a factor is.
section

def gg_ln {F : Type} [Lean.Grind.CommRing F] (a b m k x1 y1 x2 y2 x3 : F) : Prop :=
  y1 = m * x1 + k ∧ y2 = m * x2 + k ∧ x1 + x2 + x3 = m * m ∧
  x1 * x2 + x1 * x3 + x2 * x3 = a - (m * k + m * k) ∧ x1 * x2 * x3 = k * k - b

def gg_on {F : Type} [Lean.Grind.CommRing F] (a b : F) : Option (F × F) → Prop
  | none => True
  | some (x, y) => y * y = x * x * x + a * x + b

noncomputable def gg_if {α : Type} (c : Prop) (x y : α) : α := @ite α c (Classical.propDecidable c) x y
theorem gg_ifT {α : Type} {c : Prop} (h : c) (x y : α) : gg_if c x y = x := by
  unfold gg_if
  exact if_pos h
theorem gg_ifF {α : Type} {c : Prop} (h : ¬ c) (x y : α) : gg_if c x y = y := by
  unfold gg_if
  exact if_neg h

noncomputable def gg_m {F : Type} [Lean.Grind.CommRing F] (iv : F → F) (a x1 y1 x2 y2 : F) : F :=
  gg_if (x1 = x2) ((x1 * x1 + x1 * x1 + x1 * x1 + a) * iv (y1 + y1)) ((y2 - y1) * iv (x2 - x1))

noncomputable def gg_add {F : Type} [Lean.Grind.CommRing F] (iv : F → F) (a : F) :
    Option (F × F) → Option (F × F) → Option (F × F)
  | none, q => q
  | some P, none => some P
  | some (x1, y1), some (x2, y2) =>
    gg_if (x1 = x2 ∧ y1 + y2 = 0) none
      (some ((gg_m iv a x1 y1 x2 y2) * (gg_m iv a x1 y1 x2 y2) - x1 - x2,
        (gg_m iv a x1 y1 x2 y2) * (x1 - ((gg_m iv a x1 y1 x2 y2) * (gg_m iv a x1 y1 x2 y2) - x1 - x2)) - y1))

def gg_neg {F : Type} [Lean.Grind.CommRing F] : Option (F × F) → Option (F × F)
  | none => none
  | some (x, y) => some (x, - y)

theorem gg_addOpp {F : Type} [Lean.Grind.CommRing F] (iv : F → F) (a x1 y1 x2 y2 : F)
    (h : x1 = x2 ∧ y1 + y2 = 0) : gg_add iv a (some (x1, y1)) (some (x2, y2)) = none := by
  unfold gg_add
  exact gg_ifT h _ _

theorem gg_cancel {F : Type} [Lean.Grind.CommRing F]
    (nz : ∀ x y : F, x * y = 0 → x = 0 ∨ y = 0) (c x y : F) (hc : c ≠ 0)
    (h : c * x = c * y) : x = y := by
  have h1 : c * (x - y) = 0 := by grind
  rcases nz _ _ h1 with h2 | h2
  · exact absurd h2 hc
  · grind


-- small equations, one by one
section
variable {F : Type}
theorem gg_sub0 [Lean.Grind.CommRing F] {x y : F} (h : x - y = 0) : x = y := by grind
theorem gg_r1 [Lean.Grind.CommRing F] {a m k x1 y1 x3 : F} (h1 : y1 = m * x1 + k) (h3 : x1 + x1 + x3 = m * m)
    (h4 : x1 * x1 + x1 * x3 + x1 * x3 = a - (m * k + m * k)) : x1 * x1 + x1 * x1 + x1 * x1 + a = m * (y1 + y1) := by
  have e3 : x3 = m * m - x1 - x1 := by clear h1 h4; grind
  subst e3
  subst h1
  clear h3
  grind
theorem gg_r2 [Lean.Grind.CommRing F] {m k x1 y1 x2 y2 : F} (h1 : y1 = m * x1 + k) (h2 : y2 = m * x2 + k) : y2 - y1 = m * (x2 - x1) := by
  subst h1
  subst h2
  grind
theorem gg_r3 [Lean.Grind.CommRing F] {t x1 x2 x3 : F} (h : x1 + x2 + x3 = t) : t - x1 - x2 = x3 := by
  subst h
  grind
theorem gg_r4 [Lean.Grind.CommRing F] {m k x1 y1 x3 : F} (h : y1 = m * x1 + k) : m * (x1 - x3) - y1 = - (m * x3 + k) := by
  subst h
  grind
theorem gg_n1 [Lean.Grind.CommRing F] {m k x y : F} (h : y = m * x + k) : - y = - m * x + - k := by
  subst h
  grind
theorem gg_n3 [Lean.Grind.CommRing F] {m t : F} (h : t = m * m) : t = - m * - m := by
  subst h
  grind
theorem gg_n4 [Lean.Grind.CommRing F] {m k t a : F} (h : t = a - (m * k + m * k)) : t = a - (- m * - k + - m * - k) := by
  subst h
  grind
theorem gg_n5 [Lean.Grind.CommRing F] {k t b : F} (h : t = k * k - b) : t = - k * - k - b := by
  subst h
  grind
theorem gg_k1 [Lean.Grind.CommRing F] {m k n l x2 y2 x3 y3 : F} (p2 : y2 = m * x2 + k) (q1 : y2 = n * x2 + l) (q2 : y3 = n * x3 + l) :
    y3 - m * x3 - k = (n - m) * (x3 - x2) := by
  have e : l = m * x2 + k - n * x2 := by rw [← p2, q1]; grind
  subst e
  subst q2
  clear p2 q1
  grind
theorem gg_k1b [Lean.Grind.CommRing F] {m k n x2 x12 y3 : F} (hd : y3 - m * x12 - k = (n - m) * (x12 - x2)) (hy : y3 = - (m * x12 + k)) :
    y3 + y3 = (n - m) * (x12 - x2) := by
  rw [← hd]
  clear hd
  grind
theorem gg_k2 [Lean.Grind.CommRing F] {a m k x1 x2 x12 : F} (p3 : x1 + x2 + x12 = m * m)
    (p4 : x1 * x2 + x1 * x12 + x2 * x12 = a - (m * k + m * k)) :
    x12 * x12 + x12 * x12 + x12 * x12 + a - (m + m) * (m * x12 + k) = (x12 - x1) * (x12 - x2) := by
  have e : a = x1 * x2 + x1 * x12 + x2 * x12 + (m * k + m * k) := by rw [p4]; clear p3 p4; grind
  subst e
  clear p4
  have e2 : (m + m) * (m * x12 + k) = (m * m + m * m) * x12 + (m * k + m * k) := by clear p3; grind
  rw [e2, ← p3]
  clear e2 p3
  grind
theorem gg_k2b [Lean.Grind.CommRing F] {a m k x1 x3 x12 : F} (p3 : x1 + x3 + x12 = m * m)
    (p4 : x1 * x3 + x1 * x12 + x3 * x12 = a - (m * k + m * k)) :
    x3 * x3 + x3 * x3 + x3 * x3 + a - (m + m) * (m * x3 + k) = (x3 - x1) * (x3 - x12) := by
  have e : a = x1 * x3 + x1 * x12 + x3 * x12 + (m * k + m * k) := by rw [p4]; clear p3 p4; grind
  subst e
  clear p4
  have e2 : (m + m) * (m * x3 + k) = (m * m + m * m) * x3 + (m * k + m * k) := by clear p3; grind
  rw [e2, ← p3]
  clear e2 p3
  grind
theorem gg_k3 [Lean.Grind.CommRing F] {t m k u x12 y3 w : F} (e2 : t = u * (y3 + y3)) (e3 : t - (m + m) * (m * x12 + k) = w) (hy : y3 = - (m * x12 + k)) :
    (y3 + y3) * (u + m) = w := by
  rw [← e3, e2, hy]
  clear e2 e3 hy
  grind
theorem gg_k4 [Lean.Grind.CommRing F] {m n u x1 x2 x12 y : F} (e1 : y = (n - m) * (x12 - x2)) (e4 : y * (u + m) = (x12 - x1) * (x12 - x2)) :
    (x12 - x2) * ((u + m) * (n - m)) = (x12 - x2) * (x12 - x1) := by
  rw [e1] at e4
  clear e1
  have : (x12 - x2) * ((u + m) * (n - m)) = (n - m) * (x12 - x2) * (u + m) := by clear e4; grind
  rw [this, e4]
  clear this e4
  grind
theorem gg_k5 [Lean.Grind.CommRing F] {m k u v x12 x3 y3 : F} (r1 : - (m * x12 + k) = u * x12 + v) (r2 : y3 = u * x3 + v) :
    u * (x3 - x12) = y3 + m * x12 + k := by
  have e : v = - (m * x12 + k) - u * x12 := by rw [r1]; clear r1 r2; grind
  subst e
  subst r2
  clear r1
  grind
theorem gg_k6 [Lean.Grind.CommRing F] {a b m k x1 x2 x12 x3 y3 : F} (ho : y3 * y3 = x3 * x3 * x3 + a * x3 + b) (p3 : x1 + x2 + x12 = m * m)
    (p4 : x1 * x2 + x1 * x12 + x2 * x12 = a - (m * k + m * k)) (p5 : x1 * x2 * x12 = k * k - b) :
    (x3 - x1) * (x3 - x2) * (x3 - x12) = (y3 - m * x3 - k) * (y3 + m * x3 + k) := by
  have e5 : (x3 - x1) * (x3 - x2) * (x3 - x12)
      = x3 * x3 * x3 - x3 * x3 * (x1 + x2 + x12) + x3 * (x1 * x2 + x1 * x12 + x2 * x12) - x1 * x2 * x12 := by
    clear ho p3 p4 p5
    grind
  have e6 : (y3 - m * x3 - k) * (y3 + m * x3 + k) = y3 * y3 - (m * x3 + k) * (m * x3 + k) := by
    clear ho p3 p4 p5 e5
    grind
  rw [e5, p3, p4, p5, e6, ho]
  clear ho p3 p4 p5 e5 e6
  grind
theorem gg_k7 [Lean.Grind.CommRing F] {d n m x1 x2 x3 x12 t : F} (hd : d = (n - m) * (x3 - x2)) (e6 : (x3 - x1) * (x3 - x2) * (x3 - x12) = d * t) :
    (x3 - x2) * (t * (n - m)) = (x3 - x2) * ((x3 - x1) * (x3 - x12)) := by
  have e : (x3 - x2) * (t * (n - m)) = (n - m) * (x3 - x2) * t := by clear hd e6; grind
  rw [e, ← hd, ← e6]
  clear e hd e6
  grind
theorem gg_k8 [Lean.Grind.CommRing F] {m k n u x1 x3 x12 y3 : F} (hu : u * (x3 - x12) = y3 + m * x12 + k)
    (hA : (y3 + m * x3 + k) * (n - m) = (x3 - x1) * (x3 - x12)) :
    (x3 - x12) * ((u + m) * (n - m)) = (x3 - x12) * (x3 - x1) := by
  have e : (x3 - x12) * ((u + m) * (n - m)) = (u * (x3 - x12) + m * (x3 - x12)) * (n - m) := by clear hu hA; grind
  rw [e, hu]
  have e2 : y3 + m * x12 + k + m * (x3 - x12) = y3 + m * x3 + k := by clear e hu hA; grind
  rw [e2, hA]
  clear e e2 hu hA
  grind
theorem gg_a0 [Lean.Grind.CommRing F] {t x1 x3 : F} (h : t * 0 = x3 - x1) : x1 = x3 := by grind
theorem gg_a1 [Lean.Grind.CommRing F] {u u' m n x1 x3 : F} (k1 : (u + m) * (n - m) = x3 - x1) (k2 : (u' + n) * (m - n) = x1 - x3) :
    (n - m) * (u + m) = (n - m) * (u' + n) := by
  have e1 : (n - m) * (u + m) = (u + m) * (n - m) := by clear k1 k2; grind
  have e2 : (n - m) * (u' + n) = - ((u' + n) * (m - n)) := by clear k1 k2 e1; grind
  rw [e1, e2, k1, k2]
  clear e1 e2 k1 k2
  grind
theorem gg_a2 [Lean.Grind.CommRing F] {u u' m n : F} (h : u + m = u' + n) : u' = u + m - n := by
  rw [h]
  clear h
  grind
theorem gg_a3 [Lean.Grind.CommRing F] {u m n x1 x2 x3 : F} (k1 : (u + m) * (n - m) = x3 - x1) :
    u * u - (m * m - x1 - x2) - x3 = (u + m - n) * (u + m - n) - x1 - (n * n - x2 - x3) := by
  have e : x3 = x1 + (u + m) * (n - m) := by rw [k1]; clear k1; grind
  subst e
  clear k1
  grind
theorem gg_a4 [Lean.Grind.CommRing F] {n l x2 y2 x3 y3 : F} (q1 : y2 = n * x2 + l) (q2 : y3 = n * x3 + l) : y3 = y2 + n * (x3 - x2) := by
  subst q1
  subst q2
  grind
theorem gg_a5 [Lean.Grind.CommRing F] {u m n x1 x2 x3 y2 : F} (k1 : (u + m) * (n - m) = x3 - x1) :
    u * (u * u - (m * m - x1 - x2) - x3 - x3) + (y2 + n * (x3 - x2))
      = (u + m - n) * (u * u - (m * m - x1 - x2) - x3 - x1) + (y2 + m * (x1 - x2)) := by
  have e : x3 = x1 + (u + m) * (n - m) := by rw [k1]; clear k1; grind
  subst e
  clear k1
  grind
theorem gg_a6 [Lean.Grind.CommRing F] {u v x x3 y3 : F} (h : y3 = u * x3 + v) : u * x + v = u * (x - x3) + y3 := by
  subst h
  grind
theorem gg_a7 [Lean.Grind.CommRing F] {m k x3 y3 : F} (h : - (m * x3 + k) + y3 = 0) : y3 = m * x3 + k := by grind
theorem gg_a8 [Lean.Grind.CommRing F] {y z : F} (h : y + z = 0) : z = - y := by grind
end

-- the line gives the sum
theorem gg_lineSum {F : Type} [Lean.Grind.CommRing F] (iv : F → F)
    (hiv : ∀ x : F, x ≠ 0 → x * iv x = 1)
    (a b m k x1 y1 x2 y2 x3 : F) (hl : gg_ln a b m k x1 y1 x2 y2 x3)
    (hn : ¬ (x1 = x2 ∧ y1 + y2 = 0)) :
    gg_add iv a (some (x1, y1)) (some (x2, y2)) = some (x3, - (m * x3 + k)) := by
  obtain ⟨h1, h2, h3, h4, h5⟩ := hl
  have hm : gg_m iv a x1 y1 x2 y2 = m := by
    unfold gg_m
    by_cases hx : x1 = x2
    · rw [gg_ifT hx]
      have hy : y1 + y1 ≠ 0 := by
        intro hy
        apply hn
        refine ⟨hx, ?_⟩
        subst hx
        rw [h2, ← h1]
        exact hy
      have hi := hiv _ hy
      have e1 : x1 * x1 + x1 * x1 + x1 * x1 + a = m * (y1 + y1) := by
        subst hx
        exact gg_r1 h1 h3 h4
      rw [e1, Lean.Grind.Semiring.mul_assoc, hi, Lean.Grind.Semiring.mul_one]
    · rw [gg_ifF hx]
      have hd : x2 - x1 ≠ 0 := fun h => hx (gg_sub0 h).symm
      have hi := hiv _ hd
      rw [gg_r2 h1 h2, Lean.Grind.Semiring.mul_assoc, hi, Lean.Grind.Semiring.mul_one]
  unfold gg_add
  dsimp only
  rw [gg_ifF hn, hm, gg_r3 h3, gg_r4 h1]

-- the sum has a line
theorem gg_sumLine {F : Type} [Lean.Grind.CommRing F] (iv : F → F)
    (nz : ∀ x y : F, x * y = 0 → x = 0 ∨ y = 0) (hiv : ∀ x : F, x ≠ 0 → x * iv x = 1)
    (a b x1 y1 x2 y2 : F) (ho1 : y1 * y1 = x1 * x1 * x1 + a * x1 + b)
    (ho2 : y2 * y2 = x2 * x2 * x2 + a * x2 + b)
    (hn : ¬ (x1 = x2 ∧ y1 + y2 = 0)) :
    ∃ m k x3, gg_ln a b m k x1 y1 x2 y2 x3 ∧
      gg_add iv a (some (x1, y1)) (some (x2, y2)) = some (x3, - (m * x3 + k)) := by
  have hm : ∃ m, y2 - y1 = m * (x2 - x1) ∧ m * (y1 + y2) = x1 * x1 + x1 * x2 + x2 * x2 + a := by
    by_cases hx : x1 = x2
    · subst hx
      have h0 : (y1 - y2) * (y1 + y2) = 0 := by grind
      have hy : y1 = y2 := by
        rcases nz _ _ h0 with h | h
        · grind
        · exact absurd ⟨rfl, h⟩ hn
      subst hy
      have hy2 : y1 + y1 ≠ 0 := fun h => hn ⟨rfl, h⟩
      have hi := hiv _ hy2
      refine ⟨(x1 * x1 + x1 * x1 + x1 * x1 + a) * iv (y1 + y1), ?_, ?_⟩
      · grind
      · have : (x1 * x1 + x1 * x1 + x1 * x1 + a) * iv (y1 + y1) * (y1 + y1)
            = (x1 * x1 + x1 * x1 + x1 * x1 + a) * ((y1 + y1) * iv (y1 + y1)) := by grind
        rw [this, hi, Lean.Grind.Semiring.mul_one]
    · have hd : x2 - x1 ≠ 0 := by
        intro h
        apply hx
        grind
      have hi := hiv _ hd
      have e1 : y2 - y1 = (y2 - y1) * iv (x2 - x1) * (x2 - x1) := by
        have : (y2 - y1) * iv (x2 - x1) * (x2 - x1)
            = (y2 - y1) * ((x2 - x1) * iv (x2 - x1)) := by grind
        rw [this, hi, Lean.Grind.Semiring.mul_one]
      refine ⟨(y2 - y1) * iv (x2 - x1), e1, ?_⟩
      apply gg_cancel nz (x2 - x1) _ _ hd
      have e2 : (x2 - x1) * ((y2 - y1) * iv (x2 - x1) * (y1 + y2)) = (y2 - y1) * (y1 + y2) := by
        have : (x2 - x1) * ((y2 - y1) * iv (x2 - x1) * (y1 + y2))
          = ((x2 - x1) * iv (x2 - x1)) * ((y2 - y1) * (y1 + y2)) := by grind
        rw [this, hi, Lean.Grind.Semiring.one_mul]
      rw [e2]
      grind
  obtain ⟨m, h1, h2⟩ := hm
  have hl : gg_ln a b m (y1 - m * x1) x1 y1 x2 y2 (m * m - x1 - x2) := by
    refine ⟨?_, ?_, ?_, ?_, ?_⟩ <;> grind
  exact ⟨m, _, _, hl, gg_lineSum iv hiv a b m _ x1 y1 x2 y2 _ hl hn⟩

theorem gg_lnSwap {F : Type} [Lean.Grind.CommRing F] (a b m k x1 y1 x2 y2 x3 : F)
    (h : gg_ln a b m k x1 y1 x2 y2 x3) : gg_ln a b m k x2 y2 x1 y1 x3 := by
  obtain ⟨h1, h2, h3, h4, h5⟩ := h
  refine ⟨?_, ?_, ?_, ?_, ?_⟩ <;> grind

theorem gg_lnTurn {F : Type} [Lean.Grind.CommRing F] (a b m k x1 y1 x2 y2 x3 : F)
    (h : gg_ln a b m k x1 y1 x2 y2 x3) : gg_ln a b m k x2 y2 x3 (m * x3 + k) x1 := by
  obtain ⟨h1, h2, h3, h4, h5⟩ := h
  refine ⟨?_, ?_, ?_, ?_, ?_⟩ <;> grind

theorem gg_lnNeg {F : Type} [Lean.Grind.CommRing F] (a b m k x1 y1 x2 y2 x3 : F)
    (h : gg_ln a b m k x1 y1 x2 y2 x3) : gg_ln a b (- m) (- k) x1 (- y1) x2 (- y2) x3 := by
  obtain ⟨h1, h2, h3, h4, h5⟩ := h
  exact ⟨gg_n1 h1, gg_n1 h2, gg_n3 h3, gg_n4 h4, gg_n5 h5⟩

theorem gg_lnOn {F : Type} [Lean.Grind.CommRing F] (a b m k x1 y1 x2 y2 x3 : F)
    (h : gg_ln a b m k x1 y1 x2 y2 x3) : y1 * y1 = x1 * x1 * x1 + a * x1 + b := by
  obtain ⟨h1, h2, h3, h4, h5⟩ := h
  have e : x1 * x1 * x1 - x1 * x1 * (x1 + x2 + x3) + x1 * (x1 * x2 + x1 * x3 + x2 * x3) - x1 * x2 * x3 = 0 := by grind
  rw [h3, h4, h5] at e
  rw [h1]
  grind

theorem gg_addNone {F : Type} [Lean.Grind.CommRing F] (iv : F → F) (a : F) (P : Option (F × F)) :
    gg_add iv a P none = P := by
  cases P <;> simp only [gg_add]

theorem gg_noneAdd {F : Type} [Lean.Grind.CommRing F] (iv : F → F) (a : F) (P : Option (F × F)) :
    gg_add iv a none P = P := by
  cases P <;> simp only [gg_add]

theorem gg_addOn {F : Type} [Lean.Grind.CommRing F] (iv : F → F)
    (nz : ∀ x y : F, x * y = 0 → x = 0 ∨ y = 0) (hiv : ∀ x : F, x ≠ 0 → x * iv x = 1)
    (a b : F) (P Q : Option (F × F)) (hP : gg_on a b P) (hQ : gg_on a b Q) :
    gg_on a b (gg_add iv a P Q) := by
  cases P with
  | none => rw [gg_noneAdd]; exact hQ
  | some P =>
    cases Q with
    | none => rw [gg_addNone]; exact hP
    | some Q =>
      obtain ⟨x1, y1⟩ := P
      obtain ⟨x2, y2⟩ := Q
      by_cases hn : x1 = x2 ∧ y1 + y2 = 0
      · rw [gg_addOpp iv a x1 y1 x2 y2 hn]; trivial
      · obtain ⟨m, k, x3, hl, e⟩ := gg_sumLine iv nz hiv a b x1 y1 x2 y2 hP hQ hn
        rw [e]
        have h := gg_lnOn _ _ _ _ _ _ _ _ _ (gg_lnTurn _ _ _ _ _ _ _ _ _ (gg_lnTurn _ _ _ _ _ _ _ _ _ hl))
        show - (m * x3 + k) * - (m * x3 + k) = x3 * x3 * x3 + a * x3 + b
        grind

theorem gg_addComm {F : Type} [Lean.Grind.CommRing F] (iv : F → F)
    (nz : ∀ x y : F, x * y = 0 → x = 0 ∨ y = 0) (hiv : ∀ x : F, x ≠ 0 → x * iv x = 1)
    (a b : F) (P Q : Option (F × F)) (hP : gg_on a b P) (hQ : gg_on a b Q) :
    gg_add iv a P Q = gg_add iv a Q P := by
  cases P with
  | none => rw [gg_noneAdd, gg_addNone]
  | some P =>
    cases Q with
    | none => rw [gg_noneAdd, gg_addNone]
    | some Q =>
      obtain ⟨x1, y1⟩ := P
      obtain ⟨x2, y2⟩ := Q
      by_cases hn : x1 = x2 ∧ y1 + y2 = 0
      · have hn' : x2 = x1 ∧ y2 + y1 = 0 := ⟨hn.1.symm, by grind⟩
        rw [gg_addOpp iv a x1 y1 x2 y2 hn, gg_addOpp iv a x2 y2 x1 y1 hn']
      · have hn' : ¬ (x2 = x1 ∧ y2 + y1 = 0) := by
          intro h
          exact hn ⟨h.1.symm, by grind⟩
        obtain ⟨m, k, x3, hl, e⟩ := gg_sumLine iv nz hiv a b x1 y1 x2 y2 hP hQ hn
        rw [e, gg_lineSum iv hiv a b m k x2 y2 x1 y1 x3 (gg_lnSwap _ _ _ _ _ _ _ _ _ hl) hn']

theorem gg_negOn {F : Type} [Lean.Grind.CommRing F] (a b : F) (P : Option (F × F))
    (hP : gg_on a b P) : gg_on a b (gg_neg P) := by
  cases P with
  | none => trivial
  | some P =>
    obtain ⟨x1, y1⟩ := P
    have h : y1 * y1 = x1 * x1 * x1 + a * x1 + b := hP
    show - y1 * - y1 = x1 * x1 * x1 + a * x1 + b
    grind

theorem gg_negNeg {F : Type} [Lean.Grind.CommRing F] (P : Option (F × F)) :
    gg_neg (gg_neg P) = P := by
  cases P with
  | none => rfl
  | some P =>
    obtain ⟨x1, y1⟩ := P
    show some (x1, - - y1) = some (x1, y1)
    congr 2
    grind

theorem gg_addNeg {F : Type} [Lean.Grind.CommRing F] (iv : F → F) (a : F) (P : Option (F × F)) :
    gg_add iv a P (gg_neg P) = none := by
  cases P with
  | none => rfl
  | some P =>
    obtain ⟨x1, y1⟩ := P
    exact gg_addOpp iv a x1 y1 x1 (- y1) ⟨rfl, by grind⟩

-- (P + Q) - P = Q
theorem gg_back {F : Type} [Lean.Grind.CommRing F] (iv : F → F)
    (nz : ∀ x y : F, x * y = 0 → x = 0 ∨ y = 0) (hiv : ∀ x : F, x ≠ 0 → x * iv x = 1)
    (tw : ∀ x : F, x + x = 0 → x = 0)
    (a b : F) (sg : ∀ x : F, x * x * x + a * x + b = 0 → x * x + x * x + x * x + a ≠ 0)
    (P Q : Option (F × F)) (hP : gg_on a b P) (hQ : gg_on a b Q) :
    gg_add iv a (gg_add iv a P Q) (gg_neg P) = Q := by
  cases P with
  | none => rw [gg_noneAdd]; exact gg_addNone iv a Q
  | some P =>
    cases Q with
    | none => rw [gg_addNone]; exact gg_addNeg iv a _
    | some Q =>
      obtain ⟨x1, y1⟩ := P
      obtain ⟨x2, y2⟩ := Q
      by_cases hn : x1 = x2 ∧ y1 + y2 = 0
      · rw [gg_addOpp iv a x1 y1 x2 y2 hn, gg_noneAdd]
        show some (x1, - y1) = some (x2, y2)
        rw [hn.1]
        congr 2
        grind
      · obtain ⟨m, k, x3, hl, e⟩ := gg_sumLine iv nz hiv a b x1 y1 x2 y2 hP hQ hn
        rw [e]
        have hl2 := gg_lnNeg _ _ _ _ _ _ _ _ _ (gg_lnTurn _ _ _ _ _ _ _ _ _ (gg_lnTurn _ _ _ _ _ _ _ _ _ hl))
        obtain ⟨h1, h2, h3, h4, h5⟩ := hl
        have hl3 : gg_ln a b (- m) (- k) x3 (- (m * x3 + k)) x1 (- y1) x2 := by
          rw [h1]; exact hl2
        have hn3 : ¬ (x3 = x1 ∧ - (m * x3 + k) + - y1 = 0) := by
          rintro ⟨g1, g2⟩
          subst g1
          have hy : y1 + y1 = 0 := by grind
          have hy0 := tw _ hy
          have ho : y1 * y1 = x3 * x3 * x3 + a * x3 + b := hP
          apply sg x3
          · rw [← ho, hy0]; grind
          · have : x3 * x3 + x3 * x3 + x3 * x3 + a = m * (y1 + y1) := by grind
            rw [this, hy]; grind
        show gg_add iv a (some (x3, - (m * x3 + k))) (some (x1, - y1)) = some (x2, y2)
        rw [gg_lineSum iv hiv a b (- m) (- k) x3 _ x1 _ x2 hl3 hn3]
        congr 2
        grind

-- the middle fact: the slopes of the two ways have one sum
theorem gg_key {F : Type} [Lean.Grind.CommRing F]
    (nz : ∀ x y : F, x * y = 0 → x = 0 ∨ y = 0)
    (a b m k n l u v x1 y1 x2 y2 x3 y3 x12 x23 X : F)
    (h12 : gg_ln a b m k x1 y1 x2 y2 x12) (h23 : gg_ln a b n l x2 y2 x3 y3 x23)
    (hL : gg_ln a b u v x12 (- (m * x12 + k)) x3 y3 X)
    (hn : ¬ (x12 = x3 ∧ - (m * x12 + k) + y3 = 0)) :
    (u + m) * (n - m) = x3 - x1 := by
  have ho3 := gg_lnOn _ _ _ _ _ _ _ _ _ (gg_lnSwap _ _ _ _ _ _ _ _ _ h23)
  obtain ⟨p1, p2, p3, p4, p5⟩ := h12
  obtain ⟨q1, q2, q3, q4, q5⟩ := h23
  obtain ⟨r1, r2, r3, r4, r5⟩ := hL
  have hd : y3 - m * x3 - k = (n - m) * (x3 - x2) := gg_k1 p2 q1 q2
  by_cases hx : x12 = x3
  · subst hx
    have hy : y3 = - (m * x12 + k) := by rw [r1, r2]
    have e1 := gg_k1b hd hy
    have hne : (n - m) * (x12 - x2) ≠ 0 := by
      rw [← e1]
      intro h
      apply hn
      exact ⟨rfl, by rw [← hy]; exact h⟩
    have hne2 : x12 - x2 ≠ 0 := by
      intro h
      apply hne
      rw [h, Lean.Grind.Semiring.mul_zero]
    have e2 := gg_r1 r2 r3 r4
    have e3 := gg_k2 p3 p4
    have e4 := gg_k3 e2 e3 hy
    exact gg_cancel nz (x12 - x2) _ _ hne2 (gg_k4 e1 e4)
  · have hx' : x3 - x12 ≠ 0 := fun h => hx (gg_sub0 h).symm
    have hu := gg_k5 r1 r2
    have hA : (y3 + m * x3 + k) * (n - m) = (x3 - x1) * (x3 - x12) := by
      by_cases hy : x3 = x2
      · subst hy
        have e2 : y3 = y2 := by rw [q1, q2]
        subst e2
        have e3 := gg_r1 q2 q3 q4
        have e4 := gg_k2b p3 p4
        rw [e3, ← p2] at e4
        rw [← e4]
        have e5 : y3 + m * x3 + k = y3 + y3 := by
          rw [Lean.Grind.Semiring.add_assoc, ← p2]
        rw [e5]
        clear p1 p2 p3 p4 p5 q1 q2 q3 q4 q5 r1 r2 r3 r4 r5 hu e3 e4 e5 hd ho3 hn hx hx' nz
        grind
      · have hy' : x3 - x2 ≠ 0 := fun h => hy (gg_sub0 h)
        exact gg_cancel nz (x3 - x2) _ _ hy' (gg_k7 hd (gg_k6 ho3 p3 p4 p5))
    exact gg_cancel nz (x3 - x12) _ _ hx' (gg_k8 hu hA)

end
-- The sum of points is associative; in a finite commutative group the order of an element divides the number of elements.
section

theorem gg_assocGen {F : Type} [Lean.Grind.CommRing F] (iv : F → F)
    (nz : ∀ x y : F, x * y = 0 → x = 0 ∨ y = 0) (hiv : ∀ x : F, x ≠ 0 → x * iv x = 1)
    (a b m k n l x1 y1 x2 y2 x3 y3 x12 x23 : F)
    (h12 : gg_ln a b m k x1 y1 x2 y2 x12) (h23 : gg_ln a b n l x2 y2 x3 y3 x23)
    (hx : x1 ≠ x3)
    (hn : ¬ (x12 = x3 ∧ - (m * x12 + k) + y3 = 0))
    (hn' : ¬ (x1 = x23 ∧ y1 + - (n * x23 + l) = 0)) :
    gg_add iv a (some (x12, - (m * x12 + k))) (some (x3, y3))
      = gg_add iv a (some (x1, y1)) (some (x23, - (n * x23 + l))) := by
  have ho12 := gg_lnOn _ _ _ _ _ _ _ _ _ (gg_lnNeg _ _ _ _ _ _ _ _ _ (gg_lnTurn _ _ _ _ _ _ _ _ _ (gg_lnTurn _ _ _ _ _ _ _ _ _ h12)))
  have ho23 := gg_lnOn _ _ _ _ _ _ _ _ _ (gg_lnNeg _ _ _ _ _ _ _ _ _ (gg_lnTurn _ _ _ _ _ _ _ _ _ (gg_lnTurn _ _ _ _ _ _ _ _ _ h23)))
  have ho1 := gg_lnOn _ _ _ _ _ _ _ _ _ h12
  have ho3 := gg_lnOn _ _ _ _ _ _ _ _ _ (gg_lnSwap _ _ _ _ _ _ _ _ _ h23)
  have hn2 : ¬ (x23 = x1 ∧ - (n * x23 + l) + y1 = 0) := by
    intro h
    exact hn' ⟨h.1.symm, by grind⟩
  obtain ⟨u, v, X, hL, e⟩ := gg_sumLine iv nz hiv a b x12 _ x3 y3 ho12 ho3 hn
  obtain ⟨u', v', X', hL', e'⟩ := gg_sumLine iv nz hiv a b x1 y1 x23 _ ho1 ho23 hn'
  have k1 := gg_key nz a b m k n l u v x1 y1 x2 y2 x3 y3 x12 x23 X h12 h23 hL hn
  have k2 := gg_key nz a b n l m k u' v' x3 y3 x2 y2 x1 y1 x23 x12 X'
    (gg_lnSwap _ _ _ _ _ _ _ _ _ h23) (gg_lnSwap _ _ _ _ _ _ _ _ _ h12)
    (gg_lnSwap _ _ _ _ _ _ _ _ _ hL') hn2
  have hd : n - m ≠ 0 := by
    intro h
    apply hx
    rw [h] at k1
    exact gg_a0 k1
  have ks : u + m = u' + n := gg_cancel nz (n - m) _ _ hd (gg_a1 k1 k2)
  obtain ⟨p1, p2, p3, p4, p5⟩ := h12
  obtain ⟨q1, q2, q3, q4, q5⟩ := h23
  obtain ⟨r1, r2, r3, r4, r5⟩ := hL
  obtain ⟨s1, s2, s3, s4, s5⟩ := hL'
  have hu' : u' = u + m - n := gg_a2 ks
  have e1 : X = u * u - x12 - x3 := (gg_r3 r3).symm
  have e2 : X' = u' * u' - x1 - x23 := (gg_r3 s3).symm
  have e3 : x12 = m * m - x1 - x2 := (gg_r3 p3).symm
  have e4 : x23 = n * n - x2 - x3 := (gg_r3 q3).symm
  have eX : X = X' := by
    rw [e1, e2, e3, e4, hu']
    exact gg_a3 k1
  have eX2 : X' = u * u - (m * m - x1 - x2) - x3 := by
    rw [← eX, e1, e3]
  have d1 : y3 = y2 + n * (x3 - x2) := gg_a4 q1 q2
  have d2 : y1 = y2 + m * (x1 - x2) := gg_a4 p2 p1
  have c3 : u * (X' - x3) + y3 = u' * (X' - x1) + y1 := by
    rw [d1, d2, hu', eX2]
    exact gg_a5 k1
  rw [e, e', eX, gg_a6 r2 (x := X'), gg_a6 s1 (x := X'), c3]

theorem gg_assoc {F : Type} [Lean.Grind.CommRing F] (iv : F → F)
    (nz : ∀ x y : F, x * y = 0 → x = 0 ∨ y = 0) (hiv : ∀ x : F, x ≠ 0 → x * iv x = 1)
    (tw : ∀ x : F, x + x = 0 → x = 0)
    (a b : F) (sg : ∀ x : F, x * x * x + a * x + b = 0 → x * x + x * x + x * x + a ≠ 0)
    (P Q R : Option (F × F)) (hP : gg_on a b P) (hQ : gg_on a b Q) (hR : gg_on a b R) :
    gg_add iv a (gg_add iv a P Q) R = gg_add iv a P (gg_add iv a Q R) := by
  have comm := gg_addComm iv nz hiv a b
  have hon := gg_addOn iv nz hiv a b
  have back := gg_back iv nz hiv tw a b sg
  cases P with
  | none => rw [gg_noneAdd, gg_noneAdd]
  | some P =>
  cases Q with
  | none => rw [gg_noneAdd, gg_addNone]
  | some Q =>
  cases R with
  | none => rw [gg_addNone, gg_addNone]
  | some R =>
  obtain ⟨x1, y1⟩ := P
  obtain ⟨x2, y2⟩ := Q
  obtain ⟨x3, y3⟩ := R
  by_cases h12 : x1 = x2 ∧ y1 + y2 = 0
  · have hq : some (x2, y2) = gg_neg (some (x1, y1)) := by
      show some (x2, y2) = some (x1, - y1)
      rw [h12.1]
      congr 2
      grind
    rw [gg_addOpp iv a x1 y1 x2 y2 h12, gg_noneAdd, hq]
    have hN := gg_negOn a b _ hP
    rw [comm (some (x1, y1)) _ hP (hon _ _ hN hR)]
    have := back (gg_neg (some (x1, y1))) (some (x3, y3)) hN hR
    rw [gg_negNeg] at this
    exact this.symm
  by_cases h23 : x2 = x3 ∧ y2 + y3 = 0
  · have hr : some (x3, y3) = gg_neg (some (x2, y2)) := by
      show some (x3, y3) = some (x2, - y2)
      rw [h23.1]
      congr 2
      grind
    rw [gg_addOpp iv a x2 y2 x3 y3 h23, gg_addNone, hr, comm (some (x1, y1)) _ hP hQ]
    exact back (some (x2, y2)) (some (x1, y1)) hQ hP
  by_cases h13 : x1 = x3
  · have h0 : (y1 - y3) * (y1 + y3) = 0 := by
      have o1 : y1 * y1 = x1 * x1 * x1 + a * x1 + b := hP
      have o3 : y3 * y3 = x3 * x3 * x3 + a * x3 + b := hR
      subst h13
      grind
    rcases nz _ _ h0 with h | h
    · have hy : y1 = y3 := by grind
      subst h13
      subst hy
      rw [comm _ _ (hon _ _ hP hQ) hP, comm _ _ hP hQ]
    · have hr : some (x3, y3) = gg_neg (some (x1, y1)) := by
        show some (x3, y3) = some (x1, - y1)
        rw [h13]
        congr 2
        grind
      have hN := gg_negOn a b _ hP
      rw [hr, back _ _ hP hQ, comm _ _ hP (hon _ _ hQ hN), comm _ _ hQ hN]
      have := back (gg_neg (some (x1, y1))) (some (x2, y2)) hN hQ
      rw [gg_negNeg] at this
      exact this.symm
  obtain ⟨m, k, x12, hl12, e12⟩ := gg_sumLine iv nz hiv a b x1 y1 x2 y2 hP hQ h12
  obtain ⟨n, l, x23, hl23, e23⟩ := gg_sumLine iv nz hiv a b x2 y2 x3 y3 hQ hR h23
  by_cases hn : x12 = x3 ∧ - (m * x12 + k) + y3 = 0
  · -- P3 is the third point of the first line
    have hy3 : y3 = m * x3 + k := by
      obtain ⟨g1, g2⟩ := hn
      subst g1
      exact gg_a7 g2
    have hT := gg_lnTurn _ _ _ _ _ _ _ _ _ hl12
    rw [hn.1, ← hy3] at hT
    have e := gg_lineSum iv hiv a b m k x2 y2 x3 y3 x1 hT h23
    rw [e12, gg_addOpp iv a _ _ _ _ hn, e]
    have : m * x1 + k = y1 := hl12.1.symm
    rw [this]
    exact (gg_addNeg iv a (some (x1, y1))).symm
  by_cases hn' : x1 = x23 ∧ y1 + - (n * x23 + l) = 0
  · have hy1 : y1 = n * x1 + l := by
      obtain ⟨g1, g2⟩ := hn'
      subst g1
      rw [← gg_sub0 (x := y1) (y := n * x1 + l) (by rw [Lean.Grind.Ring.sub_eq_add_neg]; exact g2)]
    have hT := gg_lnTurn _ _ _ _ _ _ _ _ _ (gg_lnTurn _ _ _ _ _ _ _ _ _ hl23)
    have h3 : n * x3 + l = y3 := hl23.2.1.symm
    rw [← hn'.1, ← hy1, ← hl23.1] at hT
    have e := gg_lineSum iv hiv a b n l x1 y1 x2 y2 x3 hT h12
    rw [e23, gg_addOpp iv a _ _ _ _ hn', e, h3]
    exact gg_addOpp iv a x3 (- y3) x3 y3 ⟨rfl, by grind⟩
  rw [e12, e23]
  exact gg_assocGen iv nz hiv a b m k n l x1 y1 x2 y2 x3 y3 x12 x23 hl12 hl23 h13 hn hn'

-- k times s, one after another
def gg_pw {G : Type} (op : G → G → G) (e s : G) : Nat → G
  | 0 => e
  | k + 1 => op (gg_pw op e s k) s

-- A finite commutative group, given by the list of its elements.
def gg_grp {G : Type} (op : G → G → G) (e : G) (L : List G) : Prop :=
  e ∈ L ∧ (∀ x ∈ L, ∀ y ∈ L, op x y ∈ L) ∧
  (∀ x ∈ L, ∀ y ∈ L, ∀ z ∈ L, op (op x y) z = op x (op y z)) ∧
  (∀ x ∈ L, ∀ y ∈ L, op x y = op y x) ∧ (∀ x ∈ L, op e x = x) ∧
  (∀ x ∈ L, ∃ y ∈ L, op x y = e) ∧ L.Nodup

theorem gg_pwMem {G : Type} (op : G → G → G) (e : G) (L : List G) (h : gg_grp op e L) (s : G) (hs : s ∈ L)
    (k : Nat) : gg_pw op e s k ∈ L := by
  obtain ⟨he, hc, _⟩ := h
  induction k with
  | zero => exact he
  | succ k ih => exact hc _ ih _ hs

theorem gg_pwAdd {G : Type} (op : G → G → G) (e : G) (L : List G) (h : gg_grp op e L) (s : G) (hs : s ∈ L)
    (j k : Nat) : gg_pw op e s (j + k) = op (gg_pw op e s j) (gg_pw op e s k) := by
  have hm := gg_pwMem op e L h s hs
  obtain ⟨he, hc, ha, hcm, h1, hi, hd⟩ := h
  induction k with
  | zero =>
    show gg_pw op e s j = op (gg_pw op e s j) e
    rw [hcm _ (hm j) _ he, h1 _ (hm j)]
  | succ k ih =>
    show op (gg_pw op e s (j + k)) s = op (gg_pw op e s j) (op (gg_pw op e s k) s)
    rw [ih, ha _ (hm j) _ (hm k) _ hs]

theorem gg_pwMul {G : Type} (op : G → G → G) (e : G) (L : List G) (h : gg_grp op e L) (s : G) (hs : s ∈ L)
    (j k : Nat) : gg_pw op e s (j * k) = gg_pw op e (gg_pw op e s j) k := by
  induction k with
  | zero => rfl
  | succ k ih =>
    show gg_pw op e s (j * k + j) = op (gg_pw op e (gg_pw op e s j) k) (gg_pw op e s j)
    rw [gg_pwAdd op e L h s hs, ih]

theorem gg_pwE {G : Type} (op : G → G → G) (e : G) (L : List G) (h : gg_grp op e L) (k : Nat) :
    gg_pw op e e k = e := by
  obtain ⟨he, hc, ha, hcm, h1, hi, hd⟩ := h
  induction k with
  | zero => rfl
  | succ k ih =>
    show op (gg_pw op e e k) e = e
    rw [ih, h1 _ he]

theorem gg_cancelR {G : Type} (op : G → G → G) (e : G) (L : List G) (h : gg_grp op e L) (x y s : G)
    (hx : x ∈ L) (hy : y ∈ L) (hs : s ∈ L) (hxy : op x s = op y s) : x = y := by
  obtain ⟨he, hc, ha, hcm, h1, hi, hd⟩ := h
  obtain ⟨t, ht, hst⟩ := hi s hs
  have e1 : op (op x s) t = x := by
    rw [ha _ hx _ hs _ ht, hst, hcm _ hx _ he, h1 _ hx]
  have e2 : op (op y s) t = y := by
    rw [ha _ hy _ hs _ ht, hst, hcm _ hy _ he, h1 _ hy]
  rw [← e1, ← e2, hxy]

theorem gg_mapPerm {G : Type} (op : G → G → G) (e : G) (L : List G) (h : gg_grp op e L) (s : G) (hs : s ∈ L) :
    (L.map (fun x => op x s)).Perm L := by
  have hcan := fun x y => gg_cancelR op e L h x y s
  obtain ⟨he, hc, ha, hcm, h1, hi, hd⟩ := h
  have hnd : (L.map (fun x => op x s)).Nodup := by
    unfold List.Nodup
    rw [List.pairwise_map]
    have hp : L.Pairwise (· ≠ ·) := hd
    refine List.Pairwise.imp_of_mem ?_ hp
    intro x y hx hy hne heq
    exact hne (hcan x y hx hy hs heq)
  rw [List.perm_ext_iff_of_nodup hnd hd]
  intro x
  constructor
  · intro hx
    obtain ⟨y, hy, rfl⟩ := List.mem_map.mp hx
    exact hc _ hy _ hs
  · intro hx
    obtain ⟨t, ht, hst⟩ := hi s hs
    refine List.mem_map.mpr ⟨op x t, hc _ hx _ ht, ?_⟩
    show op (op x t) s = x
    rw [ha _ hx _ ht _ hs, hcm _ ht _ hs, hst, hcm _ hx _ he, h1 _ hx]

theorem gg_foldMem {G : Type} (op : G → G → G) (e : G) (L : List G) (h : gg_grp op e L) (M : List G)
    (hM : ∀ x ∈ M, x ∈ L) : M.foldr op e ∈ L := by
  obtain ⟨he, hc, _⟩ := h
  induction M with
  | nil => exact he
  | cons x M ih =>
    rw [List.foldr_cons]
    exact hc _ (hM x (by simp)) _ (ih (fun y hy => hM y (by simp [hy])))

theorem gg_foldMap {G : Type} (op : G → G → G) (e : G) (L : List G) (h : gg_grp op e L) (s : G) (hs : s ∈ L)
    (M : List G) (hM : ∀ x ∈ M, x ∈ L) :
    (M.map (fun x => op x s)).foldr op e = op (M.foldr op e) (gg_pw op e s M.length) := by
  have hm := gg_pwMem op e L h s hs
  have hf := gg_foldMem op e L h
  obtain ⟨he, hc, ha, hcm, h1, hi, hd⟩ := h
  induction M with
  | nil =>
    show e = op e e
    rw [h1 _ he]
  | cons x M ih =>
    have hM' : ∀ y ∈ M, y ∈ L := fun y hy => hM y (by simp [hy])
    have hx : x ∈ L := hM x (by simp)
    have hF := hf M hM'
    have hK := hm M.length
    show op (op x s) ((M.map (fun x => op x s)).foldr op e)
      = op (op x (M.foldr op e)) (op (gg_pw op e s M.length) s)
    rw [ih hM']
    -- (x s) (F K) = (x F) (K s)
    rw [ha _ hx _ hs _ (hc _ hF _ hK), ha _ hx _ hF _ (hc _ hK _ hs)]
    congr 1
    rw [hcm _ hs _ (hc _ hF _ hK), ha _ hF _ hK _ hs]

theorem gg_lagr {G : Type} (op : G → G → G) (e : G) (L : List G) (h : gg_grp op e L) (s : G) (hs : s ∈ L) :
    gg_pw op e s L.length = e := by
  have hp := gg_mapPerm op e L h s hs
  have hf := gg_foldMap op e L h s hs L (fun x hx => hx)
  have hF := gg_foldMem op e L h L (fun x hx => hx)
  have hm := gg_pwMem op e L h s hs L.length
  have hmem : ∀ x ∈ L.map (fun x => op x s), x ∈ L := fun x hx => hp.mem_iff.mp hx
  have hcan := gg_cancelR op e L h (gg_pw op e s L.length) e (L.foldr op e) hm h.1 hF
  have hfo : (L.map (fun x => op x s)).foldr op e = L.foldr op e := by
    have key : ∀ {A B : List G}, A.Perm B → (∀ x ∈ A, x ∈ L) → A.foldr op e = B.foldr op e := by
      intro A B hAB
      induction hAB with
      | nil => intro _; rfl
      | cons x hp ih =>
        intro hA
        rw [List.foldr_cons, List.foldr_cons, ih (fun y hy => hA y (by simp [hy]))]
      | swap x y l =>
        intro hA
        rw [List.foldr_cons, List.foldr_cons, List.foldr_cons, List.foldr_cons]
        have hx : x ∈ L := hA x (by simp)
        have hy : y ∈ L := hA y (by simp)
        have hl := gg_foldMem op e L h l (fun z hz => hA z (by simp [hz]))
        obtain ⟨he, hc, ha, hcm, h1, hi, hd⟩ := h
        rw [← ha _ hy _ hx _ hl, ← ha _ hx _ hy _ hl, hcm _ hy _ hx]
      | trans p1 p2 ih1 ih2 =>
        intro hA
        rw [ih1 hA, ih2 (fun x hx => hA x (p1.mem_iff.mpr hx))]
    exact key hp hmem
  rw [hfo] at hf
  obtain ⟨he, hc, ha, hcm, h1, hi, hd⟩ := h
  apply hcan
  rw [h1 _ hF, hcm _ hm _ hF]
  exact hf.symm

-- the least k from 1 on with k times s = e divides the number of elements
theorem gg_least {G : Type} (op : G → G → G) (e : G) (L : List G) (h : gg_grp op e L) (s : G) (hs : s ∈ L)
    (k : Nat) (hk : 0 < k) (hke : gg_pw op e s k = e)
    (hmin : ∀ j, 0 < j → j < k → gg_pw op e s j ≠ e) : L.length % k = 0 := by
  have hl := gg_lagr op e L h s hs
  have hd : L.length = k * (L.length / k) + L.length % k := (Nat.div_add_mod _ _).symm
  rw [hd, gg_pwAdd op e L h s hs, gg_pwMul op e L h s hs, hke, gg_pwE op e L h] at hl
  have hm := gg_pwMem op e L h s hs (L.length % k)
  obtain ⟨he, hc, ha, hcm, h1, hi, hdd⟩ := h
  rw [h1 _ hm] at hl
  rcases Nat.eq_zero_or_pos (L.length % k) with h0 | h0
  · exact h0
  · exact absurd hl (hmin _ h0 (Nat.mod_lt _ hk))

end
-- Numbers modulo a prime: a ring without zero divisors, its inverses, Fermat's little theorem.
section

theorem gp_mm1 (x y p : Int) : x % p * y % p = x * y % p := by
  rw [Int.mul_emod, Int.emod_emod, ← Int.mul_emod]
theorem gp_mm2 (x y p : Int) : x * (y % p) % p = x * y % p := by
  rw [Int.mul_emod, Int.emod_emod, ← Int.mul_emod]

def gp_prime (p : Nat) : Prop := 2 ≤ p ∧ ∀ d, 2 ≤ d → d < p → p % d ≠ 0

theorem gp_primeOf {p : Nat} (h2 : 2 ≤ p) (h : ∀ d, 2 ≤ d → d * d ≤ p → p % d ≠ 0) : gp_prime p := by
  refine ⟨h2, fun d hd hdp h0 => ?_⟩
  have e : p = d * (p / d) := by
    have := Nat.div_add_mod p d
    omega
  generalize hq : p / d = q at e
  rcases Nat.le_total d q with hle | hle
  · exact h d hd (by rw [e]; exact Nat.mul_le_mul_left d hle) h0
  · have hq2 : 2 ≤ q := by
      rcases Nat.lt_or_ge q 2 with h3 | h3
      · have : q = 0 ∨ q = 1 := by omega
        rcases this with h4 | h4
        · rw [h4] at e; omega
        · rw [h4] at e; omega
      · exact h3
    refine h q hq2 (by rw [e]; exact Nat.mul_le_mul_right q hle) ?_
    rw [e]
    exact Nat.mul_mod_left d q

theorem gp_dvd {p a b : Nat} (hp : gp_prime p) (h : p ∣ a * b) : p ∣ a ∨ p ∣ b := by
  have hg1 : Nat.gcd p a ∣ p := Nat.gcd_dvd_left p a
  have hg2 : Nat.gcd p a ∣ a := Nat.gcd_dvd_right p a
  have hpos : 0 < Nat.gcd p a := Nat.gcd_pos_of_pos_left a (by have := hp.1; omega)
  have hle : Nat.gcd p a ≤ p := Nat.le_of_dvd (by have := hp.1; omega) hg1
  rcases Nat.lt_or_ge (Nat.gcd p a) 2 with h1 | h1
  · right
    have hc : Nat.Coprime p a := by
      show Nat.gcd p a = 1
      omega
    exact hc.dvd_of_dvd_mul_left h
  · left
    rcases Nat.lt_or_ge (Nat.gcd p a) p with h2 | h2
    · exact absurd (Nat.mod_eq_zero_of_dvd hg1) (hp.2 _ h1 h2)
    · have e : Nat.gcd p a = p := by omega
      rw [e] at hg2
      exact hg2

-- the ring, known by its map from the integers alone
def gp_map (p : Nat) {F : Type} (_ : Lean.Grind.CommRing F) (f : Int → F) : Prop :=
  (∀ x y, f (x + y) = f x + f y) ∧ (∀ x y, f (x - y) = f x - f y) ∧ (∀ x y, f (x * y) = f x * f y) ∧
  f 0 = 0 ∧ f 1 = 1 ∧ (∀ x y, f x = f y ↔ x % p = y % p) ∧ (∀ z, ∃ x, f x = z)

theorem gp_ring (p : Nat) (hp : 0 < p) : ∃ (F : Type) (R : Lean.Grind.CommRing F) (f : Int → F), gp_map p R f := by
  have : NeZero p := ⟨by omega⟩
  refine ⟨Fin p, inferInstance, fun x => Lean.Grind.Ring.intCast.intCast x, ?_, ?_, ?_, ?_, ?_, ?_, ?_⟩
  · exact fun x y => Lean.Grind.Ring.intCast_add x y
  · exact fun x y => Lean.Grind.Ring.intCast_sub x y
  · exact fun x y => Lean.Grind.Ring.intCast_mul x y
  · exact Lean.Grind.Ring.intCast_zero
  · exact Lean.Grind.Ring.intCast_one
  · exact fun x y => Lean.Grind.IsCharP.intCast_ext_iff p
  · intro z
    refine ⟨(z.val : Int), ?_⟩
    have h : (Lean.Grind.Ring.intCast.intCast ((z.val : Nat) : Int) : Fin p) = Lean.Grind.Semiring.natCast.natCast z.val :=
      Lean.Grind.Ring.intCast_natCast z.val
    refine h.trans ?_
    apply Fin.ext
    show z.val % p = z.val
    exact Nat.mod_eq_of_lt z.isLt

theorem gp_zero {p : Nat} {F : Type} {R : Lean.Grind.CommRing F} {f : Int → F} (hf : gp_map p R f) (x : Int) :
    f x = 0 ↔ x % p = 0 := by
  obtain ⟨h1, h2, h3, h4, h5, h6, h7⟩ := hf
  rw [← h4, h6, Int.zero_emod]

theorem gp_nz {p : Nat} (hp : gp_prime p) {F : Type} {R : Lean.Grind.CommRing F} {f : Int → F} (hf : gp_map p R f) :
    ∀ x y : F, x * y = 0 → x = 0 ∨ y = 0 := by
  intro x y h
  have hz := gp_zero hf
  obtain ⟨h1, h2, h3, h4, h5, h6, h7⟩ := hf
  obtain ⟨a, rfl⟩ := h7 x
  obtain ⟨b, rfl⟩ := h7 y
  rw [← h3, hz] at h
  rw [hz, hz]
  have hd : (p : Int) ∣ a * b := Int.dvd_of_emod_eq_zero h
  have hd2 : p ∣ a.natAbs * b.natAbs := by
    rw [← Int.natAbs_mul]
    exact Int.ofNat_dvd_left.mp hd
  rcases gp_dvd hp hd2 with h8 | h8
  · left
    exact Int.emod_eq_zero_of_dvd (Int.ofNat_dvd_left.mpr h8)
  · right
    exact Int.emod_eq_zero_of_dvd (Int.ofNat_dvd_left.mpr h8)

theorem gp_pigeon {G : Type} (A B : List G) (hA : A.Nodup) (hs : ∀ x ∈ A, x ∈ B) (hl : B.length ≤ A.length) :
    ∀ b ∈ B, b ∈ A := by
  intro b hb
  apply Classical.byContradiction
  intro hn
  have h := List.Nodup.length_le_of_subset (l₁ := b :: A) (l₂ := B) (List.nodup_cons.mpr ⟨hn, hA⟩) (by
    intro x hx
    rcases List.mem_cons.mp hx with h | h
    · rw [h]; exact hb
    · exact hs x h)
  rw [List.length_cons] at h
  omega

-- the numbers 1 .. p - 1, with multiplication modulo p
def gp_units (p : Nat) : List Int := (List.range (p - 1)).map (fun k : Nat => (k : Int) + 1)

theorem gp_unitsMem (p : Nat) (x : Int) : x ∈ gp_units p ↔ 1 ≤ x ∧ x < p := by
  unfold gp_units
  rw [List.mem_map]
  constructor
  · rintro ⟨k, hk, rfl⟩
    rw [List.mem_range] at hk
    omega
  · intro h
    refine ⟨(x - 1).toNat, ?_, ?_⟩
    · rw [List.mem_range]; omega
    · omega

theorem gp_unitsNodup (p : Nat) : (gp_units p).Nodup := by
  unfold gp_units List.Nodup
  rw [List.pairwise_map]
  refine List.Pairwise.imp_of_mem ?_ (List.nodup_range (n := p - 1))
  intro a b _ _ h1 h2
  apply h1
  omega

theorem gp_unitsLen (p : Nat) : (gp_units p).length = p - 1 := by
  unfold gp_units
  rw [List.length_map, List.length_range]

theorem gp_mulNz {p : Nat} (hp : gp_prime p) {x y : Int} (hx : x % p ≠ 0) (hy : y % p ≠ 0) : (x * y) % p ≠ 0 := by
  obtain ⟨F, R, f, hf⟩ := gp_ring p (by have := hp.1; omega)
  have hz := gp_zero hf
  have nz := gp_nz hp hf
  intro h
  rw [← hz, hf.2.2.1] at h
  rcases nz _ _ h with h1 | h1
  · exact hx ((hz x).mp h1)
  · exact hy ((hz y).mp h1)

theorem gp_unitMod {p : Nat} (hp : 0 < p) {x : Int} (hx : x % p ≠ 0) : x % p ∈ gp_units p := by
  rw [gp_unitsMem]
  have h1 := Int.emod_nonneg x (show (p : Int) ≠ 0 by omega)
  have h2 := Int.emod_lt_of_pos x (show (0 : Int) < p by omega)
  omega

theorem gp_unitNz {p : Nat} {x : Int} (hx : x ∈ gp_units p) : x % p = x ∧ x % p ≠ 0 := by
  rw [gp_unitsMem] at hx
  have h := Int.emod_eq_of_lt (a := x) (b := p) (by omega) hx.2
  refine ⟨h, ?_⟩
  rw [h]
  omega

theorem gp_grp {p : Nat} (hp : gp_prime p) : gg_grp (fun x y : Int => x * y % p) 1 (gp_units p) := by
  have h2 := hp.1
  have hc : ∀ x ∈ gp_units p, ∀ y ∈ gp_units p, x * y % p ∈ gp_units p := by
    intro x hx y hy
    exact gp_unitMod (by omega) (gp_mulNz hp (gp_unitNz hx).2 (gp_unitNz hy).2)
  refine ⟨?_, hc, ?_, ?_, ?_, ?_, gp_unitsNodup p⟩
  · rw [gp_unitsMem]; omega
  · intro x _ y _ z _
    show x * y % p * z % p = x * (y * z % p) % p
    rw [gp_mm1, gp_mm2, Int.mul_assoc]
  · intro x _ y _
    show x * y % p = y * x % p
    rw [Int.mul_comm]
  · intro x hx
    show 1 * x % p = x
    rw [Int.one_mul]
    exact (gp_unitNz hx).1
  · intro x hx
    -- multiplication by x moves no two to one
    have hinj : ((gp_units p).map (fun y => x * y % (p : Int))).Nodup := by
      unfold List.Nodup
      rw [List.pairwise_map]
      refine List.Pairwise.imp_of_mem ?_ (gp_unitsNodup p)
      intro a b ha hb hab h
      apply hab
      have h3 : (x * (a - b)) % p = 0 := by
        rw [Int.mul_sub]
        exact Int.emod_eq_emod_iff_emod_sub_eq_zero.mp h
      have h4 : (a - b) % p = 0 := by
        apply Classical.byContradiction
        intro h5
        exact gp_mulNz hp (gp_unitNz hx).2 h5 h3
      have h5 := Int.emod_eq_emod_iff_emod_sub_eq_zero.mpr h4
      rw [(gp_unitNz ha).1, (gp_unitNz hb).1] at h5
      exact h5
    have h1 := gp_pigeon _ (gp_units p) hinj (by
      intro z hz
      obtain ⟨y, hy, rfl⟩ := List.mem_map.mp hz
      exact hc x hx y hy) (by rw [List.length_map]; omega) 1 (by rw [gp_unitsMem]; omega)
    obtain ⟨y, hy, h⟩ := List.mem_map.mp h1
    exact ⟨y, hy, h⟩

theorem gp_pwPow {p : Nat} (hp : gp_prime p) (x : Int) (k : Nat) :
    gg_pw (fun x y : Int => x * y % p) 1 (x % p) k = x ^ k % p := by
  induction k with
  | zero =>
    show (1 : Int) = x ^ 0 % p
    rw [Int.pow_zero]
    have := hp.1
    exact (Int.emod_eq_of_lt (by omega) (by omega)).symm
  | succ k ih =>
    show gg_pw (fun x y : Int => x * y % p) 1 (x % p) k * (x % p) % p = x ^ (k + 1) % p
    rw [ih, Int.pow_succ, gp_mm1, gp_mm2]

theorem gp_fermat {p : Nat} (hp : gp_prime p) {x : Int} (hx : x % p ≠ 0) : x ^ (p - 1) % p = 1 := by
  have h := gg_lagr _ _ _ (gp_grp hp) (x % p) (gp_unitMod (by have := hp.1; omega) hx)
  rw [gp_unitsLen, gp_pwPow hp] at h
  exact h

theorem gp_inv {p : Nat} (hp : gp_prime p) {x : Int} (hx : x % p ≠ 0) : x * (x ^ (p - 2) % p) % p = 1 := by
  have h := gp_fermat hp hx
  have h2 := hp.1
  rw [show p - 1 = (p - 2) + 1 by omega, Int.pow_succ] at h
  rw [gp_mm2, Int.mul_comm]
  exact h

end
-- Squares modulo an odd prime: of two numbers that are none, the product is one.
section

def gq_sq (p : Nat) (x : Int) : Prop := ∃ y : Int, y * y % p = x % p

theorem gq_invEx {p : Nat} (hp : gp_prime p) {x : Int} (hx : x % p ≠ 0) : ∃ y : Int, x * y % p = 1 := ⟨_, gp_inv hp hx⟩

theorem gq_eqMod {p : Nat} {x y : Int} : x % p = y % p ↔ (p : Int) ∣ x - y := Int.emod_eq_emod_iff_emod_sub_eq_zero.trans ⟨Int.dvd_of_emod_eq_zero, Int.emod_eq_zero_of_dvd⟩

-- all equations below go through the ring
theorem gq_notSq {p : Nat} (hp : gp_prime p) {g i j : Int} (hg : ¬ gq_sq p g) (hj : j % p ≠ 0) :
    i * i % p ≠ g * (j * j) % p := by
  intro h
  obtain ⟨k, hk⟩ := gq_invEx hp hj
  apply hg
  refine ⟨i * k, ?_⟩
  obtain ⟨F, R, f, hf⟩ := gp_ring p (by have := hp.1; omega)
  obtain ⟨h1, h2, h3, h4, h5, h6, h7⟩ := hf
  have e1 : f i * f i = f g * (f j * f j) := by
    rw [← h3, ← h3, ← h3, h6]; exact h
  have e2 : f j * f k = 1 := by
    rw [← h3, ← h5, h6]
    rw [hk]
    have := hp.1
    exact (Int.emod_eq_of_lt (by omega) (by omega)).symm
  rw [← h6, h3, h3]
  have e3 : f i * f k * (f i * f k) = (f i * f i) * (f k * f k) := by grind
  rw [e3, e1]
  grind

def gq_half (p : Nat) : List Int := (List.range ((p - 1) / 2)).map (fun k : Nat => ((k : Int) + 1) * ((k : Int) + 1) % p)

theorem gq_halfNodup {p : Nat} (hp : gp_prime p) : (gq_half p).Nodup := by
  unfold gq_half List.Nodup
  rw [List.pairwise_map]
  refine List.Pairwise.imp_of_mem ?_ (List.nodup_range (n := (p - 1) / 2))
  intro a b ha hb hab h
  rw [List.mem_range] at ha hb
  apply hab
  have hd : (((a : Int) + 1 - ((b : Int) + 1)) * ((a : Int) + 1 + ((b : Int) + 1))) % p = 0 := by
    have e : ((a : Int) + 1 - ((b : Int) + 1)) * ((a : Int) + 1 + ((b : Int) + 1)) = ((a : Int) + 1) * ((a : Int) + 1) - ((b : Int) + 1) * ((b : Int) + 1) := by grind
    rw [e]
    exact Int.emod_eq_emod_iff_emod_sub_eq_zero.mp h
  have hs : ((a : Int) + 1 + ((b : Int) + 1)) % p ≠ 0 := by
    rw [Int.emod_eq_of_lt (by omega) (by omega)]
    omega
  have hd0 : ((a : Int) + 1 - ((b : Int) + 1)) % p = 0 := by
    apply Classical.byContradiction
    intro h5
    exact gp_mulNz hp h5 hs hd
  have hm := Int.emod_eq_emod_iff_emod_sub_eq_zero.mpr hd0
  rw [Int.emod_eq_of_lt (by omega) (by omega), Int.emod_eq_of_lt (by omega) (by omega)] at hm
  omega

theorem gq_mulNodup {p : Nat} (hp : gp_prime p) {g : Int} (hg : g % p ≠ 0) (L : List Int) (hL : L.Nodup)
    (hr : ∀ x ∈ L, 0 ≤ x ∧ x < p) : (L.map (fun x => g * x % (p : Int))).Nodup := by
  unfold List.Nodup
  rw [List.pairwise_map]
  refine List.Pairwise.imp_of_mem ?_ hL
  intro a b ha hb hab h
  apply hab
  have h3 : (g * (a - b)) % p = 0 := by
    rw [Int.mul_sub]
    exact Int.emod_eq_emod_iff_emod_sub_eq_zero.mp h
  have h4 : (a - b) % p = 0 := by
    apply Classical.byContradiction
    intro h5
    exact gp_mulNz hp hg h5 h3
  have h5 := Int.emod_eq_emod_iff_emod_sub_eq_zero.mpr h4
  rw [Int.emod_eq_of_lt (hr a ha).1 (hr a ha).2, Int.emod_eq_of_lt (hr b hb).1 (hr b hb).2] at h5
  exact h5

theorem gq_halfMem {p : Nat} (hp : gp_prime p) {x : Int} (hx : x ∈ gq_half p) :
    ∃ j : Int, j % p ≠ 0 ∧ x = j * j % p ∧ x ∈ gp_units p := by
  unfold gq_half at hx
  obtain ⟨k, hk, rfl⟩ := List.mem_map.mp hx
  rw [List.mem_range] at hk
  have hn : ((k : Int) + 1) % p ≠ 0 := by
    rw [Int.emod_eq_of_lt (by omega) (by omega)]
    omega
  exact ⟨(k : Int) + 1, hn, rfl, gp_unitMod (by have := hp.1; omega) (gp_mulNz hp hn hn)⟩

theorem gq_prod {p : Nat} (hp : gp_prime p) (hodd : p % 2 = 1) {g r : Int} (hg : ¬ gq_sq p g) (hr : ¬ gq_sq p r) :
    gq_sq p (g * r) := by
  have hp2 := hp.1
  have nz : ∀ {x : Int}, ¬ gq_sq p x → x % p ≠ 0 := by
    intro x hx h0
    apply hx
    exact ⟨0, by rw [h0]; rfl⟩
  have hg0 := nz hg
  have hnd := gq_halfNodup hp
  have hin : ∀ x ∈ gq_half p, 0 ≤ x ∧ x < p := by
    intro x hx
    obtain ⟨j, _, _, hu⟩ := gq_halfMem hp hx
    rw [gp_unitsMem] at hu
    omega
  have hnd2 := gq_mulNodup hp hg0 _ hnd hin
  have hall : (gq_half p ++ (gq_half p).map (fun x => g * x % (p : Int))).Nodup := by
    rw [List.nodup_append]
    refine ⟨hnd, hnd2, ?_⟩
    intro a ha b hb hab
    obtain ⟨i, hi, ei, _⟩ := gq_halfMem hp ha
    obtain ⟨y, hy, rfl⟩ := List.mem_map.mp hb
    obtain ⟨j, hj, ej, _⟩ := gq_halfMem hp hy
    apply gq_notSq hp (i := i) hg hj
    rw [ei, ej, gp_mm2] at hab
    exact hab
  have hsub : ∀ x ∈ gq_half p ++ (gq_half p).map (fun x => g * x % (p : Int)), x ∈ gp_units p := by
    intro x hx
    rcases List.mem_append.mp hx with h | h
    · obtain ⟨_, _, _, hu⟩ := gq_halfMem hp h
      exact hu
    · obtain ⟨y, hy, rfl⟩ := List.mem_map.mp h
      obtain ⟨_, _, _, hu⟩ := gq_halfMem hp hy
      exact gp_unitMod (by omega) (gp_mulNz hp hg0 (gp_unitNz hu).2)
  have hlen : (gp_units p).length ≤ (gq_half p ++ (gq_half p).map (fun x => g * x % (p : Int))).length := by
    rw [gp_unitsLen, List.length_append, List.length_map]
    unfold gq_half
    rw [List.length_map, List.length_range]
    omega
  have h := gp_pigeon _ _ hall hsub hlen (r % p) (gp_unitMod (by omega) (nz hr))
  rcases List.mem_append.mp h with h1 | h1
  · obtain ⟨j, _, ej, _⟩ := gq_halfMem hp h1
    exact absurd ⟨j, ej.symm⟩ hr
  · obtain ⟨y, hy, ey⟩ := List.mem_map.mp h1
    obtain ⟨j, _, ej, _⟩ := gq_halfMem hp hy
    refine ⟨g * j, ?_⟩
    have e1 : g * (j * j) % p = r % p := by
      rw [← ey, ej, gp_mm2]
    have e2 : g * j * (g * j) = g * (g * (j * j)) := by grind
    rw [e2, Int.mul_emod, e1, ← Int.mul_emod]

end
-- Points as ints: the sum on codes, and that it is the sum of points.
section

def gs_inv (p v : Int) : Int := v ^ (p - 2).toNat % p
def gs_opp (p s : Int) : Int := if s = -1 then s else if s % 4096 = 0 then s else s / 4096 * 4096 + (p - s % 4096)
def gs_slope (p a s t : Int) : Int :=
  if s = t then (3 * (s / 4096) * (s / 4096) + a) % p * gs_inv p ((2 * (s % 4096)) % p) % p
  else (t % 4096 - s % 4096) % p * gs_inv p ((t / 4096 - s / 4096) % p) % p
def gs_x (p m s t : Int) : Int := (m * m - s / 4096 - t / 4096) % p
def gs_y (p m s x : Int) : Int := (m * ((s / 4096 - x) % p) - s % 4096) % p
def gs_sum (p a s t : Int) : Int :=
  if s = -1 then t else if t = -1 then s else if t = gs_opp p s then -1
  else gs_x p (gs_slope p a s t) s t * 4096 + gs_y p (gs_slope p a s t) s (gs_x p (gs_slope p a s t) s t)
def gs_rhs (a b x : Int) : Int := x * x * x + a * x + b
def gs_ok (p a b s : Int) : Prop :=
  s = -1 ∨ (0 ≤ s ∧ s / 4096 < p ∧ s % 4096 < p ∧ (s % 4096) * (s % 4096) % p = gs_rhs a b (s / 4096) % p)

noncomputable def gs_iv (p : Nat) {F : Type} (f : Int → F) (h7 : ∀ z, ∃ x, f x = z) : F → F :=
  fun z => f (gs_inv p (Classical.choose (h7 z)))
def gs_pt {F : Type} (f : Int → F) (s : Int) : Option (F × F) := if s = -1 then none else some (f (s / 4096), f (s % 4096))

theorem gs_fmod {p : Nat} {F : Type} {R : Lean.Grind.CommRing F} {f : Int → F} (hf : gp_map p R f) (x : Int) : f (x % p) = f x := by
  rw [hf.2.2.2.2.2.1, Int.emod_emod]

theorem gs_powMod (p : Nat) (x : Int) (k : Nat) : (x % p) ^ k % p = x ^ k % p := by
  induction k with
  | zero => rw [Int.pow_zero, Int.pow_zero]
  | succ k ih => rw [Int.pow_succ, Int.pow_succ, Int.mul_emod, ih, Int.emod_emod, ← Int.mul_emod]

theorem gs_powCong (p : Nat) {x y : Int} (h : x % p = y % p) (k : Nat) : x ^ k % p = y ^ k % p := by
  rw [← gs_powMod p x, h, gs_powMod]

theorem gs_ivEq {p : Nat} {F : Type} {R : Lean.Grind.CommRing F} {f : Int → F} (hf : gp_map p R f) (x : Int) :
    gs_iv p f hf.2.2.2.2.2.2 (f x) = f (gs_inv p x) := by
  unfold gs_iv gs_inv
  have h := Classical.choose_spec (hf.2.2.2.2.2.2 (f x))
  have h' := (hf.2.2.2.2.2.1 _ _).mp h
  rw [gs_powCong p h']

theorem gs_ivOk {p : Nat} (hp : gp_prime p) {F : Type} {R : Lean.Grind.CommRing F} {f : Int → F} (hf : gp_map p R f) :
    ∀ z : F, z ≠ 0 → z * gs_iv p f hf.2.2.2.2.2.2 z = 1 := by
  intro z hz
  obtain ⟨x, rfl⟩ := hf.2.2.2.2.2.2 z
  rw [gs_ivEq hf]
  have hx : x % p ≠ 0 := fun h => hz ((gp_zero hf x).mpr h)
  have h := gp_inv hp hx
  obtain ⟨h1, h2, h3, h4, h5, h6, h7⟩ := hf
  rw [← h3, ← h5, h6]
  have e : gs_inv (p : Int) x = x ^ (p - 2) % p := by
    unfold gs_inv
    have : ((p : Int) - 2).toNat = p - 2 := by omega
    rw [this]
  rw [e, h]
  have := hp.1
  exact (Int.emod_eq_of_lt (by omega) (by omega)).symm

theorem gs_tw {p : Nat} (hp : gp_prime p) (h5 : 3 ≤ p) {F : Type} {R : Lean.Grind.CommRing F} {f : Int → F} (hf : gp_map p R f) :
    ∀ x : F, x + x = 0 → x = 0 := by
  intro x hx
  have h2 : f 2 ≠ 0 := by
    rw [ne_eq, gp_zero hf, Int.emod_eq_of_lt (by omega) (by omega)]
    omega
  have e2 : f 2 = 1 + 1 := by
    have : (2 : Int) = 1 + 1 := rfl
    rw [this, hf.1, hf.2.2.2.2.1]
  have e : f 2 * x = 0 := by
    rw [e2, ← hx]
    grind
  rcases gp_nz hp hf _ _ e with h | h
  · exact absurd h h2
  · exact h

-- 4aaa + 27bb is not 0
theorem gs_sing {p : Nat} {F : Type} {R : Lean.Grind.CommRing F} {f : Int → F} (hf : gp_map p R f)
    (a b : Int) (hd : (4 * (a * a * a) + 27 * (b * b)) % p ≠ 0) :
    ∀ x : F, x * x * x + f a * x + f b = 0 → x * x + x * x + x * x + f a ≠ 0 := by
  intro x h1 h2
  apply hd
  rw [← gp_zero hf]
  obtain ⟨g1, g2, g3, g4, g5, g6, g7⟩ := hf
  have e4 : f 4 = 1 + 1 + 1 + 1 := by
    have : (4 : Int) = 1 + 1 + 1 + 1 := rfl
    rw [this, g1, g1, g1, g5]
  have e27 : f 27 = (1 + 1 + 1) * (1 + 1 + 1) * (1 + 1 + 1) := by
    have : (27 : Int) = (1 + 1 + 1) * (1 + 1 + 1) * (1 + 1 + 1) := rfl
    rw [this, g3, g3, g1, g1, g5]
  rw [g1, g3, g3, g3, g3, g3, e4, e27]
  have ea : f a = - (x * x + x * x + x * x) := by grind
  have eb : f b = x * x * x + x * x * x := by grind
  rw [ea, eb]
  grind

theorem gs_onPt {p : Nat} {F : Type} {R : Lean.Grind.CommRing F} {f : Int → F} (hf : gp_map p R f) (a b x y : Int) :
    (f y * f y = f x * f x * f x + f a * f x + f b) ↔ y * y % p = gs_rhs a b x % p := by
  obtain ⟨g1, g2, g3, g4, g5, g6, g7⟩ := hf
  rw [← g6]
  unfold gs_rhs
  rw [g1, g1, g3, g3, g3, g3]

theorem gs_ptOn {p : Nat} {F : Type} {R : Lean.Grind.CommRing F} {f : Int → F} (hf : gp_map p R f) (a b s : Int)
    (hs : gs_ok p a b s) : gg_on (f a) (f b) (gs_pt f s) := by
  unfold gs_pt
  rcases hs with h | h
  · rw [if_pos h]; trivial
  · rw [if_neg (by omega)]
    exact (gs_onPt hf a b _ _).mpr h.2.2.2

theorem gs_ptInj {p : Nat} {F : Type} {R : Lean.Grind.CommRing F} {f : Int → F} (hf : gp_map p R f) (a b s t : Int)
    (hs : gs_ok p a b s) (ht : gs_ok p a b t) (h : gs_pt f s = gs_pt f t) : s = t := by
  obtain ⟨g1, g2, g3, g4, g5, g6, g7⟩ := hf
  unfold gs_pt at h
  rcases hs with hs | hs
  · rcases ht with ht | ht
    · rw [hs, ht]
    · rw [if_pos hs, if_neg (by omega)] at h
      cases h
  · rcases ht with ht | ht
    · rw [if_pos ht, if_neg (by omega)] at h
      cases h
    · rw [if_neg (by omega), if_neg (by omega)] at h
      have h' := Option.some.inj h
      have hx := congrArg Prod.fst h'
      have hy := congrArg Prod.snd h'
      dsimp only at hx hy
      rw [g6] at hx hy
      rw [Int.emod_eq_of_lt (by omega) hs.2.1, Int.emod_eq_of_lt (by omega) ht.2.1] at hx
      rw [Int.emod_eq_of_lt (by omega) hs.2.2.1, Int.emod_eq_of_lt (by omega) ht.2.2.1] at hy
      omega

theorem gs_oppIff {p : Nat} (h1 : p ≤ 4096) {F : Type} {R : Lean.Grind.CommRing F} {f : Int → F} (hf : gp_map p R f) (s t : Int)
    (hs : 0 ≤ s ∧ s / 4096 < p ∧ s % 4096 < p) (ht : 0 ≤ t ∧ t / 4096 < p ∧ t % 4096 < p) :
    t = gs_opp p s ↔ (f (s / 4096) = f (t / 4096) ∧ f (s % 4096) + f (t % 4096) = 0) := by
  have hz := gp_zero hf
  obtain ⟨g1, g2, g3, g4, g5, g6, g7⟩ := hf
  rw [g6, ← g1, hz, Int.emod_eq_of_lt (by omega) hs.2.1, Int.emod_eq_of_lt (by omega) ht.2.1]
  unfold gs_opp
  rw [if_neg (by omega)]
  have hp : (0 : Int) < p := by omega
  constructor
  · intro h
    by_cases h0 : s % 4096 = 0
    · rw [if_pos h0] at h
      subst h
      refine ⟨rfl, ?_⟩
      rw [h0]
      rfl
    · rw [if_neg h0] at h
      have e1 : t / 4096 = s / 4096 := by omega
      have e2 : t % 4096 = p - s % 4096 := by omega
      refine ⟨e1.symm, ?_⟩
      rw [e2, show s % 4096 + ((p : Int) - s % 4096) = p by omega]
      exact Int.emod_self
  · rintro ⟨h2, h3⟩
    by_cases h0 : s % 4096 = 0
    · rw [if_pos h0]
      rw [h0, Int.zero_add, Int.emod_eq_of_lt (by omega) ht.2.2] at h3
      omega
    · rw [if_neg h0]
      have hd : (p : Int) ∣ s % 4096 + t % 4096 := Int.dvd_of_emod_eq_zero h3
      obtain ⟨k, hk⟩ := hd
      have hk1 : k = 1 := by
        have hk0 : 0 < k := by
          rcases Int.lt_or_le 0 k with h | h
          · exact h
          · have : (p : Int) * k ≤ 0 := Int.mul_nonpos_of_nonneg_of_nonpos (by omega) h
            omega
        have hk2 : k < 2 := by
          rcases Int.lt_or_le k 2 with h | h
          · exact h
          · have : (p : Int) * 2 ≤ p * k := Int.mul_le_mul_of_nonneg_left h (by omega)
            omega
        omega
      rw [hk1, Int.mul_one] at hk
      omega

theorem gs_sumPt {p : Nat} (hp : gp_prime p) (h1 : p ≤ 4096) (h3 : 3 ≤ p) {F : Type} {R : Lean.Grind.CommRing F} {f : Int → F} (hf : gp_map p R f)
    (a b s t : Int) (hs : gs_ok p a b s) (ht : gs_ok p a b t) :
    gs_ok p a b (gs_sum p a s t) ∧
      gs_pt f (gs_sum p a s t) = gg_add (gs_iv p f hf.2.2.2.2.2.2) (f a) (gs_pt f s) (gs_pt f t) := by
  have nz := gp_nz hp hf
  have hiv := gs_ivOk hp hf
  have hso := gs_ptOn hf a b s hs
  have hto := gs_ptOn hf a b t ht
  have hon := gg_addOn _ nz hiv (f a) (f b) _ _ hso hto
  unfold gs_sum
  by_cases hs1 : s = -1
  · rw [if_pos hs1]
    refine ⟨ht, ?_⟩
    have : gs_pt f s = none := if_pos hs1
    rw [this, gg_noneAdd]
  rw [if_neg hs1]
  by_cases ht1 : t = -1
  · rw [if_pos ht1]
    refine ⟨hs, ?_⟩
    have : gs_pt f t = none := if_pos ht1
    rw [this, gg_addNone]
  rw [if_neg ht1]
  have es : gs_pt f s = some (f (s / 4096), f (s % 4096)) := if_neg hs1
  have et : gs_pt f t = some (f (t / 4096), f (t % 4096)) := if_neg ht1
  have hsr : 0 ≤ s ∧ s / 4096 < p ∧ s % 4096 < p := by
    rcases hs with h | h
    · exact absurd h hs1
    · exact ⟨h.1, h.2.1, h.2.2.1⟩
  have htr : 0 ≤ t ∧ t / 4096 < p ∧ t % 4096 < p := by
    rcases ht with h | h
    · exact absurd h ht1
    · exact ⟨h.1, h.2.1, h.2.2.1⟩
  have hop := gs_oppIff h1 hf s t hsr htr
  rw [es, et] at hon ⊢
  by_cases ho : t = gs_opp p s
  · rw [if_pos ho]
    refine ⟨Or.inl rfl, ?_⟩
    rw [gg_addOpp _ _ _ _ _ _ (hop.mp ho)]
    rfl
  rw [if_neg ho]
  have hn : ¬ (f (s / 4096) = f (t / 4096) ∧ f (s % 4096) + f (t % 4096) = 0) := fun h => ho (hop.mpr h)
  obtain ⟨m, k, x3, hl, e⟩ := gg_sumLine _ nz hiv (f a) (f b) _ _ _ _ (by
      rcases hs with h | h
      · exact absurd h hs1
      · exact (gs_onPt hf a b _ _).mpr h.2.2.2) (by
      rcases ht with h | h
      · exact absurd h ht1
      · exact (gs_onPt hf a b _ _).mpr h.2.2.2) hn
  -- the slope
  have hm : f (gs_slope p a s t) = m := by
    obtain ⟨q1, q2, q3, q4, q5⟩ := hl
    have hz := gp_zero hf
    have hfm := gs_fmod hf
    have hie := gs_ivEq hf
    obtain ⟨g1, g2, g3, g4, g5, g6, g7⟩ := hf
    unfold gs_slope
    by_cases hst : s = t
    · rw [if_pos hst]
      subst hst
      rw [hfm, g3, hfm, ← hie]
      rw [hfm]
      have e2 : f (2 * (s % 4096)) = f (s % 4096) + f (s % 4096) := by
        rw [← g1]; congr 1; omega
      have e3 : f (3 * (s / 4096) * (s / 4096) + a) = m * (f (s % 4096) + f (s % 4096)) := by
        have : 3 * (s / 4096) * (s / 4096) + a = s / 4096 * (s / 4096) + s / 4096 * (s / 4096) + s / 4096 * (s / 4096) + a := by grind
        rw [this, g1, g1, g1, g3]
        exact gg_r1 q1 q3 q4
      rw [e2, e3, Lean.Grind.Semiring.mul_assoc, hiv _ (fun h => hn ⟨rfl, h⟩), Lean.Grind.Semiring.mul_one]
    · rw [if_neg hst]
      have hx : f (t / 4096) - f (s / 4096) ≠ 0 := by
        intro h
        have hxx : f (s / 4096) = f (t / 4096) := (gg_sub0 h).symm
        have hyy : f (s % 4096) = f (t % 4096) := by rw [q1, q2, hxx]
        rw [g6, Int.emod_eq_of_lt (by omega) hsr.2.1, Int.emod_eq_of_lt (by omega) htr.2.1] at hxx
        rw [g6, Int.emod_eq_of_lt (by omega) hsr.2.2, Int.emod_eq_of_lt (by omega) htr.2.2] at hyy
        omega
      rw [hfm, g3, hfm, ← hie, hfm, g2, g2]
      have e3 : f (t % 4096) - f (s % 4096) = m * (f (t / 4096) - f (s / 4096)) := gg_r2 q1 q2
      rw [e3, Lean.Grind.Semiring.mul_assoc, hiv _ hx, Lean.Grind.Semiring.mul_one]
  generalize gs_slope p a s t = M at hm ⊢
  have hpp : (0 : Int) < p := by omega
  have hx0 := Int.emod_nonneg (M * M - s / 4096 - t / 4096) (show (p : Int) ≠ 0 by omega)
  have hx1 := Int.emod_lt_of_pos (M * M - s / 4096 - t / 4096) hpp
  have hfx : f (gs_x p M s t) = x3 := by
    obtain ⟨q1, q2, q3, q4, q5⟩ := hl
    unfold gs_x
    rw [gs_fmod hf]
    obtain ⟨g1, g2, g3, g4, g5, g6, g7⟩ := hf
    rw [g2, g2, g3, hm]
    exact gg_r3 q3
  have hfy : f (gs_y p M s (gs_x p M s t)) = - (m * x3 + k) := by
    obtain ⟨q1, q2, q3, q4, q5⟩ := hl
    unfold gs_y
    rw [gs_fmod hf]
    have hfm := gs_fmod hf
    obtain ⟨g1, g2, g3, g4, g5, g6, g7⟩ := hf
    rw [g2, g3, hfm, g2, hm, hfx]
    exact gg_r4 q1
  have hxr : 0 ≤ gs_x p M s t ∧ gs_x p M s t < p := ⟨hx0, hx1⟩
  have hyr : 0 ≤ gs_y p M s (gs_x p M s t) ∧ gs_y p M s (gs_x p M s t) < p :=
    ⟨Int.emod_nonneg _ (by omega), Int.emod_lt_of_pos _ hpp⟩
  generalize gs_y p M s (gs_x p M s t) = Y at hfy hyr ⊢
  generalize gs_x p M s t = X at hfx hxr ⊢
  have d1 : (X * 4096 + Y) / 4096 = X := by omega
  have d2 : (X * 4096 + Y) % 4096 = Y := by omega
  rw [e] at hon
  refine ⟨Or.inr ⟨by omega, by omega, by omega, ?_⟩, ?_⟩
  · rw [d1, d2, ← gs_onPt hf, hfx, hfy]
    exact hon
  · unfold gs_pt
    rw [if_neg (by omega), d1, d2, hfx, hfy]
    exact e.symm

end
-- The points in their order, as codes; they are a finite commutative group.
section

def gs_row (p : Nat) (a b : Int) (x : Nat) : List Int :=
  ((List.range p).filter (fun y : Nat => decide ((y : Int) * y % p = gs_rhs a b x % p))).map (fun y : Nat => (x : Int) * 4096 + y)
def gs_aff (p : Nat) (a b : Int) : List Int := (List.range p).flatMap (gs_row p a b)
def gs_pts (p : Nat) (a b : Int) : List Int := gs_aff p a b ++ [-1]

theorem gs_rowMem (p : Nat) (h1 : p ≤ 4096) (a b : Int) (x : Nat) (s : Int) :
    s ∈ gs_row p a b x ↔ (0 ≤ s ∧ s / 4096 = x ∧ s % 4096 < p ∧ (s % 4096) * (s % 4096) % p = gs_rhs a b x % p) := by
  unfold gs_row
  rw [List.mem_map]
  constructor
  · rintro ⟨y, hy, rfl⟩
    rw [List.mem_filter, List.mem_range] at hy
    have hd := of_decide_eq_true hy.2
    have e1 : ((x : Int) * 4096 + y) / 4096 = x := by omega
    have e2 : ((x : Int) * 4096 + y) % 4096 = y := by omega
    rw [e1, e2]
    exact ⟨by omega, rfl, by omega, hd⟩
  · rintro ⟨g1, g2, g3, g4⟩
    refine ⟨(s % 4096).toNat, ?_, ?_⟩
    · rw [List.mem_filter, List.mem_range]
      have e : (((s % 4096).toNat : Nat) : Int) = s % 4096 := by omega
      refine ⟨by omega, decide_eq_true ?_⟩
      rw [e]
      exact g4
    · omega

theorem gs_affMem (p : Nat) (h1 : p ≤ 4096) (a b : Int) (s : Int) :
    s ∈ gs_aff p a b ↔ (0 ≤ s ∧ s / 4096 < p ∧ s % 4096 < p ∧ (s % 4096) * (s % 4096) % p = gs_rhs a b (s / 4096) % p) := by
  unfold gs_aff
  rw [List.mem_flatMap]
  constructor
  · rintro ⟨x, hx, hs⟩
    rw [List.mem_range] at hx
    rw [gs_rowMem p h1] at hs
    rw [hs.2.1]
    exact ⟨hs.1, by omega, hs.2.2.1, hs.2.2.2⟩
  · rintro ⟨g1, g2, g3, g4⟩
    refine ⟨(s / 4096).toNat, by rw [List.mem_range]; omega, ?_⟩
    rw [gs_rowMem p h1]
    have e : (((s / 4096).toNat : Nat) : Int) = s / 4096 := by omega
    rw [e]
    exact ⟨g1, rfl, g3, g4⟩

theorem gs_ptsMem (p : Nat) (h1 : p ≤ 4096) (a b : Int) (s : Int) : s ∈ gs_pts p a b ↔ gs_ok p a b s := by
  unfold gs_pts gs_ok
  rw [List.mem_append, List.mem_singleton, gs_affMem p h1]
  exact Or.comm

theorem gs_rowSorted (p : Nat) (a b : Int) (x : Nat) : (gs_row p a b x).Pairwise (· < ·) := by
  unfold gs_row
  rw [List.pairwise_map]
  refine List.Pairwise.imp ?_ (List.Pairwise.filter _ (List.pairwise_lt_range (n := p)))
  intro u v h
  omega

theorem gs_affSorted (p : Nat) (h1 : p ≤ 4096) (a b : Int) : (gs_aff p a b).Pairwise (· < ·) := by
  unfold gs_aff
  rw [List.pairwise_flatMap]
  refine ⟨fun x _ => gs_rowSorted p a b x, ?_⟩
  refine List.Pairwise.imp ?_ (List.pairwise_lt_range (n := p))
  intro x x' h s hs t ht
  rw [gs_rowMem p h1] at hs ht
  omega

theorem gs_ptsNodup (p : Nat) (h1 : p ≤ 4096) (a b : Int) : (gs_pts p a b).Nodup := by
  unfold gs_pts
  rw [List.nodup_append]
  refine ⟨?_, ?_, ?_⟩
  · refine List.Pairwise.imp ?_ (gs_affSorted p h1 a b)
    intro u v h
    omega
  · exact List.nodup_cons.mpr ⟨List.not_mem_nil, List.nodup_nil⟩
  · intro u hu v hv
    rw [gs_affMem p h1] at hu
    rw [List.mem_singleton] at hv
    omega

theorem gs_oppOk {p : Nat} (h1 : p ≤ 4096) (a b s : Int) (hs : gs_ok p a b s) : gs_ok p a b (gs_opp p s) := by
  unfold gs_opp
  rcases hs with h | h
  · rw [if_pos h]; exact Or.inl h
  · rw [if_neg (by omega)]
    by_cases h0 : s % 4096 = 0
    · rw [if_pos h0]; exact Or.inr h
    · rw [if_neg h0]
      have e1 : (s / 4096 * 4096 + ((p : Int) - s % 4096)) / 4096 = s / 4096 := by omega
      have e2 : (s / 4096 * 4096 + ((p : Int) - s % 4096)) % 4096 = p - s % 4096 := by omega
      refine Or.inr ⟨by omega, by omega, by omega, ?_⟩
      rw [e1, e2, ← h.2.2.2]
      apply Int.emod_eq_emod_iff_emod_sub_eq_zero.mpr
      have e3 : ((p : Int) - s % 4096) * (p - s % 4096) - s % 4096 * (s % 4096) = p * (p - 2 * (s % 4096)) := by grind
      rw [e3]
      exact Int.mul_emod_right _ _

theorem gs_sumOpp {p : Nat} (p0 : 0 < p) (a b s : Int) (hs : gs_ok p a b s) : gs_sum p a s (gs_opp p s) = -1 := by
  unfold gs_sum
  rcases hs with h | h
  · rw [if_pos h]
    unfold gs_opp
    rw [if_pos h]; exact h
  · rw [if_neg (by omega)]
    by_cases h2 : gs_opp p s = -1
    · exfalso
      unfold gs_opp at h2
      rw [if_neg (by omega)] at h2
      by_cases h0 : s % 4096 = 0
      · rw [if_pos h0] at h2; omega
      · rw [if_neg h0] at h2; omega
    · rw [if_neg h2, if_pos rfl]

theorem gs_group {p : Nat} (hp : gp_prime p) (h1 : p ≤ 4096) (h3 : 3 ≤ p) (a b : Int)
    (hd : (4 * (a * a * a) + 27 * (b * b)) % p ≠ 0) : gg_grp (gs_sum p a) (-1) (gs_pts p a b) := by
  obtain ⟨F, R, f, hf⟩ := gp_ring p (by omega)
  have hM := gs_ptsMem p h1 a b
  have nz := gp_nz hp hf
  have hiv := gs_ivOk hp hf
  have tw := gs_tw hp h3 hf
  have sg := gs_sing hf a b hd
  have hS := gs_sumPt hp h1 h3 hf a b
  have hI := gs_ptInj hf a b
  have hO := gs_ptOn hf a b
  refine ⟨?_, ?_, ?_, ?_, ?_, ?_, gs_ptsNodup p h1 a b⟩
  · rw [hM]; exact Or.inl rfl
  · intro x hx y hy
    rw [hM] at hx hy ⊢
    exact (hS x y hx hy).1
  · intro x hx y hy z hz
    rw [hM] at hx hy hz
    have hxy := hS x y hx hy
    have hyz := hS y z hy hz
    have h4 := hS _ z hxy.1 hz
    have h5 := hS x _ hx hyz.1
    apply hI _ _ h4.1 h5.1
    rw [h4.2, h5.2, hxy.2, hyz.2]
    exact gg_assoc _ nz hiv tw (f a) (f b) sg _ _ _ (hO x hx) (hO y hy) (hO z hz)
  · intro x hx y hy
    rw [hM] at hx hy
    have hxy := hS x y hx hy
    have hyx := hS y x hy hx
    apply hI _ _ hxy.1 hyx.1
    rw [hxy.2, hyx.2]
    exact gg_addComm _ nz hiv (f a) (f b) _ _ (hO x hx) (hO y hy)
  · intro x _
    unfold gs_sum
    rw [if_pos rfl]
  · intro x hx
    rw [hM] at hx
    refine ⟨gs_opp p x, ?_, gs_sumOpp (by omega) a b x hx⟩
    rw [hM]
    exact gs_oppOk h1 a b x hx

end
