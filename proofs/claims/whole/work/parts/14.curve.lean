-- A curve, its list of points, what the answers are.
section
def gs_cv (p a b : Int) : Prop := 5 ≤ p ∧ p ≤ 4093 ∧ gp_prime p.toNat ∧ (0 ≤ a ∧ a < p) ∧ (0 ≤ b ∧ b < p) ∧ (4 * (a * a * a) + 27 * (b * b)) % p ≠ 0
def gs_L (p a b : Int) : List Int := gs_pts p.toNat a b
def gs_n (p a b : Int) : Int := (gs_L p a b).length
abbrev gs_pw (p a u : Int) (k : Nat) : Int := gg_pw (gs_sum p a) (-1) u k

theorem gs_grpZ {p a b : Int} (h : gs_cv p a b) : gg_grp (gs_sum p a) (-1) (gs_L p a b) := by
  obtain ⟨h1, h2, h3, h4, h5, h6⟩ := h
  obtain ⟨N, hN⟩ : ∃ N : Nat, p = N := ⟨p.toNat, by omega⟩
  subst hN
  unfold gs_L
  rw [Int.toNat_natCast] at h3 ⊢
  exact gs_group h3 (by omega) (by omega) a b h6

theorem gs_okZ {p : Int} (h : 5 ≤ p ∧ p ≤ 4093) (a b u : Int) : u ∈ gs_L p a b ↔ gs_ok p a b u := by
  obtain ⟨N, hN⟩ : ∃ N : Nat, p = N := ⟨p.toNat, by omega⟩
  subst hN
  unfold gs_L
  rw [Int.toNat_natCast]
  exact gs_ptsMem N (by omega) a b u

theorem gs_okR {p a b u : Int} (h : gs_ok p a b u) : u = -1 ∨ (0 ≤ u ∧ u / 4096 < p ∧ u % 4096 < p) := by
  rcases h with h | h
  · exact Or.inl h
  · exact Or.inr ⟨h.1, h.2.1, h.2.2.1⟩

theorem gs_sumOk {p a b u w : Int} (h : gs_cv p a b) (hu : gs_ok p a b u) (hw : gs_ok p a b w) : gs_ok p a b (gs_sum p a u w) := by
  have hp : 5 ≤ p ∧ p ≤ 4093 := ⟨h.1, h.2.1⟩
  rw [← gs_okZ hp] at hu hw ⊢
  exact (gs_grpZ h).2.1 u hu w hw

theorem gs_oppOkZ {p a b u : Int} (h : gs_cv p a b) (hu : gs_ok p a b u) : gs_ok p a b (gs_opp p u) := by
  obtain ⟨h1, h2, _⟩ := h
  obtain ⟨N, hN⟩ : ∃ N : Nat, p = N := ⟨p.toNat, by omega⟩
  subst hN
  exact gs_oppOk (by omega) a b u hu

theorem gs_pwOk {p a b u : Int} (h : gs_cv p a b) (hu : gs_ok p a b u) (k : Nat) : gs_ok p a b (gs_pw p a u k) := by
  have hp : 5 ≤ p ∧ p ≤ 4093 := ⟨h.1, h.2.1⟩
  rw [← gs_okZ hp] at hu ⊢
  exact gg_pwMem _ _ _ (gs_grpZ h) u hu k

theorem gs_pwAdd {p a b u : Int} (h : gs_cv p a b) (hu : gs_ok p a b u) (j k : Nat) : gs_pw p a u (j + k) = gs_sum p a (gs_pw p a u j) (gs_pw p a u k) := by
  have hp : 5 ≤ p ∧ p ≤ 4093 := ⟨h.1, h.2.1⟩
  rw [← gs_okZ hp] at hu
  exact gg_pwAdd _ _ _ (gs_grpZ h) u hu j k

theorem gs_pwMul {p a b u : Int} (h : gs_cv p a b) (hu : gs_ok p a b u) (j k : Nat) : gs_pw p a u (j * k) = gs_pw p a (gs_pw p a u j) k := by
  have hp : 5 ≤ p ∧ p ≤ 4093 := ⟨h.1, h.2.1⟩
  rw [← gs_okZ hp] at hu
  exact gg_pwMul _ _ _ (gs_grpZ h) u hu j k

theorem gs_pwE {p a b : Int} (h : gs_cv p a b) (k : Nat) : gs_pw p a (-1) k = -1 := gg_pwE _ _ _ (gs_grpZ h) k

theorem gs_assoc {p a b x y z : Int} (h : gs_cv p a b) (hx : gs_ok p a b x) (hy : gs_ok p a b y) (hz : gs_ok p a b z) : gs_sum p a (gs_sum p a x y) z = gs_sum p a x (gs_sum p a y z) := by
  have hp : 5 ≤ p ∧ p ≤ 4093 := ⟨h.1, h.2.1⟩
  rw [← gs_okZ hp] at hx hy hz
  exact (gs_grpZ h).2.2.1 x hx y hy z hz

theorem gs_comm {p a b x y : Int} (h : gs_cv p a b) (hx : gs_ok p a b x) (hy : gs_ok p a b y) : gs_sum p a x y = gs_sum p a y x := by
  have hp : 5 ≤ p ∧ p ≤ 4093 := ⟨h.1, h.2.1⟩
  rw [← gs_okZ hp] at hx hy
  exact (gs_grpZ h).2.2.2.1 x hx y hy

theorem gs_1sum (p a x : Int) : gs_sum p a (-1) x = x := by
  unfold gs_sum
  rw [if_pos rfl]

theorem gs_sum1 (p a x : Int) : gs_sum p a x (-1) = x := by
  unfold gs_sum
  by_cases h : x = -1
  · rw [if_pos h, h]
  · rw [if_neg h, if_pos rfl]

theorem gs_sumOppZ {p a b u : Int} (h : gs_cv p a b) (hu : gs_ok p a b u) : gs_sum p a u (gs_opp p u) = -1 := by
  obtain ⟨h1, h2, _⟩ := h
  obtain ⟨N, hN⟩ : ∃ N : Nat, p = N := ⟨p.toNat, by omega⟩
  subst hN
  exact gs_sumOpp (by omega) a b u hu

theorem gs_pw1 (p a u : Int) : gs_pw p a u 1 = u := gs_1sum p a u

-- doubling: the loop of multiple
theorem gs_mul0 {p a b r d : Int} (h : gs_cv p a b) (hd : gs_ok p a b d) {k : Int} (hk : 0 < k) (h0 : k % 2 = 0) :
    gs_sum p a r (gs_pw p a (gs_sum p a d d) (k / 2).toNat) = gs_sum p a r (gs_pw p a d k.toNat) := by
  have e : k.toNat = 2 * (k / 2).toNat := by omega
  have e2 : gs_sum p a d d = gs_pw p a d 2 := by
    show gs_sum p a d d = gs_sum p a (gs_pw p a d 1) d
    rw [gs_pw1]
  rw [e, gs_pwMul h hd, e2]

theorem gs_mul1 {p a b r d : Int} (h : gs_cv p a b) (hr : gs_ok p a b r) (hd : gs_ok p a b d) {k : Int} (hk : 0 < k) (h1 : k % 2 = 1) :
    gs_sum p a (gs_sum p a r d) (gs_pw p a (gs_sum p a d d) (k / 2).toNat) = gs_sum p a r (gs_pw p a d k.toNat) := by
  have e : k.toNat = 1 + 2 * (k / 2).toNat := by omega
  have e2 : gs_sum p a d d = gs_pw p a d 2 := by
    show gs_sum p a d d = gs_sum p a (gs_pw p a d 1) d
    rw [gs_pw1]
  rw [e, gs_pwAdd h hd, gs_pw1, gs_pwMul h hd, ← e2]
  exact gs_assoc h hr hd (gs_pwOk h (gs_sumOk h hd hd) _)

-- the order
theorem gs_nPos (p a b : Int) : 1 ≤ gs_n p a b := by
  unfold gs_n gs_L gs_pts
  rw [List.length_append, List.length_singleton]
  omega

theorem gs_lagr {p a b u : Int} (h : gs_cv p a b) (hu : gs_ok p a b u) : gs_pw p a u (gs_n p a b).toNat = -1 := by
  have hp : 5 ≤ p ∧ p ≤ 4093 := ⟨h.1, h.2.1⟩
  rw [← gs_okZ hp] at hu
  have h1 := gg_lagr _ _ _ (gs_grpZ h) u hu
  unfold gs_n
  rw [Int.toNat_natCast]
  exact h1

def gs_isOrd (p a u K : Int) : Prop := 1 ≤ K ∧ gs_pw p a u K.toNat = -1 ∧ ∀ j : Nat, 0 < j → (j : Int) < K → gs_pw p a u j ≠ -1

theorem gs_ordEx {p a b u : Int} (h : gs_cv p a b) (hu : gs_ok p a b u) : ∃ K : Int, gs_isOrd p a u K := by
  obtain ⟨k, ⟨h1, h2⟩, h3⟩ := pk_least (fun k => 0 < k ∧ gs_pw p a u k = -1) ⟨(gs_n p a b).toNat, by have := gs_nPos p a b; omega, gs_lagr h hu⟩
  refine ⟨(k : Int), by omega, ?_, ?_⟩
  · rw [Int.toNat_natCast]; exact h2
  · intro j hj hjk he
    exact h3 j (by omega) ⟨hj, he⟩

theorem gs_ordLe {p a b u K : Int} (h : gs_cv p a b) (hu : gs_ok p a b u) (hK : gs_isOrd p a u K) : K ≤ gs_n p a b := by
  rcases Int.lt_or_le (gs_n p a b) K with h1 | h1
  · have hn := gs_nPos p a b
    exact absurd (gs_lagr h hu) (hK.2.2 (gs_n p a b).toNat (by omega) (by omega))
  · exact h1

theorem gs_ordDvd {p a b u K : Int} (h : gs_cv p a b) (hu : gs_ok p a b u) (hK : gs_isOrd p a u K) : gs_n p a b % K = 0 := by
  have hp : 5 ≤ p ∧ p ≤ 4093 := ⟨h.1, h.2.1⟩
  have hu' := (gs_okZ hp a b u).mpr hu
  have h1 := gg_least _ _ _ (gs_grpZ h) u hu' K.toNat (by have := hK.1; omega) hK.2.1 (fun j hj hjk => hK.2.2 j hj (by omega))
  unfold gs_n
  have e : ((((gs_L p a b).length % K.toNat : Nat)) : Int) = 0 := by rw [h1]; rfl
  rw [Int.natCast_emod, Int.toNat_of_nonneg (by have := hK.1; omega)] at e
  exact e

theorem gs_ordUniq {p a u K k : Int} (hK : gs_isOrd p a u K) (hk : 1 ≤ k) (h1 : gs_pw p a u k.toNat = -1) (h2 : ∀ j : Nat, 0 < j → (j : Int) < k → (j : Int) ≠ K) : k = K := by
  rcases Int.lt_or_le K k with h | h
  · exact absurd (Int.toNat_of_nonneg (by have := hK.1; omega)) (h2 K.toNat (by have := hK.1; omega) (by have := hK.1; omega))
  · rcases Int.lt_or_le k K with h3 | h3
    · exact absurd h1 (hK.2.2 k.toNat (by omega) (by omega))
    · omega

noncomputable def gs_order (p a u : Int) : Int := @dite Int (∃ K : Int, gs_isOrd p a u K) (Classical.propDecidable _) (fun h => Classical.choose h) (fun _ => 0)

theorem gs_orderOk {p a b u : Int} (h : gs_cv p a b) (hu : gs_ok p a b u) : gs_isOrd p a u (gs_order p a u) := by
  have hex := gs_ordEx h hu
  unfold gs_order
  rw [dif_pos hex]
  exact Classical.choose_spec hex

-- k times
def gs_times (p a k u : Int) : Int := if 0 ≤ k then gs_pw p a u k.toNat else gs_pw p a (gs_opp p u) (- k).toNat

theorem gs_pwMod {p a b u : Int} (h : gs_cv p a b) (hu : gs_ok p a b u) {K : Nat} (hK : gs_pw p a u K = -1) (k : Nat) : gs_pw p a u k = gs_pw p a u (k % K) := by
  have e : k = K * (k / K) + k % K := (Nat.div_add_mod k K).symm
  have h1 : gs_pw p a u (K * (k / K) + k % K) = gs_pw p a u (k % K) := by
    rw [gs_pwAdd h hu, gs_pwMul h hu, hK, gs_pwE h, gs_1sum]
  rw [← e] at h1
  exact h1

theorem gs_pwOpp {p a b u : Int} (h : gs_cv p a b) (hu : gs_ok p a b u) (k : Nat) : gs_sum p a (gs_pw p a u k) (gs_pw p a (gs_opp p u) k) = -1 := by
  have ho := gs_oppOkZ h hu
  induction k with
  | zero => exact gs_1sum p a (-1)
  | succ k ih =>
    have h1 := gs_pwOk h hu k
    have h2 := gs_pwOk h ho k
    show gs_sum p a (gs_sum p a (gs_pw p a u k) u) (gs_sum p a (gs_pw p a (gs_opp p u) k) (gs_opp p u)) = -1
    rw [gs_comm h h2 ho, ← gs_assoc h (gs_sumOk h h1 hu) ho h2, gs_assoc h h1 hu ho, gs_sumOppZ h hu, gs_sum1]
    exact ih

theorem gs_ordOpp {p a b u : Int} (h : gs_cv p a b) (hu : gs_ok p a b u) {K : Nat} (hK : gs_pw p a u K = -1) : gs_pw p a (gs_opp p u) K = -1 := by
  have h1 := gs_pwOpp h hu K
  rw [hK, gs_1sum] at h1
  exact h1

theorem gs_timesP {p a b k u K : Int} (h : gs_cv p a b) (hu : gs_ok p a b u) (hK : gs_isOrd p a u K) (hk : 0 ≤ k.tmod K) (hk0 : 0 ≤ k ∨ k.tmod K = 0) :
    gs_times p a k u = gs_pw p a u (k.tmod K).toNat := by
  have hK1 := hK.1
  unfold gs_times
  by_cases h0 : 0 ≤ k
  · rw [if_pos h0, gs_pwMod h hu hK.2.1, Int.tmod_eq_emod_of_nonneg h0]
    congr 1
    have e : ((k.toNat % K.toNat : Nat) : Int) = k % K := by
      rw [Int.natCast_emod, Int.toNat_of_nonneg h0, Int.toNat_of_nonneg (by omega)]
    omega
  · have hz : k.tmod K = 0 := by
      rcases hk0 with h1 | h1
      · exact absurd h1 h0
      · exact h1
    rw [if_neg h0, hz, gs_pwMod h (gs_oppOkZ h hu) (gs_ordOpp h hu hK.2.1)]
    have e : (((- k).toNat % K.toNat : Nat) : Int) = 0 := by
      rw [Int.natCast_emod, Int.toNat_of_nonneg (by omega), Int.toNat_of_nonneg (by omega), ← Int.tmod_eq_emod_of_nonneg (by omega), Int.neg_tmod, hz]
      rfl
    rw [show (- k).toNat % K.toNat = 0 by omega]
    rfl

theorem gs_timesN {p a b k u K : Int} (h : gs_cv p a b) (hu : gs_ok p a b u) (hK : gs_isOrd p a u K) (hk : k.tmod K < 0) :
    gs_times p a k u = gs_pw p a (gs_opp p u) (- (k.tmod K)).toNat := by
  have hK1 := hK.1
  unfold gs_times
  have h0 : ¬ 0 ≤ k := by
    intro h0
    have := Int.tmod_nonneg K h0
    omega
  rw [if_neg h0, gs_pwMod h (gs_oppOkZ h hu) (gs_ordOpp h hu hK.2.1)]
  congr 1
  have e : (((- k).toNat % K.toNat : Nat) : Int) = - (k.tmod K) := by
    rw [Int.natCast_emod, Int.toNat_of_nonneg (by omega), Int.toNat_of_nonneg (by omega), ← Int.tmod_eq_emod_of_nonneg (by omega), Int.neg_tmod]
  omega

-- the answers
noncomputable def gs_aAdd (p a b u w : Int) : Int := gg_if (gs_ok p a b u ∧ gs_ok p a b w) (gs_sum p a u w) (-2)
noncomputable def gs_aNeg (p a b u : Int) : Int := gg_if (gs_ok p a b u) (gs_opp p u) (-2)
noncomputable def gs_aTimes (p a b k u : Int) : Int := gg_if (gs_ok p a b u) (gs_times p a k u) (-2)
noncomputable def gs_aOrder (p a b u : Int) : Int := gg_if (gs_ok p a b u) (gs_order p a u) (-2)
def gs_aTrace (p a b k : Int) : Int := if 2 ≤ k ∧ k ≤ 1000 then (p + 1 - gs_n p a b) % k else -1
def gs_aRoots (p a b x : Int) : Int := if 0 ≤ x ∧ x < p then ((gs_row p.toNat a b x.toNat).length : Int) else -1
def gs_aPoint (p a b k : Int) : Int := if 0 ≤ k ∧ k < gs_n p a b then (gs_L p a b)[k.toNat]?.getD 0 else -2
def gs_aTwist (p a b g : Int) : Int := if 1 ≤ g ∧ g < p then gs_n p (a * g * g % p) (b * g * g * g % p) else -1
def gs_aCoef (p a b k : Int) : Int := if k = 0 then p else if k = 1 then a else if k = 2 then b else -1
end
