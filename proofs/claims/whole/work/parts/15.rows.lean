-- The points of one x; where a point stands in the list.
section
theorem gs_sortEq {l1 l2 : List Int} (h1 : l1.Pairwise (· < ·)) (h2 : l2.Pairwise (· < ·)) (hm : ∀ x, x ∈ l1 ↔ x ∈ l2) : l1 = l2 := by
  have n1 : l1.Nodup := List.Pairwise.imp (fun h => Int.ne_of_lt h) h1
  have n2 : l2.Nodup := List.Pairwise.imp (fun h => Int.ne_of_lt h) h2
  have hp := (List.perm_ext_iff_of_nodup n1 n2).mpr hm
  exact List.Perm.eq_of_pairwise (le := (· < ·)) (fun a b _ _ h3 h4 => absurd h3 (Int.lt_asymm h4)) h1 h2 hp

theorem gs_sqEq {N : Nat} (hp : gp_prime N) {y z : Int} (hy : 0 ≤ y ∧ y < N) (hz : 0 ≤ z ∧ z < N) (h : y * y % N = z * z % N) :
    y = z ∨ y + z = N := by
  have hd : ((y - z) * (y + z)) % N = 0 := by
    have e : (y - z) * (y + z) = y * y - z * z := by grind
    rw [e]
    exact Int.emod_eq_emod_iff_emod_sub_eq_zero.mp h
  by_cases h1 : (y - z) % N = 0
  · left
    have h2 := Int.emod_eq_emod_iff_emod_sub_eq_zero.mpr h1
    rw [Int.emod_eq_of_lt hy.1 hy.2, Int.emod_eq_of_lt hz.1 hz.2] at h2
    exact h2
  · by_cases h2 : (y + z) % N = 0
    · by_cases h3 : y + z < N
      · left
        rw [Int.emod_eq_of_lt (by omega) h3] at h2
        omega
      · right
        have h4 : (y + z - N) % N = 0 := by
          rw [Int.sub_emod, h2, Int.emod_self]
          rfl
        rw [Int.emod_eq_of_lt (by omega) (by omega)] at h4
        omega
    · exact absurd hd (gp_mulNz hp h1 h2)

def gs_lr (p : Int) (g1 : Int → Int) : Prop := ∀ v, 0 ≤ v → v < p → (g1 v = -1 ∧ ∀ y, 0 ≤ y → y < p → y * y % p ≠ v) ∨ (0 ≤ g1 v ∧ 2 * g1 v ≤ p ∧ g1 v * g1 v % p = v)

theorem gs_odd {N : Nat} (hp : gp_prime N) (h5 : 5 ≤ N) : N % 2 = 1 := by
  have := hp.2 2 (by omega) (by omega)
  omega

theorem gs_rowNone {N : Nat} (h1 : N ≤ 4096) (a b : Int) (x : Nat) (h : ∀ y : Int, 0 ≤ y → y < N → y * y % N ≠ gs_rhs a b x % N) : gs_row N a b x = [] := by
  apply List.eq_nil_iff_forall_not_mem.mpr
  intro u hu
  rw [gs_rowMem N h1] at hu
  exact h (u % 4096) (by omega) hu.2.2.1 hu.2.2.2

theorem gs_rowZero {N : Nat} (hp : gp_prime N) (h1 : N ≤ 4096) (a b : Int) (x : Nat) (h : gs_rhs a b x % N = 0) : gs_row N a b x = [(x : Int) * 4096] := by
  have h2 := hp.1
  apply gs_sortEq (gs_rowSorted N a b x)
  · exact List.pairwise_singleton _ _
  · intro u
    rw [gs_rowMem N h1, List.mem_singleton, h]
    constructor
    · rintro ⟨g1, g2, g3, g4⟩
      by_cases h0 : u % 4096 = 0
      · omega
      · exfalso
        have hn : (u % 4096) % N ≠ 0 := by
          rw [Int.emod_eq_of_lt (by omega) g3]
          exact h0
        exact gp_mulNz hp hn hn g4
    · intro hu
      subst hu
      have e1 : (x : Int) * 4096 % 4096 = 0 := by omega
      refine ⟨by omega, by omega, by omega, ?_⟩
      rw [e1]
      rfl

theorem gs_rowTwo {N : Nat} (hp : gp_prime N) (h5 : 5 ≤ N) (h1 : N ≤ 4096) (a b : Int) (x : Nat) (y : Int) (hy : 0 ≤ y ∧ 2 * y ≤ N) (hyy : y * y % N = gs_rhs a b x % N) (h : gs_rhs a b x % N ≠ 0) :
    gs_row N a b x = [(x : Int) * 4096 + y, (x : Int) * 4096 + (N - y)] := by
  have ho := gs_odd hp h5
  have hy0 : y ≠ 0 := by
    intro h0
    apply h
    rw [← hyy, h0]
    rfl
  apply gs_sortEq (gs_rowSorted N a b x)
  · refine List.pairwise_cons.mpr ⟨?_, List.pairwise_singleton _ _⟩
    intro z hz
    rw [List.mem_singleton] at hz
    omega
  · intro u
    rw [gs_rowMem N h1, List.mem_cons, List.mem_singleton]
    constructor
    · rintro ⟨g1, g2, g3, g4⟩
      rw [← hyy] at g4
      rcases gs_sqEq hp (y := u % 4096) (z := y) (by omega) (by omega) g4 with h8 | h8 <;> omega
    · intro hu
      rcases hu with hu | hu
      · have e1 : u % 4096 = y := by omega
        refine ⟨by omega, by omega, by omega, ?_⟩
        rw [e1]
        exact hyy
      · have e1 : u % 4096 = N - y := by omega
        refine ⟨by omega, by omega, by omega, ?_⟩
        rw [e1, ← hyy]
        apply Int.emod_eq_emod_iff_emod_sub_eq_zero.mpr
        have e3 : ((N : Int) - y) * (N - y) - y * y = N * (N - 2 * y) := by grind
        rw [e3]
        exact Int.mul_emod_right _ _

-- how many numbers below Y have the square v
def gs_cnt (p v : Int) (Y : Nat) : Nat := ((List.range Y).filter (fun y : Nat => decide ((y : Int) * y % p = v))).length
theorem gs_cnt0 (p v : Int) : gs_cnt p v 0 = 0 := rfl
theorem gs_cntT {p v : Int} {Y : Nat} (h : (Y : Int) * Y % p = v) : gs_cnt p v (Y + 1) = gs_cnt p v Y + 1 := by
  unfold gs_cnt
  rw [List.range_succ, List.filter_append, List.length_append, List.filter_cons_of_pos (p := fun y : Nat => decide ((y : Int) * y % p = v)) (a := Y) (decide_eq_true h), List.filter_nil]
  rfl
theorem gs_cntF {p v : Int} {Y : Nat} (h : ¬ (Y : Int) * Y % p = v) : gs_cnt p v (Y + 1) = gs_cnt p v Y := by
  unfold gs_cnt
  rw [List.range_succ, List.filter_append, List.length_append, List.filter_cons_of_neg (by rw [decide_eq_false h]; decide), List.filter_nil]
  rfl
theorem gs_rowLen (N : Nat) (a b : Int) (x : Nat) : (gs_row N a b x).length = gs_cnt N (gs_rhs a b x % N) N := by
  unfold gs_row gs_cnt
  rw [List.length_map]
theorem gs_rangeSplit {y N : Nat} (h : y < N) : ∃ r, List.range N = List.range y ++ y :: r := by
  induction N with
  | zero => exact absurd h (Nat.not_lt_zero _)
  | succ N ih =>
    rw [List.range_succ]
    by_cases h1 : y = N
    · subst h1
      exact ⟨[], rfl⟩
    · obtain ⟨r, hr⟩ := ih (by omega)
      refine ⟨r ++ [N], ?_⟩
      rw [hr, List.append_assoc]
      rfl
theorem gs_rowAt {N : Nat} (a b : Int) (x y : Nat) (hy : y < N) (h : (y : Int) * y % N = gs_rhs a b x % N) :
    (gs_row N a b x)[gs_cnt N (gs_rhs a b x % N) y]? = some ((x : Int) * 4096 + y) := by
  obtain ⟨r, hr⟩ := gs_rangeSplit hy
  unfold gs_row gs_cnt
  rw [hr, List.filter_append, List.map_append, List.filter_cons_of_pos (p := fun y : Nat => decide ((y : Int) * y % N = gs_rhs a b x % N)) (a := y) (decide_eq_true h), List.map_cons]
  rw [List.getElem?_append_right (by rw [List.length_map]; exact Nat.le_refl _), List.length_map, Nat.sub_self]
  rfl

def gs_pre (N : Nat) (a b : Int) (x : Nat) : List Int := (List.range x).flatMap (gs_row N a b)
theorem gs_pre0 (N : Nat) (a b : Int) : gs_pre N a b 0 = [] := rfl
theorem gs_preS (N : Nat) (a b : Int) (x : Nat) : gs_pre N a b (x + 1) = gs_pre N a b x ++ gs_row N a b x := by
  unfold gs_pre
  rw [List.range_succ, List.flatMap_append, List.flatMap_cons, List.flatMap_nil, List.append_nil]
theorem gs_preL (N : Nat) (a b : Int) (x : Nat) : (gs_pre N a b (x + 1)).length = (gs_pre N a b x).length + (gs_row N a b x).length := by
  rw [gs_preS, List.length_append]
theorem gs_preEx (N : Nat) (a b : Int) {x y : Nat} (h : x ≤ y) : ∃ r, gs_pre N a b y = gs_pre N a b x ++ r := by
  induction y with
  | zero =>
    have : x = 0 := by omega
    subst this
    exact ⟨[], by rw [List.append_nil]⟩
  | succ y ih =>
    by_cases h1 : x = y + 1
    · subst h1
      exact ⟨[], by rw [List.append_nil]⟩
    · obtain ⟨r, hr⟩ := ih (by omega)
      refine ⟨r ++ gs_row N a b y, ?_⟩
      rw [gs_preS, hr, List.append_assoc]
theorem gs_preMono (N : Nat) (a b : Int) {x y : Nat} (h : x ≤ y) : (gs_pre N a b x).length ≤ (gs_pre N a b y).length := by
  obtain ⟨r, hr⟩ := gs_preEx N a b h
  rw [hr, List.length_append]
  omega
theorem gs_preFind (N : Nat) (a b : Int) {k : Nat} (x : Nat) (h : k < (gs_pre N a b x).length) :
    ∃ X, X < x ∧ (gs_pre N a b X).length ≤ k ∧ k < (gs_pre N a b (X + 1)).length := by
  induction x with
  | zero =>
    rw [gs_pre0] at h
    exact absurd h (Nat.not_lt_zero _)
  | succ x ih =>
    by_cases h1 : k < (gs_pre N a b x).length
    · obtain ⟨X, h2, h3⟩ := ih h1
      exact ⟨X, by omega, h3⟩
    · exact ⟨x, by omega, by omega, h⟩
theorem gs_nPre (p a b : Int) : gs_n p a b = ((gs_pre p.toNat a b p.toNat).length : Int) + 1 := by
  unfold gs_n gs_L gs_pts
  rw [List.length_append, List.length_singleton]
  rfl
theorem gs_ptsAt (N : Nat) (a b : Int) {X k : Nat} (hX : X < N) (h1 : (gs_pre N a b X).length ≤ k) (h2 : k < (gs_pre N a b (X + 1)).length) :
    (gs_pts N a b)[k]? = (gs_row N a b X)[k - (gs_pre N a b X).length]? := by
  obtain ⟨r, hr⟩ := gs_preEx N a b (show X + 1 ≤ N by omega)
  have e : gs_pts N a b = gs_pre N a b X ++ (gs_row N a b X ++ (r ++ [-1])) := by
    show gs_pre N a b N ++ [-1] = _
    rw [hr, gs_preS, List.append_assoc, List.append_assoc]
  rw [gs_preL] at h2
  rw [e, List.getElem?_append_right h1, List.getElem?_append_left (by omega)]
theorem gs_ptsLast (N : Nat) (a b : Int) : (gs_pts N a b)[(gs_pre N a b N).length]? = some (-1) := by
  have e : gs_pts N a b = gs_pre N a b N ++ [-1] := rfl
  rw [e, List.getElem?_append_right (Nat.le_refl _), Nat.sub_self]
  rfl

theorem gs_row2 {N : Nat} (hp : gp_prime N) (h5 : 5 ≤ N) (h1 : N ≤ 4096) (a b : Int) (x : Nat) : (gs_row N a b x).length ≤ 2 := by
  by_cases h0 : gs_rhs a b x % N = 0
  · rw [gs_rowZero hp h1 a b x h0]
    exact Nat.le_succ 1
  · by_cases hex : ∃ y : Int, 0 ≤ y ∧ y < N ∧ y * y % N = gs_rhs a b x % N
    · obtain ⟨y, y1, y2, y3⟩ := hex
      by_cases h2 : 2 * y ≤ N
      · rw [gs_rowTwo hp h5 h1 a b x y ⟨y1, h2⟩ y3 h0]
        exact Nat.le_refl 2
      · rw [gs_rowTwo hp h5 h1 a b x (N - y) ⟨by omega, by omega⟩ ?_ h0]
        · exact Nat.le_refl 2
        · rw [← y3]
          apply Int.emod_eq_emod_iff_emod_sub_eq_zero.mpr
          have e3 : ((N : Int) - y) * (N - y) - y * y = N * (N - 2 * y) := by grind
          rw [e3]
          exact Int.mul_emod_right _ _
    · rw [gs_rowNone h1 a b x (fun y h3 h4 h6 => hex ⟨y, h3, h4, h6⟩)]
      exact Nat.zero_le 2
theorem gs_preLe {N : Nat} (hp : gp_prime N) (h5 : 5 ≤ N) (h1 : N ≤ 4096) (a b : Int) (x : Nat) : (gs_pre N a b x).length ≤ 2 * x := by
  induction x with
  | zero => exact Nat.le_refl 0
  | succ x ih =>
    rw [gs_preL]
    have := gs_row2 hp h5 h1 a b x
    omega
theorem gs_nLe {p a b : Int} (h5 : 5 ≤ p ∧ p ≤ 4093) (hp : gp_prime p.toNat) : 1 ≤ gs_n p a b ∧ gs_n p a b ≤ 2 * p + 1 := by
  have h := gs_preLe hp (by omega) (by omega) a b p.toNat
  rw [gs_nPre]
  omega

-- the two rows of the object
def gs_pb (p a b : Int) (g2 : Int → Int) : Prop := ∀ x : Nat, (x : Int) ≤ p → g2 (x : Int) = ((gs_pre p.toNat a b x).length : Int)
def gs_st (p a b n : Int) (g1 g2 : Int → Int) : Prop := gs_cv p a b ∧ n = gs_n p a b ∧ gs_lr p g1 ∧ gs_pb p a b g2

theorem gs_rcEq {p a b : Int} {g1 : Int → Int} (h5 : 5 ≤ p ∧ p ≤ 4093) (hp : gp_prime p.toNat) (h : gs_lr p g1) {x : Int} (hx : 0 ≤ x ∧ x < p) :
    (if gs_rhs a b x % p = 0 then (1 : Int) else if g1 (gs_rhs a b x % p) = -1 then 0 else 2) = ((gs_row p.toNat a b x.toNat).length : Int) := by
  obtain ⟨N, hN⟩ : ∃ N : Nat, p = N := ⟨p.toNat, by omega⟩
  obtain ⟨X, hX⟩ : ∃ X : Nat, x = X := ⟨x.toNat, by omega⟩
  subst hN
  subst hX
  rw [Int.toNat_natCast] at hp ⊢
  rw [Int.toNat_natCast]
  by_cases h0 : gs_rhs a b (X : Int) % N = 0
  · rw [if_pos h0, gs_rowZero hp (by omega) a b X h0]
    rfl
  · rw [if_neg h0]
    have hr := zz_md (v := gs_rhs a b (X : Int)) (p := (N : Int)) (by omega)
    rcases h _ hr.1 hr.2 with ⟨h2, h3⟩ | ⟨h2, h3, h4⟩
    · rw [if_pos h2, gs_rowNone (by omega) a b X h3]
      rfl
    · rw [if_neg (by omega), gs_rowTwo hp (by omega) (by omega) a b X _ ⟨h2, h3⟩ h4 h0]
      rfl

theorem gs_pointEq {p a b n k x : Int} {g1 g2 : Int → Int} (h : gs_st p a b n g1 g2) (hk : 0 ≤ k ∧ k < n) (hx : 0 ≤ x ∧ x < p) (h1 : g2 x ≤ k) (h2 : k < g2 (x + 1)) :
    gs_aPoint p a b k = if k = g2 x then x * 4096 + g1 (gs_rhs a b x % p) else x * 4096 + (p - g1 (gs_rhs a b x % p)) := by
  obtain ⟨hcv, hn, hlr, hpb⟩ := h
  obtain ⟨c1, c2, c3, c4, c5, c6⟩ := hcv
  unfold gs_aPoint
  rw [← hn, if_pos hk]
  obtain ⟨N, hN⟩ : ∃ N : Nat, p = N := ⟨p.toNat, by omega⟩
  obtain ⟨X, hX⟩ : ∃ X : Nat, x = X := ⟨x.toNat, by omega⟩
  obtain ⟨K, hK⟩ : ∃ K : Nat, k = K := ⟨k.toNat, by omega⟩
  subst hN
  subst hX
  subst hK
  unfold gs_L
  unfold gs_pb at hpb
  rw [Int.toNat_natCast] at c3 hpb ⊢
  rw [Int.toNat_natCast]
  have e1 := hpb X (by omega)
  have e2 := hpb (X + 1) (by omega)
  rw [show ((X + 1 : Nat) : Int) = (X : Int) + 1 from rfl] at e2
  rw [e1] at h1
  rw [e2] at h2
  rw [gs_ptsAt N a b (show X < N by omega) (by omega) (by omega), e1]
  have hlen := gs_preL N a b X
  have hr := zz_md (v := gs_rhs a b (X : Int)) (p := (N : Int)) (by omega)
  by_cases h0 : gs_rhs a b (X : Int) % N = 0
  · rw [gs_rowZero c3 (by omega) a b X h0] at hlen ⊢
    rw [List.length_singleton] at hlen
    rw [if_pos (by omega), show K - (gs_pre N a b X).length = 0 by omega]
    have hz : g1 0 = 0 := by
      rcases hlr 0 (by omega) (by omega) with ⟨h3, h4⟩ | ⟨h3, h4, h5⟩
      · exact absurd rfl (h4 0 (by omega) (by omega))
      · by_cases hg : g1 0 = 0
        · exact hg
        · exfalso
          have hn2 : g1 0 % N ≠ 0 := by
            rw [Int.emod_eq_of_lt h3 (by omega)]
            exact hg
          exact gp_mulNz c3 hn2 hn2 h5
    rw [h0, hz]
    show (X : Int) * 4096 = (X : Int) * 4096 + 0
    omega
  · rcases hlr _ hr.1 hr.2 with ⟨h3, h4⟩ | ⟨h3, h4, h5⟩
    · rw [gs_rowNone (by omega) a b X h4] at hlen
      rw [List.length_nil] at hlen
      omega
    · rw [gs_rowTwo c3 (by omega) (by omega) a b X _ ⟨h3, h4⟩ h5 h0] at hlen ⊢
      have hlen2 : (gs_pre N a b (X + 1)).length = (gs_pre N a b X).length + 2 := hlen
      by_cases hK2 : K = (gs_pre N a b X).length
      · rw [if_pos (by omega), show K - (gs_pre N a b X).length = 0 by omega]
        rfl
      · rw [if_neg (by omega), show K - (gs_pre N a b X).length = 1 by omega]
        rfl
theorem gs_pointLast {p a b : Int} (h : 5 ≤ p ∧ p ≤ 4093) : gs_aPoint p a b (gs_n p a b - 1) = -1 := by
  have hn := gs_nPre p a b
  unfold gs_aPoint
  rw [if_pos (by omega)]
  unfold gs_L
  rw [show (gs_n p a b - 1).toNat = (gs_pre p.toNat a b p.toNat).length by omega, gs_ptsLast]
  rfl
theorem gs_pbFind {p a b k n : Int} {g2 : Int → Int} (h : gs_pb p a b g2) (hp : 5 ≤ p) (hn : n = gs_n p a b) (hk : 0 ≤ k ∧ k < n - 1) :
    ∃ x : Int, 0 ≤ x ∧ x < p ∧ g2 x ≤ k ∧ k < g2 (x + 1) := by
  rw [hn, gs_nPre] at hk
  obtain ⟨X, h1, h2, h3⟩ := gs_preFind p.toNat a b (k := k.toNat) p.toNat (by omega)
  have e1 := h X (by omega)
  have e2 := h (X + 1) (by omega)
  rw [show ((X + 1 : Nat) : Int) = (X : Int) + 1 from rfl] at e2
  exact ⟨(X : Int), by omega, by omega, by omega, by omega⟩
theorem gs_pbMono {p a b : Int} {g2 : Int → Int} (h : gs_pb p a b g2) {x y : Int} (hx : 0 ≤ x) (hxy : x ≤ y) (hy : y ≤ p) : 0 ≤ g2 x ∧ g2 x ≤ g2 y := by
  have e1 := h x.toNat (by omega)
  have e2 := h y.toNat (by omega)
  rw [Int.toNat_of_nonneg hx] at e1
  rw [Int.toNat_of_nonneg (by omega)] at e2
  have := gs_preMono p.toNat a b (show x.toNat ≤ y.toNat by omega)
  omega
theorem gs_pbLe {p a b : Int} {g2 : Int → Int} (h : gs_pb p a b g2) (h5 : 5 ≤ p ∧ p ≤ 4093) (hp : gp_prime p.toNat) {x : Int} (hx : 0 ≤ x ∧ x ≤ p) : 0 ≤ g2 x ∧ g2 x ≤ 2 * p := by
  have e1 := h x.toNat (by omega)
  rw [Int.toNat_of_nonneg hx.1] at e1
  have := gs_preLe hp (by omega) (by omega) a b x.toNat
  omega
end
