-- More rows said of integers: shifts, masks, longs, the remainder that is never below 0.
section
def zC (a b : Int) : Int := if b < a then 1 else if a = b then 0 else -1
theorem zC_r (a b : Int) : -1 ≤ zC a b ∧ zC a b ≤ 1 := by
  unfold zC
  split
  · omega
  · split <;> omega
theorem zC_neg {a b : Int} : zC a b < 0 ↔ a < b := by
  unfold zC
  split
  · omega
  · split <;> omega
theorem zC_0 {a b : Int} : zC a b = 0 ↔ a = b := by
  unfold zC
  split
  · omega
  · split <;> omega
theorem zC_pos {a b : Int} : 0 < zC a b ↔ b < a := by
  unfold zC
  split
  · omega
  · split <;> omega
theorem zL_cmp {a b : Int} (ha : -9223372036854775808 ≤ a ∧ a < 9223372036854775808) (hb : -9223372036854775808 ≤ b ∧ b < 9223372036854775808) : lg_cmp (zL a) (zL b) = zI (zC a b) := by
  unfold lg_cmp zC
  have h1 : zL a > zL b ↔ b < a := by
    show zL b < zL a ↔ b < a
    rw [Int64.lt_iff_toInt_lt, zL_toInt ha, zL_toInt hb]
  have h2 : zL a = zL b ↔ a = b := by
    rw [← Int64.toInt_inj, zL_toInt ha, zL_toInt hb]
  by_cases c1 : b < a
  · rw [if_pos (h1.mpr c1), if_pos c1]; rfl
  · rw [if_neg (fun h => c1 (h1.mp h)), if_neg c1]
    by_cases c2 : a = b
    · rw [if_pos (h2.mpr c2), if_pos c2]; rfl
    · rw [if_neg (fun h => c2 (h2.mp h)), if_neg c2]; rfl
theorem zL_and1 {a : Int} (h : 0 ≤ a ∧ a < 9223372036854775808) : zL a &&& zL 1 = zL (a % 2) := by
  apply Int64.toBitVec_inj.1
  apply BitVec.eq_of_toNat_eq
  rw [Int64.toBitVec_and, BitVec.toNat_and]
  show (BitVec.ofInt 64 a).toNat &&& (BitVec.ofInt 64 1).toNat = (BitVec.ofInt 64 (a % 2)).toNat
  rw [BitVec.toNat_ofInt, BitVec.toNat_ofInt, BitVec.toNat_ofInt]
  have e1 : ((1 : Int) % ((2 ^ 64 : Nat) : Int)).toNat = 1 := by decide
  rw [e1, Nat.and_one_is_mod]
  omega
theorem zL_shr1 {a : Int} (h : 0 ≤ a ∧ a < 9223372036854775808) : zL a >>> ((zI 1).toInt64 &&& 63) = zL (a / 2) := by
  apply Int64.toInt_inj.1
  rw [Jvm.Kit.i64_shr (zL a) ((zI 1).toInt64 &&& 63) (k := 1) (by decide +kernel), zL_toInt ⟨by omega, h.2⟩, zL_toInt ⟨by omega, by omega⟩]
  rfl
theorem zI_xorge {a b : Int} (ha : -2147483648 ≤ a ∧ a < 2147483648) (hb : 0 < b ∧ b < 2147483648) : (0 ≤ zI a ^^^ zI b) ↔ 0 ≤ a := by
  have h : (zI a ^^^ zI b).toBitVec.msb = ((zI a).toBitVec.msb ^^ (zI b).toBitVec.msb) := by
    rw [Int32.toBitVec_xor, BitVec.msb_xor]
  rw [BitVec.msb_eq_toInt, BitVec.msb_eq_toInt, BitVec.msb_eq_toInt] at h
  have ea : (zI a).toBitVec.toInt = a := zI_toInt ha
  have eb : (zI b).toBitVec.toInt = b := zI_toInt ⟨by omega, hb.2⟩
  rw [ea, eb, decide_eq_false (show ¬ b < 0 by omega), Bool.xor_false] at h
  have h2 := decide_eq_decide.mp h
  rw [Int32.le_iff_toInt_le]
  show (0 : Int) ≤ (zI a ^^^ zI b).toBitVec.toInt ↔ 0 ≤ a
  omega
theorem zz_fmP {v q : Int} (hq : 0 < q) (h : 0 ≤ v.tmod q) : v.tmod q = v % q := by
  have e := Int.tmod_add_tdiv_mul v q
  have h1 : v.tmod q < q := Int.tmod_lt_of_pos v hq
  have e2 : v % q = v.tmod q % q := by
    have e3 : v = v.tmod q + q * v.tdiv q := by rw [Int.mul_comm]; exact e.symm
    rw [e3, Int.add_mul_emod_self_left, ← e3]
  rw [e2, Int.emod_eq_of_lt h h1]
theorem zz_fmN {v q : Int} (hq : 0 < q) (h : ¬ 0 ≤ v.tmod q) : v.tmod q + q = v % q := by
  have e := Int.tmod_add_tdiv_mul v q
  have h1 : - q < v.tmod q := Int.lt_tmod_of_pos v hq
  have e2 : v % q = (v.tmod q + q) % q := by
    have e3 : v = (v.tmod q + q) + q * (v.tdiv q - 1) := by rw [Int.mul_sub, Int.mul_one, Int.mul_comm q]; omega
    rw [e3, Int.add_mul_emod_self_left, ← e3]
  rw [e2, Int.emod_eq_of_lt (by omega) (by omega)]
variable {p : Program} {l : Launch} {e : Env} {R : Room} {s : State} {m : MethodId} {args : Array Value} {below : List Frame} {meth : Method} {c : Code} {H : Heap} {locs : List Loc} {cells slots : Nat} {Q : State → Prop}
variable {cc : ByteArray} {pc : Nat} {ls : Array Slot} {rest : List Value}
theorem zz_ishr (k : Nat) {a kz M : Int} (hexec : p.tables.exec = Jvm.exec) (hb : c.code = cc) (hdg : decode cc pc = .ok (.ishr, 1)) (h : 0 ≤ a ∧ a < 2147483648) (hk : k < 32 ∧ kz = (k : Int) ∧ M = 2 ^ k)
    (kk : W p l e R s m args below meth c H locs cells slots Q (F0 m (pc + 1) ls (.int (zI (a / M)) :: rest))) : W p l e R s m args below meth c H locs cells slots Q (F0 m pc ls (.int (zI kz) :: .int (zI a) :: rest)) := by
  obtain ⟨h1, h2, h3⟩ := hk
  subst h2
  subst h3
  refine lv_ishr hexec hb hdg ?_
  rw [zI_shr a h k h1]
  exact kk
theorem zz_ishl (k : Nat) {a kz M : Int} (hexec : p.tables.exec = Jvm.exec) (hb : c.code = cc) (hdg : decode cc pc = .ok (.ishl, 1)) (h : 0 ≤ a ∧ a * M < 4294967296) (hk : k < 32 ∧ kz = (k : Int) ∧ M = 2 ^ k)
    (kk : W p l e R s m args below meth c H locs cells slots Q (F0 m (pc + 1) ls (.int (zI (a * M)) :: rest))) : W p l e R s m args below meth c H locs cells slots Q (F0 m pc ls (.int (zI kz) :: .int (zI a) :: rest)) := by
  obtain ⟨h1, h2, h3⟩ := hk
  subst h2
  subst h3
  refine lv_ishl hexec hb hdg ?_
  rw [zI_shl a h.1 k h1 h.2]
  exact kk
theorem zz_iand (k : Nat) {a b M : Int} (hexec : p.tables.exec = Jvm.exec) (hb : c.code = cc) (hdg : decode cc pc = .ok (.iand, 1)) (h : 0 ≤ a ∧ a < 2147483648) (hk : (zI b).toBitVec.toNat = 2 ^ k - 1 ∧ M = 2 ^ k)
    (kk : W p l e R s m args below meth c H locs cells slots Q (F0 m (pc + 1) ls (.int (zI (a % M)) :: rest))) : W p l e R s m args below meth c H locs cells slots Q (F0 m pc ls (.int (zI b) :: .int (zI a) :: rest)) := by
  obtain ⟨h1, h2⟩ := hk
  subst h2
  refine lv_iand hexec hb hdg ?_
  rw [zI_and a h (zI b) k h1]
  exact kk
theorem zz_ixorge {a b off : Int} {tgt : Nat} (hexec : p.tables.exec = Jvm.exec) (hb : c.code = cc) (hdg : decode cc pc = .ok (.ixor, 1)) (hdg2 : decode cc (pc + 1) = .ok (.ifCond .ge off, 3)) (ht : ((pc + 1 : Nat) : Int) + off = (tgt : Int)) (ha : -2147483648 ≤ a ∧ a < 2147483648) (hbR : 0 < b ∧ b < 2147483648)
    (kt : 0 ≤ a → W p l e R s m args below meth c H locs cells slots Q (F0 m tgt ls rest)) (kf : ¬ 0 ≤ a → W p l e R s m args below meth c H locs cells slots Q (F0 m (pc + 4) ls rest)) : W p l e R s m args below meth c H locs cells slots Q (F0 m pc ls (.int (zI b) :: .int (zI a) :: rest)) :=
  lv_ixor hexec hb hdg (lv_if_ge hexec hb hdg2 ht (fun q => kt ((zI_xorge ha hbR).mp q)) (fun q => kf (fun z => q ((zI_xorge ha hbR).mpr z))))
theorem zz_i2l {a : Int} (hexec : p.tables.exec = Jvm.exec) (hb : c.code = cc) (hdg : decode cc pc = .ok (.i2l, 1)) (h : -2147483648 ≤ a ∧ a < 2147483648)
    (kk : W p l e R s m args below meth c H locs cells slots Q (F0 m (pc + 1) ls (.long (zL a) :: rest))) : W p l e R s m args below meth c H locs cells slots Q (F0 m pc ls (.int (zI a) :: rest)) :=
  lv_i2l hexec hb hdg (Int32.toInt64_ofInt (by show -2147483648 ≤ a; omega) (by show a ≤ 2147483647; omega)) kk
theorem zz_lneg {a : Int} (hexec : p.tables.exec = Jvm.exec) (hb : c.code = cc) (hdg : decode cc pc = .ok (.lneg, 1))
    (kk : W p l e R s m args below meth c H locs cells slots Q (F0 m (pc + 1) ls (.long (zL (- a)) :: rest))) : W p l e R s m args below meth c H locs cells slots Q (F0 m pc ls (.long (zL a) :: rest)) :=
  lv_lneg hexec hb hdg (by rw [zL_neg]; exact kk)
theorem zz_land1 {a : Int} (hexec : p.tables.exec = Jvm.exec) (hb : c.code = cc) (hdg : decode cc pc = .ok (.land, 1)) (h : 0 ≤ a ∧ a < 9223372036854775808)
    (kk : W p l e R s m args below meth c H locs cells slots Q (F0 m (pc + 1) ls (.long (zL (a % 2)) :: rest))) : W p l e R s m args below meth c H locs cells slots Q (F0 m pc ls (.long (zL 1) :: .long (zL a) :: rest)) :=
  lv_land hexec hb hdg (by rw [zL_and1 h]; exact kk)
theorem zz_lshr1 {a : Int} (hexec : p.tables.exec = Jvm.exec) (hb : c.code = cc) (hdg : decode cc pc = .ok (.lshr, 1)) (h : 0 ≤ a ∧ a < 9223372036854775808)
    (kk : W p l e R s m args below meth c H locs cells slots Q (F0 m (pc + 1) ls (.long (zL (a / 2)) :: rest))) : W p l e R s m args below meth c H locs cells slots Q (F0 m pc ls (.int (zI 1) :: .long (zL a) :: rest)) :=
  lv_lshr hexec hb hdg (zL_shr1 h) kk
theorem zz_lcmp {a b : Int} (hexec : p.tables.exec = Jvm.exec) (hb : c.code = cc) (hdg : decode cc pc = .ok (.lcmp, 1)) (ha : -9223372036854775808 ≤ a ∧ a < 9223372036854775808) (hbR : -9223372036854775808 ≤ b ∧ b < 9223372036854775808)
    (kk : W p l e R s m args below meth c H locs cells slots Q (F0 m (pc + 1) ls (.int (zI (zC a b)) :: rest))) : W p l e R s m args below meth c H locs cells slots Q (F0 m pc ls (.long (zL b) :: .long (zL a) :: rest)) :=
  W.lcmp hexec hb hdg (by rw [zL_cmp ha hbR]; exact kk)
theorem zz_topl {a : Int} (k : ∀ y : Int, y = a → W p l e R s m args below meth c H locs cells slots Q (F0 m pc ls (.long (zL y) :: rest))) : W p l e R s m args below meth c H locs cells slots Q (F0 m pc ls (.long (zL a) :: rest)) := k a rfl
end
