/-! PURE: arithmetic of addresses and entries -/
theorem cmp_eq {x y : Int64} : lg_cmp x y = 0 ↔ x = y := by
  unfold lg_cmp
  by_cases h1 : y < x
  · rw [if_pos h1]
    constructor
    · intro h; exact absurd h (by decide)
    · intro h; rw [h] at h1; exact absurd h1 Int64.lt_irrefl
  · rw [if_neg h1]
    by_cases h2 : x = y
    · simp [h2]
    · constructor
      · intro h; simp [h2] at h
      · intro h; exact absurd h h2
theorem n9 (b : Nat) : nI b * (9 : Int32) = nI (9 * b) := by
  rw [show (9 : Int32) = nI 9 from rfl, pk_mul, Nat.mul_comm]
theorem n9' (b : Nat) : (9 : Int32) * nI b = nI (9 * b) := by
  rw [show (9 : Int32) = nI 9 from rfl, pk_mul]
theorem nAdd (a : Nat) (k : Nat) : nI a + nI k = nI (a + k) := nI_add a k
theorem a1 (a : Nat) : nI a + (1 : Int32) = nI (a + 1) := nI_add a 1
theorem a2 (a : Nat) : nI a + (2 : Int32) = nI (a + 2) := nI_add a 2
theorem a3 (a : Nat) : nI a + (3 : Int32) = nI (a + 3) := nI_add a 3
theorem a4 (a : Nat) : nI a + (4 : Int32) = nI (a + 4) := nI_add a 4
theorem a5 (a : Nat) : nI a + (5 : Int32) = nI (a + 5) := nI_add a 5
theorem inb_n {a n : Nat} (h : a < n) (hn : n < 2 ^ 31) : inb (nI a) n = true := by
  unfold inb
  rw [nI_toInt (by omega)]
  exact decide_eq_true ⟨by omega, by omega⟩
theorem nI_lit0 : (0 : Int32) = nI 0 := rfl
/-- an entry's word -/
def ent (k : Nat) (v : Int32) : Int64 := lN ((k + 1) * 4294967296 + v.toBitVec.toNat)
theorem i64_inj {x y : Int64} (h : x.toBitVec = y.toBitVec) : x = y := Int64.toBitVec_inj.mp h
theorem lN_bv (n : Nat) : (lN n).toBitVec = BitVec.ofNat 64 n := rfl
theorem lN_tn {n : Nat} (h : n < 2 ^ 64) : (lN n).toBitVec.toNat = n := by
  rw [lN_bv, BitVec.toNat_ofNat, Nat.mod_eq_of_lt h]
theorem v_lt (v : Int32) : v.toBitVec.toNat < 4294967296 := v.toBitVec.isLt
theorem ent_lt {k : Nat} {v : Int32} (hk : k < 1000000) : (k + 1) * 4294967296 + v.toBitVec.toNat < 2 ^ 63 := by
  have := v_lt v
  omega
theorem ent_val {k : Nat} (v : Int32) (hk : k < 1000000) : (ent k v).toInt32 = v := by
  unfold ent
  rw [lN_i]
  apply Int32.toBitVec_inj.mp
  apply BitVec.eq_of_toNat_eq
  show (BitVec.ofNat 32 ((k + 1) * 4294967296 + v.toBitVec.toNat)).toNat = v.toBitVec.toNat
  rw [BitVec.toNat_ofNat]
  have := v_lt v
  omega
theorem ent_ne {k : Nat} (v : Int32) (hk : k < 1000000) : ent k v ≠ 0 := by
  intro h
  have h2 : (ent k v).toBitVec.toNat = (0 : Int64).toBitVec.toNat := by rw [h]
  unfold ent at h2
  rw [lN_tn (by have := ent_lt (v := v) hk; omega)] at h2
  have : (0 : Int64).toBitVec.toNat = 0 := rfl
  rw [this] at h2
  omega
theorem lushr32 {n : Nat} (h : n < 2 ^ 64) : zLushr (lN n) (32 : Int32) = lN (n / 4294967296) := by
  apply i64_inj
  apply BitVec.eq_of_toNat_eq
  unfold zLushr
  have h0 : ((32 : Int32).toInt64.toUInt64 &&& Int64.toUInt64 63) = 32 := by decide
  rw [h0]
  show ((lN n).toUInt64 >>> (32 : UInt64)).toBitVec.toNat = _
  rw [UInt64.toBitVec_shiftRight]
  have h1 : ((32 : UInt64).toBitVec % 64).toNat = 32 := by decide
  rw [BitVec.ushiftRight_eq', BitVec.toNat_ushiftRight, h1]
  show (lN n).toBitVec.toNat >>> 32 = _
  rw [lN_tn h, lN_tn (by omega), Nat.shiftRight_eq_div_pow]
theorem key_ent {k : Nat} (v : Int32) (hk : k < 1000000) : (zLushr (ent k v) (32 : Int32)).toInt32 - (1 : Int32) = nI k := by
  have h := ent_lt (v := v) hk
  have hv := v_lt v
  unfold ent
  rw [lushr32 (by omega), show ((k + 1) * 4294967296 + v.toBitVec.toNat) / 4294967296 = k + 1 by omega, lN_i]
  exact nI_pred k
theorem key_zero : (zLushr (0 : Int64) (32 : Int32)).toInt32 - (1 : Int32) = -1 := by decide
theorem vmask (v : Int32) : v.toInt64 &&& (4294967295 : Int64) = lN v.toBitVec.toNat := by
  apply i64_inj
  apply BitVec.eq_of_toNat_eq
  rw [lN_tn (by have := v_lt v; omega)]
  show (v.toInt64.toBitVec &&& (4294967295 : Int64).toBitVec).toNat = _
  rw [BitVec.toNat_and, show (4294967295 : Int64).toBitVec.toNat = 2 ^ 32 - 1 from by decide, Nat.and_two_pow_sub_one_eq_mod]
  have h : (v.toInt64.toInt32).toBitVec.toNat = v.toBitVec.toNat := by rw [Int32.toInt32_toInt64]
  have h2 : (v.toInt64.toInt32).toBitVec = v.toInt64.toBitVec.setWidth 32 := by
    show v.toInt64.toBitVec.signExtend 32 = _
    exact BitVec.signExtend_eq_setWidth_of_le _ (by decide)
  rw [h2, BitVec.toNat_setWidth] at h
  exact h
theorem lshl32 {n : Nat} (h : n < 4294967296) : zLshl (lN n) (32 : Int32) = lN (n * 4294967296) := by
  apply i64_inj
  apply BitVec.eq_of_toNat_eq
  unfold zLshl
  have h0 : ((32 : Int32).toInt64 &&& 63) = 32 := by decide
  rw [h0, Int64.toBitVec_shiftLeft]
  have h1 : (Int64.toBitVec 32).smod 64 = 32#64 := by decide
  rw [h1]
  show ((lN n).toBitVec <<< (32#64).toNat).toNat = _
  rw [BitVec.toNat_shiftLeft, lN_tn (by omega), lN_tn (by omega), show (32#64).toNat = 32 from rfl, Nat.shiftLeft_eq]
  exact Nat.mod_eq_of_lt (by omega)
theorem lor32 {a b : Nat} (ha : a < 2147483648) (hb : b < 4294967296) : lN (a * 4294967296) ||| lN b = lN (a * 4294967296 + b) := by
  apply i64_inj
  apply BitVec.eq_of_toNat_eq
  show ((lN (a * 4294967296)).toBitVec ||| (lN b).toBitVec).toNat = _
  rw [BitVec.toNat_or, lN_tn (by omega), lN_tn (by omega), lN_tn (by omega)]
  have := Nat.shiftLeft_add_eq_or_of_lt (i := 32) (a := a) (b := b) (by omega)
  rw [Nat.shiftLeft_eq] at this
  rw [show (4294967296 : Nat) = 2 ^ 32 from rfl]
  exact this.symm
theorem entC {k : Nat} (v : Int32) (hk : k < 1000000) : (zLshl ((nI k).toInt64 + (1 : Int64)) (32 : Int32)) ||| (v.toInt64 &&& (4294967295 : Int64)) = ent k v := by
  rw [nI_l (by omega), lN_1, lshl32 (by omega), vmask, lor32 (by omega) (v_lt v)]
  rfl
theorem entR {k : Nat} (v : Int32) (hk : k < 1000000) : (((nI k).toInt64 + (1 : Int64)) * (4294967296 : Int64)) + (v.toInt64 &&& (4294967295 : Int64)) = ent k v := by
  rw [nI_l (by omega), lN_1, vmask, show (4294967296 : Int64) = lN 4294967296 from by decide, lN_mul, lN_add]
  rfl
theorem ent_key_inj {k k' : Nat} {v v' : Int32} (hk : k < 1000000) (hk' : k' < 1000000) (h : ent k v = ent k' v') : k = k' ∧ v = v' := by
  have h1 := key_ent v hk
  rw [h, key_ent v' hk'] at h1
  have h2 := ent_val v hk
  rw [h, ent_val v' hk'] at h2
  exact ⟨((nI_eq (by omega) (by omega)).mp h1).symm, h2.symm⟩
