/-! PURE: numberOfTrailingZeros of a set of blocks -/
def n62 (x0 x1 : Int32) : Int32 := if x0 ≤ (4 : Int32) then (x1 + (zIushr x0 (1 : Int32))) else ((x1 + (2 : Int32)) + (zIushr (zIushr x0 (2 : Int32)) (1 : Int32)))
def n49 (x0 x1 : Int32) : Int32 := if x0 ≤ (16 : Int32) then n62 x0 x1 else n62 (zIushr x0 (4 : Int32)) (x1 + (4 : Int32))
def n34 (x0 x1 : Int32) : Int32 := if x0 ≤ (256 : Int32) then n49 x0 x1 else n49 (zIushr x0 (8 : Int32)) (x1 + (8 : Int32))
def ntzF (i : Int32) : Int32 := if 0 < i then (if i ≤ (65536 : Int32) then n34 i (1 : Int32) else n34 (zIushr i (16 : Int32)) ((1 : Int32) + (16 : Int32))) else (i &&& (32 : Int32))
theorem e62 (u : SM) (x0 x1 : Int32) : m_Int_numberOfTrailingZeros_J62 u x0 x1 = some (n62 x0 x1, u) := by
  unfold m_Int_numberOfTrailingZeros_J62 n62; split <;> rfl
theorem e49 (u : SM) (x0 x1 : Int32) : m_Int_numberOfTrailingZeros_J49 u x0 x1 = some (n49 x0 x1, u) := by
  unfold m_Int_numberOfTrailingZeros_J49 n49; split <;> exact e62 _ _ _
theorem e34 (u : SM) (x0 x1 : Int32) : m_Int_numberOfTrailingZeros_J34 u x0 x1 = some (n34 x0 x1, u) := by
  unfold m_Int_numberOfTrailingZeros_J34 n34; split <;> exact e49 _ _ _
theorem entz (u : SM) (a : Int32) : m_Int_numberOfTrailingZeros u a = some (ntzF ((a ^^^ (-1 : Int32)) &&& (a - (1 : Int32))), u) := by
  unfold m_Int_numberOfTrailingZeros ntzF
  split
  · split <;> exact e34 _ _ _
  · rfl
theorem ntz_fin : ∀ k : Fin 31, ntzF (nI (2 ^ k.val - 1)) = nI k.val := by decide +kernel
/-- the lowest bit that is set -/
theorem low_mask {a : Int32} {k : Nat} (hk : k < 32) (h1 : bt a k = true) (h2 : ∀ i, i < k → bt a i = false) : (a ^^^ (-1 : Int32)) &&& (a - (1 : Int32)) = nI (2 ^ k - 1) := by
  have hn : a.toBitVec.toNat < 2 ^ 32 := a.toBitVec.isLt
  have tb : ∀ i, bt a i = a.toBitVec.toNat.testBit i := fun i => rfl
  have hdiv : a.toBitVec.toNat % 2 ^ (k + 1) = 2 ^ k := by
    apply Nat.eq_of_testBit_eq
    intro i
    rw [Nat.testBit_mod_two_pow, Nat.testBit_two_pow]
    rcases Nat.lt_trichotomy i k with h | h | h
    · rw [← tb, h2 i h]; simp; omega
    · subst h; rw [← tb, h1]; simp
    · have : ¬ i < k + 1 := by omega
      simp [this]; omega
  have hpos : 0 < 2 ^ k := Nat.two_pow_pos k
  have hle : 2 ^ k ≤ a.toBitVec.toNat := by
    have := Nat.mod_le a.toBitVec.toNat (2 ^ (k + 1)); omega
  have hsub : (a - 1).toBitVec.toNat = a.toBitVec.toNat - 1 := by
    rw [Int32.toBitVec_sub, BitVec.toNat_sub, show (1 : Int32).toBitVec.toNat = 1 from rfl]
    omega
  have e1 : a.toBitVec.toNat = 2 ^ (k + 1) * (a.toBitVec.toNat / 2 ^ (k + 1)) + 2 ^ k := by
    have := Nat.div_add_mod a.toBitVec.toNat (2 ^ (k + 1)); omega
  have e2 : a.toBitVec.toNat - 1 = 2 ^ (k + 1) * (a.toBitVec.toNat / 2 ^ (k + 1)) + (2 ^ k - 1) := by omega
  have hp2 : 2 ^ k < 2 ^ (k + 1) := Nat.pow_lt_pow_right (by omega) (by omega)
  apply b_ext
  intro i hi
  rw [b_and, b_xor, b_m1 i hi]
  have c1 : bt (a - 1) i = (2 ^ (k + 1) * (a.toBitVec.toNat / 2 ^ (k + 1)) + (2 ^ k - 1)).testBit i := by
    show (a - 1).toBitVec.toNat.testBit i = _
    rw [hsub, ← e2]
  have c2 : bt (nI (2 ^ k - 1)) i = decide (i < k) := by
    show (nI (2 ^ k - 1)).toBitVec.toNat.testBit i = _
    have : 2 ^ k ≤ 2 ^ 32 := Nat.pow_le_pow_right (by omega) (by omega)
    rw [pk_tn (by omega), Nat.testBit_two_pow_sub_one]
  rw [c1, c2, Nat.testBit_two_pow_mul_add _ (by omega)]
  rcases Nat.lt_trichotomy i k with h | h | h
  · rw [h2 i h, if_pos (by omega), Nat.testBit_two_pow_sub_one]; simp [h]
  · subst h; rw [h1]; simp
  · rw [if_neg (by omega)]
    have : bt a i = (a.toBitVec.toNat / 2 ^ (k + 1)).testBit (i - (k + 1)) := by
      rw [tb, Nat.testBit_div_two_pow]
      congr 1; omega
    rw [this]
    have hx : ¬ i < k := by omega
    simp [hx]
theorem ntz_ok (u : SM) {a : Int32} {k : Nat} (hk : k ≤ 30) (h1 : bt a k = true) (h2 : ∀ i, i < k → bt a i = false) : m_Int_numberOfTrailingZeros u a = some (nI k, u) := by
  rw [entz, low_mask (by omega) h1 h2]
  exact congrArg (fun z => some (z, u)) (ntz_fin ⟨k, by omega⟩)
theorem bt_ne {a : Int32} (h : ¬ a = 0) : ∃ k, k < 32 ∧ bt a k = true ∧ ∀ i, i < k → bt a i = false := by
  have : ∃ k, k < 32 ∧ bt a k = true := by
    rcases Classical.em (∃ k, k < 32 ∧ bt a k = true) with q | q
    · exact q
    · exfalso
      apply h
      apply b_ext
      intro i hi
      rw [b_0]
      cases e : bt a i with
      | false => rfl
      | true => exact absurd ⟨i, hi, e⟩ q
  obtain ⟨k, ⟨h1, h2⟩, h3⟩ := pk_least (fun k => k < 32 ∧ bt a k = true) this
  refine ⟨k, h1, h2, fun i hi => ?_⟩
  cases e : bt a i with
  | false => rfl
  | true => exact absurd ⟨by omega, e⟩ (h3 i hi)
