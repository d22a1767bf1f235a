/-! PURE: bitCount -/
def T32 (x : Int32) : Nat := x.toBitVec.toNat
theorem T_lt (x : Int32) : T32 x < 4294967296 := x.toBitVec.isLt
theorem T_and (x y : Int32) : T32 (x &&& y) = T32 x &&& T32 y := by unfold T32; rw [Int32.toBitVec_and, BitVec.toNat_and]
theorem T_add {x y : Int32} (h : T32 x + T32 y < 4294967296) : T32 (x + y) = T32 x + T32 y := by
  unfold T32 at *; rw [Int32.toBitVec_add, BitVec.toNat_add]; exact Nat.mod_eq_of_lt h
theorem T_sub {x y : Int32} (h : T32 y ≤ T32 x) : T32 (x - y) = T32 x - T32 y := by
  unfold T32 at *; rw [Int32.toBitVec_sub, BitVec.toNat_sub]
  have := x.toBitVec.isLt; have := y.toBitVec.isLt; omega
theorem T_ush (x s : Int32) (k : Nat) (hs : ((s.toUInt32 &&& Int32.toUInt32 31).toBitVec % 32).toNat = k) : T32 (zIushr x s) = T32 x / 2 ^ k := pk_ushr x s k hs
theorem T_inj {x y : Int32} (h : T32 x = T32 y) : x = y := Int32.toBitVec_inj.mp (BitVec.eq_of_toNat_eq h)
theorem T_nI {n : Nat} (h : n < 4294967296) : T32 (nI n) = n := pk_tn h
theorem and256 {a b c d : Nat} (hb : b < 256) (hd : d < 256) : (256 * a + b) &&& (256 * c + d) = 256 * (a &&& c) + (b &&& d) := by
  apply Nat.eq_of_testBit_eq
  intro i
  have hbd : b &&& d < 2 ^ 8 := Nat.and_lt_two_pow b (by omega)
  rw [Nat.testBit_and, show (256 : Nat) = 2 ^ 8 from rfl, Nat.testBit_two_pow_mul_add _ (by omega), Nat.testBit_two_pow_mul_add _ (by omega), Nat.testBit_two_pow_mul_add _ hbd]
  by_cases h : i < 8
  · rw [if_pos h, if_pos h, if_pos h, Nat.testBit_and]
  · rw [if_neg h, if_neg h, if_neg h, Nat.testBit_and]
theorem low1 : ∀ (e : Fin 2) (r : Fin 256), (128 * e.val + r.val / 2) &&& 85 = (r.val / 2) &&& 85 := by decide +kernel
theorem low2 : ∀ (e : Fin 4) (r : Fin 256), (64 * e.val + r.val / 4) &&& 51 = (r.val / 4) &&& 51 := by decide +kernel
theorem low3 : ∀ (e : Fin 5) (r : Fin 69), (r.val + r.val / 16 + 16 * e.val) &&& 15 = (r.val + r.val / 16) &&& 15 := by decide +kernel
theorem and_le_l (a b : Nat) : a &&& b ≤ a := Nat.and_le_left
theorem s1 (q r M : Nat) (hr : r < 256) : (256 * q + r) - (((256 * q + r) / 2) &&& (256 * M + 85)) = 256 * (q - ((q / 2) &&& M)) + (r - ((r / 2) &&& 85)) := by
  have e : (256 * q + r) / 2 = 256 * (q / 2) + (128 * (q % 2) + r / 2) := by omega
  rw [e, and256 (by omega) (by omega)]
  have := low1 ⟨q % 2, by omega⟩ ⟨r, hr⟩
  simp only at this
  rw [this]
  have h1 := and_le_l (q / 2) M
  have h2 := and_le_l (r / 2) 85
  omega
theorem s2 (q r M : Nat) (hr : r < 256) : ((256 * q + r) &&& (256 * M + 51)) + (((256 * q + r) / 4) &&& (256 * M + 51)) = 256 * ((q &&& M) + ((q / 4) &&& M)) + ((r &&& 51) + ((r / 4) &&& 51)) := by
  have e : (256 * q + r) / 4 = 256 * (q / 4) + (64 * (q % 4) + r / 4) := by omega
  rw [e, and256 (by omega) (by omega), and256 (by omega) (by omega)]
  have := low2 ⟨q % 4, by omega⟩ ⟨r, hr⟩
  simp only at this
  rw [this]
  omega
theorem s3 (q r M : Nat) (hr : r ≤ 68) (hq : q % 16 ≤ 4) : ((256 * q + r) + (256 * q + r) / 16) &&& (256 * M + 15) = 256 * ((q + q / 16) &&& M) + ((r + r / 16) &&& 15) := by
  have e : (256 * q + r) + (256 * q + r) / 16 = 256 * (q + q / 16) + (r + r / 16 + 16 * (q % 16)) := by omega
  rw [e, and256 (by omega) (by omega)]
  have := low3 ⟨q % 16, by omega⟩ ⟨r, by omega⟩
  simp only at this
  rw [this]
def by1 (r : Nat) : Nat := r - ((r / 2) &&& 85)
def by2 (r : Nat) : Nat := (r &&& 51) + ((r / 4) &&& 51)
def by3 (r : Nat) : Nat := (r + r / 16) &&& 15
def pcb (r : Nat) : Nat := by3 (by2 (by1 r))
theorem by_fin : ∀ r : Fin 256, by1 r.val < 256 ∧ by2 (by1 r.val) ≤ 68 ∧ by2 (by1 r.val) % 16 ≤ 4 ∧ pcb r.val ≤ 8 := by decide +kernel
def cnt (f : Nat → Bool) : Nat → Nat
  | 0 => 0
  | n + 1 => cnt f n + (if f n = true then 1 else 0)
theorem pcb_fin : ∀ r : Fin 256, pcb r.val = cnt (fun i => r.val.testBit i) 8 := by decide +kernel
theorem cnt_congr {f g : Nat → Bool} : ∀ n, (∀ i, i < n → f i = g i) → cnt f n = cnt g n := by
  intro n
  induction n with
  | zero => intro _; rfl
  | succ n ih => intro h; unfold cnt; rw [ih (fun i hi => h i (by omega)), h n (by omega)]
theorem cnt_add (f : Nat → Bool) (m : Nat) : ∀ n, cnt f (m + n) = cnt f m + cnt (fun i => f (m + i)) n := by
  intro n
  induction n with
  | zero => rfl
  | succ n ih => rw [← Nat.add_assoc, cnt, ih, cnt]; omega
theorem cnt_le (f : Nat → Bool) : ∀ n, cnt f n ≤ n := by
  intro n
  induction n with
  | zero => exact Nat.le_refl _
  | succ n ih => unfold cnt; split <;> omega
theorem pop_nat (a0 a1 a2 a3 : Nat) (h0 : a0 < 256) (h1 : a1 < 256) (h2 : a2 < 256) (h3 : a3 < 256) (n t1 t2 t3 t4 t5 : Nat) (hn : n = 256 * (256 * (256 * a3 + a2) + a1) + a0) (e1 : t1 = n - ((n / 2) &&& 1431655765)) (e2 : t2 = (t1 &&& 858993459) + ((t1 / 4) &&& 858993459)) (e3 : t3 = (t2 + t2 / 16) &&& 252645135) (e4 : t4 = t3 + t3 / 256) (e5 : t5 = t4 + t4 / 65536) :
    t5 % 64 = pcb a0 + pcb a1 + pcb a2 + pcb a3 ∧ t1 ≤ n ∧ t2 ≤ 1145324612 ∧ t3 ≤ 252645135 ∧ t4 < 4294967296 ∧ t5 < 4294967296 ∧ (n / 2) &&& 1431655765 ≤ n := by
  have f0 := by_fin ⟨a0, h0⟩
  have f1 := by_fin ⟨a1, h1⟩
  have f2 := by_fin ⟨a2, h2⟩
  have f3 := by_fin ⟨a3, h3⟩
  simp only at f0 f1 f2 f3
  have k1 : t1 = 256 * (256 * (256 * by1 a3 + by1 a2) + by1 a1) + by1 a0 := by
    rw [e1, hn, show (1431655765 : Nat) = 256 * (256 * (256 * 85 + 85) + 85) + 85 from rfl, s1 _ _ _ h0, s1 _ _ _ h1, s1 _ _ _ h2]
    rfl
  have k2 : t2 = 256 * (256 * (256 * by2 (by1 a3) + by2 (by1 a2)) + by2 (by1 a1)) + by2 (by1 a0) := by
    rw [e2, k1, show (858993459 : Nat) = 256 * (256 * (256 * 51 + 51) + 51) + 51 from rfl, s2 _ _ _ f0.1, s2 _ _ _ f1.1, s2 _ _ _ f2.1]
    rfl
  have k3 : t3 = 256 * (256 * (256 * pcb a3 + pcb a2) + pcb a1) + pcb a0 := by
    rw [e3, k2, show (252645135 : Nat) = 256 * (256 * (256 * 15 + 15) + 15) + 15 from rfl, s3 _ _ _ f0.2.1 (by omega), s3 _ _ _ f1.2.1 (by omega), s3 _ _ _ f2.2.1 (by omega)]
    rfl
  have g1 := and_le_l (n / 2) 1431655765
  have p0 := f0.2.2.2
  have p1 := f1.2.2.2
  have p2 := f2.2.2.2
  have p3 := f3.2.2.2
  have q0 := f0.2.1
  have q1 := f1.2.1
  have q2 := f2.2.1
  have q3 := f3.2.1
  have l1 : t1 ≤ n := by rw [e1]; exact Nat.sub_le _ _
  clear f0 f1 f2 f3 e1 e2 e3 k1 hn
  generalize pcb a0 = c0 at *
  generalize pcb a1 = c1 at *
  generalize pcb a2 = c2 at *
  generalize pcb a3 = c3 at *
  generalize by2 (by1 a0) = d0 at *
  generalize by2 (by1 a1) = d1 at *
  generalize by2 (by1 a2) = d2 at *
  generalize by2 (by1 a3) = d3 at *
  have m4 : t3 / 256 = 256 * (256 * c3 + c2) + c1 := by omega
  have k4 : t4 = 65536 * (256 * c3 + (c2 + c3)) + (256 * (c1 + c2) + (c0 + c1)) := by omega
  have m5 : t4 / 65536 = 256 * c3 + (c2 + c3) := by omega
  have k5 : t5 = 64 * (1024 * (256 * c3 + (c2 + c3)) + 4 * (c1 + c2) + 4 * c3) + (c0 + c1 + c2 + c3) := by omega
  refine ⟨?_, l1, ?_, ?_, ?_, ?_, ?_⟩
  · rw [k5]; omega
  · omega
  · omega
  · omega
  · omega
  · omega
theorem T_55 : T32 (1431655765 : Int32) = 1431655765 := by decide
theorem T_33 : T32 (858993459 : Int32) = 858993459 := by decide
theorem T_0f : T32 (252645135 : Int32) = 252645135 := by decide
theorem T_63 : T32 (63 : Int32) = 63 := by decide
theorem pop_ok (u : SM) (x : Int32) : m_Int_bitCount u x = some (nI (cnt (bt x) 32), u) := by
  have hx := T_lt x
  obtain ⟨a0, ha0⟩ : ∃ a, a = T32 x % 256 := ⟨_, rfl⟩
  obtain ⟨a1, ha1⟩ : ∃ a, a = T32 x / 256 % 256 := ⟨_, rfl⟩
  obtain ⟨a2, ha2⟩ : ∃ a, a = T32 x / 65536 % 256 := ⟨_, rfl⟩
  obtain ⟨a3, ha3⟩ : ∃ a, a = T32 x / 16777216 := ⟨_, rfl⟩
  have P := pop_nat a0 a1 a2 a3 (by omega) (by omega) (by omega) (by omega) (T32 x) _ _ _ _ _ (by omega) rfl rfl rfl rfl rfl
  obtain ⟨p1, p2, p3, p4, p5, p6, p7⟩ := P
  unfold m_Int_bitCount
  obtain ⟨y1, hy1⟩ : ∃ y, y = x - ((zIushr x (1 : Int32)) &&& (1431655765 : Int32)) := ⟨_, rfl⟩
  have T1 : T32 y1 = T32 x - ((T32 x / 2) &&& 1431655765) := by
    have e : T32 ((zIushr x (1 : Int32)) &&& (1431655765 : Int32)) = (T32 x / 2) &&& 1431655765 := by rw [T_and, T_ush x 1 1 (by decide), T_55]
    rw [hy1, T_sub (by rw [e]; exact p7), e]
  rw [← hy1]
  obtain ⟨y2, hy2⟩ : ∃ y, y = (y1 &&& (858993459 : Int32)) + ((zIushr y1 (2 : Int32)) &&& (858993459 : Int32)) := ⟨_, rfl⟩
  have T2 : T32 y2 = (T32 y1 &&& 858993459) + ((T32 y1 / 4) &&& 858993459) := by
    have e : T32 (y1 &&& (858993459 : Int32)) = T32 y1 &&& 858993459 := by rw [T_and, T_33]
    have e' : T32 ((zIushr y1 (2 : Int32)) &&& (858993459 : Int32)) = (T32 y1 / 4) &&& 858993459 := by rw [T_and, T_ush y1 2 2 (by decide), T_33]
    rw [hy2, T_add (by rw [e, e', T1]; omega), e, e']
  rw [← hy2]
  rw [← T1] at p3 p4 p5 p6 p1
  rw [← T2] at p3 p4 p5 p6 p1
  obtain ⟨y3, hy3⟩ : ∃ y, y = (y2 + (zIushr y2 (4 : Int32))) &&& (252645135 : Int32) := ⟨_, rfl⟩
  have T3 : T32 y3 = (T32 y2 + T32 y2 / 16) &&& 252645135 := by
    have e : T32 (zIushr y2 (4 : Int32)) = T32 y2 / 16 := T_ush y2 4 4 (by decide)
    rw [hy3, T_and, T_0f, T_add (by rw [e]; omega), e]
  rw [← hy3]
  rw [← T3] at p4 p5 p6 p1
  obtain ⟨y4, hy4⟩ : ∃ y, y = y3 + (zIushr y3 (8 : Int32)) := ⟨_, rfl⟩
  have T4 : T32 y4 = T32 y3 + T32 y3 / 256 := by
    have e : T32 (zIushr y3 (8 : Int32)) = T32 y3 / 256 := T_ush y3 8 8 (by decide)
    rw [hy4, T_add (by rw [e]; omega), e]
  rw [← hy4]
  rw [← T4] at p5 p6 p1
  obtain ⟨y5, hy5⟩ : ∃ y, y = y4 + (zIushr y4 (16 : Int32)) := ⟨_, rfl⟩
  have T5 : T32 y5 = T32 y4 + T32 y4 / 65536 := by
    have e : T32 (zIushr y4 (16 : Int32)) = T32 y4 / 65536 := T_ush y4 16 16 (by decide)
    rw [hy5, T_add (by rw [e]; omega), e]
  rw [← hy5]
  rw [← T5] at p1
  have fin : y5 &&& (63 : Int32) = nI (cnt (bt x) 32) := by
    apply T_inj
    rw [T_and, T_63, T_nI (by have := cnt_le (bt x) 32; omega), show (63 : Nat) = 2 ^ 6 - 1 from rfl, Nat.and_two_pow_sub_one_eq_mod, show 2 ^ 6 = 64 from rfl, p1]
    have b : ∀ i, bt x i = (T32 x).testBit i := fun i => rfl
    rw [show 32 = 8 + (8 + (8 + 8)) from rfl, cnt_add, cnt_add, cnt_add]
    have q0 := pcb_fin ⟨a0, by omega⟩
    have q1 := pcb_fin ⟨a1, by omega⟩
    have q2 := pcb_fin ⟨a2, by omega⟩
    have q3 := pcb_fin ⟨a3, by omega⟩
    simp only at q0 q1 q2 q3
    have c0 : cnt (bt x) 8 = cnt (fun i => a0.testBit i) 8 := cnt_congr 8 (fun i hi => by
      rw [b, ha0, show (256 : Nat) = 2 ^ 8 from rfl, Nat.testBit_mod_two_pow]; simp [hi])
    have c1 : cnt (fun i => bt x (8 + i)) 8 = cnt (fun i => a1.testBit i) 8 := cnt_congr 8 (fun i hi => by
      rw [b, ha1, show (256 : Nat) = 2 ^ 8 from rfl, Nat.testBit_mod_two_pow, Nat.testBit_div_two_pow]; simp [hi, Nat.add_comm])
    have c2 : cnt (fun i => bt x (8 + (8 + i))) 8 = cnt (fun i => a2.testBit i) 8 := cnt_congr 8 (fun i hi => by
      rw [b, ha2, show (65536 : Nat) = 2 ^ 16 from rfl, show (256 : Nat) = 2 ^ 8 from rfl, Nat.testBit_mod_two_pow, Nat.testBit_div_two_pow]; simp only [hi, decide_true, Bool.true_and]; congr 1; omega)
    have c3 : cnt (fun i => bt x (8 + (8 + (8 + i)))) 8 = cnt (fun i => a3.testBit i) 8 := cnt_congr 8 (fun i hi => by
      rw [b, ha3, show (16777216 : Nat) = 2 ^ 24 from rfl, Nat.testBit_div_two_pow]; congr 1; omega)
    rw [c0, c1, c2, c3]
    omega
  rw [fin]
