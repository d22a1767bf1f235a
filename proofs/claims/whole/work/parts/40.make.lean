/-! PURE: counting free blocks; making a block -/
def frN (B : List Nat) : Nat := cnt (fun i => decide (i + 1 ∉ B)) 30
theorem inR.rea {v : SR} {M : MM} {br : Int32} (h : inR v M br) (f : Nat → Int32) : inR (rs_rea v f) M br := h
section Cf
variable {u : SM} {v : SR} {w : Mem} {B : List Nat}
theorem c_countFree (hG : GB w B) (h : CW u w) : m_Blocks_countFree u = some (nI (frN B), u) := by
  obtain ⟨x, h1, h2⟩ := c_freeSet hG h
  unfold m_Blocks_countFree
  rw [h1, obS, pop_ok, obS]
  have : cnt (bt x) 32 = frN B := by
    rw [show 32 = 1 + 30 + 1 from rfl, cnt, cnt_add]
    have e0 : cnt (bt x) 1 = 0 := by
      unfold cnt cnt
      rw [if_neg (by rw [h2 0 (by omega)]; omega)]
    have e31 : ¬ bt x (1 + 30) = true := by rw [h2 (1 + 30) (by omega)]; omega
    rw [e0, if_neg e31]
    have : cnt (fun i => bt x (1 + i)) 30 = frN B := cnt_congr 30 (fun i hi => by
      cases e : bt x (1 + i) with
      | true =>
        have := (h2 (1 + i) (by omega)).mp e
        rw [Nat.add_comm] at this
        exact (decide_eq_true this.2).symm
      | false =>
        have q : ¬ (i + 1 ∉ B) := fun z => by
          have := (h2 (1 + i) (by omega)).mpr ⟨by omega, by rw [Nat.add_comm]; exact z⟩
          rw [e] at this; cases this
        exact (decide_eq_false q).symm)
    omega
  rw [this]
theorem r_cf_L (f : Nat → Int32) (hf : ∀ b, 1 ≤ b → b ≤ 30 → (f b ≠ 0 ↔ b ∈ B)) : ∀ (d i n : Nat), i + d = 30 → d < n → m_Ref_countFree_L8 n (rs_rea v f) (nI (cnt (fun i => decide (i + 1 ∉ B)) i)) (nI (i + 1)) = some (.inr (nI (frN B), rs_rea v f)) := by
  intro d
  induction d with
  | zero =>
    intro i n hi hn
    obtain ⟨n, rfl⟩ : ∃ m, n = m + 1 := ⟨n - 1, by omega⟩
    rw [m_Ref_countFree_L8, if_pos (by rw [show (30 : Int32) = nI 30 from rfl]; exact nI_lt (by omega) (by omega)), show i = 30 by omega]
    rfl
  | succ d ih =>
    intro i n hi hn
    obtain ⟨n, rfl⟩ : ∃ m, n = m + 1 := ⟨n - 1, by omega⟩
    rw [m_Ref_countFree_L8, if_neg (by rw [show (30 : Int32) = nI 30 from rfl]; exact nI_nlt (by omega) (by omega)), if_pos (inb_n (by omega) (by omega)), nI_clamp (by omega)]
    have ih' := ih (i + 1) n (by omega) (by omega)
    unfold cnt at ih'
    by_cases e : f (i + 1) = 0
    · have : i + 1 ∉ B := fun z => ((hf (i + 1) (by omega) (by omega)).mpr z) e
      rw [if_pos (decide_eq_true this)] at ih'
      rw [if_pos (show rg_rea (rs_rea v f) (i + 1) = 0 from e), a1, a1]
      exact ih'
    · have : ¬ (i + 1 ∉ B) := fun z => z ((hf (i + 1) (by omega) (by omega)).mp e)
      rw [if_neg (by simpa using this), Nat.add_zero] at ih'
      rw [if_neg (show ¬ rg_rea (rs_rea v f) (i + 1) = 0 from e), a1]
      exact ih'
theorem r_countFree (hG : GB w B) (h : RW v w) : ∃ f, m_Ref_countFree v = some (nI (frN B), rs_rea v f) := by
  obtain ⟨f, h1, h2⟩ := r_mark hG h
  refine ⟨f, ?_⟩
  unfold m_Ref_countFree
  have := r_cf_L (v := v) f h2 30 0 fz (by omega) (by unfold fz; omega)
  have this' : m_Ref_countFree_L8 fz (rs_rea v f) (0 : Int32) (1 : Int32) = some (.inr (nI (frN B), rs_rea v f)) := this
  rw [h1, obS, this', ol1R]
/-- the least free block -/
def fst (B : List Nat) (k : Nat) : Prop := 1 ≤ k ∧ k ≤ 30 ∧ k ∉ B ∧ ∀ j, 1 ≤ j → j < k → j ∈ B
theorem cnt_pos {f : Nat → Bool} : ∀ n, 0 < cnt f n → ∃ i, i < n ∧ f i = true := by
  intro n
  induction n with
  | zero => intro h; unfold cnt at h; omega
  | succ n ih =>
    intro h
    unfold cnt at h
    by_cases e : f n = true
    · exact ⟨n, by omega, e⟩
    · rw [if_neg e] at h
      obtain ⟨i, h1, h2⟩ := ih (by omega)
      exact ⟨i, by omega, h2⟩
theorem fst_ex (h : 0 < frN B) : ∃ k, fst B k := by
  obtain ⟨i, hi, h1⟩ := cnt_pos 30 h
  have h2 : i + 1 ∉ B := by simpa using h1
  obtain ⟨k, ⟨k1, k2, k3⟩, hl⟩ := pk_least (fun k => 1 ≤ k ∧ k ≤ 30 ∧ k ∉ B) ⟨i + 1, by omega, by omega, h2⟩
  refine ⟨k, k1, k2, k3, fun j hj1 hj2 => ?_⟩
  rcases Classical.em (j ∈ B) with q | q
  · exact q
  · exact absurd ⟨hj1, by omega, q⟩ (hl j hj2)
theorem c_first (hG : GB w B) (h : CW u w) {k : Nat} (hk : fst B k) : ∃ x, m_Blocks_freeSet u = some (x, u) ∧ x ≠ 0 ∧ m_Int_numberOfTrailingZeros u x = some (nI k, u) := by
  obtain ⟨x, h1, h2⟩ := c_freeSet hG h
  obtain ⟨k1, k2, k3, k4⟩ := hk
  have b1 : bt x k = true := (h2 k (by omega)).mpr ⟨⟨k1, k2⟩, k3⟩
  refine ⟨x, h1, (fun e => by rw [e, b_0] at b1; cases b1), ntz_ok u k2 b1 (fun i hi => ?_)⟩
  rw [bF, h2 i (by omega)]
  rintro ⟨⟨q1, -⟩, q2⟩
  exact q2 (k4 i q1 hi)
theorem r_first (f : Nat → Int32) (hf : ∀ b, 1 ≤ b → b ≤ 30 → (f b ≠ 0 ↔ b ∈ B)) {k : Nat} (hk : fst B k) (x1 x2 x3 : Int32) (x4 x5 x6 : Int64) : ∀ (d i n : Nat), i + d = k → 1 ≤ i → d < n → m_Ref_make_L7 n (rs_rea v f) (nI i) x1 x2 x3 x4 x5 x6 = some (.inr (nI k, rs_rea v f)) := by
  intro d
  obtain ⟨k1, k2, k3, k4⟩ := hk
  induction d with
  | zero =>
    intro i n hi h1 hn
    obtain ⟨n, rfl⟩ : ∃ m, n = m + 1 := ⟨n - 1, by omega⟩
    have ei : i = k := by omega
    subst ei
    rw [m_Ref_make_L7]
    by_cases e : i = 30
    · rw [if_pos (by rw [show (30 : Int32) = nI 30 from rfl]; exact nI_le (by omega) (by omega))]
    · rw [if_neg (by rw [show (30 : Int32) = nI 30 from rfl]; exact nI_ge (by omega) (by omega)), if_pos (inb_n (by omega) (by omega)), nI_clamp (by omega)]
      have : f i = 0 := by
        rcases Classical.em (f i = 0) with q | q
        · exact q
        · exact absurd ((hf i h1 k2).mp q) k3
      rw [if_pos (show rg_rea (rs_rea v f) i = 0 from this)]
  | succ d ih =>
    intro i n hi h1 hn
    obtain ⟨n, rfl⟩ : ∃ m, n = m + 1 := ⟨n - 1, by omega⟩
    rw [m_Ref_make_L7, if_neg (by rw [show (30 : Int32) = nI 30 from rfl]; exact nI_ge (by omega) (by omega)), if_pos (inb_n (by omega) (by omega)), nI_clamp (by omega)]
    have : f i ≠ 0 := (hf i h1 (by omega)).mpr (k4 i h1 (by omega))
    rw [if_neg (show ¬ rg_rea (rs_rea v f) i = 0 from this), a1]
    exact ih (i + 1) n (by omega) (by omega) (by omega)
end Cf
/-! loose stores -/
def lsM : List (Nat × Int64) → MM → MM ⊕ MM
  | [], M => .inr M
  | q :: r, M => if M.2.2.1 = 0 then .inl (ctM M) else lsM r (stM M q.1 q.2)
def looseM (l : List (Nat × Int64)) (M : MM) : MM ⊕ MM := match lsM l M with
  | .inl M' => .inl M'
  | .inr M' => .inr (feM M')
theorem lsM_cut {M : MM} {q : Nat × Int64} {r : List (Nat × Int64)} (h : M.2.2.1 = 0) : lsM (q :: r) M = .inl (ctM M) := by rw [lsM, if_pos h]
theorem lsM_ok {M : MM} {q : Nat × Int64} {r : List (Nat × Int64)} (h : M.2.2.1 ≠ 0) : lsM (q :: r) M = lsM r (stM M q.1 q.2) := by rw [lsM, if_neg h]
theorem stM_len (M : MM) (a : Nat) (x : Int64) : (stM M a x).2.1.length = M.2.1.length + 1 := by unfold stM; simp
/-- made words of a block -/
def mkl (k : Nat) (w0 w1 w2 w3 w4 w5 : Int64) : List (Nat × Int64) := [(9 * k, w0), (9 * k + 1, w1), (9 * k + 2, w2), (9 * k + 3, w3), (9 * k + 4, w4), (9 * k + 5, w5), (9 * k + 6, 0), (9 * k + 7, 0), (9 * k + 8, 0)]
def okV (res : Option (Int32 × SM)) (o : MM ⊕ MM) (r : Int32) : Prop := ∃ u1, match o with
  | .inl M => res = some (0, u1) ∧ inC u1 M
  | .inr M => res = some (r, u1) ∧ inC u1 M
def okW (res : Option (Int32 × SR)) (o : MM ⊕ MM) (r : Int32) : Prop := ∃ u1, res = some (r, u1) ∧ match o with
  | .inl M => inR u1 M 1
  | .inr M => inR u1 M 0
theorem za1 (a : Nat) : nI a + (1 : Int32) = nI (a + 1) := a1 a
theorem bdn (k i : Nat) : (9 : Int32) * nI k + nI i = nI (9 * k + i) := by rw [n9', nAdd]
theorem ad9_0 (k : Nat) : nI k * (9 : Int32) = nI (9 * k) := by rw [n9]
theorem ad9_1 (k : Nat) : nI k * (9 : Int32) + (1 : Int32) = nI (9 * k + 1) := by rw [n9, a1]
theorem ad9_2 (k : Nat) : nI k * (9 : Int32) + (2 : Int32) = nI (9 * k + 2) := by rw [n9, a2]
theorem ad9_3 (k : Nat) : nI k * (9 : Int32) + (3 : Int32) = nI (9 * k + 3) := by rw [n9, a3]
theorem ad9_4 (k : Nat) : nI k * (9 : Int32) + (3 : Int32) + (1 : Int32) = nI (9 * k + 4) := by rw [n9, a3, a1]
theorem ad9_5 (k : Nat) : nI k * (9 : Int32) + (3 : Int32) + (2 : Int32) = nI (9 * k + 5) := by rw [n9, a3, a2]
theorem ad9_6 (k : Nat) : nI k * (9 : Int32) + (3 : Int32) + (3 : Int32) = nI (9 * k + 6) := by rw [n9, a3, a3]
theorem ad9_7 (k : Nat) : nI k * (9 : Int32) + (3 : Int32) + (4 : Int32) = nI (9 * k + 7) := by rw [n9, a3, a4]
theorem ad9_8 (k : Nat) : nI k * (9 : Int32) + (3 : Int32) + (5 : Int32) = nI (9 * k + 8) := by rw [n9, a3, a5]
theorem bd9_0 (k : Nat) : (9 : Int32) * nI k = nI (9 * k) := by rw [n9']
theorem bd9_1 (k : Nat) : (9 : Int32) * nI k + (1 : Int32) = nI (9 * k + 1) := by rw [n9', a1]
theorem bd9_2 (k : Nat) : (9 : Int32) * nI k + (2 : Int32) = nI (9 * k + 2) := by rw [n9', a2]
theorem bd9_3 (k : Nat) : (9 : Int32) * nI k + (3 : Int32) = nI (9 * k + 3) := by rw [n9', a3]
theorem bd9_4 (k : Nat) : (9 : Int32) * nI k + (4 : Int32) = nI (9 * k + 4) := by rw [n9', a4]
theorem bd9_5 (k : Nat) : (9 : Int32) * nI k + (5 : Int32) = nI (9 * k + 5) := by rw [n9', a5]
section Make
variable {u : SM} {v : SR} {M : MM} {B : List Nat}
theorem c_make (h : inC u M) (h0 : M.2.1 = []) (hG : GB M.1 B) {k : Nat} (hk : fst B k) (a1 a2 a3 : Int32) (a4 a5 a6 : Int64) : okV (m_Blocks_make u a1 a2 a3 a4 a5 a6) (looseM (mkl k a1.toInt64 a2.toInt64 a3.toInt64 a4 a5 a6) M) (nI k) := by
  obtain ⟨x, hx1, hx2, hx3⟩ := c_first hG h.1 hk
  have hk30 : k ≤ 30 := hk.2.1
  have J : ∀ (u1 : SM), m_Blocks_make_J178 u1 (nI k) = some (0, u1) := fun u1 => by
    unfold m_Blocks_make_J178 m_Blocks_make_J179; rw [if_pos rfl]
  unfold m_Blocks_make looseM mkl
  rw [hx1, obS, hx3, obS, if_neg hx2, ad9_8 k, ad9_7 k, ad9_6 k, ad9_5 k, ad9_4 k, ad9_3 k, ad9_2 k, ad9_1 k, ad9_0 k]
  have l0 : M.2.1.length = 0 := by rw [h0]; rfl
  by_cases e0 : (M).2.2.1 = 0
  · rw [lsM_cut e0]
    obtain ⟨u1, q1, q2⟩ := c_store_cut h e0 (nI (9 * k)) a1.toInt64
    exact ⟨u1, by rw [q1, obS, if_pos rfl, J], q2⟩
  rw [lsM_ok e0]
  obtain ⟨u1, s1, g1⟩ := c_store_ok h e0 (a := 9 * k) (by omega) (by omega) a1.toInt64
  rw [s1, obS, if_neg (by decide)]
  have l1 := stM_len (M) (9 * k) a1.toInt64
  by_cases e1 : (stM (M) (9 * k) a1.toInt64).2.2.1 = 0
  · rw [lsM_cut e1]
    obtain ⟨u1, q1, q2⟩ := c_store_cut g1 e1 (nI (9 * k + 1)) a2.toInt64
    exact ⟨u1, by rw [q1, obS, if_pos rfl, J], q2⟩
  rw [lsM_ok e1]
  obtain ⟨u2, s2, g2⟩ := c_store_ok g1 e1 (a := 9 * k + 1) (by omega) (by omega) a2.toInt64
  rw [s2, obS, if_neg (by decide)]
  have l2 := stM_len (stM (M) (9 * k) a1.toInt64) (9 * k + 1) a2.toInt64
  by_cases e2 : (stM (stM (M) (9 * k) a1.toInt64) (9 * k + 1) a2.toInt64).2.2.1 = 0
  · rw [lsM_cut e2]
    obtain ⟨u1, q1, q2⟩ := c_store_cut g2 e2 (nI (9 * k + 2)) a3.toInt64
    exact ⟨u1, by rw [q1, obS, if_pos rfl, J], q2⟩
  rw [lsM_ok e2]
  obtain ⟨u3, s3, g3⟩ := c_store_ok g2 e2 (a := 9 * k + 2) (by omega) (by omega) a3.toInt64
  rw [s3, obS, if_neg (by decide)]
  have l3 := stM_len (stM (stM (M) (9 * k) a1.toInt64) (9 * k + 1) a2.toInt64) (9 * k + 2) a3.toInt64
  by_cases e3 : (stM (stM (stM (M) (9 * k) a1.toInt64) (9 * k + 1) a2.toInt64) (9 * k + 2) a3.toInt64).2.2.1 = 0
  · rw [lsM_cut e3]
    obtain ⟨u1, q1, q2⟩ := c_store_cut g3 e3 (nI (9 * k + 3)) a4
    exact ⟨u1, by rw [q1, obS, if_pos rfl, J], q2⟩
  rw [lsM_ok e3]
  obtain ⟨u4, s4, g4⟩ := c_store_ok g3 e3 (a := 9 * k + 3) (by omega) (by omega) a4
  rw [s4, obS, if_neg (by decide)]
  have l4 := stM_len (stM (stM (stM (M) (9 * k) a1.toInt64) (9 * k + 1) a2.toInt64) (9 * k + 2) a3.toInt64) (9 * k + 3) a4
  by_cases e4 : (stM (stM (stM (stM (M) (9 * k) a1.toInt64) (9 * k + 1) a2.toInt64) (9 * k + 2) a3.toInt64) (9 * k + 3) a4).2.2.1 = 0
  · rw [lsM_cut e4]
    obtain ⟨u1, q1, q2⟩ := c_store_cut g4 e4 (nI (9 * k + 4)) a5
    exact ⟨u1, by rw [q1, obS, if_pos rfl, J], q2⟩
  rw [lsM_ok e4]
  obtain ⟨u5, s5, g5⟩ := c_store_ok g4 e4 (a := 9 * k + 4) (by omega) (by omega) a5
  rw [s5, obS, if_neg (by decide)]
  have l5 := stM_len (stM (stM (stM (stM (M) (9 * k) a1.toInt64) (9 * k + 1) a2.toInt64) (9 * k + 2) a3.toInt64) (9 * k + 3) a4) (9 * k + 4) a5
  by_cases e5 : (stM (stM (stM (stM (stM (M) (9 * k) a1.toInt64) (9 * k + 1) a2.toInt64) (9 * k + 2) a3.toInt64) (9 * k + 3) a4) (9 * k + 4) a5).2.2.1 = 0
  · rw [lsM_cut e5]
    obtain ⟨u1, q1, q2⟩ := c_store_cut g5 e5 (nI (9 * k + 5)) a6
    exact ⟨u1, by rw [q1, obS, if_pos rfl, J], q2⟩
  rw [lsM_ok e5]
  obtain ⟨u6, s6, g6⟩ := c_store_ok g5 e5 (a := 9 * k + 5) (by omega) (by omega) a6
  rw [s6, obS, if_neg (by decide)]
  have l6 := stM_len (stM (stM (stM (stM (stM (M) (9 * k) a1.toInt64) (9 * k + 1) a2.toInt64) (9 * k + 2) a3.toInt64) (9 * k + 3) a4) (9 * k + 4) a5) (9 * k + 5) a6
  by_cases e6 : (stM (stM (stM (stM (stM (stM (M) (9 * k) a1.toInt64) (9 * k + 1) a2.toInt64) (9 * k + 2) a3.toInt64) (9 * k + 3) a4) (9 * k + 4) a5) (9 * k + 5) a6).2.2.1 = 0
  · rw [lsM_cut e6]
    obtain ⟨u1, q1, q2⟩ := c_store_cut g6 e6 (nI (9 * k + 6)) (0 : Int64)
    exact ⟨u1, by rw [q1, obS, if_pos rfl, J], q2⟩
  rw [lsM_ok e6]
  obtain ⟨u7, s7, g7⟩ := c_store_ok g6 e6 (a := 9 * k + 6) (by omega) (by omega) (0 : Int64)
  rw [s7, obS, if_neg (by decide)]
  have l7 := stM_len (stM (stM (stM (stM (stM (stM (M) (9 * k) a1.toInt64) (9 * k + 1) a2.toInt64) (9 * k + 2) a3.toInt64) (9 * k + 3) a4) (9 * k + 4) a5) (9 * k + 5) a6) (9 * k + 6) (0 : Int64)
  by_cases e7 : (stM (stM (stM (stM (stM (stM (stM (M) (9 * k) a1.toInt64) (9 * k + 1) a2.toInt64) (9 * k + 2) a3.toInt64) (9 * k + 3) a4) (9 * k + 4) a5) (9 * k + 5) a6) (9 * k + 6) (0 : Int64)).2.2.1 = 0
  · rw [lsM_cut e7]
    obtain ⟨u1, q1, q2⟩ := c_store_cut g7 e7 (nI (9 * k + 7)) (0 : Int64)
    exact ⟨u1, by rw [q1, obS, if_pos rfl, J], q2⟩
  rw [lsM_ok e7]
  obtain ⟨u8, s8, g8⟩ := c_store_ok g7 e7 (a := 9 * k + 7) (by omega) (by omega) (0 : Int64)
  rw [s8, obS, if_neg (by decide)]
  have l8 := stM_len (stM (stM (stM (stM (stM (stM (stM (M) (9 * k) a1.toInt64) (9 * k + 1) a2.toInt64) (9 * k + 2) a3.toInt64) (9 * k + 3) a4) (9 * k + 4) a5) (9 * k + 5) a6) (9 * k + 6) (0 : Int64)) (9 * k + 7) (0 : Int64)
  by_cases e8 : (stM (stM (stM (stM (stM (stM (stM (stM (M) (9 * k) a1.toInt64) (9 * k + 1) a2.toInt64) (9 * k + 2) a3.toInt64) (9 * k + 3) a4) (9 * k + 4) a5) (9 * k + 5) a6) (9 * k + 6) (0 : Int64)) (9 * k + 7) (0 : Int64)).2.2.1 = 0
  · rw [lsM_cut e8]
    obtain ⟨u1, q1, q2⟩ := c_store_cut g8 e8 (nI (9 * k + 8)) (0 : Int64)
    exact ⟨u1, by rw [q1, obS, if_pos rfl, J], q2⟩
  rw [lsM_ok e8]
  obtain ⟨u9, s9, g9⟩ := c_store_ok g8 e8 (a := 9 * k + 8) (by omega) (by omega) (0 : Int64)
  rw [s9, obS, if_neg (by decide)]
  have l9 := stM_len (stM (stM (stM (stM (stM (stM (stM (stM (M) (9 * k) a1.toInt64) (9 * k + 1) a2.toInt64) (9 * k + 2) a3.toInt64) (9 * k + 3) a4) (9 * k + 4) a5) (9 * k + 5) a6) (9 * k + 6) (0 : Int64)) (9 * k + 7) (0 : Int64)) (9 * k + 8) (0 : Int64)
  obtain ⟨u10, s10, g10⟩ := c_fence g9
  refine ⟨u10, ?_, g10⟩
  unfold m_Blocks_make_J179
  rw [if_neg (by decide), s10, obS]
theorem r_make (h : inR v M 0) (h0 : M.2.1 = []) (hG : GB M.1 B) {k : Nat} (hk : fst B k) (a1 a2 a3 : Int32) (a4 a5 a6 : Int64) : okW (m_Ref_make v a1 a2 a3 a4 a5 a6) (looseM (mkl k a1.toInt64 a2.toInt64 a3.toInt64 a4 a5 a6) M) (nI k) := by
  obtain ⟨f, hf1, hf2⟩ := r_mark hG h.1
  have hk30 : k ≤ 30 := hk.2.1
  have h' : inR (rs_rea v f) M 0 := h
  have first := r_first (v := v) f hf2 hk a1 a2 a3 a4 a5 a6 (k - 1) 1 fz (by have := hk.1; omega) (by omega) (by unfold fz; omega)
  have first' : m_Ref_make_L7 fz (rs_rea v f) (1 : Int32) a1 a2 a3 a4 a5 a6 = some (.inr (nI k, rs_rea v f)) := first
  have brk : ∀ (u1 : SR) (M1 : MM), inR u1 M1 1 → M1.2.1 = [] → ∀ (d i n : Nat), i + d = 9 → d < n → m_Ref_make_L113 n u1 (nI i) (nI k) = some (.inr u1) := by
    intro u1 M1 hu _ d
    induction d with
    | zero =>
      intro i n hi hn
      obtain ⟨n, rfl⟩ : ∃ m, n = m + 1 := ⟨n - 1, by omega⟩
      rw [m_Ref_make_L113, if_pos (by rw [show (9 : Int32) = nI 9 from rfl]; exact nI_le (by omega) (by omega))]
    | succ d ih =>
      intro i n hi hn
      obtain ⟨n, rfl⟩ : ∃ m, n = m + 1 := ⟨n - 1, by omega⟩
      rw [m_Ref_make_L113, if_neg (by rw [show (9 : Int32) = nI 9 from rfl]; exact nI_ge (by omega) (by omega)), r_store_brk (by rw [hu.2.2.2.2.2.2.2.2]; decide), obS, za1]
      exact ih (i + 1) n (by omega) (by omega)
  have fin : ∀ (u1 : SR) (M1 : MM), inR u1 (ctM M1) 1 → ∃ u2, (ob (m_Ref_fence u1) (fun _ u37 => some (nI k, u37)) = some (nI k, u2)) ∧ inR u2 (ctM M1) 1 := by
    intro u1 M1 hu
    obtain ⟨u2, q1, q2⟩ := r_fence hu
    exact ⟨u2, by rw [q1, obS], q2⟩
  unfold m_Ref_make looseM mkl
  rw [hf1, obS, first', ol1R, bd9_5 k, bd9_4 k, bd9_3 k, bd9_2 k, bd9_1 k, bd9_0 k]
  have l0 : M.2.1.length = 0 := by rw [h0]; rfl
  by_cases e0 : (M).2.2.1 = 0
  · rw [lsM_cut e0]
    obtain ⟨u1, q1, q2⟩ := r_store_cut h' e0 (nI (9 * k)) a1.toInt64
    have nb : rg_br u1 ≠ 0 := by rw [q2.2.2.2.2.2.2.2.2]; decide
    obtain ⟨u2, q3, q4⟩ := fin u1 _ q2
    exact ⟨u2, by rw [q1, obS, r_store_brk nb, obS, r_store_brk nb, obS, r_store_brk nb, obS, r_store_brk nb, obS, r_store_brk nb, obS, show (6 : Int32) = nI 6 from rfl, brk u1 _ q2 rfl 3 6 fz (by omega) (by unfold fz; omega), ol0R, q3], q4⟩
  rw [lsM_ok e0]
  obtain ⟨u1, s1, g1⟩ := r_store_ok h' e0 (a := 9 * k) (by omega) (by omega) a1.toInt64
  rw [s1, obS]
  have l1 := stM_len (M) (9 * k) a1.toInt64
  by_cases e1 : (stM (M) (9 * k) a1.toInt64).2.2.1 = 0
  · rw [lsM_cut e1]
    obtain ⟨u1, q1, q2⟩ := r_store_cut g1 e1 (nI (9 * k + 1)) a2.toInt64
    have nb : rg_br u1 ≠ 0 := by rw [q2.2.2.2.2.2.2.2.2]; decide
    obtain ⟨u2, q3, q4⟩ := fin u1 _ q2
    exact ⟨u2, by rw [q1, obS, r_store_brk nb, obS, r_store_brk nb, obS, r_store_brk nb, obS, r_store_brk nb, obS, show (6 : Int32) = nI 6 from rfl, brk u1 _ q2 rfl 3 6 fz (by omega) (by unfold fz; omega), ol0R, q3], q4⟩
  rw [lsM_ok e1]
  obtain ⟨u2, s2, g2⟩ := r_store_ok g1 e1 (a := 9 * k + 1) (by omega) (by omega) a2.toInt64
  rw [s2, obS]
  have l2 := stM_len (stM (M) (9 * k) a1.toInt64) (9 * k + 1) a2.toInt64
  by_cases e2 : (stM (stM (M) (9 * k) a1.toInt64) (9 * k + 1) a2.toInt64).2.2.1 = 0
  · rw [lsM_cut e2]
    obtain ⟨u1, q1, q2⟩ := r_store_cut g2 e2 (nI (9 * k + 2)) a3.toInt64
    have nb : rg_br u1 ≠ 0 := by rw [q2.2.2.2.2.2.2.2.2]; decide
    obtain ⟨u2, q3, q4⟩ := fin u1 _ q2
    exact ⟨u2, by rw [q1, obS, r_store_brk nb, obS, r_store_brk nb, obS, r_store_brk nb, obS, show (6 : Int32) = nI 6 from rfl, brk u1 _ q2 rfl 3 6 fz (by omega) (by unfold fz; omega), ol0R, q3], q4⟩
  rw [lsM_ok e2]
  obtain ⟨u3, s3, g3⟩ := r_store_ok g2 e2 (a := 9 * k + 2) (by omega) (by omega) a3.toInt64
  rw [s3, obS]
  have l3 := stM_len (stM (stM (M) (9 * k) a1.toInt64) (9 * k + 1) a2.toInt64) (9 * k + 2) a3.toInt64
  by_cases e3 : (stM (stM (stM (M) (9 * k) a1.toInt64) (9 * k + 1) a2.toInt64) (9 * k + 2) a3.toInt64).2.2.1 = 0
  · rw [lsM_cut e3]
    obtain ⟨u1, q1, q2⟩ := r_store_cut g3 e3 (nI (9 * k + 3)) a4
    have nb : rg_br u1 ≠ 0 := by rw [q2.2.2.2.2.2.2.2.2]; decide
    obtain ⟨u2, q3, q4⟩ := fin u1 _ q2
    exact ⟨u2, by rw [q1, obS, r_store_brk nb, obS, r_store_brk nb, obS, show (6 : Int32) = nI 6 from rfl, brk u1 _ q2 rfl 3 6 fz (by omega) (by unfold fz; omega), ol0R, q3], q4⟩
  rw [lsM_ok e3]
  obtain ⟨u4, s4, g4⟩ := r_store_ok g3 e3 (a := 9 * k + 3) (by omega) (by omega) a4
  rw [s4, obS]
  have l4 := stM_len (stM (stM (stM (M) (9 * k) a1.toInt64) (9 * k + 1) a2.toInt64) (9 * k + 2) a3.toInt64) (9 * k + 3) a4
  by_cases e4 : (stM (stM (stM (stM (M) (9 * k) a1.toInt64) (9 * k + 1) a2.toInt64) (9 * k + 2) a3.toInt64) (9 * k + 3) a4).2.2.1 = 0
  · rw [lsM_cut e4]
    obtain ⟨u1, q1, q2⟩ := r_store_cut g4 e4 (nI (9 * k + 4)) a5
    have nb : rg_br u1 ≠ 0 := by rw [q2.2.2.2.2.2.2.2.2]; decide
    obtain ⟨u2, q3, q4⟩ := fin u1 _ q2
    exact ⟨u2, by rw [q1, obS, r_store_brk nb, obS, show (6 : Int32) = nI 6 from rfl, brk u1 _ q2 rfl 3 6 fz (by omega) (by unfold fz; omega), ol0R, q3], q4⟩
  rw [lsM_ok e4]
  obtain ⟨u5, s5, g5⟩ := r_store_ok g4 e4 (a := 9 * k + 4) (by omega) (by omega) a5
  rw [s5, obS]
  have l5 := stM_len (stM (stM (stM (stM (M) (9 * k) a1.toInt64) (9 * k + 1) a2.toInt64) (9 * k + 2) a3.toInt64) (9 * k + 3) a4) (9 * k + 4) a5
  by_cases e5 : (stM (stM (stM (stM (stM (M) (9 * k) a1.toInt64) (9 * k + 1) a2.toInt64) (9 * k + 2) a3.toInt64) (9 * k + 3) a4) (9 * k + 4) a5).2.2.1 = 0
  · rw [lsM_cut e5]
    obtain ⟨u1, q1, q2⟩ := r_store_cut g5 e5 (nI (9 * k + 5)) a6
    have nb : rg_br u1 ≠ 0 := by rw [q2.2.2.2.2.2.2.2.2]; decide
    obtain ⟨u2, q3, q4⟩ := fin u1 _ q2
    exact ⟨u2, by rw [q1, obS, show (6 : Int32) = nI 6 from rfl, brk u1 _ q2 rfl 3 6 fz (by omega) (by unfold fz; omega), ol0R, q3], q4⟩
  rw [lsM_ok e5]
  obtain ⟨u6, s6, g6⟩ := r_store_ok g5 e5 (a := 9 * k + 5) (by omega) (by omega) a6
  rw [s6, obS]
  have l6 := stM_len (stM (stM (stM (stM (stM (M) (9 * k) a1.toInt64) (9 * k + 1) a2.toInt64) (9 * k + 2) a3.toInt64) (9 * k + 3) a4) (9 * k + 4) a5) (9 * k + 5) a6
  rw [show (6 : Int32) = nI 6 from rfl, show fz = 3996 + 1 + 1 + 1 + 1 from rfl, m_Ref_make_L113, if_neg (by rw [show (9 : Int32) = nI 9 from rfl]; exact nI_ge (by omega) (by omega)), bdn k 6]
  by_cases e6 : (stM (stM (stM (stM (stM (stM (M) (9 * k) a1.toInt64) (9 * k + 1) a2.toInt64) (9 * k + 2) a3.toInt64) (9 * k + 3) a4) (9 * k + 4) a5) (9 * k + 5) a6).2.2.1 = 0
  · rw [lsM_cut e6]
    obtain ⟨u1, q1, q2⟩ := r_store_cut g6 e6 (nI (9 * k + 6)) (0 : Int64)
    obtain ⟨u2, q3, q4⟩ := fin u1 _ q2
    exact ⟨u2, by rw [q1, obS, za1, brk u1 _ q2 rfl 2 7 (3996 + 1 + 1 + 1) (by omega) (by omega), ol0R, q3], q4⟩
  rw [lsM_ok e6]
  obtain ⟨u7, s7, g7⟩ := r_store_ok g6 e6 (a := 9 * k + 6) (by omega) (by omega) (0 : Int64)
  rw [s7, obS, za1]
  have l7 := stM_len (stM (stM (stM (stM (stM (stM (M) (9 * k) a1.toInt64) (9 * k + 1) a2.toInt64) (9 * k + 2) a3.toInt64) (9 * k + 3) a4) (9 * k + 4) a5) (9 * k + 5) a6) (9 * k + 6) (0 : Int64)
  rw [m_Ref_make_L113, if_neg (by rw [show (9 : Int32) = nI 9 from rfl]; exact nI_ge (by omega) (by omega)), bdn k 7]
  by_cases e7 : (stM (stM (stM (stM (stM (stM (stM (M) (9 * k) a1.toInt64) (9 * k + 1) a2.toInt64) (9 * k + 2) a3.toInt64) (9 * k + 3) a4) (9 * k + 4) a5) (9 * k + 5) a6) (9 * k + 6) (0 : Int64)).2.2.1 = 0
  · rw [lsM_cut e7]
    obtain ⟨u1, q1, q2⟩ := r_store_cut g7 e7 (nI (9 * k + 7)) (0 : Int64)
    obtain ⟨u2, q3, q4⟩ := fin u1 _ q2
    exact ⟨u2, by rw [q1, obS, za1, brk u1 _ q2 rfl 1 8 (3996 + 1 + 1) (by omega) (by omega), ol0R, q3], q4⟩
  rw [lsM_ok e7]
  obtain ⟨u8, s8, g8⟩ := r_store_ok g7 e7 (a := 9 * k + 7) (by omega) (by omega) (0 : Int64)
  rw [s8, obS, za1]
  have l8 := stM_len (stM (stM (stM (stM (stM (stM (stM (M) (9 * k) a1.toInt64) (9 * k + 1) a2.toInt64) (9 * k + 2) a3.toInt64) (9 * k + 3) a4) (9 * k + 4) a5) (9 * k + 5) a6) (9 * k + 6) (0 : Int64)) (9 * k + 7) (0 : Int64)
  rw [m_Ref_make_L113, if_neg (by rw [show (9 : Int32) = nI 9 from rfl]; exact nI_ge (by omega) (by omega)), bdn k 8]
  by_cases e8 : (stM (stM (stM (stM (stM (stM (stM (stM (M) (9 * k) a1.toInt64) (9 * k + 1) a2.toInt64) (9 * k + 2) a3.toInt64) (9 * k + 3) a4) (9 * k + 4) a5) (9 * k + 5) a6) (9 * k + 6) (0 : Int64)) (9 * k + 7) (0 : Int64)).2.2.1 = 0
  · rw [lsM_cut e8]
    obtain ⟨u1, q1, q2⟩ := r_store_cut g8 e8 (nI (9 * k + 8)) (0 : Int64)
    obtain ⟨u2, q3, q4⟩ := fin u1 _ q2
    exact ⟨u2, by rw [q1, obS, za1, brk u1 _ q2 rfl 0 9 (3996 + 1) (by omega) (by omega), ol0R, q3], q4⟩
  rw [lsM_ok e8]
  obtain ⟨u9, s9, g9⟩ := r_store_ok g8 e8 (a := 9 * k + 8) (by omega) (by omega) (0 : Int64)
  rw [s9, obS, za1]
  have l9 := stM_len (stM (stM (stM (stM (stM (stM (stM (stM (M) (9 * k) a1.toInt64) (9 * k + 1) a2.toInt64) (9 * k + 2) a3.toInt64) (9 * k + 3) a4) (9 * k + 4) a5) (9 * k + 5) a6) (9 * k + 6) (0 : Int64)) (9 * k + 7) (0 : Int64)) (9 * k + 8) (0 : Int64)
  rw [m_Ref_make_L113, if_pos (by rw [show (9 : Int32) = nI 9 from rfl]; exact nI_le (by omega) (by omega)), ol0R]
  obtain ⟨u10, s10, g10⟩ := r_fence g9
  exact ⟨u10, by rw [s10, obS], g10⟩
end Make
