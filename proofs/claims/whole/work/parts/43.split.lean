/-! PURE: split -/
def sp1 (w : Mem) (x k : Nat) : List (Nat × Int64) := mkl k (w (9 * x)) (w (9 * x + 1)) (lN (kp w x 3)) (w (9 * x + 6)) (w (9 * x + 7)) (w (9 * x + 8))
def sp3 (x : Nat) : List (Nat × Int64) := [(9 * x + 8, 0), (9 * x + 7, 0), (9 * x + 6, 0)]
def splM (M : MM) (x k : Nat) : MM ⊕ MM := match looseM (sp1 M.1 x k) M with
  | .inl M' => .inl M'
  | .inr M1 => match firmM M1 (9 * x + 1) (lN k) with
    | .inl M' => .inl M'
    | .inr M2 => looseM (sp3 x) M2
theorem looseM_nil {l : List (Nat × Int64)} {M M' : MM} (h : looseM l M = .inr M') : M'.2.1 = [] := by
  unfold looseM at h
  cases e : lsM l M with
  | inl M1 => rw [e] at h; cases h
  | inr M1 => rw [e] at h; cases h; rfl
theorem lsM_cut_nil {l : List (Nat × Int64)} : ∀ {M M' : MM}, lsM l M = .inl M' → M'.2.1 = [] := by
  induction l with
  | nil => intro M M' e; cases e
  | cons q r ih =>
    intro M M' e
    by_cases z : M.2.2.1 = 0
    · rw [lsM_cut z] at e; cases e; rfl
    · rw [lsM_ok z] at e; exact ih e
theorem looseM_cut_nil {l : List (Nat × Int64)} {M M' : MM} (h : looseM l M = .inl M') : M'.2.1 = [] := by
  unfold looseM at h
  cases e : lsM l M with
  | inl M1 => rw [e] at h; cases h; exact lsM_cut_nil e
  | inr M1 => rw [e] at h; cases h
/-- a block of the tree, as far as a split reads it -/
def spOK (w : Mem) (x : Nat) : Prop := x ≤ 30 ∧ (∃ L, w (9 * x) = lN L ∧ L < 1000) ∧ (∃ c, w (9 * x + 1) = lN c ∧ c ≤ 30) ∧ isE (w (9 * x + 6))
section Sp
variable {u : SM} {v : SR} {M : MM} {B : List Nat} {x k : Nat}
theorem c_sp3 (h : inC u M) (h0 : M.2.1 = []) (hx : x ≤ 30) (c : Int32) : okV (ol0 (m_Tree_split_L81 fz u (5 : Int32) (nI x) c) id (fun u41 => ob (m_Memory_fence u41) (fun _ u43 => some (c, u43)))) (looseM (sp3 x) M) c := by
  have l0 : M.2.1.length = 0 := by rw [h0]; rfl
  unfold looseM sp3
  rw [show (5 : Int32) = nI 5 from rfl, show fz = 3996 + 1 + 1 + 1 + 1 from rfl]
  rw [m_Tree_split_L81, if_neg (by rw [show (3 : Int32) = nI 3 from rfl]; exact nI_nlt (by omega) (by omega)), c_place, obS]
  by_cases e0 : (M).2.2.1 = 0
  · rw [lsM_cut e0]
    obtain ⟨u1, q1, q2⟩ := c_store_cut h e0 (nI (9 * x + 8)) (0 : Int64)
    exact ⟨u1, by rw [show 9 * x + 3 + 5 = 9 * x + 8 from rfl, q1, obS, if_pos rfl, ol0I]; rfl, q2⟩
  rw [lsM_ok e0]
  obtain ⟨u1, s1, g1⟩ := c_store_ok h e0 (a := 9 * x + 8) (by omega) (by omega) (0 : Int64)
  rw [show 9 * x + 3 + 5 = 9 * x + 8 from rfl, s1, obS, if_neg (by decide), show nI 5 + (-1 : Int32) = nI 4 from rfl]
  have l1 := stM_len (M) (9 * x + 8) (0 : Int64)
  rw [m_Tree_split_L81, if_neg (by rw [show (3 : Int32) = nI 3 from rfl]; exact nI_nlt (by omega) (by omega)), c_place, obS]
  by_cases e1 : (stM (M) (9 * x + 8) (0 : Int64)).2.2.1 = 0
  · rw [lsM_cut e1]
    obtain ⟨u1, q1, q2⟩ := c_store_cut g1 e1 (nI (9 * x + 7)) (0 : Int64)
    exact ⟨u1, by rw [show 9 * x + 3 + 4 = 9 * x + 7 from rfl, q1, obS, if_pos rfl, ol0I]; rfl, q2⟩
  rw [lsM_ok e1]
  obtain ⟨u2, s2, g2⟩ := c_store_ok g1 e1 (a := 9 * x + 7) (by omega) (by omega) (0 : Int64)
  rw [show 9 * x + 3 + 4 = 9 * x + 7 from rfl, s2, obS, if_neg (by decide), show nI 4 + (-1 : Int32) = nI 3 from rfl]
  have l2 := stM_len (stM (M) (9 * x + 8) (0 : Int64)) (9 * x + 7) (0 : Int64)
  rw [m_Tree_split_L81, if_neg (by rw [show (3 : Int32) = nI 3 from rfl]; exact nI_nlt (by omega) (by omega)), c_place, obS]
  by_cases e2 : (stM (stM (M) (9 * x + 8) (0 : Int64)) (9 * x + 7) (0 : Int64)).2.2.1 = 0
  · rw [lsM_cut e2]
    obtain ⟨u1, q1, q2⟩ := c_store_cut g2 e2 (nI (9 * x + 6)) (0 : Int64)
    exact ⟨u1, by rw [show 9 * x + 3 + 3 = 9 * x + 6 from rfl, q1, obS, if_pos rfl, ol0I]; rfl, q2⟩
  rw [lsM_ok e2]
  obtain ⟨u3, s3, g3⟩ := c_store_ok g2 e2 (a := 9 * x + 6) (by omega) (by omega) (0 : Int64)
  rw [show 9 * x + 3 + 3 = 9 * x + 6 from rfl, s3, obS, if_neg (by decide), show nI 3 + (-1 : Int32) = nI 2 from rfl]
  have l3 := stM_len (stM (stM (M) (9 * x + 8) (0 : Int64)) (9 * x + 7) (0 : Int64)) (9 * x + 6) (0 : Int64)
  obtain ⟨u4, s4, g4⟩ := c_fence g3
  refine ⟨u4, ?_, g4⟩
  rw [m_Tree_split_L81, if_pos (by rw [show (3 : Int32) = nI 3 from rfl]; exact nI_lt (by omega) (by omega)), ol0R, s4, obS]
theorem c_split (h : inC u M) (h0 : M.2.1 = []) (hG : GB M.1 B) (hk : fst B k) (hx : spOK M.1 x) : okV (m_Tree_split u (nI x)) (splM M x k) (nI k) := by
  obtain ⟨hx30, ⟨L, hL, hL2⟩, ⟨c, hc, hc2⟩, hE⟩ := hx
  have hky := hE.ky
  have hk1 := hk.1
  have hk2 := hk.2.1
  have mk := c_make h h0 hG hk (nI L) (nI c) (nI (kp M.1 x 3)) (M.1 (9 * x + 6)) (M.1 (9 * x + 7)) (M.1 (9 * x + 8))
  rw [nI_l (by omega), nI_l (by omega), nI_l (show kp M.1 x 3 < 2 ^ 31 from by have := hky.2.1; show kN (M.1 (9 * x + 6)) < _; omega), ← hL, ← hc] at mk
  obtain ⟨u1, hu⟩ := mk
  unfold m_Tree_split splM sp1
  rw [show (3 : Int32) = nI 3 from rfl, show (4 : Int32) = nI 4 from rfl, show (5 : Int32) = nI 5 from rfl, c_entry h.1 hx30 (by omega), obS, c_level h.1 hx30, obS, c_next h.1 hx30, obS, show 9 * x + 3 + 3 = 9 * x + 6 from rfl,
    show m_Firm_keyOf u (M.1 (9 * x + 6)) = some (nI (kp M.1 x 3), u) from by unfold m_Firm_keyOf; exact congrArg (fun z => some (z, u)) hky.1, obS, c_entry h.1 hx30 (by omega), obS, c_entry h.1 hx30 (by omega), obS, hL, lN_i, hc, blk_lN hc2]
  rw [← hL, ← hc]
  cases ef : looseM (mkl k (M.1 (9 * x)) (M.1 (9 * x + 1)) (lN (kp M.1 x 3)) (M.1 (9 * x + 6)) (M.1 (9 * x + 7)) (M.1 (9 * x + 8))) M with
  | inl M' =>
    rw [ef] at hu
    exact ⟨u1, by rw [show 9 * x + 3 + 4 = 9 * x + 7 from rfl, show 9 * x + 3 + 5 = 9 * x + 8 from rfl, hu.1, obS, if_pos rfl], hu.2⟩
  | inr M1 =>
    rw [ef] at hu
    have hn1 := looseM_nil ef
    rw [show 9 * x + 3 + 4 = 9 * x + 7 from rfl, show 9 * x + 3 + 5 = 9 * x + 8 from rfl, hu.1, obS, if_neg (by rw [nI_lit0, nI_eq (by omega) (by omega)]; omega)]
    unfold m_Blocks_linkNext
    rw [n9, za1, ob_id, nI_l (by omega)]
    obtain ⟨u2, hu2⟩ := c_firm hu.2 hn1 (a := 9 * x + 1) (by omega) (lN k)
    simp only
    cases ef2 : firmM M1 (9 * x + 1) (lN k) with
    | inl M' =>
      rw [ef2] at hu2
      exact ⟨u2, by rw [hu2.1, obS, if_pos rfl], hu2.2⟩
    | inr M2 =>
      rw [ef2] at hu2
      have hn2 := firmM_nil ef2
      rw [hu2.1, obS, if_neg (by decide)]
      exact c_sp3 hu2.2 hn2.1 hx30 (nI k)
-- the reference
theorem r_sp3_brk (hb : rg_br v ≠ 0) (c : Int32) : m_Ref_split_L56 fz v (5 : Int32) (nI x) c = some (.inr v) := by
  rw [show (5 : Int32) = nI 5 from rfl, show fz = 3996 + 1 + 1 + 1 + 1 from rfl]
  rw [m_Ref_split_L56, if_neg (by rw [show (2 : Int32) = nI 2 from rfl]; exact nI_ge (by omega) (by omega)), r_store_brk hb, obS, show nI 5 + (-1 : Int32) = nI 4 from rfl]
  rw [m_Ref_split_L56, if_neg (by rw [show (2 : Int32) = nI 2 from rfl]; exact nI_ge (by omega) (by omega)), r_store_brk hb, obS, show nI 4 + (-1 : Int32) = nI 3 from rfl]
  rw [m_Ref_split_L56, if_neg (by rw [show (2 : Int32) = nI 2 from rfl]; exact nI_ge (by omega) (by omega)), r_store_brk hb, obS, show nI 3 + (-1 : Int32) = nI 2 from rfl]
  rw [m_Ref_split_L56, if_pos (by rw [show (2 : Int32) = nI 2 from rfl]; exact nI_le (by omega) (by omega))]
theorem r_sp3 (h : inR v M 0) (h0 : M.2.1 = []) (hx : x ≤ 30) (c : Int32) : okW (ol0 (m_Ref_split_L56 fz v (5 : Int32) (nI x) c) id (fun u37 => ob (m_Ref_fence u37) (fun _ u39 => some (c, u39)))) (looseM (sp3 x) M) c := by
  have l0 : M.2.1.length = 0 := by rw [h0]; rfl
  have fin : ∀ (u1 : SR) (M1 : MM), inR u1 (ctM M1) 1 → ∃ u2, (ob (m_Ref_fence u1) (fun _ u37 => some (c, u37)) = some (c, u2)) ∧ inR u2 (ctM M1) 1 := by
    intro u1 M1 hu
    obtain ⟨u2, q1, q2⟩ := r_fence hu
    exact ⟨u2, by rw [q1, obS], q2⟩
  unfold looseM sp3
  rw [show (5 : Int32) = nI 5 from rfl, show fz = 3996 + 1 + 1 + 1 + 1 from rfl]
  rw [m_Ref_split_L56, if_neg (by rw [show (2 : Int32) = nI 2 from rfl]; exact nI_ge (by omega) (by omega)), pl_addr']
  by_cases e0 : (M).2.2.1 = 0
  · rw [lsM_cut e0]
    obtain ⟨u1, q1, q2⟩ := r_store_cut h e0 (nI (9 * x + 8)) (0 : Int64)
    have nb : rg_br u1 ≠ 0 := by rw [q2.2.2.2.2.2.2.2.2]; decide
    obtain ⟨u2, q3, q4⟩ := fin u1 _ q2
    exact ⟨u2, by rw [show 9 * x + 3 + 5 = 9 * x + 8 from rfl, q1, obS, show nI 5 + (-1 : Int32) = nI 4 from rfl, m_Ref_split_L56, if_neg (by rw [show (2 : Int32) = nI 2 from rfl]; exact nI_ge (by omega) (by omega)), r_store_brk nb, obS, show nI 4 + (-1 : Int32) = nI 3 from rfl, m_Ref_split_L56, if_neg (by rw [show (2 : Int32) = nI 2 from rfl]; exact nI_ge (by omega) (by omega)), r_store_brk nb, obS, show nI 3 + (-1 : Int32) = nI 2 from rfl, m_Ref_split_L56, if_pos (by rw [show (2 : Int32) = nI 2 from rfl]; exact nI_le (by omega) (by omega)), ol0R, q3], q4⟩
  rw [lsM_ok e0]
  obtain ⟨u1, s1, g1⟩ := r_store_ok h e0 (a := 9 * x + 8) (by omega) (by omega) (0 : Int64)
  rw [show 9 * x + 3 + 5 = 9 * x + 8 from rfl, s1, obS, show nI 5 + (-1 : Int32) = nI 4 from rfl]
  have l1 := stM_len (M) (9 * x + 8) (0 : Int64)
  rw [m_Ref_split_L56, if_neg (by rw [show (2 : Int32) = nI 2 from rfl]; exact nI_ge (by omega) (by omega)), pl_addr']
  by_cases e1 : (stM (M) (9 * x + 8) (0 : Int64)).2.2.1 = 0
  · rw [lsM_cut e1]
    obtain ⟨u1, q1, q2⟩ := r_store_cut g1 e1 (nI (9 * x + 7)) (0 : Int64)
    have nb : rg_br u1 ≠ 0 := by rw [q2.2.2.2.2.2.2.2.2]; decide
    obtain ⟨u2, q3, q4⟩ := fin u1 _ q2
    exact ⟨u2, by rw [show 9 * x + 3 + 4 = 9 * x + 7 from rfl, q1, obS, show nI 4 + (-1 : Int32) = nI 3 from rfl, m_Ref_split_L56, if_neg (by rw [show (2 : Int32) = nI 2 from rfl]; exact nI_ge (by omega) (by omega)), r_store_brk nb, obS, show nI 3 + (-1 : Int32) = nI 2 from rfl, m_Ref_split_L56, if_pos (by rw [show (2 : Int32) = nI 2 from rfl]; exact nI_le (by omega) (by omega)), ol0R, q3], q4⟩
  rw [lsM_ok e1]
  obtain ⟨u2, s2, g2⟩ := r_store_ok g1 e1 (a := 9 * x + 7) (by omega) (by omega) (0 : Int64)
  rw [show 9 * x + 3 + 4 = 9 * x + 7 from rfl, s2, obS, show nI 4 + (-1 : Int32) = nI 3 from rfl]
  have l2 := stM_len (stM (M) (9 * x + 8) (0 : Int64)) (9 * x + 7) (0 : Int64)
  rw [m_Ref_split_L56, if_neg (by rw [show (2 : Int32) = nI 2 from rfl]; exact nI_ge (by omega) (by omega)), pl_addr']
  by_cases e2 : (stM (stM (M) (9 * x + 8) (0 : Int64)) (9 * x + 7) (0 : Int64)).2.2.1 = 0
  · rw [lsM_cut e2]
    obtain ⟨u1, q1, q2⟩ := r_store_cut g2 e2 (nI (9 * x + 6)) (0 : Int64)
    have nb : rg_br u1 ≠ 0 := by rw [q2.2.2.2.2.2.2.2.2]; decide
    obtain ⟨u2, q3, q4⟩ := fin u1 _ q2
    exact ⟨u2, by rw [show 9 * x + 3 + 3 = 9 * x + 6 from rfl, q1, obS, show nI 3 + (-1 : Int32) = nI 2 from rfl, m_Ref_split_L56, if_pos (by rw [show (2 : Int32) = nI 2 from rfl]; exact nI_le (by omega) (by omega)), ol0R, q3], q4⟩
  rw [lsM_ok e2]
  obtain ⟨u3, s3, g3⟩ := r_store_ok g2 e2 (a := 9 * x + 6) (by omega) (by omega) (0 : Int64)
  rw [show 9 * x + 3 + 3 = 9 * x + 6 from rfl, s3, obS, show nI 3 + (-1 : Int32) = nI 2 from rfl]
  have l3 := stM_len (stM (stM (M) (9 * x + 8) (0 : Int64)) (9 * x + 7) (0 : Int64)) (9 * x + 6) (0 : Int64)
  obtain ⟨u4, s4, g4⟩ := r_fence g3
  refine ⟨u4, ?_, g4⟩
  rw [m_Ref_split_L56, if_pos (by rw [show (2 : Int32) = nI 2 from rfl]; exact nI_le (by omega) (by omega)), ol0R, s4, obS]
theorem r_split (h : inR v M 0) (h0 : M.2.1 = []) (hG : GB M.1 B) (hk : fst B k) (hx : spOK M.1 x) : okW (m_Ref_split v (nI x)) (splM M x k) (nI k) := by
  obtain ⟨hx30, ⟨L, hL, hL2⟩, ⟨c, hc, hc2⟩, hE⟩ := hx
  have hky := hE.ky
  have hk1 := hk.1
  have hk2 := hk.2.1
  have mk := r_make h h0 hG hk (nI L) (nI c) (nI (kp M.1 x 3)) (M.1 (9 * x + 6)) (M.1 (9 * x + 7)) (M.1 (9 * x + 8))
  rw [nI_l (by omega), nI_l (by omega), nI_l (show kp M.1 x 3 < 2 ^ 31 from by have := hky.2.1; show kN (M.1 (9 * x + 6)) < _; omega), ← hL, ← hc] at mk
  obtain ⟨u1, hu1, hu⟩ := mk
  unfold m_Ref_split splM sp1
  rw [show (3 : Int32) = nI 3 from rfl, show (4 : Int32) = nI 4 from rfl, r_key h.1 hx30 (by omega), obS, r_level h.1 hx30, obS, r_next h.1 hx30, obS, r_at h.1 hx30 (by omega), obS, r_at h.1 hx30 (by omega), obS]
  rw [show m_Ref_at v (nI x) (5 : Int32) = some (M.1 (9 * x + 8), v) from r_at (p := 5) h.1 hx30 (by omega), obS, show 9 * x + 3 + 3 = 9 * x + 6 from rfl, hky.1, hL, lN_i, hc, lN_i, show 9 * x + 3 + 4 = 9 * x + 7 from rfl,
    show m_Ref_make v (nI L) (nI c) (nI (kN (M.1 (9 * x + 6)))) (M.1 (9 * x + 6)) (M.1 (9 * x + 7)) (M.1 (9 * x + 8)) = some (nI k, u1) from hu1, obS, n9', za1, nI_l (by omega)]
  rw [← hL, ← hc]
  cases ef : looseM (mkl k (M.1 (9 * x)) (M.1 (9 * x + 1)) (lN (kp M.1 x 3)) (M.1 (9 * x + 6)) (M.1 (9 * x + 7)) (M.1 (9 * x + 8))) M with
  | inl M' =>
    rw [ef] at hu
    have hM' := looseM_cut_nil ef
    obtain ⟨u2, q1, q2⟩ := r_firm_brk hu hM' (nI (9 * x + 1)) (lN k)
    obtain ⟨u3, q3, q4⟩ := r_fence q2
    have nb : rg_br u2 ≠ 0 := by rw [q2.2.2.2.2.2.2.2.2]; decide
    refine ⟨u3, by rw [q1, obS, r_sp3_brk nb, ol0R, q3, obS], ?_⟩
    have : feM M' = M' := by
      obtain ⟨w, ls, s1, s2, s3, s4⟩ := M'
      simp only at hM'
      subst hM'; rfl
    rw [this] at q4
    exact q4
  | inr M1 =>
    rw [ef] at hu
    have hn1 := looseM_nil ef
    obtain ⟨u2, hu2, hu2'⟩ := r_firm hu hn1 (a := 9 * x + 1) (by omega) (lN k)
    simp only
    rw [hu2, obS]
    cases ef2 : firmM M1 (9 * x + 1) (lN k) with
    | inl M' =>
      rw [ef2] at hu2'
      have hM' : M'.2.1 = [] := by rw [firmM_cut ef2]; rfl
      obtain ⟨u3, q3, q4⟩ := r_fence hu2'
      have nb : rg_br u2 ≠ 0 := by rw [hu2'.2.2.2.2.2.2.2.2]; decide
      refine ⟨u3, by rw [r_sp3_brk nb, ol0R, q3, obS], ?_⟩
      have : feM M' = M' := by
        obtain ⟨w, ls, s1, s2, s3, s4⟩ := M'
        simp only at hM'
        subst hM'; rfl
      rw [this] at q4
      exact q4
    | inr M2 =>
      rw [ef2] at hu2'
      have hn2 := firmM_nil ef2
      exact r_sp3 hu2' hn2.1 hx30 (nI k)
end Sp
