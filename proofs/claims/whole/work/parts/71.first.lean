/-! PURE: the first block of a level -/
section Fi
variable {u : SM} {v : SR} {w : Mem} {cs : List (List Nat)}
theorem c_fst_L (T : TS w cs) (h : CW u w) {lev : Nat} : ∀ (d L cn n b : Nat) (r : List Nat), L = lev + d → L < cs.length → lvc cs L = b :: r → cn + d < 30 → d < n → m_Tree_firstOf_L11 n u (nI b) (nI cn) (nI lev) = some (.inr (nI ((lvc cs lev).headD 0), u)) := by
  intro d
  induction d with
  | zero =>
    intro L cn n b r hL hl e hc hn
    obtain ⟨n, rfl⟩ : ∃ e, n = e + 1 := ⟨n - 1, by omega⟩
    have hm := (T.1 L hl).1.mem b (by rw [e]; exact List.mem_cons_self)
    have h30 := T.hgt
    rw [m_Tree_firstOf_L11, if_neg (by rw [show (30 : Int32) = nI 30 from rfl]; exact nI_ge (by omega) (by omega)), if_neg (nI_ne0 (by omega) (by omega)), c_level h hm.1.2, obS, hm.2.1, lN_i, if_pos (nI_le (by omega) (by omega)), show lev = L by omega, e]; rfl
  | succ d ih =>
    intro L cn n b r hL hl e hc hn
    obtain ⟨n, rfl⟩ : ∃ e, n = e + 1 := ⟨n - 1, by omega⟩
    have hm := (T.1 L hl).1.mem b (by rw [e]; exact List.mem_cons_self)
    have h30 := T.hgt
    obtain ⟨L, rfl⟩ : ∃ L', L = L' + 1 := ⟨L - 1, by omega⟩
    obtain ⟨x, y, e1, e2, e3⟩ := T.first e hl
    have hx := ((T.1 L (by omega)).1.mem x (by rw [e1]; exact List.mem_cons_self)).1
    have hch : m_Blocks_childAt u (nI b) (0 : Int32) = some (nI x, u) := by
      have := c_child (p := 0) h hm.1.2 (by omega)
      rw [show 9 * b + 3 + 0 = 9 * b + 3 from rfl, e2, ent_val _ (by omega), blk_nI hx.2] at this
      exact this
    rw [m_Tree_firstOf_L11, if_neg (by rw [show (30 : Int32) = nI 30 from rfl]; exact nI_ge (by omega) (by omega)), if_neg (nI_ne0 (by omega) (by omega)), c_level h hm.1.2, obS, hm.2.1, lN_i, if_neg (nI_ge (by omega) (by omega)), hch, obS, a1]
    exact ih L (cn + 1) n x y (by omega) (by omega) e1 (by omega) (by omega)
theorem c_firstOf (T : TS w cs) (h : CW u w) {lev : Nat} (hl : lev < cs.length) : m_Tree_firstOf u (nI lev) = some (nI ((lvc cs lev).headD 0), u) := by
  have hne : cs ≠ [] := fun e => by rw [e] at hl; simp at hl
  obtain ⟨r, er, er0, er30, er1⟩ := T.top hne
  have h30 := T.hgt
  have hb : m_Blocks_blockIn u (0 : Int32) = some (nI (rootOf cs), u) := by
    have := c_blockIn h (a := 0) (by omega)
    rw [T.2.2.2.2.1, blk_lN er30] at this
    exact this
  rw [m_Tree_firstOf, hb, obS]
  have := c_fst_L T h (lev := lev) (cs.length - 1 - lev) (cs.length - 1) 0 fz (rootOf cs) r (by omega) (by omega) er (by omega) (by unfold fz; omega)
  rw [show m_Tree_firstOf_L11 fz u (nI (rootOf cs)) (0 : Int32) (nI lev) = some (.inr (nI ((lvc cs lev).headD 0), u)) from this, ol1R]
theorem c_firstOf_none (h : CW u w) (hw : w 0 = lN 0) (x : Int32) : m_Tree_firstOf u x = some (0, u) := by
  have hb : m_Blocks_blockIn u (0 : Int32) = some (0, u) := by
    have := c_blockIn h (a := 0) (by omega)
    rw [hw, blk_lN (by omega)] at this
    exact this
  rw [m_Tree_firstOf, hb, obS, show fz = 3999 + 1 from rfl, m_Tree_firstOf_L11, if_neg (by decide), if_pos rfl, ol1R]
theorem r_fst_L (T : TS w cs) (h : RW v w) {lev : Nat} : ∀ (d L n b : Nat) (r : List Nat), L = lev + d → L < cs.length → lvc cs L = b :: r → d < n → m_Ref_firstAt_L5 n v (nI b) (nI lev) = some (.inr (nI ((lvc cs lev).headD 0), v)) := by
  intro d
  induction d with
  | zero =>
    intro L n b r hL hl e hn
    obtain ⟨n, rfl⟩ : ∃ e, n = e + 1 := ⟨n - 1, by omega⟩
    have hm := (T.1 L hl).1.mem b (by rw [e]; exact List.mem_cons_self)
    have h30 := T.hgt
    rw [m_Ref_firstAt_L5, r_level h hm.1.2, obS, hm.2.1, lN_i, if_pos (nI_le (by omega) (by omega)), show lev = L by omega, e]; rfl
  | succ d ih =>
    intro L n b r hL hl e hn
    obtain ⟨n, rfl⟩ : ∃ e, n = e + 1 := ⟨n - 1, by omega⟩
    have hm := (T.1 L hl).1.mem b (by rw [e]; exact List.mem_cons_self)
    have h30 := T.hgt
    obtain ⟨L, rfl⟩ : ∃ L', L = L' + 1 := ⟨L - 1, by omega⟩
    obtain ⟨x, y, e1, e2, e3⟩ := T.first e hl
    have hx := ((T.1 L (by omega)).1.mem x (by rw [e1]; exact List.mem_cons_self)).1
    have hch : m_Ref_blockAt v (nI b) (0 : Int32) = some (nI x, v) := by
      have := r_block (p := 0) h hm.1.2 (by omega)
      rw [show 9 * b + 3 + 0 = 9 * b + 3 from rfl, e2, ent_val _ (by omega)] at this
      exact this
    rw [m_Ref_firstAt_L5, r_level h hm.1.2, obS, hm.2.1, lN_i, if_neg (nI_ge (by omega) (by omega)), hch, obS]
    exact ih L n x y (by omega) (by omega) e1 (by omega)
theorem r_firstAt (T : TS w cs) (h : RW v w) {lev : Nat} (hl : lev < cs.length) : m_Ref_firstAt v (nI lev) = some (nI ((lvc cs lev).headD 0), v) := by
  have hne : cs ≠ [] := fun e => by rw [e] at hl; simp at hl
  obtain ⟨r, er, er0, er30, er1⟩ := T.top hne
  have h30 := T.hgt
  rw [m_Ref_firstAt, r_root h, obS, T.2.2.2.2.1, lN_i, r_fst_L T h (lev := lev) (cs.length - 1 - lev) (cs.length - 1) fz (rootOf cs) r (by omega) (by omega) er (by unfold fz; omega), ol1R]
end Fi
