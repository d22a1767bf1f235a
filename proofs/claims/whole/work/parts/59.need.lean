/-! PURE: how many blocks a split wants -/
section Nd
variable {u : SM} {v : SR} {w : Mem} {cs : List (List Nat)}
theorem need_step (T : TS w cs) (hcl : allClean w cs) {m l q : Nat} (hl : l < cs.length) : need w cs (m + 1) l q = if rl w (fk w cs l q) < 6 then 0 else 1 + need w cs m (l + 1) (kp w (fk w cs l q) 3) := by
  have hm := fk_mem T q hl
  obtain ⟨pp, rr, exx⟩ := List.append_of_mem hm
  have hub := (T.ub exx hl).2.2.1
  have hc := hcl l _ hm
  rw [need, if_neg (by omega), hc.kcE hub]
  by_cases e : rl w (fk w cs l q) < 6
  · rw [if_pos e, if_pos e]
  · rw [if_neg e, if_neg e, hc.kthE hub (by omega)]
theorem c_need_L (T : TS w cs) (t2 : T2 cs) (h0 : 0 < cs.length) (hcl : allClean w cs) (h : CW u w) : ∀ (m c b l d : Nat), cs.length < l + m → l ≤ cs.length → m < d → b ≤ 30 → rowE w b → 3 < rl w b →
    ol1 (m_Tree_blocksToSplit_L13 d u (nI c) (nI b) (nI l) (nI (cs.length - 1))) id (fun x17 u18 => some ((x17 + (1 : Int32)), u18)) = some (nI (c + need w cs m l (kp w b 3)), u) := by
  intro m
  have h15 := T.h15 t2
  induction m with
  | zero => intro c b l d h1 h2; omega
  | succ m ih =>
    intro c b l d h1 h2 hd hb hE h3
    obtain ⟨d, rfl⟩ : ∃ e, d = e + 1 := ⟨d - 1, by omega⟩
    rw [m_Tree_blocksToSplit_L13, if_neg (by rw [show (30 : Int32) = nI 30 from rfl]; exact nI_ge (by omega) (by omega))]
    by_cases e : cs.length ≤ l
    · rw [need, if_pos e]
      rw [if_pos (nI_lt (by omega) (by omega)), ol1R, a1]
    · have hl : l < cs.length := by omega
      have hk := hE.key h3
      have hkk : m_Tree_keyAt u (nI b) (3 : Int32) = some (nI (kp w b 3), u) := by rw [← hk.1]; exact c_key (p := 3) h hb (by omega)
      have hm := fk_mem T (kp w b 3) hl
      have hf30 := ((T.1 l hl).1.mem _ hm).1.2
      rw [if_neg (nI_nlt (by omega) (by omega)), hkk, obS, c_find T h hk.2 hl, obS, c_isFull h hf30, obS, need_step T hcl hl]
      have h6 := rl_le w (fk w cs l (kp w b 3))
      by_cases e6 : rl w (fk w cs l (kp w b 3)) < 6
      · rw [if_neg (show ¬ rl w (fk w cs l (kp w b 3)) = 6 by omega), if_pos rfl, if_pos e6, ol1I]; rfl
      · rw [if_pos (show rl w (fk w cs l (kp w b 3)) = 6 by omega), if_neg (by decide), if_neg e6, a1, a1, ih (c + 1) _ (l + 1) d (by omega) (by omega) (by omega) hf30 (T.row hm) (by omega)]
        rw [show c + 1 + need w cs m (l + 1) (kp w (fk w cs l (kp w b 3)) 3) = c + (1 + need w cs m (l + 1) (kp w (fk w cs l (kp w b 3)) 3)) by omega]
theorem c_bts (T : TS w cs) (t2 : T2 cs) (hcl : allClean w cs) (h : CW u w) {b : Nat} (hb : b ∈ lvc cs 0) (h6 : rl w b = 6) : m_Tree_blocksToSplit u (nI b) = some (nI (1 + need w cs 40 1 (kp w b 3)), u) := by
  have h15 := T.h15 t2
  have h0 := lvc_in hb
  have hb30 := ((T.1 0 h0).1.mem _ hb).1.2
  rw [m_Tree_blocksToSplit, c_top T h (fun e => by rw [e] at h0; simp at h0), obS]
  exact c_need_L T t2 h0 hcl h 40 1 b 1 fz (by omega) (by omega) (by unfold fz; omega) hb30 (T.row hb) (by omega)
theorem r_need_L (T : TS w cs) (t2 : T2 cs) (h0 : 0 < cs.length) (hcl : allClean w cs) (h : RW v w) : ∀ (m c k l d : Nat), cs.length < l + m → l ≤ cs.length → m < d → k < 1000 →
    ol1 (m_Ref_needed_L12 d v (nI c) (nI k) (nI l)) id (fun x25 u26 => some ((x25 + (1 : Int32)), u26)) = some (nI (c + need w cs m l k), v) := by
  intro m
  have h15 := T.h15 t2
  have hne : cs ≠ [] := fun e => by rw [e] at h0; simp at h0
  obtain ⟨r, er, er0, er30, er1⟩ := T.top hne
  have hzm := (T.1 (cs.length - 1) (by omega)).1.mem (rootOf cs) (by rw [er]; exact List.mem_cons_self)
  induction m with
  | zero => intro c k l d h1 h2; omega
  | succ m ih =>
    intro c k l d h1 h2 hd hk
    obtain ⟨d, rfl⟩ : ∃ e, d = e + 1 := ⟨d - 1, by omega⟩
    rw [m_Ref_needed_L12, r_root h, obS, T.2.2.2.2.1, lN_i, r_level h er30, obS, hzm.2.1, lN_i]
    by_cases e : cs.length ≤ l
    · rw [need, if_pos e, if_pos (nI_lt (by omega) (by omega)), ol1R, a1]
    · have hl : l < cs.length := by omega
      have hm := fk_mem T k hl
      have hf30 := ((T.1 l hl).1.mem _ hm).1.2
      rw [if_neg (nI_nlt (by omega) (by omega)), r_find T h hk hl, obS, r_rl h hf30, obS, need_step T hcl hl]
      have h6 := rl_le w (fk w cs l k)
      by_cases e6 : rl w (fk w cs l k) < 6
      · rw [if_neg (by rw [show (6 : Int32) = nI 6 from rfl]; exact nI_ge e6 (by omega)), if_pos e6, ol1I]; rfl
      · have hkk : m_Ref_keyAt v (nI (fk w cs l k)) (3 : Int32) = some (nI (kp w (fk w cs l k) 3), v) := by rw [← ((T.row hm).key (p := 3) (by omega)).1]; exact r_key (p := 3) h hf30 (by omega)
        rw [if_pos (by rw [show (6 : Int32) = nI 6 from rfl]; exact nI_le (by omega) (by omega)), if_neg e6, hkk, obS, a1, a1, ih (c + 1) _ (l + 1) d (by omega) (by omega) (by omega) ((T.row hm).key (p := 3) (by omega)).2]
        rw [show c + 1 + need w cs m (l + 1) (kp w (fk w cs l k) 3) = c + (1 + need w cs m (l + 1) (kp w (fk w cs l k) 3)) by omega]
theorem r_needed (T : TS w cs) (t2 : T2 cs) (hcl : allClean w cs) (h : RW v w) {b : Nat} (hb : b ∈ lvc cs 0) (h6 : rl w b = 6) : m_Ref_needed v (nI b) = some (nI (1 + need w cs 40 1 (kp w b 3)), v) := by
  have h15 := T.h15 t2
  have h0 := lvc_in hb
  have hb30 := ((T.1 0 h0).1.mem _ hb).1.2
  have hkk : m_Ref_keyAt v (nI b) (3 : Int32) = some (nI (kp w b 3), v) := by rw [← ((T.row hb).key (p := 3) (by omega)).1]; exact r_key (p := 3) h hb30 (by omega)
  rw [m_Ref_needed, hkk, obS]
  exact r_need_L T t2 h0 hcl h 40 1 _ 1 fz (by omega) (by omega) (by unfold fz; omega) ((T.row hb).key (p := 3) (by omega)).2
theorem need_le (w : Mem) (cs : List (List Nat)) : ∀ (n l q : Nat), need w cs n l q ≤ n := by
  intro n
  induction n with
  | zero => intro l q; exact Nat.le_refl _
  | succ n ih =>
    intro l q
    rw [need]
    by_cases e : cs.length ≤ l
    · rw [if_pos e]; omega
    · rw [if_neg e]
      by_cases e2 : kc w (fk w cs l q) < 6
      · rw [if_pos e2]; omega
      · rw [if_neg e2]; have := ih (l + 1) (kth (ksB w (fk w cs l q)) 3 1000); omega
theorem frN_le (B : List Nat) : frN B ≤ 30 := cnt_le _ 30
end Nd
