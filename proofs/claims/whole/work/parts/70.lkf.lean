/-! PURE: from: the class -/
section Lk
variable {u : SM} {w : Mem} {cs : List (List Nat)}
theorem c_next' (T : TS w cs) (h : CW u w) {L b : Nat} (hb : b ∈ lvc cs L) : m_Blocks_nextOf u (nI b) = some (nI (nxN w b), u) := by
  have hL := lvc_in hb
  have hr := ((T.1 L hL).1.mem b hb).1
  obtain ⟨n, h1, h2⟩ := (T.1 L hL).1.next b hb
  have hn : n ≤ 30 := by
    rcases h2 with q | q
    · omega
    · exact ((T.1 L hL).1.mem n q).1.2
  rw [c_next h hr.2, h1, blk_lN hn, nxN_of h1 hn]
theorem r_next2 {v : SR} (T : TS w cs) (h : RW v w) {L b : Nat} (hb : b ∈ lvc cs L) : m_Ref_next v (nI b) = some (nI (nxN w b), v) := by
  have hL := lvc_in hb
  have hr := ((T.1 L hL).1.mem b hb).1
  obtain ⟨n, h1, h2⟩ := (T.1 L hL).1.next b hb
  have hn : n ≤ 30 := by
    rcases h2 with q | q
    · omega
    · exact ((T.1 L hL).1.mem n q).1.2
  rw [r_next h hr.2, h1, lN_i, nxN_of h1 hn]
theorem nx_tail (T : TS w cs) {L b : Nat} {pre r : List Nat} (e : lvc cs L = pre ++ b :: r) : nxN w b = r.headD 0 := by
  have hb : b ∈ lvc cs L := by rw [e]; simp
  have hL := lvc_in hb
  have ht := (T.1 L hL).1
  have ht2 : tch w L (b :: r) := tch.suffix pre (by rw [← e]; exact ht)
  have hh : r.headD 0 ≤ 30 := by
    rcases headD_cases (c := r) with ⟨-, q⟩ | ⟨b2, r2, q1, q2⟩
    · omega
    · rw [q2]; exact (ht.mem b2 (by rw [e, q1]; simp)).1.2
  exact nxN_of ht2.2.2.1 hh
theorem c_endOf (T : TS w cs) (h : CW u w) {L b : Nat} (hb : b ∈ lvc cs L) : m_Tree_endOf u (nI b) = some (nI (ubd w b), u) := by
  have hL := lvc_in hb
  rw [m_Tree_endOf, c_next' T h hb, obS]
  unfold ubd
  rcases T.nx hb with q | q
  · rw [q, if_pos (show nI 0 = 0 from rfl), if_pos rfl]; rfl
  · have hm := (T.1 L hL).1.mem _ q
    rw [if_neg (nI_ne0 (by omega) (by omega)), if_neg (by omega), c_low h hm.1.2, obS, lo_i hm.2.2.1]
theorem leaf_lo (T : TS w cs) {b p : Nat} (hb : b ∈ lvc cs 0) (hp : p < rl w b) : lo w b ≤ kp w b p := by
  have h6 := rl_le w b
  rcases T.2.2.1 b hb p (by omega) with q | ⟨k, v, q1, q2, q3⟩
  · exact absurd q (rl_nz hp)
  · unfold kp; rw [q1, kN_ent _ (by omega)]; exact q2
theorem has_of {b : Nat} (hs : wst w b) {p k : Nat} (hp : p < rl w b) (e : kp w b p = k) : hasK w b k = true := by
  cases h : hasK w b k with
  | true => rfl
  | false => exact absurd e (no_key hs (by rw [h]; decide) p hp)
end Lk
section Lk2
variable {u : SM} {M : MM} {cs : List (List Nat)} {hs : Nat → List Nat} {k : Nat}
theorem rd0_iff (hL : 0 < cs.length) {kk a : Nat} : rdT hs cs M.1 0 kk = some a ↔ hasK M.1 (fk M.1 cs 0 kk) kk = true ∧ a = 9 * fk M.1 cs 0 kk + 3 + cl M.1 (fk M.1 cs 0 kk) kk := by
  unfold rdT
  rw [if_neg (by decide), if_neg (by omega)]
  by_cases e : hasK M.1 (fk M.1 cs 0 kk) kk = true
  · rw [if_pos e]; exact ⟨fun q => ⟨e, by cases q; rfl⟩, fun q => by rw [q.2]⟩
  · rw [if_neg e]; exact ⟨(fun q => by cases q), fun q => absurd q.1 e⟩
theorem c_lkf_L (Bs : Base M.1 cs hs) (h : CW u M.1) (hk : k < 1000) : ∀ (r pre : List Nat) (b cn n : Nat), lvc cs 0 = pre ++ b :: r → cn + (r.length + 1) ≤ 30 → 31 ≤ cn + n → (∀ kk a, k ≤ kk → kk < 1000 → rdT hs cs M.1 0 kk = some a → lo M.1 b ≤ kk) →
    ∃ m, ol0 (m_Tree_leastKeyFrom_L9 n u (nI b) (nI cn) (nI k)) id (fun u33 => some ((1000 : Int32), u33)) = some (nI m, u) ∧ Lst hs cs M.1 k m 279 := by
  have T := Bs.1
  intro r
  induction r with
  | nil =>
    intro pre b cn n e hc hn hlo
    obtain ⟨n, rfl⟩ : ∃ e, n = e + 1 := ⟨n - 1, by omega⟩
    have hb : b ∈ lvc cs 0 := by rw [e]; simp
    have hL := lvc_in hb
    have hr := ((T.1 0 hL).1.mem b hb).1
    have hw := T.2.2.2.2.2 0 hL b hb
    have hub := T.ub e hL
    have hnx := nx_tail T e
    rw [List.length_nil] at hc
    have hcl := cl_le M.1 b k
    have h6 := rl_le M.1 b
    rw [m_Tree_leastKeyFrom_L9, if_neg (by rw [show (30 : Int32) = nI 30 from rfl]; exact nI_ge (by omega) (by omega)), if_neg (nI_ne0 (by omega) (by omega)), c_cl h hr.2 (T.row hb) hk, obS, c_rl h hr.2, obS, a1]
    have inb : ∀ kk a, k ≤ kk → kk < 1000 → rdT hs cs M.1 0 kk = some a → kk < ubd M.1 b → ∃ p, cl M.1 b k ≤ p ∧ p < rl M.1 b ∧ kp M.1 b p = kk := by
      intro kk a z1 z2 z3 z4
      have hf := fk_uniq T hb (hlo kk a z1 z2 z3) z4
      obtain ⟨g1, -⟩ := (rd0_iff hL).mp z3
      rw [hf] at g1
      obtain ⟨g2, g3⟩ := hasK_iff.mp g1
      refine ⟨cl M.1 b kk, ?_, g2, g3⟩
      rcases Nat.lt_or_ge (cl M.1 b kk) (cl M.1 b k) with y | y
      · have := cl_lt y; omega
      · exact y
    have stop : ∀ n' cn', 0 < n' → ol0 (m_Tree_leastKeyFrom_L9 n' u (nI (nxN M.1 b)) (nI cn') (nI k)) id (fun u33 => some ((1000 : Int32), u33)) = some (nI 1000, u) := by
      intro n' cn' h1
      obtain ⟨n', rfl⟩ : ∃ e, n' = e + 1 := ⟨n' - 1, by omega⟩
      rw [hnx, m_Tree_leastKeyFrom_L9]
      by_cases c : (30 : Int32) ≤ nI cn'
      · rw [if_pos c]; rfl
      · rw [if_neg c, if_pos (show nI (([] : List Nat).headD 0) = 0 from rfl)]; rfl
    have fin : (∀ p, cl M.1 b k ≤ p → p < rl M.1 b → 1000 ≤ kp M.1 b p) → Lst hs cs M.1 k 1000 279 := fun g => ⟨Nat.le_refl _, Or.inl rfl, fun kk a z1 z2 z3 z4 => by
      obtain ⟨p, y1, y2, y3⟩ := inb kk a z1 z2 z3 (by rw [hub.1 rfl]; exact z2)
      have := g p y1 y2; omega⟩
    by_cases c1 : rl M.1 b ≤ cl M.1 b k
    · rw [if_pos (nI_le c1 (by omega)), c_next' T h hb, obS]
      exact ⟨1000, stop n (cn + 1) (by omega), fin (fun p z1 z2 => by omega)⟩
    · have hky := (T.row hb).key (p := cl M.1 b k) (by omega)
      rw [if_neg (nI_ge (by omega) (by omega)), c_key h hr.2 (by omega), obS, hky.1, c_endOf T h hb, obS, if_neg (nI_ge (by rw [hub.1 rfl]; exact hky.2) (by rw [hub.1 rfl]; omega)), c_key h hr.2 (by omega), obS, hky.1]
      refine ⟨kp M.1 b (cl M.1 b k), rfl, by omega, Or.inr ⟨cl_ge (by omega), 9 * fk M.1 cs 0 (kp M.1 b (cl M.1 b k)) + 3 + cl M.1 (fk M.1 cs 0 (kp M.1 b (cl M.1 b k))) (kp M.1 b (cl M.1 b k)), (rd0_iff hL).mpr ⟨?_, rfl⟩⟩, fun kk a z1 z2 z3 z4 => ?_⟩
      · rw [fk_uniq T hb (leaf_lo T hb (by omega)) (by rw [hub.1 rfl]; exact hky.2)]
        exact has_of hw (by omega) rfl
      · obtain ⟨p, y1, y2, y3⟩ := inb kk a z1 z2 z3 (by rw [hub.1 rfl]; exact z2)
        have := hw.le (p - cl M.1 b k) (cl M.1 b k) (by omega)
        rw [show cl M.1 b k + (p - cl M.1 b k) = p by omega] at this
        omega
  | cons c r ih =>
    intro pre b cn n e hc hn hlo
    obtain ⟨n, rfl⟩ : ∃ e, n = e + 1 := ⟨n - 1, by omega⟩
    have hb : b ∈ lvc cs 0 := by rw [e]; simp
    have hL := lvc_in hb
    have hr := ((T.1 0 hL).1.mem b hb).1
    have hw := T.2.2.2.2.2 0 hL b hb
    have hub := T.ub e hL
    have hnx : nxN M.1 b = c := nx_tail T e
    have hcm : c ∈ lvc cs 0 := by rw [e]; simp
    have hcr := ((T.1 0 hL).1.mem c hcm).1
    have hubc : ubd M.1 b = lo M.1 c := by unfold ubd; rw [hnx, if_neg (by omega)]
    rw [List.length_cons] at hc
    have hcl := cl_le M.1 b k
    have h6 := rl_le M.1 b
    rw [m_Tree_leastKeyFrom_L9, if_neg (by rw [show (30 : Int32) = nI 30 from rfl]; exact nI_ge (by omega) (by omega)), if_neg (nI_ne0 (by omega) (by omega)), c_cl h hr.2 (T.row hb) hk, obS, c_rl h hr.2, obS, a1]
    have inb : ∀ kk a, k ≤ kk → kk < 1000 → rdT hs cs M.1 0 kk = some a → kk < ubd M.1 b → ∃ p, cl M.1 b k ≤ p ∧ p < rl M.1 b ∧ kp M.1 b p = kk := by
      intro kk a z1 z2 z3 z4
      have hf := fk_uniq T hb (hlo kk a z1 z2 z3) z4
      obtain ⟨g1, -⟩ := (rd0_iff hL).mp z3
      rw [hf] at g1
      obtain ⟨g2, g3⟩ := hasK_iff.mp g1
      refine ⟨cl M.1 b kk, ?_, g2, g3⟩
      rcases Nat.lt_or_ge (cl M.1 b kk) (cl M.1 b k) with y | y
      · have := cl_lt y; omega
      · exact y
    have go : (∀ p, cl M.1 b k ≤ p → p < rl M.1 b → ubd M.1 b ≤ kp M.1 b p) → ∃ m, ol0 (m_Tree_leastKeyFrom_L9 n u (nI (nxN M.1 b)) (nI (cn + 1)) (nI k)) id (fun u33 => some ((1000 : Int32), u33)) = some (nI m, u) ∧ Lst hs cs M.1 k m 279 := fun g => by
      rw [hnx]
      refine ih (pre ++ [b]) c (cn + 1) n (by rw [e]; simp) (by omega) (by omega) (fun kk a z1 z2 z3 => ?_)
      rcases Nat.lt_or_ge kk (ubd M.1 b) with y | y
      · obtain ⟨p, y1, y2, y3⟩ := inb kk a z1 z2 z3 y
        have := g p y1 y2; omega
      · rw [← hubc]; exact y
    by_cases c1 : rl M.1 b ≤ cl M.1 b k
    · rw [if_pos (nI_le c1 (by omega)), c_next' T h hb, obS]
      exact go (fun p z1 z2 => by omega)
    · have hky := (T.row hb).key (p := cl M.1 b k) (by omega)
      have hub3 := hub.2.2.1
      rw [if_neg (nI_ge (by omega) (by omega)), c_key h hr.2 (by omega), obS, hky.1, c_endOf T h hb, obS]
      have mono : ∀ p, cl M.1 b k ≤ p → p < rl M.1 b → kp M.1 b (cl M.1 b k) ≤ kp M.1 b p := fun p y1 y2 => by
        have := hw.le (p - cl M.1 b k) (cl M.1 b k) (by omega)
        rw [show cl M.1 b k + (p - cl M.1 b k) = p by omega] at this
        exact this
      by_cases c2 : ubd M.1 b ≤ kp M.1 b (cl M.1 b k)
      · rw [if_pos (nI_le c2 (by omega)), c_next' T h hb, obS]
        exact go (fun p z1 z2 => by have := mono p z1 z2; omega)
      · rw [if_neg (nI_ge (by omega) (by omega)), c_key h hr.2 (by omega), obS, hky.1]
        refine ⟨kp M.1 b (cl M.1 b k), rfl, by omega, Or.inr ⟨cl_ge (by omega), 9 * fk M.1 cs 0 (kp M.1 b (cl M.1 b k)) + 3 + cl M.1 (fk M.1 cs 0 (kp M.1 b (cl M.1 b k))) (kp M.1 b (cl M.1 b k)), (rd0_iff hL).mpr ⟨?_, rfl⟩⟩, fun kk a z1 z2 z3 z4 => ?_⟩
        · rw [fk_uniq T hb (leaf_lo T hb (by omega)) (by omega)]
          exact has_of hw (by omega) rfl
        · rcases Nat.lt_or_ge kk (ubd M.1 b) with y | y
          · obtain ⟨p, y1, y2, y3⟩ := inb kk a z1 z2 z3 y
            have := mono p y1 y2
            omega
          · omega
theorem c_lkf (Bs : Base M.1 cs hs) (h : CW u M.1) (hk : k < 1000) : ∃ m, m_Tree_leastKeyFrom u (nI k) = some (nI m, u) ∧ Lst hs cs M.1 k m 279 := by
  have T := Bs.1
  by_cases e0 : cs.length = 0
  · have hc0 : cs = [] := List.length_eq_zero_iff.mp e0
    refine ⟨1000, ?_, Nat.le_refl _, Or.inl rfl, fun kk a z1 z2 z3 => ?_⟩
    · rw [m_Tree_leastKeyFrom, c_find_none h (by rw [T.2.2.2.2.1, hc0]; rfl), obS, show fz = 3999 + 1 from rfl, m_Tree_leastKeyFrom_L9, if_neg (by decide), if_pos rfl]; rfl
    · unfold rdT at z3; rw [if_neg (by decide), if_pos e0] at z3; cases z3
  · have hL : 0 < cs.length := by omega
    have hm := fk_mem T k hL
    obtain ⟨pre, r, e⟩ := List.append_of_mem hm
    rw [m_Tree_leastKeyFrom, c_find0 T h hk hL, obS]
    have hnd : (lvc cs 0).length ≤ 30 := nd_le 30 _ (nd_part T.2.2.2.1) (fun x hx => T.rng (lvc_flat hx))
    rw [e] at hnd
    simp at hnd
    refine c_lkf_L Bs h hk r pre _ 0 fz e (by omega) (by unfold fz; omega) (fun kk a z1 z2 z3 => ?_)
    have := fk_lo T k hL
    omega
end Lk2
