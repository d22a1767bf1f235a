/-! PURE: put in the tree: class and reference -/
theorem r_hang_brk {v : SR} (hb : rg_br v ≠ 0) (a l : Int32) : m_Ref_hang v a l = some ((), rs_ris v (upd (rg_ris v) (0 : Int32).toNatClampNeg a)) := by
  have hb2 : rg_br (rs_ris v (upd (rg_ris v) (0 : Int32).toNatClampNeg a)) ≠ 0 := hb
  rw [m_Ref_hang, if_pos (show inb (0 : Int32) 16 = true by decide), if_neg hb, m_Ref_hang_J21, show fz = 3999 + 1 from rfl, m_Ref_hang_L26, if_pos rfl, ol2R, if_pos rfl, m_Ref_hang_J203, show fz = 3999 + 1 from rfl, r_h_end hb2, ol0R]
section En
variable {u : SM} {vv : SR} {M : MM} {cs : List (List Nat)} {hs : Nat → List Nat} {k x b : Nat} {v : Int32}
theorem c_insT (h : inC u M) (h0 : M.2.1 = []) (hx : x ≤ 30) (hE : rowE M.1 x) (hk : k < 1000) (h6 : rl M.1 x < 6) : okT (m_Tree_enter_J127 u (ent k v) (nI x)) (insT M x k v) := by
  obtain ⟨u1, hu⟩ := c_insert (x := v) h h0 hx hE hk h6
  refine ⟨u1, ?_⟩
  unfold insT
  rw [m_Tree_enter_J127]
  cases e : fsM (insL M.1 x (cl M.1 x k) (rl M.1 x) (ent k v)) M with
  | inl M' => rw [e] at hu; exact ⟨by rw [hu.1, obS, if_pos rfl], hu.2⟩
  | inr M' => rw [e] at hu; exact ⟨by rw [hu.1, obS, if_neg (by decide)], hu.2⟩
theorem r_insT (h : inR vv M 0) (h0 : M.2.1 = []) (T : TS M.1 cs) (hL : 0 < cs.length) (hk : k < 1000) (h6 : rl M.1 (fk M.1 cs 0 k) < 6) : okS (m_Ref_putTree_J118 vv (nI k) v) (rg_cd vv) (insT M (fk M.1 cs 0 k) k v) := by
  have hm := fk_mem T k hL
  have hr := ((T.1 0 hL).1.mem _ hm).1
  obtain ⟨v1, e1, hv⟩ := r_insert (x := v) h h0 hr.2 (T.row hm) (T.2.2.2.2.2 0 hL _ hm) hk h6
  refine ⟨1, v1, ?_, gk_cd (pr_insert rfl _ _ _ _ e1), ?_⟩
  · rw [m_Ref_putTree_J118, if_pos h.b1, r_find0 T h.1 hk hL, obS, r_entry _ (by omega), obS, e1, obS]
  · unfold insT
    cases e : fsM (insL M.1 (fk M.1 cs 0 k) (cl M.1 (fk M.1 cs 0 k) k) (rl M.1 (fk M.1 cs 0 k)) (ent k v)) M with
    | inl M' => rw [e] at hv; exact hv
    | inr M' => rw [e] at hv; exact ⟨rfl, hv⟩
theorem c_enter (U : Up M cs hs) (h : inC u M) (hk : k < 1000) : okT (m_Tree_enter u (nI k) v) (putT hs M cs k v) := by
  have U' := U
  obtain ⟨Bs, hcl, hns, h0⟩ := U
  have T := Bs.1
  have hG := T.gb Bs.2.2.1
  unfold putT
  by_cases eL : cs.length = 0
  · rw [if_pos eL]
    have hc0 : cs = [] := List.length_eq_zero_iff.mp eL
    have hw : M.1 0 = lN 0 := by rw [T.2.2.2.2.1, hc0]; rfl
    have hbi : m_Blocks_blockIn u (0 : Int32) = some (0, u) := by
      have := c_blockIn h.1 (a := 0) (by omega)
      rw [hw, blk_lN (by omega)] at this
      exact this
    rw [m_Tree_enter, c_entryOf _ (by omega), obS, hbi, obS, if_pos rfl, ob_id]
    exact c_plant h h0 hG (ent k v)
  · have hL : 0 < cs.length := by omega
    have hne : cs ≠ [] := fun e => by rw [e] at hL; simp at hL
    have hm := fk_mem T k hL
    have hr := ((T.1 0 hL).1.mem _ hm).1
    obtain ⟨r, er, er0, er30, er1⟩ := T.top hne
    have hbi : m_Blocks_blockIn u (0 : Int32) = some (nI (rootOf cs), u) := by
      have := c_blockIn h.1 (a := 0) (by omega)
      rw [T.2.2.2.2.1, blk_lN er30] at this
      exact this
    rw [if_neg eL, m_Tree_enter, c_entryOf _ (by omega), obS, hbi, obS, if_neg (nI_ne0 (by omega) (by omega)), c_seek T h.1 hk hL, obS]
    have h6l := rl_le M.1 (fk M.1 cs 0 k)
    have hcl6 := cl_le M.1 (fk M.1 cs 0 k) k
    by_cases eh : hasK M.1 (fk M.1 cs 0 k) k = true
    · have hlt := (hasK_iff.mp eh).1
      rw [if_pos eh, if_pos eh, if_neg (nI_ne0 (by omega) (by omega))]
      obtain ⟨u1, hu1⟩ := c_firm h h0 (a := 9 * fk M.1 cs 0 k + 3 + cl M.1 (fk M.1 cs 0 k) k) (by omega) (ent k v)
      refine ⟨u1, ?_⟩
      unfold repT
      cases e : firmM M (9 * fk M.1 cs 0 k + 3 + cl M.1 (fk M.1 cs 0 k) k) (ent k v) with
      | inl M' => rw [e] at hu1; exact ⟨by rw [hu1.1, obS, if_pos rfl], hu1.2⟩
      | inr M' => rw [e] at hu1; exact ⟨by rw [hu1.1, obS, if_neg (by decide)], hu1.2⟩
    · rw [if_neg eh, if_neg eh, if_pos rfl, c_find0 T h.1 hk hL, obS, c_isFull h.1 hr.2, obS]
      have hnk := no_key (T.2.2.2.2.2 0 hL _ hm) eh
      by_cases e6 : rl M.1 (fk M.1 cs 0 k) < 6
      · rw [if_pos e6, if_neg (show ¬ rl M.1 (fk M.1 cs 0 k) = 6 by omega), if_pos rfl]
        exact c_insT h h0 hr.2 (T.row hm) hk e6
      · have h6 : rl M.1 (fk M.1 cs 0 k) = 6 := by omega
        have hn41 := need_le M.1 cs 40 1 (kp M.1 (fk M.1 cs 0 k) 3)
        have hf30 := frN_le (bls cs hs)
        rw [if_neg e6, if_pos h6, if_neg (by decide), c_countFree hG h.1, obS, c_bts T Bs.2.1 hcl h.1 hm h6, obS]
        by_cases ef : frN (bls cs hs) < 1 + need M.1 cs 40 1 (kp M.1 (fk M.1 cs 0 k) 3)
        · rw [if_pos ef, if_neg (nI_ge ef (by omega))]
          exact ⟨u, rfl, h⟩
        · rw [if_neg ef, if_pos (nI_le (by omega) (by omega))]
          have hf := ffr_fst (B := bls cs hs) (by omega)
          have hf1 := hf.1
          have hf2 := hf.2.1
          obtain ⟨u1, hu1⟩ := c_split h h0 hG hf (T.sp hm h6)
          rcases put_split U' hk hL rfl h6 hnk hf (by omega) with ⟨M', g1, g2, g3⟩ | ⟨M1, g1, g2, g3, g4⟩
          · rw [g1] at hu1 ⊢
            exact ⟨u1, by rw [hu1.1, obS, if_pos rfl], hu1.2⟩
          · rw [g1] at hu1 ⊢
            have h30 := g3.1.1.hgt
            have post := hang_post 40 M1 _ _ 1 g3 (by omega)
            obtain ⟨u2, hu2⟩ := c_hang 40 u1 M1 _ _ 1 40 g3 (by omega) (by omega) hu1.2
            rw [hu1.1, obS, if_neg (nI_ne0 (by omega) (by omega))]
            simp only
            cases eh : hangM hs 40 M1 (csI cs 0 (fk M.1 cs 0 k) (ffr (bls cs hs))) (ffr (bls cs hs)) 1 with
            | inl M' =>
              rw [eh] at hu2
              exact ⟨u2, by rw [show m_Tree_hang 40 u1 (nI (ffr (bls cs hs))) (1 : Int32) = some (0, u2) from hu2.1, obS, if_pos rfl], hu2.2⟩
            | inr q =>
              rw [eh] at hu2 post
              obtain ⟨z1, z2, z3, z4, z5, z6⟩ := g4 q post
              have hL2 := lvc_in z2
              have hr2 := ((z1.1.1.1 0 hL2).1.mem _ z2).1
              rw [show m_Tree_hang 40 u1 (nI (ffr (bls cs hs))) (1 : Int32) = some (1, u2) from hu2.1, obS, if_neg (by decide), c_find0 z1.1.1 hu2.2.1 hk hL2, obS]
              exact c_insT hu2.2 z1.2.2.2 hr2.2 (z1.1.1.row z2) hk z5
theorem r_putTree (U : Up M cs hs) (h : inR vv M 0) (hk : k < 1000) : okS (m_Ref_putTree vv (nI k) v) (rg_cd vv) (putT hs M cs k v) := by
  have U' := U
  obtain ⟨Bs, hcl, hns, h0⟩ := U
  have T := Bs.1
  have hG := T.gb Bs.2.2.1
  unfold putT
  rw [m_Ref_putTree, r_root h.1, obS, T.2.2.2.2.1, lN_i]
  by_cases eL : cs.length = 0
  · rw [if_pos eL]
    have hc0 : cs = [] := List.length_eq_zero_iff.mp eL
    rw [if_pos (by rw [hc0]; rfl)]
    obtain ⟨f, hf⟩ := r_countFree hG h.1
    have hf30 := frN_le (bls cs hs)
    have hrea : inR (rs_rea vv f) M 0 := h.rea f
    rw [hf, obS]
    unfold plaT
    by_cases ef : frN (bls cs hs) = 0
    · rw [if_pos ef, ef, if_pos (show nI 0 = 0 from rfl)]
      exact ⟨-1, rs_rea vv f, rfl, rfl, rfl, hrea⟩
    · rw [if_neg ef, if_neg (nI_ne0 (by omega) (by omega)), r_entry _ (by omega), obS, ← ob_assoc]
      obtain ⟨v1, e1, hv1⟩ := r_plant (B := bls cs hs) hrea h0 hG (ent k v) (by omega)
      have hg : gk v1 = gk (rs_rea vv f) := pr_ob (pr_make rfl _ _ _ _ _ _) (fun _ _ h => pr_firm h _ _) _ _ e1
      rw [e1, obS]
      refine ⟨1, v1, rfl, gk_cd hg, ?_⟩
      cases e : plaM M (ent k v) (ffr (bls cs hs)) with
      | inl M' => rw [e] at hv1; exact hv1
      | inr M' => rw [e] at hv1; exact ⟨rfl, hv1⟩
  · have hL : 0 < cs.length := by omega
    have hne : cs ≠ [] := fun e => by rw [e] at hL; simp at hL
    have hm := fk_mem T k hL
    have hr := ((T.1 0 hL).1.mem _ hm).1
    obtain ⟨r, er, er0, er30, er1⟩ := T.top hne
    have h6l := rl_le M.1 (fk M.1 cs 0 k)
    have hcl6 := cl_le M.1 (fk M.1 cs 0 k) k
    rw [if_neg eL, if_neg (nI_ne0 (by omega) (by omega)), r_find0 T h.1 hk hL, obS, r_place0 T h.1 hk hL, obS]
    by_cases eh : hasK M.1 (fk M.1 cs 0 k) k = true
    · have hlt := (hasK_iff.mp eh).1
      rw [if_pos eh, if_pos eh, if_neg (nI_pos (by omega)), r_entry _ (by omega), obS, pl_addr']
      obtain ⟨v1, e1, hv1⟩ := r_firm h h0 (a := 9 * fk M.1 cs 0 k + 3 + cl M.1 (fk M.1 cs 0 k) k) (by omega) (ent k v)
      rw [e1, obS]
      refine ⟨0, v1, rfl, gk_cd (pr_firm rfl _ _ _ _ e1), ?_⟩
      unfold repT
      cases e : firmM M (9 * fk M.1 cs 0 k + 3 + cl M.1 (fk M.1 cs 0 k) k) (ent k v) with
      | inl M' => rw [e] at hv1; exact hv1
      | inr M' => rw [e] at hv1; exact ⟨rfl, hv1⟩
    · rw [if_neg eh, if_neg eh, if_pos (by decide), r_rl h.1 hr.2, obS]
      have hnk := no_key (T.2.2.2.2.2 0 hL _ hm) eh
      by_cases e6 : rl M.1 (fk M.1 cs 0 k) < 6
      · rw [if_pos e6, if_neg (by rw [show (6 : Int32) = nI 6 from rfl, nI_eq (by omega) (by omega)]; omega)]
        exact r_insT h h0 T hL hk e6
      · have h6 : rl M.1 (fk M.1 cs 0 k) = 6 := by omega
        have hn41 := need_le M.1 cs 40 1 (kp M.1 (fk M.1 cs 0 k) 3)
        have hf30 := frN_le (bls cs hs)
        obtain ⟨f, hf⟩ := r_countFree hG h.1
        have hrea : inR (rs_rea vv f) M 0 := h.rea f
        rw [if_neg e6, h6, if_pos (show nI 6 = 6 from rfl), hf, obS, r_needed T Bs.2.1 hcl hrea.1 hm h6, obS]
        by_cases ef : frN (bls cs hs) < 1 + need M.1 cs 40 1 (kp M.1 (fk M.1 cs 0 k) 3)
        · rw [if_pos ef, if_neg (nI_ge ef (by omega))]
          exact ⟨-1, rs_rea vv f, rfl, rfl, rfl, hrea⟩
        · rw [if_neg ef, if_pos (nI_le (by omega) (by omega))]
          have hfr := ffr_fst (B := bls cs hs) (by omega)
          obtain ⟨v1, e1, hv1⟩ := r_split hrea h0 hG hfr (T.sp hm h6)
          have hg1 : rg_cd v1 = rg_cd vv := gk_cd (pr_split (v := rs_rea vv f) rfl _ _ _ e1)
          rw [e1, obS]
          rcases put_split U' hk hL rfl h6 hnk hfr (by omega) with ⟨M', g1, g2, g3⟩ | ⟨M1, g1, g2, g3, g4⟩
          · rw [g1] at hv1 ⊢
            simp only at hv1
            have hb1 : rg_br v1 ≠ 0 := by rw [hv1.b1]; decide
            have hb2 : rg_br (rs_ris v1 (upd (rg_ris v1) (0 : Int32).toNatClampNeg (nI (ffr (bls cs hs))))) ≠ 0 := hb1
            rw [r_hang_brk hb1, obS, m_Ref_putTree_J118, if_neg hb2]
            exact ⟨1, _, rfl, hg1, hv1⟩
          · rw [g1] at hv1 ⊢
            simp only at hv1
            have h30 := g3.1.1.hgt
            have post := hang_post 40 M1 _ _ 1 g3 (by omega)
            obtain ⟨v2, e2, hc2, hv2⟩ := r_hang g3 hv1
            rw [show m_Ref_hang v1 (nI (ffr (bls cs hs))) (1 : Int32) = some ((), v2) from e2, obS]
            simp only
            cases eh : hangM hs 40 M1 (csI cs 0 (fk M.1 cs 0 k) (ffr (bls cs hs))) (ffr (bls cs hs)) 1 with
            | inl M' =>
              rw [eh] at hv2
              rw [m_Ref_putTree_J118, if_neg (by rw [hv2.b1]; decide)]
              exact ⟨1, v2, rfl, hc2.trans hg1, hv2⟩
            | inr q =>
              rw [eh] at hv2 post
              obtain ⟨z1, z2, z3, z4, z5, z6⟩ := g4 q post
              have := r_insT (v := v) hv2 z1.2.2.2 z1.1.1 (lvc_in z2) hk z5
              rw [hc2, hg1] at this
              exact this
end En
