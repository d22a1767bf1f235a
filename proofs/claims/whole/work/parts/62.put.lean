/-! PURE: put, in the tree -/
theorem POut.trans {M M1 : MM} {hs : Nat → List Nat} {o : MM ⊕ (Int32 × MM)} (h : endO M M1) (P : POut M1 hs o) : POut M hs o := by
  cases o with
  | inl M' => exact ⟨endC.trans h P.1, P.2⟩
  | inr q => exact ⟨endO.trans h P.1, P.2⟩
section Sk
variable {u : SM} {v : SR} {w : Mem} {cs : List (List Nat)} {k : Nat}
theorem c_find0 (T : TS w cs) (h : CW u w) (hk : k < 1000) (hne : 0 < cs.length) : m_Tree_find u (nI k) (0 : Int32) = some (nI (fk w cs 0 k), u) := c_find (lev := 0) T h hk hne
theorem r_find0 (T : TS w cs) (h : RW v w) (hk : k < 1000) (hne : 0 < cs.length) : m_Ref_find v (nI k) (0 : Int32) = some (nI (fk w cs 0 k), v) := r_find (lev := 0) T h hk hne
def hasK (w : Mem) (x k : Nat) : Bool := decide (cl w x k < rl w x ∧ kp w x (cl w x k) = k)
theorem hasK_iff {x : Nat} : hasK w x k = true ↔ cl w x k < rl w x ∧ kp w x (cl w x k) = k := by unfold hasK; exact decide_eq_true_iff
theorem c_seek (T : TS w cs) (h : CW u w) (hk : k < 1000) (hne : 0 < cs.length) : m_Tree_seek u (nI k) = some (if hasK w (fk w cs 0 k) k = true then nI (9 * fk w cs 0 k + 3 + cl w (fk w cs 0 k) k) else 0, u) := by
  have hm := fk_mem T k hne
  have hr := ((T.1 0 hne).1.mem _ hm).1
  have h6 := rl_le w (fk w cs 0 k)
  have hc := cl_le w (fk w cs 0 k) k
  rw [m_Tree_seek, c_find0 T h hk hne, obS, c_cl h hr.2 (T.row hm) hk, obS, if_neg (nI_ne0 (by omega) (by omega)), c_rl h hr.2, obS]
  by_cases e : cl w (fk w cs 0 k) k < rl w (fk w cs 0 k)
  · have hky := (T.row hm).key e
    rw [if_neg (nI_ge e (by omega)), c_key h hr.2 (by omega), obS, hky.1]
    by_cases e2 : kp w (fk w cs 0 k) (cl w (fk w cs 0 k) k) = k
    · rw [if_pos (by rw [e2]), if_pos (hasK_iff.mpr ⟨e, e2⟩), m_Tree_seek_J45, if_neg (by decide), c_place, obS]
    · rw [if_neg (by rw [nI_eq (by omega) (by omega)]; exact e2), if_neg (fun q => e2 (hasK_iff.mp q).2), m_Tree_seek_J44, m_Tree_seek_J45, if_pos rfl]
  · rw [if_pos (nI_le (by omega) (by omega)), if_neg (fun q => e (hasK_iff.mp q).1), m_Tree_seek_J44, m_Tree_seek_J45, if_pos rfl]
theorem c_find_none (h : CW u w) (hw : w 0 = lN 0) (a b : Int32) : m_Tree_find u a b = some (0, u) := by
  have hb : m_Blocks_blockIn u (0 : Int32) = some (0, u) := by
    have := c_blockIn h (a := 0) (by omega)
    rw [hw, blk_lN (by omega)] at this
    exact this
  rw [m_Tree_find, hb, obS, show fz = 3999 + 1 from rfl, m_Tree_find_L12, if_neg (by decide), if_pos rfl, ol0R]
theorem c_seek_none (h : CW u w) (hw : w 0 = lN 0) (a : Int32) : m_Tree_seek u a = some (0, u) := by
  obtain ⟨y, hy⟩ := c_cl_any h (b := 0) (by omega) a
  have hy' : m_Tree_countLesser u (0 : Int32) a = some (y, u) := hy
  rw [m_Tree_seek, c_find_none h hw, obS, hy', obS, if_pos rfl, m_Tree_seek_J44, m_Tree_seek_J45, if_pos rfl]
theorem r_place0 (T : TS w cs) (h : RW v w) (hk : k < 1000) (hne : 0 < cs.length) : m_Ref_placeIn v (nI (fk w cs 0 k)) (nI k) = some (if hasK w (fk w cs 0 k) k = true then nI (cl w (fk w cs 0 k) k) else -1, v) := by
  have hm := fk_mem T k hne
  have hr := ((T.1 0 hne).1.mem _ hm).1
  rw [r_placeIn h hr.2 (T.row hm) (T.2.2.2.2.2 0 hne _ hm) hk]
  by_cases e : cl w (fk w cs 0 k) k < rl w (fk w cs 0 k) ∧ kp w (fk w cs 0 k) (cl w (fk w cs 0 k) k) = k
  · rw [if_pos e, if_pos (hasK_iff.mpr e)]
  · rw [if_neg e, if_neg (fun q => e (hasK_iff.mp q))]
theorem no_key {x : Nat} (hs : wst w x) (h : ¬ hasK w x k = true) : ∀ p, p < rl w x → kp w x p ≠ k := by
  intro p hp e
  rcases Nat.lt_or_ge p (cl w x k) with q | q
  · have := cl_lt q; omega
  · have h1 := cl_ge (w := w) (b := x) (k := k) (by omega)
    have h2 := hs.le (p - cl w x k) (cl w x k) (by omega)
    rw [show cl w x k + (p - cl w x k) = p by omega] at h2
    exact h (hasK_iff.mpr ⟨by omega, by omega⟩)
end Sk
def putT (hs : Nat → List Nat) (M : MM) (cs : List (List Nat)) (k : Nat) (v : Int32) : MM ⊕ (Int32 × MM) :=
  if cs.length = 0 then plaT M (ent k v) (bls cs hs)
  else if hasK M.1 (fk M.1 cs 0 k) k = true then repT M (fk M.1 cs 0 k) (cl M.1 (fk M.1 cs 0 k) k) k v
  else if rl M.1 (fk M.1 cs 0 k) < 6 then insT M (fk M.1 cs 0 k) k v
  else if frN (bls cs hs) < 1 + need M.1 cs 40 1 (kp M.1 (fk M.1 cs 0 k) 3) then .inr (-1, M)
  else match splM M (fk M.1 cs 0 k) (ffr (bls cs hs)) with
    | .inl M' => .inl M'
    | .inr M1 => match hangM hs 40 M1 (csI cs 0 (fk M.1 cs 0 k) (ffr (bls cs hs))) (ffr (bls cs hs)) 1 with
      | .inl M' => .inl M'
      | .inr q => insT q.1 (fk q.1.1 q.2 0 k) k v
section Pt
variable {u : SM} {vv : SR} {M : MM} {cs : List (List Nat)} {hs : Nat → List Nat} {k x b : Nat} {v : Int32}
theorem put_split (U : Up M cs hs) (hk : k < 1000) (hL : 0 < cs.length) (hx : x = fk M.1 cs 0 k) (h6 : rl M.1 x = 6) (hnk : ∀ p, p < rl M.1 x → kp M.1 x p ≠ k) (hb : fst (bls cs hs) b) (hnd : 1 + need M.1 cs 40 1 (kp M.1 x 3) ≤ frN (bls cs hs)) :
    (∃ M', splM M x b = .inl M' ∧ endC M M' ∧ ∃ cs', Dn M' cs' hs) ∨ (∃ M1, splM M x b = .inr M1 ∧ endO M M1 ∧ HPre M1 (csI cs 0 x b) hs b 1 ∧
      ∀ q : MM × List (List Nat), HPost M1 (csI cs 0 x b) hs 1 (.inr q) → Up q.1 q.2 hs ∧ fk q.1.1 q.2 0 k ∈ lvc q.2 0 ∧ lo q.1.1 (fk q.1.1 q.2 0 k) ≤ k ∧ k < ubd q.1.1 (fk q.1.1 q.2 0 k) ∧ rl q.1.1 (fk q.1.1 q.2 0 k) < 6 ∧ ∀ p, p < rl q.1.1 (fk q.1.1 q.2 0 k) → kp q.1.1 (fk q.1.1 q.2 0 k) p ≠ k) := by
  obtain ⟨Bs, hcl, hns, h0⟩ := U
  have T := Bs.1
  have hxm : x ∈ lvc cs 0 := by rw [hx]; exact fk_mem T _ hL
  have hc := hcl 0 x hxm
  have hbn : b ∉ cs.flatten := fun q => hb.2.2.1 (List.mem_append_left _ q)
  have hxb : x ≠ b := fun q => hbn (by rw [← q]; exact lvc_flat hxm)
  rcases split_img h0 hxb with ⟨M', g1, g2, g3⟩ | ⟨M1, g1, g2, g3, g4⟩
  · left
    refine ⟨M', g1, g2, ?_⟩
    rcases g3 with ho | S
    · obtain ⟨B', A, -⟩ := free_base Bs hb ho
      exact ⟨cs, B', DI.none (A.ns hns), g2.1⟩
    · exact ⟨csI cs 0 x b, (sp_base Bs hxm hc h6 hb S).1, (sp_DI0 Bs hcl hns hxm h6 hb S hnd).1, g2.1⟩
  · right
    obtain ⟨B1, hf1⟩ := sp_base Bs hxm hc h6 hb g3
    obtain ⟨D1, hstr⟩ := sp_DI0 Bs hcl hns hxm h6 hb g3 hnd
    obtain ⟨F1, F2, F3, F4, F5, F6, F7⟩ := sp_facts T hxm hc h6 hbn ⟨hb.1, hb.2.1⟩ g3
    obtain ⟨hlk, k1000, hfk, -, -⟩ := sp_core Bs hcl hxm h6 hb g3
    have neb : ∀ {l c}, c ∈ lvc cs l → c ≠ b := fun hc q => hbn (by rw [← q]; exact lvc_flat hc)
    have cl1 : allClean M1.1 (csI cs 0 x b) := by
      intro l c hc
      rcases csI_cls hxm hc with q | ⟨-, q⟩
      · by_cases ex : c = x
        · subst ex; exact (F7 g4).1
        · exact (hcl l c q).of_sb (g3.sb ex (neb q)) (F1 l c q ex).1
      · rw [q]; exact F6
    refine ⟨M1, g1, g2, ⟨B1, cl1, D1, g2.1, by omega, (hstr 0 b).mpr ⟨rfl, rfl⟩, fun L' z hL' hz => by have := ((hstr L' z).mp hz).1; omega⟩, ?_⟩
    rintro ⟨M2, cs2⟩ ⟨q1, q2, q3, q4, q5, q6, q7, q8⟩
    simp only at q1 q2 q3 q4 q5 q6 q7 q8 ⊢
    rw [csI_len] at q8
    have T1 := B1.1
    have T2' := q2.1
    have hL1 : 0 < (csI cs 0 x b).length := by rw [csI_len]; exact hL
    have hL2 : 0 < cs2.length := by omega
    have lowM : lowS M1.1 M2.1 (csI cs 0 x b) cs2 1 := ⟨q6, q7⟩
    have hfe : fk M2.1 cs2 0 k = fk M1.1 (csI cs 0 x b) 0 k := lowM.fkE (by omega)
    have hfm : fk M1.1 (csI cs 0 x b) 0 k ∈ lvc (csI cs 0 x b) 0 := fk_mem T1 _ hL1
    have hsb := q7 0 (by omega) _ hfm
    refine ⟨⟨q2, q3, fun l z hz => by have := ((q5 l z).mp hz).2; omega, q1.1⟩, fk_mem T2' k hL2, fk_lo T2' k hL2, fk_ub T2' hL2 hk, ?_, ?_⟩
    · rw [hfe, hsb.rl]
      obtain ⟨p3, r3, e3⟩ := List.append_of_mem hfm
      have hu3 := (T1.ub e3 hL1).2.2.1
      rw [← (cl1 0 _ hfm).kcE hu3]
      exact hfk k hx.symm hk
    · rw [hfe, hsb.rl]
      intro p hp e
      have hp6 := rl_le M1.1 (fk M1.1 (csI cs 0 x b) 0 k)
      rw [hsb.kp (by omega)] at e
      have hu := fk_ub T1 hL1 hk
      have hl := fk_lo T1 k hL1
      have hks : ksB M1.1 (fk M1.1 (csI cs 0 x b) 0 k) k = true := ksB_iff.mpr ⟨hu, p, hp, e⟩
      have hxf : ¬ ksB M.1 x k = true := fun q => by
        obtain ⟨-, p2, z1, z2⟩ := ksB_iff.mp q
        exact hnk p2 z1 z2
      rcases csI_cls hxm hfm with q | ⟨-, q⟩
      · by_cases ex : fk M1.1 (csI cs 0 x b) 0 k = x
        · rw [ex] at hks; exact hxf ((F4 k).mp hks).1
        · have hz := F1 0 _ q ex
          rw [hz.1] at hu
          rw [g3.lo (neb q)] at hl
          have := fk_uniq T q hl hu
          rw [← hx] at this
          exact ex this.symm
      · rw [q] at hks; exact hxf ((F5 k).mp hks).1
theorem putT_post (U : Up M cs hs) (hk : k < 1000) : POut M hs (putT hs M cs k v) := by
  have U' := U
  obtain ⟨Bs, hcl, hns, h0⟩ := U
  have T := Bs.1
  unfold putT
  by_cases eL : cs.length = 0
  · rw [if_pos eL]
    have hc0 : cs = [] := List.length_eq_zero_iff.mp eL
    subst hc0
    unfold plaT
    by_cases ef : frN (bls [] hs) = 0
    · rw [if_pos ef]; exact ⟨endO.rf h0, [], U'⟩
    · rw [if_neg ef]
      rcases pla_post (v := v) U' hk (ffr_fst (by omega)) with ⟨M', g1, g2, g3⟩ | ⟨M', g1, g2, g3⟩
      · rw [g1]; exact ⟨g2, g3⟩
      · rw [g1]; exact ⟨g2, g3⟩
  · have hL : 0 < cs.length := by omega
    have hm := fk_mem T k hL
    rw [if_neg eL]
    by_cases eh : hasK M.1 (fk M.1 cs 0 k) k = true
    · rw [if_pos eh]
      exact repT_post U' hm (hasK_iff.mp eh).1 (hasK_iff.mp eh).2
    · rw [if_neg eh]
      have hnk := no_key (T.2.2.2.2.2 0 hL _ hm) eh
      by_cases e6 : rl M.1 (fk M.1 cs 0 k) < 6
      · rw [if_pos e6]
        exact insT_post U' hk hm (fk_lo T k hL) (fk_ub T hL hk) e6 hnk
      · rw [if_neg e6]
        have h6 : rl M.1 (fk M.1 cs 0 k) = 6 := by have := rl_le M.1 (fk M.1 cs 0 k); omega
        by_cases ef : frN (bls cs hs) < 1 + need M.1 cs 40 1 (kp M.1 (fk M.1 cs 0 k) 3)
        · rw [if_pos ef]; exact ⟨endO.rf h0, cs, U'⟩
        · rw [if_neg ef]
          have hf := ffr_fst (B := bls cs hs) (by omega)
          rcases put_split U' hk hL rfl h6 hnk hf (by omega) with ⟨M', g1, g2, g3⟩ | ⟨M1, g1, g2, g3, g4⟩
          · rw [g1]; exact ⟨g2, g3⟩
          · rw [g1]
            have h30 := g3.1.1.hgt
            have post := hang_post 40 M1 _ _ 1 g3 (by omega)
            simp only
            cases eh : hangM hs 40 M1 (csI cs 0 (fk M.1 cs 0 k) (ffr (bls cs hs))) (ffr (bls cs hs)) 1 with
            | inl M' =>
              rw [eh] at post
              obtain ⟨p1, cs', p2, p3⟩ := post
              exact ⟨endC.trans g2 p1, cs', p2, p3, p1.1⟩
            | inr q =>
              rw [eh] at post
              obtain ⟨z1, z2, z3, z4, z5, z6⟩ := g4 q post
              exact POut.trans (endO.trans g2 post.1) (insT_post z1 hk z2 z3 z4 z5 z6)
end Pt
