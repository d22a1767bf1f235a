/-! PURE: recover, and the small calls -/
def upM (M : MM) : MM := (M.1, M.2.1, M.2.2.1, M.2.2.2.1, M.2.2.2.2.1, 0)
def rcM (hs : Nat → List Nat) (cs : List (List Nat)) (M : MM) : MM ⊕ MM := if cs.length = 0 then .inr M else match prL cs.flatten M with
  | .inl M' => .inl M'
  | .inr M1 => match hgA hs 40 0 M1 cs with
    | .inl M' => .inl M'
    | .inr q => .inr q.1
def rcT (hs : Nat → List Nat) (cs : List (List Nat)) (M : MM) : MM ⊕ (Int32 × MM) := match rcM hs cs M with
  | .inl M' => .inl M'
  | .inr M' => .inr (M'.2.2.2.2.1 - M.2.2.2.2.1, upM M')
def m_Firm_recover0 (u : SM) : Option (Int32 × SM) := ob (m_Tree_putRight u) (fun r1 u2 => if r1 = 0 then some ((-2 : Int32), u2) else ob (m_Tree_hangStrays u2) (fun r5 u6 => if r5 = 0 then some ((-2 : Int32), u6) else some ((cg_sc u6 - cg_sc u), cs_dn u6 (0 : Int32))))
section Rc
variable {u : SM} {v : SR} {M : MM} {cs : List (List Nat)} {hs : Nat → List Nat}
theorem rc_all (P : Dn M cs hs) : (match rcM hs cs M with
    | .inl M' => endC M M' ∧ ∃ cs', Dn M' cs' hs
    | .inr M' => endO M M' ∧ ∃ cs', Up M' cs' hs) ∧
    (∀ u, inC u M → okC (ob (m_Tree_putRight u) (fun r1 u2 => if r1 = 0 then some ((0 : Int32), u2) else m_Tree_hangStrays u2)) (rcM hs cs M)) ∧
    (0 < cs.length → ∀ v, inR v M 0 → ∃ v1, m_Ref_repair v = some ((), v1) ∧ rg_cd v1 = rg_cd v ∧ match rcM hs cs M with
      | .inl M' => inR v1 M' 1
      | .inr M' => inR v1 M' 0) := by
  obtain ⟨Bs, D, h0⟩ := P
  have T := Bs.1
  unfold rcM
  by_cases eL : cs.length = 0
  · rw [if_pos eL]
    have hc0 : cs = [] := List.length_eq_zero_iff.mp eL
    refine ⟨⟨endO.rf h0, cs, Bs, fun L b hb => ?_, fun l z hz => ?_, h0⟩, fun u hu => ?_, fun h => by omega⟩
    · rw [hc0] at hb; have := lvc_in hb; simp at this
    · have := lvc_in hz.1; omega
    · have ht : m_Tree_topLevel u = some (-1, u) := c_top0 T hu.1 hc0
      rw [m_Tree_putRight, ht, obS, show fz = 3999 + 1 from rfl, m_Tree_putRight_L7, if_neg (by decide), if_pos (by decide), ol0R, obS, if_neg (by decide), m_Tree_hangStrays, show fz = 3999 + 1 from rfl, m_Tree_hangStrays_L2, if_neg (by decide), ht, obS, if_pos (by decide), ol0R]
      exact ⟨u, rfl, hu⟩
  · have hL : 0 < cs.length := by omega
    have h15 := T.h15 Bs.2.1
    rw [if_neg eL]
    have post1 := prL_post cs.flatten M Bs h0 (fun b hb => hb)
    have rp1 := fun v hv => r_p1_L (hs := hs) cs.length 0 fz v M (by omega) (by unfold fz; omega) hv Bs h0 hL
    rw [List.drop_zero] at rp1
    cases e1 : prL cs.flatten M with
    | inl M' =>
      rw [e1] at post1
      obtain ⟨g1, g2, g3⟩ := post1
      refine ⟨⟨g1, cs, g2, D.congr T g3 (Nat.le_refl _), g1.1⟩, fun u hu => ?_, fun _ v hv => ?_⟩
      · obtain ⟨u1, hu1⟩ := c_phase1 hu Bs h0 hL
        rw [e1] at hu1
        rw [hu1.1, obS, if_pos rfl]
        exact ⟨u1, rfl, hu1.2⟩
      · obtain ⟨v1, w1, w2, w3⟩ := rp1 v hv
        rw [e1] at w3
        have w3' : inR v1 M' 1 := w3
        obtain ⟨t1, t2⟩ := r_top g2.1 w3'.1 hL
        refine ⟨v1, ?_, w2, w3'⟩
        rw [m_Ref_repair, show m_Ref_repair_L2 fz v (0 : Int32) = some (.inr v1) from w1, ol0R, show fz = 3999 + 1 from rfl, m_Ref_repair_L60, t1, obS, t2, obS]
        by_cases c : nI (cs.length - 1) < 0
        · rw [if_pos c, ol0R]
        · rw [if_neg c, if_neg (by rw [w3'.b1]; decide), ol0R]
    | inr M1 =>
      rw [e1] at post1
      obtain ⟨g1, g2, g3, g4⟩ := post1
      have hcl1 : allClean M1.1 cs := fun L b hb => g4 b (lvc_flat hb) (Or.inr (lvc_flat hb))
      obtain ⟨a1', a2', a3'⟩ := hgA_all (hs := hs) 40 0 M1 cs (by omega) (by omega) (by omega) hL g2 hcl1 (D.congr T g3 (Nat.le_refl _)) g1.1 (fun l' z h => by omega)
      simp only
      have rr : ∀ v, inR v M 0 → ∃ v1, m_Ref_repair v = some ((), v1) ∧ rg_cd v1 = rg_cd v ∧ match hgA hs 40 0 M1 cs with
          | .inl M' => inR v1 M' 1
          | .inr q => inR v1 q.1 0 := fun v hv => by
        obtain ⟨v1, w1, w2, w3⟩ := rp1 v hv
        rw [e1] at w3
        have w3' : inR v1 M1 0 := w3
        obtain ⟨v2, y1, y2, y3⟩ := a3' fz v1 (by unfold fz; omega) w3'
        refine ⟨v2, ?_, y2.trans w2, y3⟩
        rw [m_Ref_repair, show m_Ref_repair_L2 fz v (0 : Int32) = some (.inr v1) from w1, ol0R, show m_Ref_repair_L60 fz v1 (0 : Int32) = some (.inr v2) from y1, ol0R]
      have cc : ∀ u, inC u M → ∃ u1, match hgA hs 40 0 M1 cs with
          | .inl M' => ob (m_Tree_putRight u) (fun r1 u2 => if r1 = 0 then some ((0 : Int32), u2) else m_Tree_hangStrays u2) = some (0, u1) ∧ inC u1 M'
          | .inr q => ob (m_Tree_putRight u) (fun r1 u2 => if r1 = 0 then some ((0 : Int32), u2) else m_Tree_hangStrays u2) = some (1, u1) ∧ inC u1 q.1 := fun u hu => by
        obtain ⟨u1, hu1⟩ := c_phase1 hu Bs h0 hL
        rw [e1] at hu1
        obtain ⟨u2, hu2⟩ := a2' fz u1 (by unfold fz; omega) hu1.2
        refine ⟨u2, ?_⟩
        rw [hu1.1, obS, if_neg (by decide), m_Tree_hangStrays]
        cases e2 : hgA hs 40 0 M1 cs with
        | inl M' =>
          rw [e2] at hu2
          rw [show m_Tree_hangStrays_L2 fz u1 (0 : Int32) = some (.inl (0, u2)) from hu2.1]
          exact ⟨rfl, hu2.2⟩
        | inr q =>
          rw [e2] at hu2
          rw [show m_Tree_hangStrays_L2 fz u1 (0 : Int32) = some (.inr u2) from hu2.1]
          exact ⟨rfl, hu2.2⟩
      cases e2 : hgA hs 40 0 M1 cs with
      | inl M' =>
        rw [e2] at a1' rr cc
        exact ⟨⟨endC.trans g1 a1'.1, a1'.2⟩, cc, fun _ => rr⟩
      | inr q =>
        rw [e2] at a1' rr cc
        exact ⟨⟨endO.trans g1 a1'.1, q.2, a1'.2⟩, cc, fun _ => rr⟩
theorem rcT_post (P : Dn M cs hs) : match rcT hs cs M with
    | .inl M' => endC M M' ∧ ∃ cs', Dn M' cs' hs
    | .inr q => q.2.2.2.2.2.2 = 0 ∧ ∃ cs', Up q.2 cs' hs := by
  have h := (rc_all P).1
  unfold rcT
  cases e : rcM hs cs M with
  | inl M' => rw [e] at h; exact h
  | inr M' =>
    rw [e] at h
    obtain ⟨h1, cs', h2⟩ := h
    exact ⟨rfl, cs', h2⟩
theorem inC.up (h : inC u M) : inC (cs_dn u 0) (upM M) := by
  obtain ⟨h1, h2, h3, h4, h5, h6, h7, h8⟩ := h
  exact ⟨h1, h2, h3, h4, h5, h6, h7, rfl⟩
theorem inR.up {br : Int32} (h : inR v M br) : inR (rs_dn v 0) (upM M) br := by
  obtain ⟨h1, h2, h3, h4, h5, h6, h7, h8, h9⟩ := h
  exact ⟨h1, h2, h3, h4, h5, h6, h7, rfl, h9⟩
theorem c_recover (P : Dn M cs hs) (h : inC u M) : okT (m_Firm_recover0 u) (rcT hs cs M) := by
  obtain ⟨u1, hu1⟩ := (rc_all P).2.1 u h
  have hun : m_Firm_recover0 u = ob (ob (m_Tree_putRight u) (fun r1 u2 => if r1 = 0 then some ((0 : Int32), u2) else m_Tree_hangStrays u2)) (fun r5 u6 => if r5 = 0 then some ((-2 : Int32), u6) else some ((cg_sc u6 - cg_sc u), cs_dn u6 (0 : Int32))) :=
    ob_if2 (m_Tree_putRight u) m_Tree_hangStrays (fun u2 => some ((-2 : Int32), u2)) (fun u6 => some ((cg_sc u6 - cg_sc u), cs_dn u6 (0 : Int32)))
  rw [hun]
  unfold rcT
  cases e : rcM hs cs M with
  | inl M' =>
    rw [e] at hu1
    rw [hu1.1, obS, if_pos rfl]
    exact ⟨u1, rfl, hu1.2⟩
  | inr M' =>
    rw [e] at hu1
    rw [hu1.1, obS, if_neg (by decide)]
    refine ⟨cs_dn u1 0, ?_, hu1.2.up⟩
    rw [hu1.2.2.2.2.2.2.2.1, h.2.2.2.2.2.2.1]
theorem r_recover1 (h : inRa v M) (hd : M.2.2.2.2.2 = 0) : m_Ref_recover v = some (0, rs_cd v 1) := by
  rw [m_Ref_recover, if_pos (by rw [h.dn]; exact hd), m_Ref_recover_J13, if_neg (by decide)]
theorem r_recover (P : Dn M cs hs) (h : inRa v M) (hd : M.2.2.2.2.2 ≠ 0) : okF (m_Ref_recover v) 0 (rcT hs cs M) := by
  have hv := h.reset 0
  have T := P.1.1
  have hst : rg_st v = M.2.2.2.2.1 := by obtain ⟨br, q⟩ := h; exact q.2.2.2.2.2.2.1
  rw [m_Ref_recover, if_neg (by rw [h.dn]; exact hd), m_Ref_recover_J13, if_pos (by decide), r_root hv.1, obS, T.2.2.2.2.1, lN_i]
  by_cases eL : cs.length = 0
  · have hc0 : cs = [] := List.length_eq_zero_iff.mp eL
    rw [if_pos (by rw [hc0]; rfl), m_Ref_recover_J46, if_pos hv.b1]
    unfold rcT rcM
    rw [if_pos eL]
    refine ⟨_, _, rfl, rfl, ?_, hv.up.a⟩
    show rg_st (rs_br (rs_cd v 0) 0) - rg_st v = M.2.2.2.2.1 - M.2.2.2.2.1
    rw [show rg_st (rs_br (rs_cd v 0) 0) = rg_st v from rfl, hst]
  · have hL : 0 < cs.length := by omega
    have hne : cs ≠ [] := fun e => by rw [e] at hL; simp at hL
    obtain ⟨r, er, er0, er30, er1⟩ := T.top hne
    obtain ⟨v1, w1, w2, w3⟩ := (rc_all P).2.2 hL _ hv
    rw [if_neg (nI_ne0 (by omega) (by omega)), w1, obS, m_Ref_recover_J46]
    unfold rcT
    cases e : rcM hs cs M with
    | inl M' =>
      rw [e] at w3
      have w3' : inR v1 M' 1 := w3
      rw [if_neg (by rw [w3'.b1]; decide)]
      exact ⟨-2, v1, rfl, w2, rfl, w3'.a⟩
    | inr M' =>
      rw [e] at w3
      have w3' : inR v1 M' 0 := w3
      rw [if_pos w3'.b1]
      refine ⟨_, _, rfl, w2, ?_, w3'.up.a⟩
      rw [w3'.2.2.2.2.2.2.1, hst]
/-- the small calls -/
theorem s_free (Bs : Base M.1 cs hs) (h : inC u M) (hv : inRa v M) : ∃ r v1, m_Firm_free u = some (r, u) ∧ m_Ref_free v = some (r, v1) ∧ inRa v1 M := by
  have hG := Bs.1.gb Bs.2.2.1
  obtain ⟨f, hf⟩ := r_countFree hG (hv.cd 0).w
  refine ⟨nI (frN (bls cs hs)), rs_rea (rs_cd v 0) f, ?_, ?_, ?_⟩
  · rw [m_Firm_free, c_countFree hG h.1, obS]
  · rw [m_Ref_free, hf, obS]
  · obtain ⟨br, q⟩ := hv; exact ⟨br, q⟩
theorem s_height (Bs : Base M.1 cs hs) (h : inC u M) (hv : inRa v M) : ∃ r v1, m_Firm_height u = some (r, u) ∧ m_Ref_height v = some (r, v1) ∧ inRa v1 M := by
  have T := Bs.1
  have hw := (hv.cd 0).w
  by_cases eL : cs.length = 0
  · have hc0 : cs = [] := List.length_eq_zero_iff.mp eL
    refine ⟨0, rs_cd v 0, ?_, ?_, hv.cd 0⟩
    · rw [m_Firm_height, c_top0 T h.1 hc0, obS]; rfl
    · rw [m_Ref_height, r_root hw, obS, T.2.2.2.2.1, lN_i, if_pos (by rw [hc0]; rfl)]
  · have hL : 0 < cs.length := by omega
    have hne : cs ≠ [] := fun e => by rw [e] at hL; simp at hL
    obtain ⟨r, er, er0, er30, er1⟩ := T.top hne
    obtain ⟨t1, t2⟩ := r_top T hw hL
    refine ⟨nI (cs.length - 1) + 1, rs_cd v 0, ?_, ?_, hv.cd 0⟩
    · rw [m_Firm_height, c_top T h.1 hne, obS]
    · rw [m_Ref_height, t1, obS, if_neg (nI_ne0 (by omega) (by omega)), t1, obS, t2, obS]
theorem s_word (h : inC u M) (hv : inRa v M) (a : Int32) : ∃ r, m_Firm_word u a = some (r, u) ∧ m_Ref_word v a = some (r, rs_cd v 0) := by
  have hw := (hv.cd 0).w
  rw [m_Firm_word, m_Ref_word]
  by_cases c0 : a < 0
  · rw [m_Memory_wordAt, if_pos c0, if_pos c0, obS]; exact ⟨0, rfl, rfl⟩
  · rw [if_neg c0]
    by_cases c1 : a < (279 : Int32)
    · obtain ⟨j, hj, e⟩ : ∃ j, j < 279 ∧ a = nI j := by
        obtain ⟨j, h1, h2⟩ := nI_of c0
        rw [h2, show (279 : Int32) = nI 279 from rfl, nI_ltI h1 (by omega)] at c1
        exact ⟨j, c1, h2⟩
      subst e
      rw [c_word h.1 hj, obS, if_pos c1, if_pos (inb_n hj (by omega)), nI_clamp (by omega), hv.w j hj]
      exact ⟨_, rfl, rfl⟩
    · rw [m_Memory_wordAt, if_neg c0, if_pos (by rw [Int32.le_iff_toInt_le]; rw [Int32.lt_iff_toInt_lt] at c1; omega), obS, if_neg c1]
      exact ⟨0, rfl, rfl⟩
theorem s_stores (h : inC u M) (hv : inRa v M) : ∃ r, m_Firm_stores u = some (r, u) ∧ m_Ref_stores v = some (r, rs_cd v 0) := by
  have hst : rg_st v = M.2.2.2.2.1 := by obtain ⟨br, q⟩ := hv; exact q.2.2.2.2.2.2.1
  refine ⟨M.2.2.2.2.1, ?_, ?_⟩
  · rw [m_Firm_stores, h.2.2.2.2.2.2.1]
  · rw [m_Ref_stores, hst]
theorem s_down (h : inC u M) (hv : inRa v M) (hd : M.2.2.2.2.2 = 0 ∨ M.2.2.2.2.2 = 1) : ∃ r, m_Firm_down u = some (r, u) ∧ m_Ref_down v = some (r, rs_cd v 0) := by
  have hz : zb M.2.2.2.2.2 = true := by unfold zb; exact decide_eq_true hd
  refine ⟨M.2.2.2.2.2, ?_, ?_⟩
  · rw [m_Firm_down, h.2.2.2.2.2.2.2, if_pos hz]
  · rw [m_Ref_down, hv.dn, if_pos hz]
def orM (M : MM) (n m : Int32) : MM := (M.1, M.2.1, n, m, M.2.2.2.2.1, M.2.2.2.2.2)
theorem s_order (h : inC u M) (hv : inRa v M) (n m : Int32) : ∃ r u1 v1 M1, m_Firm_order u n m = some (r, u1) ∧ m_Ref_order v n m = some (r, v1) ∧ inC u1 M1 ∧ inRa v1 M1 ∧ (M1 = M ∨ M1 = orM M n m) := by
  rw [m_Firm_order, m_Ref_order]
  by_cases c0 : n < 0
  · rw [if_pos c0, if_pos c0]; exact ⟨0, u, rs_cd v 0, M, rfl, rfl, h, hv.cd 0, Or.inl rfl⟩
  · rw [if_neg c0, if_neg c0]
    by_cases c1 : n ≤ (60 : Int32)
    · rw [if_pos c1, if_pos c1, m_Memory_orderCut, obS]
      obtain ⟨h1, h2, h3, h4, h5, h6, h7, h8⟩ := h
      obtain ⟨br, g1, g2, g3, g4, g5, g6, g7, g8, g9⟩ := hv
      exact ⟨1, _, _, orM M n m, rfl, rfl, ⟨h1, h2, h3, h4, rfl, rfl, h7, h8⟩, ⟨br, g1, g2, g3, g4, rfl, rfl, g7, g8, g9⟩, Or.inr rfl⟩
    · rw [if_neg c1, if_neg c1]; exact ⟨0, u, rs_cd v 0, M, rfl, rfl, h, hv.cd 0, Or.inl rfl⟩
end Rc
