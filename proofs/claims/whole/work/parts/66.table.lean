/-! PURE: put and remove in the table -/
def QOut (M : MM) : MM ⊕ (Int32 × MM) → Prop
  | .inl M' => endC M M' ∧ ∃ cs' hs', Dn M' cs' hs'
  | .inr q => endO M q.2 ∧ ∃ cs' hs', Up q.2 cs' hs'
theorem POut.q {M : MM} {hs : Nat → List Nat} {o : MM ⊕ (Int32 × MM)} (P : POut M hs o) : QOut M o := by
  cases o with
  | inl M' => exact ⟨P.1, P.2.choose, hs, P.2.choose_spec⟩
  | inr q => exact ⟨P.1, P.2.choose, hs, P.2.choose_spec⟩
theorem Up.dn {M : MM} {cs : List (List Nat)} {hs : Nat → List Nat} (U : Up M cs hs) : Dn M cs hs := ⟨U.1, DI.none U.2.2.1, U.2.2.2⟩
def fT (M : MM) (a : Nat) (e : Int64) (r : Int32) : MM ⊕ (Int32 × MM) := match firmM M a e with
  | .inl M' => .inl M'
  | .inr M' => .inr (r, M')
theorem c_fT {u : SM} {M : MM} (h : inC u M) (h0 : M.2.1 = []) {a : Nat} (ha : a < 279) (e : Int64) (r : Int32) : okT (ob (m_Memory_firmStore u (nI a) e) (fun r33 u34 => if r33 = 0 then (some ((-2 : Int32), u34)) else (some (r, u34)))) (fT M a e r) := by
  obtain ⟨u1, hu1⟩ := c_firm h h0 ha e
  refine ⟨u1, ?_⟩
  unfold fT
  cases e : firmM M a e with
  | inl M' => rw [e] at hu1; exact ⟨by rw [hu1.1, obS, if_pos rfl], hu1.2⟩
  | inr M' => rw [e] at hu1; exact ⟨by rw [hu1.1, obS, if_neg (by decide)], hu1.2⟩
theorem r_fT {v : SR} {M : MM} (h : inR v M 0) (h0 : M.2.1 = []) {a : Nat} (ha : a < 279) (e : Int64) (r : Int32) : okS (ob (m_Ref_firm v (nI a) e) (fun _ u34 => some (r, u34))) (rg_cd v) (fT M a e r) := by
  obtain ⟨v1, e1, hv1⟩ := r_firm h h0 ha e
  rw [e1, obS]
  refine ⟨r, v1, rfl, gk_cd (pr_firm rfl _ _ _ _ e1), ?_⟩
  unfold fT
  cases e : firmM M a e with
  | inl M' => rw [e] at hv1; exact hv1
  | inr M' => rw [e] at hv1; exact ⟨rfl, hv1⟩
def tnM (M : MM) (h nx : Nat) (e : Int64) (b : Nat) : MM ⊕ MM := match looseM (mkl b (-1) (lN nx) (lN 0) e 0 0) M with
  | .inl M' => .inl M'
  | .inr M1 => firmM M1 h (lN b)
def tabT (hs : Nat → List Nat) (cs : List (List Nat)) (M : MM) (k : Nat) (v : Int32) : MM ⊕ (Int32 × MM) :=
  match tsk M.1 (nI k) (hs (k % 8 + 1)) with
  | some a => fT M a (ent k v) 0
  | none => match tsk M.1 (-1) (hs (k % 8 + 1)) with
    | some a => fT M a (ent k v) 1
    | none => if frN (bls cs hs) = 0 then .inr (-1, M) else match tnM M (k % 8 + 1) ((hs (k % 8 + 1)).headD 0) (ent k v) (ffr (bls cs hs)) with
      | .inl M' => .inl M'
      | .inr M' => .inr (1, M')
section Tp
variable {u : SM} {vv : SR} {M : MM} {cs : List (List Nat)} {hs : Nat → List Nat} {k h b p : Nat} {v : Int32} {e : Int64} {r : Int32}
theorem fT_post (U : Up M cs hs) (h1 : 1 ≤ h) (h2 : h ≤ 8) (hb : b ∈ hs h) (hp : p < 6) (he : e = 0 ∨ ∃ (k : Nat) (v : Int32), e = ent k v ∧ k < 1000 ∧ k % 8 + 1 = h ∧ ∀ b' p', b' ∈ hs h → p' < 6 → (b' ≠ b ∨ p' ≠ p) → M.1 (9 * b' + 3 + p') ≠ 0 → kp M.1 b' p' ≠ k) : QOut M (fT M (9 * b + 3 + p) e r) := by
  obtain ⟨Bs, hcl, hns, h0⟩ := U
  unfold fT
  rcases firm_img h0 (9 * b + 3 + p) e with ⟨M', g1, g2, g3⟩ | ⟨M', g1, g2, g3⟩
  · rw [g1]
    exact ⟨g3, cs, hs, by rw [g2]; exact Bs, by rw [g2]; exact DI.none hns, g3.1⟩
  · rw [g1]
    obtain ⟨B', A, c'⟩ := tab_one (w' := M'.1) (e := e) Bs h1 h2 hb hp (by rw [g2]; exact pk_uLs) (fun a ha => by rw [g2]; exact pk_uLn ha) he
    exact ⟨g3, cs, hs, B', c' hcl, A.ns hns, g3.1⟩
theorem tsk_key (H : HR M.1 hs) (h1 : 1 ≤ h) (h2 : h ≤ 8) (hk : k < 1000) {a : Nat} (ht : tsk M.1 (nI k) (hs h) = some a) : ∃ b p, b ∈ hs h ∧ p < 6 ∧ a = 9 * b + 3 + p ∧ M.1 a ≠ 0 ∧ kp M.1 b p = k := by
  obtain ⟨b, p, z1, z2, z3, z4⟩ := tsk_some ht
  refine ⟨b, p, z1, z2, z3, ?_, ?_⟩
  · intro e
    rw [e, ky_0] at z4
    have := nI_pos (n := k) (by omega)
    rw [← z4] at this
    exact this (by decide)
  · rcases H.row h1 h2 z1 p z2 with y | y
    · rw [z3, y, ky_0] at z4
      have := nI_pos (n := k) (by omega)
      rw [← z4] at this
      exact absurd (by decide) this
    · have := y.ky
      rw [z3, this.1, nI_eq (by omega) (by omega)] at z4
      exact z4
theorem tsk_gap (H : HR M.1 hs) (h1 : 1 ≤ h) (h2 : h ≤ 8) {a : Nat} (ht : tsk M.1 (-1) (hs h) = some a) : ∃ b p, b ∈ hs h ∧ p < 6 ∧ a = 9 * b + 3 + p ∧ M.1 a = 0 := by
  obtain ⟨b, p, z1, z2, z3, z4⟩ := tsk_some ht
  refine ⟨b, p, z1, z2, z3, ?_⟩
  rcases H.row h1 h2 z1 p z2 with y | y
  · rw [z3]; exact y
  · have hy := y.ky
    rw [z3, hy.1] at z4
    have := nI_pos (n := kN (M.1 (9 * b + 3 + p))) (by omega)
    rw [z4] at this
    exact absurd (by decide) this
theorem tab_lt (Bs : Base M.1 cs hs) (h1 : 1 ≤ h) (h2 : h ≤ 8) (hb : b ∈ hs h) (hp : p < 6) : 9 * b + 3 + p < 279 ∧ 0 < 9 * b + 3 + p := by
  have := ((Bs.2.2.1 h h1 h2).2.mem b hb).1
  omega
theorem tn_post (U : Up M cs hs) (hk : k < 1000) (hb : fst (bls cs hs) b) (hn : tsk M.1 (nI k) (hs (k % 8 + 1)) = none) : (∃ M', tnM M (k % 8 + 1) ((hs (k % 8 + 1)).headD 0) (ent k v) b = .inl M' ∧ endC M M' ∧ ∃ cs' hs', Dn M' cs' hs') ∨ (∃ M', tnM M (k % 8 + 1) ((hs (k % 8 + 1)).headD 0) (ent k v) b = .inr M' ∧ endO M M' ∧ ∃ cs' hs', Up M' cs' hs') := by
  obtain ⟨Bs, hcl, hns, h0⟩ := U
  have hb1 := hb.1
  have hb2 := hb.2.1
  unfold tnM
  have dn : ∀ {M' : MM}, (∀ a, a < 9 * b ∨ 9 * b + 9 ≤ a → M'.1 a = M.1 a) → M'.2.1 = [] → Dn M' cs hs := fun ho he => by
    obtain ⟨B', A, -⟩ := free_base Bs hb ho
    exact ⟨B', DI.none (A.ns hns), he⟩
  rcases make_img h0 b (-1) (lN ((hs (k % 8 + 1)).headD 0)) (lN 0) (ent k v) 0 0 with ⟨M1, g1, g2, g3⟩ | ⟨M1, g1, g2, g4, g3⟩
  · rw [g1]
    exact Or.inl ⟨M1, rfl, g3, cs, hs, dn g2 g3.1⟩
  · rw [g1]
    rcases firm_img g3.1 (k % 8 + 1) (lN b) with ⟨M2, e1, e2, e3⟩ | ⟨M2, e1, e2, e3⟩
    · exact Or.inl ⟨M2, e1, endC.trans g3 e3, cs, hs, dn (fun a ha => by rw [e2]; exact g2 a ha) e3.1⟩
    · right
      have at1 : ∀ a, a ≠ k % 8 + 1 → M2.1 a = M1.1 a := fun a ha => by rw [e2]; exact pk_uLn ha
      obtain ⟨q0, q1, q2, q3, q4, q5, q6, q7, q8⟩ := g4
      obtain ⟨B', A, c'⟩ := tab_new (w' := M2.1) (k := k) (v := v) Bs (by omega) (by omega) hb hk rfl (tsk_none hn) (by rw [at1 _ (by omega)]; exact q0) (by rw [at1 _ (by omega)]; exact q1) (by rw [at1 _ (by omega)]; exact q3) (fun p h1 h2 => by
        rw [at1 _ (by omega)]
        match p, h1, h2 with
        | 1, _, _ => exact q4
        | 2, _, _ => exact q5
        | 3, _, _ => exact q6
        | 4, _, _ => exact q7
        | 5, _, _ => exact q8) (by rw [e2]; exact pk_uLs) (fun a h1 h2 => by rw [at1 a h1]; exact g2 a h2)
      exact ⟨M2, e1, endO.trans g3 e3, cs, _, B', c' hcl, A.ns hns, e3.1⟩
theorem tabT_post (U : Up M cs hs) (hk : k < 1000) : QOut M (tabT hs cs M k v) := by
  have H := U.1.2.2.2.1
  unfold tabT
  cases e1 : tsk M.1 (nI k) (hs (k % 8 + 1)) with
  | some a =>
    obtain ⟨b, p, z1, z2, z3, z4, z5⟩ := tsk_key H (by omega) (by omega) hk e1
    simp only
    rw [z3] at z4 ⊢
    refine fT_post U (by omega) (by omega) z1 z2 (Or.inr ⟨k, v, rfl, hk, rfl, fun b' p' y1 y2 y3 y4 y5 => ?_⟩)
    have := (H _ (by omega) (by omega)).2 b' b p' p y1 z1 y2 z2 y4 z4 (by rw [y5, z5])
    omega
  | none =>
    simp only
    have hno := tsk_none e1
    cases e2 : tsk M.1 (-1) (hs (k % 8 + 1)) with
    | some a =>
      obtain ⟨b, p, z1, z2, z3, z4⟩ := tsk_gap H (by omega) (by omega) e2
      simp only
      rw [z3]
      refine fT_post U (by omega) (by omega) z1 z2 (Or.inr ⟨k, v, rfl, hk, rfl, fun b' p' y1 y2 y3 y4 y5 => ?_⟩)
      apply hno b' y1 p' y2
      rcases H.row (by omega) (by omega) y1 p' y2 with y | y
      · exact absurd y y4
      · rw [y.ky.1]; show nI (kp M.1 b' p') = nI k; rw [y5]
    | none =>
      simp only
      by_cases ef : frN (bls cs hs) = 0
      · rw [if_pos ef]; exact ⟨endO.rf U.2.2.2, cs, hs, U⟩
      · rw [if_neg ef]
        rcases tn_post (v := v) U hk (ffr_fst (by omega)) e1 with ⟨M', g1, g2, g3⟩ | ⟨M', g1, g2, g3⟩
        · rw [g1]; exact ⟨g2, g3⟩
        · rw [g1]; exact ⟨g2, g3⟩
theorem c_tseek (Bs : Base M.1 cs hs) (h : CW u M.1) (hk : k < 1000) : m_Table_seek u (nI k) = some (oA 0 (tsk M.1 (nI k) (hs (k % 8 + 1))), u) := by
  have hc := Bs.2.2.1 (k % 8 + 1) (by omega) (by omega)
  rw [m_Table_seek, m_Table_headOf, obS, hd_arith hk, c_sic h _ (by omega) hc.1 hc.2 (hs_len Bs (by omega) (by omega)), obS]
theorem r_tseek (Bs : Base M.1 cs hs) (h : RW vv M.1) (hk : k < 1000) : m_Ref_placeOf vv (nI k) = some (oA (-1) (tsk M.1 (nI k) (hs (k % 8 + 1))), vv) := by
  have hc := Bs.2.2.1 (k % 8 + 1) (by omega) (by omega)
  exact r_placeOf h hk hc.1 hc.2 (hs_len Bs (by omega) (by omega))
theorem c_tenter (U : Up M cs hs) (h : inC u M) (hk : k < 1000) : okT (m_Table_enter u (nI k) v) (tabT hs cs M k v) := by
  obtain ⟨Bs, hcl, hns, h0⟩ := U
  have H := Bs.2.2.2.1
  have hG := Bs.1.gb Bs.2.2.1
  have hc := Bs.2.2.1 (k % 8 + 1) (by omega) (by omega)
  rw [m_Table_enter, c_entryOf _ (by omega), obS, c_tseek Bs h.1 hk, obS]
  unfold tabT
  cases e1 : tsk M.1 (nI k) (hs (k % 8 + 1)) with
  | some a =>
    obtain ⟨b, p, z1, z2, z3, z4, z5⟩ := tsk_key H (by omega) (by omega) hk e1
    have hlt := tab_lt Bs (by omega) (by omega) z1 z2
    simp only
    rw [if_neg (show ¬ oA 0 (some a) = 0 from nI_ne0 (by omega) (by omega))]
    exact c_fT h h0 (by omega) _ _
  | none =>
    simp only
    rw [if_pos (show oA 0 none = 0 from rfl), m_Table_headOf, obS, hd_arith hk, c_sic h.1 _ (by omega) hc.1 hc.2 (hs_len Bs (by omega) (by omega)), obS]
    cases e2 : tsk M.1 (-1) (hs (k % 8 + 1)) with
    | some a =>
      obtain ⟨b, p, z1, z2, z3, z4⟩ := tsk_gap H (by omega) (by omega) e2
      have hlt := tab_lt Bs (by omega) (by omega) z1 z2
      simp only
      rw [if_neg (show ¬ oA 0 (some a) = 0 from nI_ne0 (by omega) (by omega))]
      exact c_fT h h0 (by omega) _ _
    | none =>
      simp only
      have hf30 := frN_le (bls cs hs)
      rw [if_pos (show oA 0 none = 0 from rfl), c_countFree hG h.1, obS]
      by_cases ef : frN (bls cs hs) = 0
      · rw [if_pos ef, ef, if_pos (show nI 0 = 0 from rfl)]; exact ⟨u, rfl, h⟩
      · rw [if_neg ef, if_neg (nI_ne0 (by omega) (by omega)), c_blockIn h.1 (by omega), obS, hc.1, blk_lN hc.2.hd]
        have hf := ffr_fst (B := bls cs hs) (by omega)
        have hf1 := hf.1
        have hf2 := hf.2.1
        have hd30 := hc.2.hd
        obtain ⟨u1, hu1⟩ := c_make h h0 hG hf (-1 : Int32) (nI ((hs (k % 8 + 1)).headD 0)) (0 : Int32) (ent k v) (0 : Int64) (0 : Int64)
        have el : looseM (mkl (ffr (bls cs hs)) (-1 : Int32).toInt64 (nI ((hs (k % 8 + 1)).headD 0)).toInt64 (0 : Int32).toInt64 (ent k v) 0 0) M = looseM (mkl (ffr (bls cs hs)) (-1) (lN ((hs (k % 8 + 1)).headD 0)) (lN 0) (ent k v) 0 0) M := by rw [nI_l (by omega)]; rfl
        rw [el] at hu1
        unfold tnM
        cases em : looseM (mkl (ffr (bls cs hs)) (-1) (lN ((hs (k % 8 + 1)).headD 0)) (lN 0) (ent k v) 0 0) M with
        | inl M1 =>
          rw [em] at hu1
          exact ⟨u1, by rw [hu1.1, obS, if_pos rfl], hu1.2⟩
        | inr M1 =>
          rw [em] at hu1
          rw [hu1.1, obS, if_neg (nI_ne0 (by omega) (by omega)), nI_l (by omega)]
          exact c_fT hu1.2 (looseM_nil em) (by omega) _ _
theorem r_tput (U : Up M cs hs) (h : inR vv M 0) (hk : k < 1000) : okS (m_Ref_putTable vv (nI k) v) (rg_cd vv) (tabT hs cs M k v) := by
  obtain ⟨Bs, hcl, hns, h0⟩ := U
  have H := Bs.2.2.2.1
  have hG := Bs.1.gb Bs.2.2.1
  have hc := Bs.2.2.1 (k % 8 + 1) (by omega) (by omega)
  rw [m_Ref_putTable, r_tseek Bs h.1 hk, obS]
  unfold tabT
  cases e1 : tsk M.1 (nI k) (hs (k % 8 + 1)) with
  | some a =>
    obtain ⟨b, p, z1, z2, z3, z4, z5⟩ := tsk_key H (by omega) (by omega) hk e1
    have hlt := tab_lt Bs (by omega) (by omega) z1 z2
    simp only
    rw [if_neg (show ¬ oA (-1) (some a) < 0 from nI_pos (by omega)), r_entry _ (by omega), obS]
    exact r_fT h h0 (by omega) _ _
  | none =>
    simp only
    rw [if_pos (show oA (-1) none < 0 by decide), r_gapOf h.1 hk hc.1 hc.2 (fun b hb => H.row (by omega) (by omega) hb) (hs_len Bs (by omega) (by omega)), obS]
    cases e2 : tsk M.1 (-1) (hs (k % 8 + 1)) with
    | some a =>
      obtain ⟨b, p, z1, z2, z3, z4⟩ := tsk_gap H (by omega) (by omega) e2
      have hlt := tab_lt Bs (by omega) (by omega) z1 z2
      simp only
      rw [if_neg (show ¬ oA (-1) (some a) < 0 from nI_pos (by omega)), r_entry _ (by omega), obS]
      exact r_fT h h0 (by omega) _ _
    | none =>
      simp only
      have hf30 := frN_le (bls cs hs)
      obtain ⟨f, hf⟩ := r_countFree hG h.1
      have hrea : inR (rs_rea vv f) M 0 := h.rea f
      rw [if_pos (show oA (-1) none < 0 by decide), hf, obS]
      by_cases ef : frN (bls cs hs) = 0
      · rw [if_pos ef, ef, if_pos (show nI 0 = 0 from rfl)]; exact ⟨-1, rs_rea vv f, rfl, rfl, rfl, hrea⟩
      · rw [if_neg ef, if_neg (nI_ne0 (by omega) (by omega)), hd_arith hk, if_pos (inb_n (by omega) (by omega)), nI_clamp (by omega), r_entry _ (by omega), obS, hrea.1 _ (by omega), hc.1, lN_i]
        have hfb := ffr_fst (B := bls cs hs) (by omega)
        have hf1 := hfb.1
        have hf2 := hfb.2.1
        have hd30 := hc.2.hd
        obtain ⟨v1, ev1, hv1⟩ := r_make hrea h0 hG hfb (-1 : Int32) (nI ((hs (k % 8 + 1)).headD 0)) (0 : Int32) (ent k v) (0 : Int64) (0 : Int64)
        have hg : rg_cd v1 = rg_cd vv := gk_cd (pr_make (v := rs_rea vv f) rfl _ _ _ _ _ _ _ _ ev1)
        have el : looseM (mkl (ffr (bls cs hs)) (-1 : Int32).toInt64 (nI ((hs (k % 8 + 1)).headD 0)).toInt64 (0 : Int32).toInt64 (ent k v) 0 0) M = looseM (mkl (ffr (bls cs hs)) (-1) (lN ((hs (k % 8 + 1)).headD 0)) (lN 0) (ent k v) 0 0) M := by rw [nI_l (by omega)]; rfl
        rw [el] at hv1
        unfold tnM
        rw [ev1, obS, nI_l (by omega)]
        cases em : looseM (mkl (ffr (bls cs hs)) (-1) (lN ((hs (k % 8 + 1)).headD 0)) (lN 0) (ent k v) 0 0) M with
        | inl M1 =>
          rw [em] at hv1
          obtain ⟨v2, ev2, hv2⟩ := r_firm_brk hv1 (looseM_cut_nil em) (nI (k % 8 + 1)) (lN (ffr (bls cs hs)))
          rw [ev2, obS]
          exact ⟨1, v2, rfl, (gk_cd (pr_firm (v := v1) rfl _ _ _ _ ev2)).trans hg, hv2⟩
        | inr M1 =>
          rw [em] at hv1
          have := r_fT hv1 (looseM_nil em) (a := k % 8 + 1) (by omega) (lN (ffr (bls cs hs))) 1
          rw [hg] at this
          exact this
end Tp
