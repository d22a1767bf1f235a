/-! PURE: a hang that only inserts, whatever strays above -/
section H0
variable {u : SM} {v : SR} {M : MM} {cs : List (List Nat)} {hs : Nat → List Nat} {y L x : Nat}
def I0 (M : MM) (cs : List (List Nat)) (hs : Nat → List Nat) (L x : Nat) : MM ⊕ (MM × List (List Nat)) → Prop
  | .inl M' => endC M M' ∧ Base M'.1 cs hs ∧ DI M'.1 cs (frN (bls cs hs))
  | .inr q => endO M q.1 ∧ q.2 = cs ∧ Base q.1.1 cs hs ∧ allClean q.1.1 cs ∧ DI q.1.1 cs (frN (bls cs hs)) ∧ (∀ l z, stray q.1.1 cs l z ↔ stray M.1 cs l z ∧ l ≠ L - 1) ∧ ∀ b, b ≠ x → sb M.1 q.1.1 b
theorem ins0_post (Bs : Base M.1 cs hs) (hcl : allClean M.1 cs) (D : DI M.1 cs (frN (bls cs hs))) (h0 : M.2.1 = []) (h1 : 1 ≤ L) (hy : stray M.1 cs (L - 1) y) (hL : L < cs.length) (hx : fk M.1 cs L (lo M.1 y) = x) (h6 : rl M.1 x < 6) : I0 M cs hs L x (insY M cs x y) := by
  have T := Bs.1
  have hxm : x ∈ lvc cs L := by rw [← hx]; exact fk_mem T _ hL
  have hc := hcl L x hxm
  have hy1000 := T.lo1000 hy.1
  have hlx : lo M.1 x ≤ lo M.1 y := by rw [← hx]; exact fk_lo T _ hL
  have hux : lo M.1 y < ubd M.1 x := by rw [← hx]; exact fk_ub T hL hy1000
  have hnk : ∀ p, p < rl M.1 x → kp M.1 x p ≠ lo M.1 y := by
    intro p hp e
    have := hy.2.2 x (by rw [show L - 1 + 1 = L by omega]; exact hxm)
    rw [ksB_iff.mpr ⟨hux, p, hp, e⟩] at this
    cases this
  unfold insY
  rcases fs_img (insL M.1 x (cl M.1 x (lo M.1 y)) (rl M.1 x) (ent (lo M.1 y) (nI y))) M h0 with ⟨M', t, g1, g2, g3, g4⟩ | ⟨M', g1, g2, g3⟩
  · rw [g1]
    have ht : t ≤ rl M.1 x - cl M.1 x (lo M.1 y) := by
      unfold insL at g2
      rw [List.length_append, shl_len] at g2
      simp only [List.length_cons, List.length_nil] at g2
      omega
    obtain ⟨T', A⟩ := ins_part (e := ent (lo M.1 y) (nI y)) T hxm hc h6 ht
    rw [← g3] at T' A
    have hout : ∀ a, a < 9 * x + 3 ∨ 9 * x + 9 ≤ a → M'.1 a = M.1 a := fun a ha => by
      rw [g3]; exact (ins_img (e := ent (lo M.1 y) (nI y)) (cl_le M.1 x (lo M.1 y)) t ht).1 a ha h6
    exact ⟨g4, out_base Bs hxm T' hout, D.congr T A (Nat.le_refl _)⟩
  · rw [g1]
    have he : entOK M.1 cs L x (ent (lo M.1 y) (nI y)) := by
      obtain ⟨N, rfl⟩ : ∃ N, L = N + 1 := ⟨L - 1, by omega⟩
      exact ⟨y, hy.1, rfl, hlx⟩
    obtain ⟨T', hsb, hout, hcx, hrl, hks⟩ := ins_done T hxm hc h6 he (kN_ent _ (by omega)) hux hnk
    rw [← g2] at T' hsb hout hcx hrl hks
    have nex : ∀ {l b}, b ∈ lvc cs l → l ≠ L → b ≠ x := fun hb hl e => hl (nd_lvc T.2.2.2.1 (e ▸ hb) hxm)
    have ksO : ∀ {l b}, b ∈ lvc cs l → b ≠ x → ksB M'.1 b = ksB M.1 b := fun hb hbx => ksB_sb (hsb _ hbx) (out_ubd hout _)
    have fkE : ∀ l q, fk M'.1 cs l q = fk M.1 cs l q := fun l q => fk_congr (fun z _ => out_lo hout z)
    have hstr : ∀ l z, stray M'.1 cs l z ↔ stray M.1 cs l z ∧ l ≠ L - 1 := by
      intro l z
      constructor
      · rintro ⟨z1, z2, z3⟩
        have hst : stray M.1 cs l z := by
          refine ⟨z1, by rw [← out_lo hout]; exact z2, fun b hb => ?_⟩
          have z4 := z3 b hb
          rw [out_lo hout] at z4
          by_cases e : b = x
          · subst e
            cases e2 : ksB M.1 b (lo M.1 z) with
            | false => rfl
            | true => rw [(hks _).mpr (Or.inl e2)] at z4; cases z4
          · rw [ksO hb e] at z4; exact z4
        refine ⟨hst, fun hl => ?_⟩
        rw [hl] at hst
        have hzy := D.1 (L - 1) z y hst hy
        have z4 := z3 x (by rw [hl, show L - 1 + 1 = L by omega]; exact hxm)
        rw [out_lo hout, hzy, (hks _).mpr (Or.inr rfl)] at z4
        cases z4
      · rintro ⟨⟨z1, z2, z3⟩, hl⟩
        refine ⟨z1, by rw [out_lo hout]; exact z2, fun b hb => ?_⟩
        rw [out_lo hout, ksO hb (nex hb (by omega))]
        exact z3 b hb
    refine ⟨g3, rfl, out_base Bs hxm T' hout, out_clean hcl hout hcx, ⟨fun l a b ha hb => D.1 l a b ((hstr l a).mp ha).1 ((hstr l b).mp hb).1, fun l a ha => ?_⟩, hstr, hsb⟩
    obtain ⟨ha1, ha2⟩ := (hstr l a).mp ha
    rw [out_lo hout]
    rcases D.2 l a ha1 with q | ⟨q1, q2⟩
    · left
      have nz := need_zero q
      refine need_of nz.1 ?_
      rw [fkE]
      show cnt (ksB M'.1 (fk M.1 cs (l + 1) (lo M.1 a))) 1000 < 6
      rw [ksO (fk_mem T _ nz.1) (nex (fk_mem T _ nz.1) (by omega))]
      exact nz.2
    · right
      have hl : L ≤ l := by
        rcases Nat.lt_or_ge l L with z | z
        · exfalso
          exact q1 (L - 1) y (by omega) hy
        · exact z
      refine ⟨fun L' z hL' hz => q1 L' z hL' ((hstr L' z).mp hz).1, ?_⟩
      rw [need_up (w := M.1) (w' := M'.1) (cs := cs) rfl 40 (l + 1) (lo M.1 a) (fun M' _ q _ => fkE M' q) (fun M' h q _ hl' => ksO (fk_mem T q hl') (nex (fk_mem T q hl') (by omega))) (T.lo1000 ha1.1)]
      exact q2
theorem hangM_ins (hL : L < cs.length) (h6 : rl M.1 (fk M.1 cs L (lo M.1 y)) < 6) (n : Nat) : hangM hs (n + 1) M cs y L = insY M cs (fk M.1 cs L (lo M.1 y)) y := by
  rw [hangM, if_neg (by omega), if_pos h6]
theorem c_hang0 (Bs : Base M.1 cs hs) (h0 : M.2.1 = []) (h1 : 1 ≤ L) (hy : stray M.1 cs (L - 1) y) (hL : L < cs.length) (h6 : rl M.1 (fk M.1 cs L (lo M.1 y)) < 6) (h : inC u M) : okH (m_Tree_hang 40 u (nI y) (nI L)) (insY M cs (fk M.1 cs L (lo M.1 y)) y) := by
  have T := Bs.1
  have h30 := T.hgt
  have hyl := lvc_in hy.1
  have hym := (T.1 _ hyl).1.mem y hy.1
  have hy1000 := T.lo1000 hy.1
  have hm := fk_mem T (lo M.1 y) hL
  have hx30 := ((T.1 L hL).1.mem _ hm).1.2
  rw [show (40 : Nat) = 39 + 1 from rfl, m_Tree_hang, if_pos (by rw [show (30 : Int32) = nI 30 from rfl]; exact nI_le (by omega) (by omega)), c_top T h.1 (fun e => by rw [e] at hL; simp at hL), obS, if_pos (nI_le (by omega) (by omega)), c_low h.1 hym.1.2, obS, lo_i hym.2.2.1, c_find T h.1 hy1000 hL, obS, c_isFull h.1 hx30, obS, if_neg (show ¬ rl M.1 (fk M.1 cs L (lo M.1 y)) = 6 by omega), if_pos rfl, c_entryOf _ (by omega), obS, ob_id]
  exact c_insY h h0 hx30 (T.row hm) hy1000 h6 cs
theorem r_hang0 (Bs : Base M.1 cs hs) (h0 : M.2.1 = []) (h1 : 1 ≤ L) (hy : stray M.1 cs (L - 1) y) (hL : L < cs.length) (h6 : rl M.1 (fk M.1 cs L (lo M.1 y)) < 6) (h : inR v M 0) : ∃ v1, m_Ref_hang v (nI y) (nI L) = some ((), v1) ∧ rg_cd v1 = rg_cd v ∧ (match insY M cs (fk M.1 cs L (lo M.1 y)) y with
    | .inl M' => inR v1 M' 1
    | .inr q => inR v1 q.1 0) := by
  have T := Bs.1
  have h30 := T.hgt
  have hyl := lvc_in hy.1
  have hym := (T.1 _ hyl).1.mem y hy.1
  have hy1000 := T.lo1000 hy.1
  have hm := fk_mem T (lo M.1 y) hL
  have hxr := ((T.1 L hL).1.mem _ hm).1
  obtain ⟨t1, t2⟩ := r_top T h.1 (cs := cs) (by omega)
  obtain ⟨vr, hvr⟩ : ∃ vr, vr = rs_ris v (upd (rg_ris v) 0 (nI y)) := ⟨_, rfl⟩
  have hR : inR vr M 0 := by rw [hvr]; exact h.ris _
  have hris : rg_ris vr 0 = nI y := by rw [hvr]; exact upd_at (rg_ris v) 0 (nI y)
  have hcd : rg_cd vr = rg_cd v := by rw [hvr]; rfl
  obtain ⟨s1, s2⟩ := r_top T hR.1 (cs := cs) (by omega)
  obtain ⟨v3, w1, w2, w3⟩ := r_hstep (n := 0) (lev := L) (y := y) hR h0 T (by omega) hL hris hym.1.2 hym.2.2 rfl h6
  have e26 : m_Ref_hang_L26 fz vr (0 : Int32) (1 : Int32) (0 : Int32) (nI L) = some (.inr (0, 0, vr)) := by
    rw [show fz = 3998 + 1 + 1 from rfl, m_Ref_hang_L26, if_neg (by decide), s1, obS, if_pos (show inb (0 : Int32) 16 = true by decide), show (0 : Int32).toNatClampNeg = 0 from rfl, hris, r_low hR.1 hym.1.2, obS, lo_i hym.2.2.1, s2, obS, show nI L + (0 : Int32) = nI (L + 0) from nAdd L 0, Nat.add_zero, if_pos (nI_le (by omega) (by omega)), r_find T hR.1 hy1000 hL, obS, if_neg (nI_ne0 (by omega) (by omega)), r_rl hR.1 hxr.2, obS, if_neg (by rw [show (6 : Int32) = nI 6 from rfl, nI_eq (by omega) (by omega)]; omega), m_Ref_hang_L26, if_pos rfl]
  have hh : m_Ref_hang v (nI y) (nI L) = ol0 (m_Ref_hang_L205 fz vr (0 : Int32) (nI L)) id (fun u84 => some ((), u84)) := by
    rw [m_Ref_hang, if_pos (show inb (0 : Int32) 16 = true by decide), if_pos h.b1, m_Ref_hang_J21, show rs_ris v (upd (rg_ris v) (0 : Int32).toNatClampNeg (nI y)) = vr from hvr.symm, e26, ol2R, if_pos rfl, m_Ref_hang_J203]
  refine ⟨v3, ?_, (gk_cd w2).trans hcd, w3⟩
  rw [hh, show fz = 3998 + 1 + 1 from rfl]
  have e1 := w1 (3998 + 1)
  rw [show m_Ref_hang_L205 (3998 + 1 + 1) vr (0 : Int32) (nI L) = m_Ref_hang_L205 (3998 + 1) v3 (nI 0 + (-1 : Int32)) (nI L) from e1, m_Ref_hang_L205, if_pos (by decide), ol0R]
end H0
