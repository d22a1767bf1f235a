/-! PURE: the reference's hang is that hang -/
theorem t2_len : ∀ (cs : List (List Nat)), (∀ L, L + 1 < cs.length → 2 ≤ (lvc cs L).length) → (∀ L, L < cs.length → lvc cs L ≠ []) → 2 * cs.length ≤ cs.flatten.length + 1 := by
  intro cs
  induction cs with
  | nil => intro _ _; simp
  | cons a cs ih =>
    intro h1 h2
    have h3 := ih (fun L hL => h1 (L + 1) (by simp only [List.length_cons]; omega)) (fun L hL => h2 (L + 1) (by simp only [List.length_cons]; omega))
    have ha : a ≠ [] := h2 0 (by simp)
    have ha1 : 1 ≤ a.length := List.length_pos_iff.mpr ha
    simp only [List.length_cons, List.flatten_cons, List.length_append]
    cases cs with
    | nil => simp; omega
    | cons b cs =>
      have : 2 ≤ a.length := h1 0 (by simp)
      simp only [List.length_cons] at h3 ⊢
      omega
theorem TS.h15 {w : Mem} {cs : List (List Nat)} (T : TS w cs) (t2 : T2 cs) : cs.length ≤ 15 := by
  have h1 := TS.len T
  have h2 := t2_len cs t2 (fun L hL e => by
    obtain ⟨b, r, e2, -⟩ := (T.1 L hL).2
    rw [e] at e2; cases e2)
  omega
theorem ob_assoc {α β γ σ : Type} (x : Option (α × σ)) (f : α → σ → Option (β × σ)) (g : β → σ → Option γ) : ob (ob x f) g = ob x (fun r u => ob (f r u) g) := by cases x <;> rfl
theorem gk_ris {v v' : SR} (h : gk v = gk v') : rg_ris v = rg_ris v' := (Prod.mk.inj h).1
theorem gk_cd {v v' : SR} (h : gk v = gk v') : rg_cd v = rg_cd v' := (Prod.mk.inj h).2
theorem inR.ris {v : SR} {M : MM} {br : Int32} (h : inR v M br) (f : Nat → Int32) : inR (rs_ris v f) M br := h
theorem inR.b1 {v : SR} {M : MM} {br : Int32} (h : inR v M br) : rg_br v = br := h.2.2.2.2.2.2.2.2
theorem subm1 (x : Int32) : x - (1 : Int32) = x + (-1 : Int32) := Int32.sub_eq_add_neg x 1
section RH
variable {v : SR} {M : MM} {cs : List (List Nat)} {hs : Nat → List Nat} {n lev y x : Nat}
theorem r_h_end (hb : rg_br v ≠ 0) (e : Nat) (i l : Int32) : m_Ref_hang_L205 (e + 1) v i l = some (.inr v) := by
  rw [m_Ref_hang_L205]
  by_cases h : i < 0
  · rw [if_pos h]
  · rw [if_neg h, if_neg hb]
theorem r_hstep (h : inR v M 0) (h0 : M.2.1 = []) (T : TS M.1 cs) (hn : n < 16) (hL : lev + n < cs.length) (hy : rg_ris v n = nI y) (hy30 : y ≤ 30) (hly : M.1 (9 * y + 2) = lN (lo M.1 y) ∧ lo M.1 y < 1000) (hx : x = fk M.1 cs (lev + n) (lo M.1 y)) (h6 : rl M.1 x < 6) :
    ∃ v3, (∀ e, m_Ref_hang_L205 (e + 1) v (nI n) (nI lev) = m_Ref_hang_L205 e v3 (nI n + (-1 : Int32)) (nI lev)) ∧ gk v3 = gk v ∧ (match insY M cs x y with
      | .inl M' => inR v3 M' 1
      | .inr q => inR v3 q.1 0) := by
  have hxm : x ∈ lvc cs (lev + n) := by rw [hx]; exact fk_mem T _ hL
  have hx30 := ((T.1 _ hL).1.mem x hxm).1.2
  obtain ⟨v3, e3, hv3⟩ := r_insert (x := nI y) h h0 hx30 (T.row hxm) (T.2.2.2.2.2 _ hL x hxm) hly.2 h6
  refine ⟨v3, ?_, pr_insert rfl _ _ _ _ e3, ?_⟩
  · intro e
    rw [m_Ref_hang_L205, if_neg (nI_pos (by omega)), if_pos h.b1, if_pos (inb_n hn (by omega)), nI_clamp (by omega), hy, r_low h.1 hy30, obS, lo_i hly.1, nAdd, r_find T h.1 hly.2 hL, obS, ← hx, if_pos (inb_n hn (by omega)), hy, r_entryOf h.1 hy30 hly, obS, e3, obS]
  · unfold insY
    cases e : fsM (insL M.1 x (cl M.1 x (lo M.1 y)) (rl M.1 x) (ent (lo M.1 y) (nI y))) M with
    | inl M' => rw [e] at hv3; exact hv3
    | inr M' => rw [e] at hv3; exact hv3
def hrO (lev n s : Nat) (v v1 : SR) : MM ⊕ (MM × List (List Nat)) → Prop
  | .inl M' => ∃ v2, (∀ e, m_Ref_hang_L205 (e + s + 1) v1 (nI (n + s) + (-1 : Int32)) (nI lev) = some (.inr v2)) ∧ inR v2 M' 1 ∧ rg_cd v2 = rg_cd v
  | .inr q => ∃ v2, (∀ e, m_Ref_hang_L205 (e + s) v1 (nI (n + s) + (-1 : Int32)) (nI lev) = m_Ref_hang_L205 e v2 (nI n + (-1 : Int32)) (nI lev)) ∧ inR v2 q.1 0 ∧ rg_cd v2 = rg_cd v ∧ ∀ i, i ≤ n → rg_ris v2 i = rg_ris v i
end RH
section RH2
variable {hs : Nat → List Nat} {lev : Nat}
theorem r_hang_c (hlev : 1 ≤ lev) : ∀ (m : Nat) (v : SR) (M : MM) (cs : List (List Nat)) (y n d : Nat), HPre M cs hs y (lev + n) → cs.length < lev + n + m → m < d → inR v M 0 → rg_ris v n = nI y → ∃ (s : Nat) (n1 t : Int32) (v1 : SR), m_Ref_hang_L26 d v (nI n) 1 0 (nI lev) = some (.inr (n1, t, v1)) ∧ s ≤ m + 1 ∧ (if t = 0 then n1 else n1 - 1) = nI (n + s) + (-1 : Int32) ∧ hrO lev n s v v1 (hangM hs m M cs y (lev + n)) := by
  intro m
  induction m with
  | zero =>
    intro v M cs y n d P h
    have := lvc_in P.2.2.2.2.2.1.1
    omega
  | succ m ih =>
    intro v M cs y n d P hm hd hv hris
    obtain ⟨d, rfl⟩ : ∃ e, d = e + 1 := ⟨d - 1, by omega⟩
    have P' := P
    have post := hang_post (m + 1) M cs y (lev + n) P hm
    obtain ⟨Bs, hcl, D, h0, h1, hy, hup⟩ := P
    have T := Bs.1
    have h15 := T.h15 Bs.2.1
    have hG := T.gb Bs.2.2.1
    have hyl := lvc_in hy.1
    have hym := (T.1 _ hyl).1.mem y hy.1
    have hy1000 := T.lo1000 hy.1
    have hne : cs ≠ [] := fun e => by rw [e] at hyl; simp at hyl
    obtain ⟨r, er, er0, er30, er1⟩ := T.top hne
    have hzm := (T.1 (cs.length - 1) (by omega)).1.mem (rootOf cs) (by rw [er]; exact List.mem_cons_self)
    have hn14 : n ≤ 14 := by omega
    have hny : need M.1 cs 40 (lev + n) (lo M.1 y) ≤ frN (bls cs hs) := by
      rcases D.2 (lev + n - 1) y hy with z | ⟨-, z⟩
      · rw [show lev + n - 1 + 1 = lev + n by omega] at z; omega
      · rw [show lev + n - 1 + 1 = lev + n by omega] at z; exact z
    have hd1 : 0 < d := by omega
    obtain ⟨d', hd'⟩ : ∃ e, d = e + 1 := ⟨d - 1, by omega⟩
    rw [m_Ref_hang_L26, if_neg (by decide), r_root hv.1, obS, T.2.2.2.2.1, lN_i, if_pos (inb_n (by omega) (by omega)), nI_clamp (by omega), hris, r_low hv.1 hym.1.2, obS, lo_i hym.2.2.1, r_level hv.1 er30, obS, hzm.2.1, lN_i, nAdd, hangM]
    by_cases eL : cs.length ≤ lev + n
    · rw [if_neg (nI_ge (by omega) (by omega)), if_pos eL]
      have hfr : 0 < frN (bls cs hs) := by
        rw [show 40 = 39 + 1 from rfl, need, if_pos eL] at hny; omega
      have hk := ffr_fst hfr
      obtain ⟨v1, e1, hv1⟩ := r_raise (z := rootOf cs) (y := y) (L := lev + n) hv h0 hG hk (by omega) (by omega)
      have hg : gk v1 = gk v := by
        refine pr_ob (pr_make rfl _ _ _ _ _ _) (fun _ _ h => pr_firm h _ _) _ _ e1
      rw [r_entryOf hv.1 er30 hzm.2.2, obS, if_pos (inb_n (by omega) (by omega)), hris, r_entryOf hv.1 hym.1.2 hym.2.2, obS, r_low hv.1 er30, obS, lo_i hzm.2.2.1]
      rw [← ob_assoc, e1, obS, hd', m_Ref_hang_L26, if_pos rfl]
      refine ⟨0, nI n, 1, v1, rfl, by omega, by rw [if_neg (by decide), subm1, Nat.add_zero], ?_⟩
      cases e : raiM M (rootOf cs) y (lev + n) (ffr (bls cs hs)) with
      | inl M' =>
        rw [e] at hv1
        exact ⟨v1, fun e => r_h_end (by rw [hv1.b1]; decide) _ _ _, hv1, gk_cd hg⟩
      | inr M' =>
        rw [e] at hv1
        exact ⟨v1, fun e => rfl, hv1, gk_cd hg, fun i _ => by rw [gk_ris hg]⟩
    · rw [if_pos (nI_le (by omega) (by omega)), if_neg eL]
      have hLl : lev + n < cs.length := by omega
      obtain ⟨x, hx⟩ : ∃ x, x = fk M.1 cs (lev + n) (lo M.1 y) := ⟨_, rfl⟩
      rw [← hx]
      have hxm : x ∈ lvc cs (lev + n) := by rw [hx]; exact fk_mem T _ hLl
      have hxr := ((T.1 _ hLl).1.mem x hxm).1
      have hc := hcl _ x hxm
      rw [r_find T hv.1 hy1000 hLl, obS, ← hx, if_neg (nI_ne0 (by omega) (by omega)), r_rl hv.1 hxr.2, obS]
      by_cases e6 : rl M.1 x < 6
      · rw [if_pos e6, if_neg (by rw [show (6 : Int32) = nI 6 from rfl, nI_eq (by omega) (by omega)]; omega), hd', m_Ref_hang_L26, if_pos rfl]
        obtain ⟨v3, s1, s2, s3⟩ := r_hstep hv h0 T (by omega) hLl hris hym.1.2 hym.2.2 hx e6
        refine ⟨1, nI n, 0, v, rfl, by omega, by rw [if_pos rfl, addm1], ?_⟩
        cases e : insY M cs x y with
        | inl M' =>
          rw [e] at s3
          exact ⟨v3, fun e => by rw [addm1, s1, r_h_end (by rw [s3.b1]; decide)], s3, gk_cd s2⟩
        | inr q =>
          rw [e] at s3
          exact ⟨v3, fun e => by rw [addm1, s1], s3, gk_cd s2, fun i _ => by rw [gk_ris s2]⟩
      · have h6 : rl M.1 x = 6 := by have := rl_le M.1 x; omega
        rw [if_neg e6, h6, if_pos (show nI 6 = 6 from rfl)]
        obtain ⟨pp, rr, exx⟩ := List.append_of_mem hxm
        have hub := T.ub exx hLl
        have hfr : 0 < frN (bls cs hs) := by
          rw [show 40 = 39 + 1 from rfl, need, if_neg (by omega), ← hx, hc.kcE hub.2.2.1, if_neg (by omega)] at hny; omega
        have hk := ffr_fst hfr
        obtain ⟨k, hkk⟩ : ∃ k, k = ffr (bls cs hs) := ⟨_, rfl⟩
        rw [← hkk] at hk ⊢
        have hkn : k ∉ cs.flatten := fun q => hk.2.2.1 (List.mem_append_left _ q)
        have hxk : x ≠ k := fun q => hkn (by rw [← q]; exact lvc_flat hxm)
        obtain ⟨v1, ev1, hv1⟩ := r_split hv h0 hG hk (T.sp hxm h6)
        have hg : gk v1 = gk v := pr_split rfl _ _ _ ev1
        rw [ev1, obS, a1, if_pos (inb_n (by omega) (by omega)), nI_clamp (by omega)]
        have hupd : ∀ i, i ≤ n → rg_ris (rs_ris v1 (upd (rg_ris v1) (n + 1) (nI k))) i = rg_ris v i := fun i hi => by
          show upd (rg_ris v1) (n + 1) (nI k) i = _
          rw [upd_ne _ _ (by omega), gk_ris hg]
        have hcd : rg_cd (rs_ris v1 (upd (rg_ris v1) (n + 1) (nI k))) = rg_cd v := by show rg_cd v1 = _; exact gk_cd hg
        rcases split_img h0 hxk with ⟨M', g1, g2, g3⟩ | ⟨M1, g1, g2, g3, g4⟩
        · rw [g1] at hv1 ⊢
          simp only at hv1 ⊢
          rw [if_neg (by rw [hv1.b1]; decide), hd', m_Ref_hang_L26, if_pos rfl]
          exact ⟨2, nI (n + 1), 0, _, rfl, by omega, by rw [if_pos rfl, show n + 2 = n + 1 + 1 from rfl, addm1], _, fun e => r_h_end (by show rg_br v1 ≠ 0; rw [hv1.b1]; decide) _ _ _, hv1, hcd⟩
        · rw [g1] at hv1 ⊢
          simp only at hv1 ⊢
          have hk1 := hk.1
          have hk2 := hk.2.1
          obtain ⟨B1, hf1⟩ := sp_base Bs hxm hc h6 hk g3
          obtain ⟨D1, hstr1, hkc1, hlk1⟩ := sp_DI Bs hcl D h1 hy hup hLl hx.symm h6 hk g3
          obtain ⟨F1, F2, F3, F4, F5, F6, F7⟩ := sp_facts T hxm hc h6 hkn ⟨hk.1, hk.2.1⟩ g3
          have nek : ∀ {l b}, b ∈ lvc cs l → b ≠ k := fun hb q => hkn (by rw [← q]; exact lvc_flat hb)
          have cl1 : allClean M1.1 (csI cs (lev + n) x k) := by
            intro l b hb
            rcases csI_cls hxm hb with q | ⟨-, q⟩
            · by_cases ex : b = x
              · subst ex; exact (F7 g4).1
              · exact (hcl l b q).of_sb (g3.sb ex (nek q)) (F1 l b q ex).1
            · rw [q]; exact F6
          have P1 : HPre M1 (csI cs (lev + n) x k) hs k (lev + (n + 1)) := by
            refine ⟨B1, cl1, D1, g2.1, by omega, ?_, ?_⟩
            · rw [show lev + (n + 1) - 1 = lev + n by omega]
              exact (hstr1 (lev + n) k).mpr (Or.inr ⟨rfl, rfl⟩)
            · intro L' z hL' hz
              rcases (hstr1 L' z).mp hz with q | ⟨q, -⟩
              · exact hup L' z (by omega) q
              · omega
          have post1 := hang_post m M1 (csI cs (lev + n) x k) k (lev + (n + 1)) P1 (by rw [csI_len]; omega)
          rw [if_pos hv1.b1]
          obtain ⟨s, n1, t, v4, c1, c2, c3, c4⟩ := ih (rs_ris v1 (upd (rg_ris v1) (n + 1) (nI k))) M1 (csI cs (lev + n) x k) k (n + 1) d P1 (by rw [csI_len]; omega) (by omega) (hv1.ris _) (upd_at (rg_ris v1) (n + 1) (nI k))
          rw [show lev + (n + 1) = lev + n + 1 from rfl] at c4 post1
          refine ⟨s + 1, n1, t, v4, c1, by omega, by rw [c3, show n + (s + 1) = n + 1 + s by omega], ?_⟩
          have en : n + (s + 1) = n + 1 + s := by omega
          cases eh : hangM hs m M1 (csI cs (lev + n) x k) k (lev + n + 1) with
          | inl M' =>
            rw [eh] at c4
            obtain ⟨v2, w1, w2, w3⟩ := c4
            exact ⟨v2, fun e => by rw [en, show e + (s + 1) + 1 = (e + 1) + s + 1 by omega]; exact w1 (e + 1), w2, w3.trans hcd⟩
          | inr q =>
            rw [eh] at c4 post1
            obtain ⟨v2, w1, w2, w3, w4⟩ := c4
            obtain ⟨M2, cs2⟩ := q
            obtain ⟨q1, q2, q3, q4, q5, q6, q7, q8⟩ := post1
            simp only at q1 q2 q3 q4 q5 q6 q7 q8 w2
            have hyM1 : y ∈ lvc (csI cs (lev + n) x k) (lev + n - 1) := csI_old hxm hy.1
            have hsy := q7 (lev + n - 1) (by omega) y hyM1
            have hloY : lo M2.1 y = lo M.1 y := by rw [hsy.lo]; exact g3.lo (nek hy.1)
            have hL2 : lev + n < cs2.length := by rw [csI_len] at q8; omega
            have T2' := q2.1
            have T1 := B1.1
            have lowM : lowS M1.1 M2.1 (csI cs (lev + n) x k) cs2 (lev + n + 1) := ⟨q6, q7⟩
            have hfk2 : fk M2.1 cs2 (lev + n) (lo M2.1 y) = fk M1.1 (csI cs (lev + n) x k) (lev + n) (lo M.1 y) := by rw [hloY]; exact lowM.fkE (by omega)
            have hfm : fk M1.1 (csI cs (lev + n) x k) (lev + n) (lo M.1 y) ∈ lvc (csI cs (lev + n) x k) (lev + n) := fk_mem T1 _ (by rw [csI_len]; exact hLl)
            have hr2 : rl M2.1 (fk M2.1 cs2 (lev + n) (lo M2.1 y)) < 6 := by
              rw [hfk2, (q7 (lev + n) (by omega) _ hfm).rl]
              obtain ⟨p3, r3, e3⟩ := List.append_of_mem hfm
              have hu3 := (T1.ub e3 (by rw [csI_len]; exact hLl)).2.2.1
              rw [← (cl1 _ _ hfm).kcE hu3]
              exact hkc1
            have hym2 : y ∈ lvc cs2 (lev + n - 1) := by rw [q6 _ (by omega)]; exact hyM1
            have hyr := (T2'.1 _ (lvc_in hym2)).1.mem y hym2
            obtain ⟨v3, s1, s2, s3⟩ := r_hstep w2 q1.1 T2' (by omega) hL2 (by rw [w4 n (by omega), hupd n (Nat.le_refl _), hris]) hyr.1.2 hyr.2.2 rfl hr2
            have hcd3 : rg_cd v3 = rg_cd v := (gk_cd s2).trans (w3.trans hcd)
            show hrO lev n (s + 1) v v4 (insY M2 cs2 (fk M2.1 cs2 (lev + n) (lo M2.1 y)) y)
            cases e : insY M2 cs2 (fk M2.1 cs2 (lev + n) (lo M2.1 y)) y with
            | inl M' =>
              rw [e] at s3
              exact ⟨v3, fun e => by rw [en, show e + (s + 1) + 1 = (e + 2) + s by omega, w1, addm1, s1, r_h_end (by rw [s3.b1]; decide)], s3, hcd3⟩
            | inr q =>
              rw [e] at s3
              exact ⟨v3, fun e => by rw [en, show e + (s + 1) = (e + 1) + s by omega, w1, addm1, s1], s3, hcd3, fun i hi => by rw [gk_ris s2, w4 i (by omega), hupd i hi]⟩
theorem r_hang {v : SR} {M : MM} {cs : List (List Nat)} {y : Nat} (P : HPre M cs hs y lev) (hv : inR v M 0) : ∃ v1, m_Ref_hang v (nI y) (nI lev) = some ((), v1) ∧ rg_cd v1 = rg_cd v ∧ (match hangM hs 40 M cs y lev with
    | .inl M' => inR v1 M' 1
    | .inr q => inR v1 q.1 0) := by
  have hlev := P.2.2.2.2.1
  have T := P.1.1
  have h30 := T.hgt
  obtain ⟨s, n1, t, v1, c1, c2, c3, c4⟩ := r_hang_c (hs := hs) hlev 40 (rs_ris v (upd (rg_ris v) 0 (nI y))) M cs y 0 fz P (by omega) (by unfold fz; omega) (hv.ris _) (upd_at (rg_ris v) 0 (nI y))
  rw [m_Ref_hang, if_pos (show inb (0 : Int32) 16 = true by decide), if_pos hv.b1, m_Ref_hang_J21]
  have c1' : m_Ref_hang_L26 fz (rs_ris v (upd (rg_ris v) (0 : Int32).toNatClampNeg (nI y))) (0 : Int32) (1 : Int32) (0 : Int32) (nI lev) = some (.inr (n1, t, v1)) := c1
  rw [c1', ol2R]
  have hj : (if t = 0 then (m_Ref_hang_J203 v1 (nI lev) n1) else (m_Ref_hang_J203 v1 (nI lev) (n1 - (1 : Int32)))) = m_Ref_hang_J203 v1 (nI lev) (nI (0 + s) + (-1 : Int32)) := by
    rw [← c3]; by_cases ht : t = 0
    · rw [if_pos ht, if_pos ht]
    · rw [if_neg ht, if_neg ht]
  rw [hj, m_Ref_hang_J203]
  have hcd0 : rg_cd (rs_ris v (upd (rg_ris v) 0 (nI y))) = rg_cd v := rfl
  rw [show lev + 0 = lev from rfl] at c4
  cases e : hangM hs 40 M cs y lev with
  | inl M' =>
    rw [e] at c4
    obtain ⟨v2, w1, w2, w3⟩ := c4
    exact ⟨v2, by rw [show fz = (3999 - s) + s + 1 by unfold fz; omega, w1, ol0R], w3.trans hcd0, w2⟩
  | inr q =>
    rw [e] at c4
    obtain ⟨v2, w1, w2, w3, -⟩ := c4
    exact ⟨v2, by rw [show fz = (3999 - s + 1) + s by unfold fz; omega, w1, m_Ref_hang_L205, if_pos (by decide), ol0R], w3.trans hcd0, w2⟩
end RH2
