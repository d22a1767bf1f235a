/-! PURE: the class's hang is that hang -/
def okH (res : Option (Int32 × SM)) (o : MM ⊕ (MM × List (List Nat))) : Prop := ∃ u1, match o with
  | .inl M => res = some (0, u1) ∧ inC u1 M
  | .inr q => res = some (1, u1) ∧ inC u1 q.1
section CH
variable {u : SM} {v : SR} {w : Mem} {cs : List (List Nat)} {hs : Nat → List Nat}
theorem c_top (T : TS w cs) (h : CW u w) (hne : cs ≠ []) : m_Tree_topLevel u = some (nI (cs.length - 1), u) := by
  obtain ⟨r, e, -, h30, h1⟩ := T.top hne
  have h0 : 0 < cs.length := List.length_pos_iff.mpr hne
  have hm := (T.1 (cs.length - 1) (by omega)).1.mem (rootOf cs) (by rw [e]; exact List.mem_cons_self)
  unfold m_Tree_topLevel
  rw [nI_lit0, c_blockIn h (by omega), obS, T.2.2.2.2.1, blk_lN h30, if_neg (by rw [nI_eq (by omega) (by omega)]; omega), c_level h h30, obS, hm.2.1, lN_i]
theorem c_top0 (T : TS w cs) (h : CW u w) (hne : cs = []) : m_Tree_topLevel u = some (-1, u) := by
  unfold m_Tree_topLevel
  rw [nI_lit0, c_blockIn h (by omega), obS, T.2.2.2.2.1, hne, show rootOf [] = 0 from rfl, blk_lN (by omega), if_pos rfl]
theorem c_isFull {b : Nat} (h : CW u w) (hb : b ≤ 30) : m_Blocks_isFull u (nI b) = some (if rl w b = 6 then 1 else 0, u) := by
  unfold m_Blocks_isFull
  have := rl_le w b
  rw [c_rl h hb, obS]
  by_cases e : rl w b = 6
  · rw [if_pos (by rw [e]; rfl), if_pos e]
  · rw [if_neg (by rw [show (6 : Int32) = nI 6 from rfl, nI_eq (by omega) (by omega)]; exact e), if_neg e]
theorem TS.sp (T : TS w cs) {L x : Nat} (hx : x ∈ lvc cs L) (h6 : rl w x = 6) : spOK w x := by
  have hL := lvc_in hx
  have hm := (T.1 L hL).1.mem x hx
  have hcl := T.hgt
  obtain ⟨n, h1, h2⟩ := (T.1 L hL).1.next x hx
  refine ⟨hm.1.2, ⟨L, hm.2.1, by omega⟩, ⟨n, h1, ?_⟩, ?_⟩
  · rcases h2 with q | q
    · omega
    · exact ((T.1 L hL).1.mem n q).1.2
  · rcases T.row hx 3 (by omega) with q | q
    · exact absurd q (rl_nz (by omega))
    · exact q
theorem c_insY {M : MM} {x y : Nat} (h : inC u M) (h0 : M.2.1 = []) (hx : x ≤ 30) (hE : rowE M.1 x) (hy : lo M.1 y < 1000) (h6 : rl M.1 x < 6) (cs : List (List Nat)) : okH (m_Tree_insert u (nI x) (ent (lo M.1 y) (nI y))) (insY M cs x y) := by
  obtain ⟨u1, hu⟩ := c_insert (x := nI y) h h0 hx hE hy h6
  refine ⟨u1, ?_⟩
  unfold insY
  cases e : fsM (insL M.1 x (cl M.1 x (lo M.1 y)) (rl M.1 x) (ent (lo M.1 y) (nI y))) M with
  | inl M' => rw [e] at hu; exact hu
  | inr M' => rw [e] at hu; exact hu
theorem c_hang : ∀ (n : Nat) (u : SM) (M : MM) (cs : List (List Nat)) (y L d : Nat), HPre M cs hs y L → cs.length < L + n → n ≤ d → inC u M → okH (m_Tree_hang d u (nI y) (nI L)) (hangM hs n M cs y L) := by
  intro n
  induction n with
  | zero =>
    intro u M cs y L d P h
    have := lvc_in P.2.2.2.2.2.1.1
    have := P.2.2.2.2.1
    omega
  | succ n ih =>
    intro u M cs y L d P hn hd hu
    obtain ⟨d, rfl⟩ : ∃ e, d = e + 1 := ⟨d - 1, by omega⟩
    have P' := P
    have post := hang_post (n + 1) M cs y L P hn
    obtain ⟨Bs, hcl, D, h0, h1, hy, hup⟩ := P
    have T := Bs.1
    have hG := T.gb Bs.2.2.1
    have hyl := lvc_in hy.1
    have hcl30 := T.hgt
    have hym := (T.1 (L - 1) hyl).1.mem y hy.1
    have hy1000 := T.lo1000 hy.1
    have hne : cs ≠ [] := fun e => by rw [e] at hyl; simp at hyl
    obtain ⟨r, er, er0, er30, er1⟩ := T.top hne
    have hny : need M.1 cs 40 L (lo M.1 y) ≤ frN (bls cs hs) := by
      rcases D.2 (L - 1) y hy with z | ⟨-, z⟩
      · rw [show L - 1 + 1 = L by omega] at z; omega
      · rw [show L - 1 + 1 = L by omega] at z; exact z
    rw [m_Tree_hang, if_pos (by rw [show (30 : Int32) = nI 30 from rfl]; exact nI_le (by omega) (by omega)), c_top T hu.1 hne, obS, hangM]
    by_cases eL : cs.length ≤ L
    · rw [if_neg (nI_ge (by omega) (by omega)), if_pos eL, ob_id]
      have hfr : 0 < frN (bls cs hs) := by
        rw [show 40 = 39 + 1 from rfl, need, if_pos eL] at hny; omega
      have hk := ffr_fst hfr
      have hzm := (T.1 (cs.length - 1) (by omega)).1.mem (rootOf cs) (by rw [er]; exact List.mem_cons_self)
      obtain ⟨u1, hu1⟩ := c_raise hu h0 hG hk (z := rootOf cs) (y := y) (L := L) ⟨T.2.2.2.2.1, er30⟩ hym.1.2 hzm.2.2 hym.2.2 (by omega)
      refine ⟨u1, ?_⟩
      cases e : raiM M (rootOf cs) y L (ffr (bls cs hs)) with
      | inl M' => rw [e] at hu1; exact hu1
      | inr M' => rw [e] at hu1; exact hu1
    · rw [if_pos (nI_le (by omega) (by omega)), if_neg eL]
      have hLl : L < cs.length := by omega
      obtain ⟨x, hx⟩ : ∃ x, x = fk M.1 cs L (lo M.1 y) := ⟨_, rfl⟩
      rw [← hx]
      have hxm : x ∈ lvc cs L := by rw [hx]; exact fk_mem T _ hLl
      have hx30 := ((T.1 L hLl).1.mem x hxm).1.2
      have hc := hcl L x hxm
      rw [c_low hu.1 hym.1.2, obS, lo_i hym.2.2.1, c_find T hu.1 hy1000 hLl, obS, ← hx, c_isFull hu.1 hx30, obS]
      by_cases e6 : rl M.1 x < 6
      · rw [if_pos e6, if_neg (show ¬ rl M.1 x = 6 by omega), if_pos rfl, c_entryOf _ (by omega), obS, ob_id]
        exact c_insY hu h0 hx30 (T.row hxm) hy1000 e6 cs
      · have h6 : rl M.1 x = 6 := by have := rl_le M.1 x; omega
        rw [if_neg e6, if_pos h6, if_neg (by decide)]
        obtain ⟨pp, rr, exx⟩ := List.append_of_mem hxm
        have hub := T.ub exx hLl
        have hfr : 0 < frN (bls cs hs) := by
          rw [show 40 = 39 + 1 from rfl, need, if_neg (by omega), ← hx, hc.kcE hub.2.2.1, if_neg (by omega)] at hny; omega
        have hk := ffr_fst hfr
        obtain ⟨k, hkk⟩ : ∃ k, k = ffr (bls cs hs) := ⟨_, rfl⟩
        rw [← hkk] at hk ⊢
        have hkn : k ∉ cs.flatten := fun q => hk.2.2.1 (List.mem_append_left _ q)
        have hxk : x ≠ k := fun q => hkn (by rw [← q]; exact lvc_flat hxm)
        obtain ⟨u1, hu1⟩ := c_split hu h0 hG hk (T.sp hxm h6)
        rcases split_img h0 hxk with ⟨M', g1, g2, g3⟩ | ⟨M1, g1, g2, g3, g4⟩
        · rw [g1] at hu1 ⊢
          exact ⟨u1, by rw [hu1.1, obS, if_pos rfl], hu1.2⟩
        · rw [g1] at hu1 ⊢
          have hk1 := hk.1
          have hk2 := hk.2.1
          obtain ⟨B1, hf1⟩ := sp_base Bs hxm hc h6 hk g3
          obtain ⟨D1, hstr1, hkc1, hlk1⟩ := sp_DI Bs hcl D h1 hy hup hLl hx.symm h6 hk g3
          obtain ⟨F1, F2, F3, F4, F5, F6, F7⟩ := sp_facts T hxm hc h6 hkn ⟨hk.1, hk.2.1⟩ g3
          have nek : ∀ {l b}, b ∈ lvc cs l → b ≠ k := fun hb q => hkn (by rw [← q]; exact lvc_flat hb)
          have cl1 : allClean M1.1 (csI cs L x k) := by
            intro l b hb
            rcases csI_cls hxm hb with q | ⟨-, q⟩
            · by_cases ex : b = x
              · subst ex; exact (F7 g4).1
              · exact (hcl l b q).of_sb (g3.sb ex (nek q)) (F1 l b q ex).1
            · rw [q]; exact F6
          have P1 : HPre M1 (csI cs L x k) hs k (L + 1) := by
            refine ⟨B1, cl1, D1, g2.1, by omega, ?_, ?_⟩
            · rw [show L + 1 - 1 = L by omega]
              exact (hstr1 L k).mpr (Or.inr ⟨rfl, rfl⟩)
            · intro L' z hL' hz
              rcases (hstr1 L' z).mp hz with q | ⟨q, -⟩
              · exact hup L' z (by omega) q
              · omega
          have post1 := hang_post n M1 (csI cs L x k) k (L + 1) P1 (by rw [csI_len]; omega)
          obtain ⟨u2, hu2⟩ := ih u1 M1 (csI cs L x k) k (L + 1) d P1 (by rw [csI_len]; omega) (by omega) hu1.2
          simp only
          rw [hu1.1, obS, if_neg (by rw [nI_lit0, nI_eq (by omega) (by omega)]; omega), a1]
          show okH _ (match hangM hs n M1 (csI cs L x k) k (L + 1) with
            | .inl M' => .inl M'
            | .inr q => insY q.1 q.2 (fk q.1.1 q.2 L (lo q.1.1 y)) y)
          cases eh : hangM hs n M1 (csI cs L x k) k (L + 1) with
          | inl M' =>
            rw [eh] at hu2
            exact ⟨u2, by rw [hu2.1, obS, if_pos rfl], hu2.2⟩
          | inr q =>
            rw [eh] at hu2 post1
            obtain ⟨M2, cs2⟩ := q
            obtain ⟨q1, q2, q3, q4, q5, q6, q7, q8⟩ := post1
            simp only at q1 q2 q3 q4 q5 q6 q7 q8
            have hyM1 : y ∈ lvc (csI cs L x k) (L - 1) := csI_old hxm hy.1
            have hloY : lo M2.1 y = lo M.1 y := by rw [(q7 (L - 1) (by omega) y hyM1).lo]; exact g3.lo (nek hy.1)
            have hL2 : L < cs2.length := by rw [csI_len] at q8; omega
            have T2' := q2.1
            have T1 := B1.1
            have lowM : lowS M1.1 M2.1 (csI cs L x k) cs2 (L + 1) := ⟨q6, q7⟩
            have hfk2 : fk M2.1 cs2 L (lo M2.1 y) = fk M1.1 (csI cs L x k) L (lo M.1 y) := by rw [hloY]; exact lowM.fkE (by omega)
            have hfm : fk M1.1 (csI cs L x k) L (lo M.1 y) ∈ lvc (csI cs L x k) L := fk_mem T1 _ (by rw [csI_len]; exact hLl)
            have hr2 : rl M2.1 (fk M2.1 cs2 L (lo M2.1 y)) < 6 := by
              rw [hfk2, (q7 L (by omega) _ hfm).rl]
              obtain ⟨p3, r3, e3⟩ := List.append_of_mem hfm
              have hu3 := (T1.ub e3 (by rw [csI_len]; exact hLl)).2.2.1
              rw [← (cl1 L _ hfm).kcE hu3]
              exact hkc1
            have hfm2 := fk_mem T2' (lo M2.1 y) hL2
            have hf30 := ((T2'.1 L hL2).1.mem _ hfm2).1.2
            have := c_insY (y := y) hu2.2 q1.1 hf30 (T2'.row hfm2) (by rw [hloY]; exact hy1000) hr2 cs2
            rw [hu2.1, obS, if_neg (by decide), ← hloY, c_find T2' hu2.2.1 (by rw [hloY]; exact hy1000) hL2, obS, c_entryOf _ (by rw [hloY]; omega), obS, ob_id]
            exact this
end CH
