/-! PURE: one call, class beside reference -/
def StM (M : MM) : Prop := (M.2.2.2.2.2 = 0 ∧ ∃ cs hs, Up M cs hs) ∨ (M.2.2.2.2.2 = 1 ∧ ∃ cs hs, Dn M cs hs)
def IV (u : SM) (v : SR) : Prop := ∃ M, inC u M ∧ inRa v M ∧ StM M
theorem StM.base {M : MM} (h : StM M) : ∃ cs hs, Base M.1 cs hs := by
  rcases h with ⟨-, cs, hs, U⟩ | ⟨-, cs, hs, U⟩
  · exact ⟨cs, hs, U.1⟩
  · exact ⟨cs, hs, U.1⟩
theorem inC.cw {u : SM} {M : MM} (h : inC u M) : CW u M.1 := h.1
theorem inC.dn {u : SM} {M : MM} (h : inC u M) : cg_dn u = M.2.2.2.2.2 := h.2.2.2.2.2.2.2
/-- a call that goes through or is cut, in both -/
theorem both {M : MM} {o : MM ⊕ (Int32 × MM)} {rc : Option (Int32 × SM)} {rr : Option (Int32 × SR)} (hd : M.2.2.2.2.2 = 0) (Q : QOut M o) (hc : okT rc o) (hr : okF rr 0 o) : ∃ z u1 v1, rc = some (z, u1) ∧ rr = some (z, v1) ∧ rg_cd v1 = 0 ∧ IV u1 v1 := by
  obtain ⟨u1, h1⟩ := hc
  obtain ⟨r, v1, h2, h3, h4⟩ := hr
  cases o with
  | inl M' =>
    have h1 : rc = some (-2, u1) ∧ inC u1 M' := h1
    have h4 : r = -2 ∧ inRa v1 M' := h4
    obtain ⟨rfl, h5⟩ := h4
    exact ⟨-2, u1, v1, h1.1, h2, h3, M', h1.2, h5, Or.inr ⟨Q.1.2.2.2, Q.2⟩⟩
  | inr q =>
    have h1 : rc = some (q.1, u1) ∧ inC u1 q.2 := h1
    have h4 : r = q.1 ∧ inRa v1 q.2 := h4
    obtain ⟨rfl, h5⟩ := h4
    exact ⟨q.1, u1, v1, h1.1, h2, h3, q.2, h1.2, h5, Or.inl ⟨Q.1.2.2.trans hd, Q.2⟩⟩
section
variable {u : SM} {v : SR}
theorem p_guard (u : SM) (t k : Int32) {f : SM → Option ((Int32 ⊕ Nat) × SM)} (hg : ¬ gdB t k = true) : ob (m_Firm_isPart u t) (fun r1 u2 => if r1 = 0 then (some (.inr 0, u2)) else (ob (m_Firm_isKey u2 k) (fun r5 u6 => if r5 = 0 then (some (.inr 0, u6)) else f u6))) = some (.inr 0, u) := by
  rw [gdB_iff] at hg
  rw [c_isPart, obS]
  by_cases ht : t = 0 ∨ t = 1
  · rw [if_pos ht, if_neg (by decide), c_isKey, obS, if_neg (fun q => hg ⟨ht, q⟩), if_pos rfl]
  · rw [if_neg ht, if_pos rfl]
theorem p_pass (u : SM) (t k : Int32) {f : SM → Option ((Int32 ⊕ Nat) × SM)} (hg : gdB t k = true) : ob (m_Firm_isPart u t) (fun r1 u2 => if r1 = 0 then (some (.inr 0, u2)) else (ob (m_Firm_isKey u2 k) (fun r5 u6 => if r5 = 0 then (some (.inr 0, u6)) else f u6))) = f u := by
  rw [gdB_iff] at hg
  rw [c_isPart, obS, if_pos hg.1, if_neg (by decide), c_isKey, obS, if_pos hg.2, if_neg (by decide)]
theorem p_put (I : IV u v) (t k x : Int32) : ∃ r u1 rv v1, m_Firm_put u t k x = some (r, u1) ∧ m_Ref_put v t k x = some (rv, v1) ∧ IV u1 v1 ∧ ((r = .inl rv ∧ rg_cd v1 = 0) ∨ (r = .inr 0 ∧ rg_cd v1 = 1) ∨ (r = .inr 1 ∧ rg_cd v1 = 2)) := by
  obtain ⟨M, hC, hR, hS⟩ := id I
  rw [m_Firm_put]
  by_cases hg : gdB t k = true
  · rw [p_pass (f := fun u6 => if (cg_dn u6) = 0 then (if t = 0 then (ob (m_Tree_enter u6 k x) (fun r13 u14 => some (.inl r13, u14))) else (ob (m_Table_enter u6 k x) (fun r9 u10 => some (.inl r9, u10)))) else (some (.inr 1, u6))) u t k hg]
    rw [hC.dn]
    rcases id hS with ⟨hd, cs, hs, U⟩ | ⟨hd, -⟩
    · rw [if_pos hd]
      obtain ⟨ht, h1, h2⟩ := gdB_iff.mp hg
      obtain ⟨j, hj, rfl⟩ := key_of h1 h2
      by_cases e : t = 0
      · subst e
        rw [if_pos rfl]
        obtain ⟨z, u1, v1, g1, g2, g3, g4⟩ := both hd (putT_post U hj).q (c_enter U hC hj (v := x)) (r_put0 U hR hj hd x)
        rw [g1, obS]
        exact ⟨_, u1, z, v1, rfl, g2, g4, Or.inl ⟨rfl, g3⟩⟩
      · have e1 : t = 1 := by rcases ht with h | h; exact absurd h e; exact h
        subst e1
        rw [if_neg e]
        obtain ⟨z, u1, v1, g1, g2, g3, g4⟩ := both hd (tabT_post U hj) (c_tenter U hC hj (v := x)) (r_put1 U hR hj hd x)
        rw [g1, obS]
        exact ⟨_, u1, z, v1, rfl, g2, g4, Or.inl ⟨rfl, g3⟩⟩
    · have hd0 : M.2.2.2.2.2 ≠ 0 := by rw [hd]; decide
      rw [if_neg hd0]
      exact ⟨_, u, 0, rs_cd v 2, rfl, (r_put hR t k x).2 hg hd0, ⟨M, hC, hR.cd 2, hS⟩, Or.inr (Or.inr ⟨rfl, rfl⟩)⟩
  · rw [p_guard (f := fun u6 => if (cg_dn u6) = 0 then (if t = 0 then (ob (m_Tree_enter u6 k x) (fun r13 u14 => some (.inl r13, u14))) else (ob (m_Table_enter u6 k x) (fun r9 u10 => some (.inl r9, u10)))) else (some (.inr 1, u6))) u t k hg]
    exact ⟨_, u, 0, rs_cd v 1, rfl, (r_put hR t k x).1 hg, ⟨M, hC, hR.cd 1, hS⟩, Or.inr (Or.inl ⟨rfl, rfl⟩)⟩
theorem nz_addr {a : Nat} (h : 0 < a ∧ a < 279) : ¬ (nI a = 0) := by
  intro h0
  have := congrArg Int32.toInt h0
  rw [show (0 : Int32) = nI 0 from rfl, nI_toInt (by omega), nI_toInt (by omega)] at this
  omega
theorem p_remove (I : IV u v) (t k : Int32) : ∃ r u1 rv v1, m_Firm_remove u t k = some (r, u1) ∧ m_Ref_remove v t k = some (rv, v1) ∧ IV u1 v1 ∧ ((r = .inl rv ∧ rg_cd v1 = 0) ∨ (r = .inr 0 ∧ rg_cd v1 = 1) ∨ (r = .inr 1 ∧ rg_cd v1 = 2) ∨ (r = .inr 2 ∧ rg_cd v1 = 3)) := by
  obtain ⟨M, hC, hR, hS⟩ := id I
  rw [m_Firm_remove]
  by_cases hg : gdB t k = true
  · rw [p_pass (f := fun u6 => if (cg_dn u6) = 0 then (ob (m_Firm_addressOf u6 t k) (fun r9 u10 => if r9 = 0 then (some (.inr 2, u10)) else (if t = 0 then (ob (m_Tree_dropAt u10 r9) (fun r17 u18 => if r17 = 0 then (some (.inl (-2 : Int32), u18)) else (some (.inl (1 : Int32), u18)))) else (ob (m_Memory_firmStore u10 r9 (0 : Int64)) (fun r13 u14 => if r13 = 0 then (some (.inl (-2 : Int32), u14)) else (some (.inl (1 : Int32), u14))))))) else (some (.inr 1, u6))) u t k hg]
    rw [hC.dn]
    rcases id hS with ⟨hd, cs, hs, U⟩ | ⟨hd, -⟩
    · rw [if_pos hd]
      obtain ⟨ht, h1, h2⟩ := gdB_iff.mp hg
      obtain ⟨j, hj, rfl⟩ := key_of h1 h2
      have hrr := r_remove2 U hR hg hj hd
      rw [c_addr U.1 hC.cw hj ht, obS]
      cases ha : rdT hs cs M.1 t j with
      | none =>
        rw [ha] at hrr
        rw [if_pos (show oA 0 none = 0 from rfl)]
        exact ⟨_, u, 0, rs_cd v 3, rfl, hrr, ⟨M, hC, hR.cd 3, hS⟩, Or.inr (Or.inr (Or.inr ⟨rfl, rfl⟩))⟩
      | some a =>
        rw [ha] at hrr
        have hlt := rdT_lt U.1 hj ha
        rw [if_neg (show ¬ oA 0 (some a) = 0 from nz_addr hlt)]
        have hq := rmT_post U hj ha
        have hc : okT (if t = 0 then (ob (m_Tree_dropAt u (nI a)) (fun r17 u18 => if r17 = 0 then (some ((-2 : Int32), u18)) else (some ((1 : Int32), u18)))) else (ob (m_Memory_firmStore u (nI a) (0 : Int64)) (fun r13 u14 => if r13 = 0 then (some ((-2 : Int32), u14)) else (some ((1 : Int32), u14))))) (rmT M t a) := by
          unfold rmT
          by_cases e : t = 1
          · subst e
            rw [if_neg (by decide), if_pos rfl]
            exact c_fT hC U.2.2.2 hlt.2 0 1
          · have e0 : t = 0 := by rcases ht with h | h; exact h; exact absurd h e
            rw [if_pos e0, if_neg e]
            obtain ⟨u1, h3⟩ := c_rm1 hC U.2.2.2 U.1 e ha
            refine ⟨u1, ?_⟩
            unfold drT
            cases hf : fsM (drL M.1 (a / 9) (6 - (a % 9 - 3)) (a % 9 - 3)) M with
            | inl M' => rw [hf] at h3; exact ⟨by rw [h3.1, obS, if_pos rfl], h3.2⟩
            | inr M' => rw [hf] at h3; exact ⟨by rw [h3.1, obS, if_neg (by decide)], h3.2⟩
        obtain ⟨z, u1, v1, g1, g2, g3, g4⟩ := both hd hq hc hrr
        refine ⟨.inl z, u1, z, v1, ?_, g2, g4, Or.inl ⟨rfl, g3⟩⟩
        rw [show oA 0 (some a) = nI a from rfl]
        by_cases e : t = 0
        · rw [if_pos e] at g1 ⊢
          obtain ⟨r1, u2, g5, g6⟩ := ob_some g1
          rw [g5, obS]
          by_cases e2 : r1 = 0
          · rw [if_pos e2] at g6 ⊢; cases g6; rfl
          · rw [if_neg e2] at g6 ⊢; cases g6; rfl
        · rw [if_neg e] at g1 ⊢
          obtain ⟨r1, u2, g5, g6⟩ := ob_some g1
          rw [g5, obS]
          by_cases e2 : r1 = 0
          · rw [if_pos e2] at g6 ⊢; cases g6; rfl
          · rw [if_neg e2] at g6 ⊢; cases g6; rfl
    · have hd0 : M.2.2.2.2.2 ≠ 0 := by rw [hd]; decide
      rw [if_neg hd0]
      exact ⟨_, u, 0, rs_cd v 2, rfl, (r_remove hR t k).2 hg hd0, ⟨M, hC, hR.cd 2, hS⟩, Or.inr (Or.inr (Or.inl ⟨rfl, rfl⟩))⟩
  · rw [p_guard (f := fun u6 => if (cg_dn u6) = 0 then (ob (m_Firm_addressOf u6 t k) (fun r9 u10 => if r9 = 0 then (some (.inr 2, u10)) else (if t = 0 then (ob (m_Tree_dropAt u10 r9) (fun r17 u18 => if r17 = 0 then (some (.inl (-2 : Int32), u18)) else (some (.inl (1 : Int32), u18)))) else (ob (m_Memory_firmStore u10 r9 (0 : Int64)) (fun r13 u14 => if r13 = 0 then (some (.inl (-2 : Int32), u14)) else (some (.inl (1 : Int32), u14))))))) else (some (.inr 1, u6))) u t k hg]
    exact ⟨_, u, 0, rs_cd v 1, rfl, (r_remove hR t k).1 hg, ⟨M, hC, hR.cd 1, hS⟩, Or.inr (Or.inl ⟨rfl, rfl⟩)⟩
theorem p_get (I : IV u v) (t k : Int32) : ∃ r u1 rv v1, m_Firm_get u t k = some (r, u1) ∧ m_Ref_get v t k = some (rv, v1) ∧ IV u1 v1 ∧ ((r = .inl rv ∧ rg_cd v1 = 0) ∨ (r = .inr 0 ∧ rg_cd v1 = 1) ∨ (r = .inr 2 ∧ rg_cd v1 = 2)) := by
  obtain ⟨M, hC, hR, hS⟩ := id I
  obtain ⟨cs, hs, Bs⟩ := hS.base
  rw [m_Firm_get]
  by_cases hg : gdB t k = true
  · rw [p_pass (f := fun u6 => ob (m_Firm_addressOf u6 t k) (fun r9 u10 => if r9 = 0 then (some (.inr 2, u10)) else (ob (m_Memory_wordAt u10 r9) (fun r13 u14 => ob (m_Firm_valueOf u14 r13) (fun r17 u18 => some (.inl r17, u18)))))) u t k hg]
    obtain ⟨ht, h1, h2⟩ := gdB_iff.mp hg
    obtain ⟨j, hj, rfl⟩ := key_of h1 h2
    have hrr := r_get2 Bs hR hg hj
    rw [c_addr Bs hC.cw hj ht, obS]
    cases ha : rdT hs cs M.1 t j with
    | none =>
      rw [ha] at hrr
      rw [if_pos (show oA 0 none = 0 from rfl)]
      exact ⟨_, u, 0, rs_cd v 2, rfl, hrr, ⟨M, hC, hR.cd 2, hS⟩, Or.inr (Or.inr ⟨rfl, rfl⟩)⟩
    | some a =>
      rw [ha] at hrr
      have hlt := rdT_lt Bs hj ha
      rw [if_neg (show ¬ oA 0 (some a) = 0 from nz_addr hlt), show oA 0 (some a) = nI a from rfl, c_word hC.cw hlt.2, obS, m_Firm_valueOf, obS]
      exact ⟨_, u, _, rs_cd v 0, rfl, hrr, ⟨M, hC, hR.cd 0, hS⟩, Or.inl ⟨rfl, rfl⟩⟩
  · rw [p_guard (f := fun u6 => ob (m_Firm_addressOf u6 t k) (fun r9 u10 => if r9 = 0 then (some (.inr 2, u10)) else (ob (m_Memory_wordAt u10 r9) (fun r13 u14 => ob (m_Firm_valueOf u14 r13) (fun r17 u18 => some (.inl r17, u18)))))) u t k hg]
    exact ⟨_, u, 0, rs_cd v 1, rfl, r_get1 hR t k hg, ⟨M, hC, hR.cd 1, hS⟩, Or.inr (Or.inl ⟨rfl, rfl⟩)⟩
theorem p_from (I : IV u v) (k : Int32) : ∃ r u1 rv v1, m_Firm_from u k = some (r, u1) ∧ m_Ref_from v k = some (rv, v1) ∧ IV u1 v1 ∧ ((r = .inl rv ∧ rg_cd v1 = 0) ∨ (r = .inr 0 ∧ rg_cd v1 = 1) ∨ (r = .inr 2 ∧ rg_cd v1 = 2)) := by
  obtain ⟨M, hC, hR, hS⟩ := id I
  obtain ⟨cs, hs, Bs⟩ := hS.base
  rw [m_Firm_from, c_isKey, obS]
  by_cases hk : ¬ k < 0 ∧ ¬ (999 : Int32) < k
  · rw [if_pos hk, if_neg (by decide)]
    obtain ⟨j, hj, rfl⟩ := key_of hk.1 hk.2
    obtain ⟨m, h1, h2⟩ := c_lkf Bs hC.cw hj
    obtain ⟨m', h3, h4⟩ := r_from Bs hR hj
    obtain rfl := Lst.uniq Bs h2 h3
    rw [h1, obS]
    have hm : m ≤ 1000 := h2.1
    by_cases e : m = 1000
    · rw [if_pos e] at h4
      rw [if_pos (by rw [e]; rfl)]
      exact ⟨_, u, 0, rs_cd v 2, rfl, h4, ⟨M, hC, hR.cd 2, hS⟩, Or.inr (Or.inr ⟨rfl, rfl⟩)⟩
    · rw [if_neg e] at h4
      rw [if_neg (fun q => e (by
        have := congrArg Int32.toInt q
        rw [show (1000 : Int32) = nI 1000 from rfl, nI_toInt (by omega), nI_toInt (by omega)] at this
        omega))]
      exact ⟨_, u, _, rs_cd v 0, rfl, h4, ⟨M, hC, hR.cd 0, hS⟩, Or.inl ⟨rfl, rfl⟩⟩
  · rw [if_neg hk, if_pos rfl]
    have hb : k < 0 ∨ (999 : Int32) < k := by
      by_cases h1 : k < 0
      · exact Or.inl h1
      · exact Or.inr (Classical.not_not.mp (fun h2 => hk ⟨h1, h2⟩))
    exact ⟨_, u, 0, rs_cd v 1, rfl, r_from_bad hb, ⟨M, hC, hR.cd 1, hS⟩, Or.inr (Or.inl ⟨rfl, rfl⟩)⟩
theorem p_recover (I : IV u v) : ∃ r u1 rv v1, m_Firm_recover u = some (r, u1) ∧ m_Ref_recover v = some (rv, v1) ∧ IV u1 v1 ∧ ((r = .inl rv ∧ rg_cd v1 = 0) ∨ (r = .inr 1 ∧ rg_cd v1 = 1)) := by
  obtain ⟨M, hC, hR, hS⟩ := id I
  rw [m_Firm_recover, hC.dn]
  rcases id hS with ⟨hd, -⟩ | ⟨hd, cs, hs, P⟩
  · rw [if_pos hd]
    exact ⟨_, u, 0, rs_cd v 1, rfl, r_recover1 hR hd, ⟨M, hC, hR.cd 1, hS⟩, Or.inr ⟨rfl, rfl⟩⟩
  · have hd0 : M.2.2.2.2.2 ≠ 0 := by rw [hd]; decide
    rw [if_neg hd0]
    have hc := c_recover P hC
    have hr := r_recover P hR hd0
    have hp := rcT_post P
    have key : ∃ z u1 v1, m_Firm_recover0 u = some (z, u1) ∧ m_Ref_recover v = some (z, v1) ∧ rg_cd v1 = 0 ∧ IV u1 v1 := by
      obtain ⟨u1, h1⟩ := hc
      obtain ⟨r, v1, h2, h3, h4⟩ := hr
      generalize rcT hs cs M = o at h1 h4 hp
      cases o with
      | inl M' =>
        have h1 : m_Firm_recover0 u = some (-2, u1) ∧ inC u1 M' := h1
        have h4 : r = -2 ∧ inRa v1 M' := h4
        obtain ⟨rfl, h5⟩ := h4
        obtain ⟨e1, cs', e2⟩ := hp
        exact ⟨-2, u1, v1, h1.1, h2, h3, M', h1.2, h5, Or.inr ⟨e1.2.2.2, cs', hs, e2⟩⟩
      | inr q =>
        have h1 : m_Firm_recover0 u = some (q.1, u1) ∧ inC u1 q.2 := h1
        have h4 : r = q.1 ∧ inRa v1 q.2 := h4
        obtain ⟨rfl, h5⟩ := h4
        obtain ⟨e1, cs', e2⟩ := hp
        exact ⟨q.1, u1, v1, h1.1, h2, h3, q.2, h1.2, h5, Or.inl ⟨e1, cs', hs, e2⟩⟩
    obtain ⟨z, u1, v1, g1, g2, g3, g4⟩ := key
    refine ⟨.inl z, u1, z, v1, ?_, g2, g4, Or.inl ⟨rfl, g3⟩⟩
    rw [m_Firm_recover0] at g1
    obtain ⟨r1, u2, k1, k2⟩ := ob_some g1
    rw [k1, obS]
    by_cases e1 : r1 = 0
    · rw [if_pos e1] at k2 ⊢; cases k2; rfl
    · rw [if_neg e1] at k2 ⊢
      obtain ⟨r5, u6, k3, k4⟩ := ob_some k2
      rw [k3, obS]
      by_cases e2 : r5 = 0
      · rw [if_pos e2] at k4 ⊢; cases k4; rfl
      · rw [if_neg e2] at k4 ⊢; cases k4; rfl
theorem p_order (I : IV u v) (n m : Int32) : ∃ r u1 v1, m_Firm_order u n m = some (r, u1) ∧ m_Ref_order v n m = some (r, v1) ∧ IV u1 v1 := by
  obtain ⟨M, hC, hR, hS⟩ := I
  obtain ⟨r, u1, v1, M1, h1, h2, h3, h4, h5⟩ := s_order hC hR n m
  refine ⟨r, u1, v1, h1, h2, M1, h3, h4, ?_⟩
  rcases h5 with rfl | rfl
  · exact hS
  · exact hS
theorem p_size (I : IV u v) (t : Int32) : ∃ r v1, m_Firm_size u t = some (r, u) ∧ m_Ref_size v t = some (r, v1) ∧ IV u v1 := by
  obtain ⟨M, hC, hR, hS⟩ := I
  obtain ⟨cs, hs, Bs⟩ := hS.base
  obtain ⟨r, v1, h1, h2, h3⟩ := c_size Bs hC hR t
  exact ⟨r, v1, h1, h2, M, hC, h3, hS⟩
theorem p_free (I : IV u v) : ∃ r v1, m_Firm_free u = some (r, u) ∧ m_Ref_free v = some (r, v1) ∧ IV u v1 := by
  obtain ⟨M, hC, hR, hS⟩ := I
  obtain ⟨cs, hs, Bs⟩ := hS.base
  obtain ⟨r, v1, h1, h2, h3⟩ := s_free Bs hC hR
  exact ⟨r, v1, h1, h2, M, hC, h3, hS⟩
theorem p_height (I : IV u v) : ∃ r v1, m_Firm_height u = some (r, u) ∧ m_Ref_height v = some (r, v1) ∧ IV u v1 := by
  obtain ⟨M, hC, hR, hS⟩ := I
  obtain ⟨cs, hs, Bs⟩ := hS.base
  obtain ⟨r, v1, h1, h2, h3⟩ := s_height Bs hC hR
  exact ⟨r, v1, h1, h2, M, hC, h3, hS⟩
theorem p_word (I : IV u v) (a : Int32) : ∃ r v1, m_Firm_word u a = some (r, u) ∧ m_Ref_word v a = some (r, v1) ∧ IV u v1 := by
  obtain ⟨M, hC, hR, hS⟩ := I
  obtain ⟨r, h1, h2⟩ := s_word hC hR a
  exact ⟨r, _, h1, h2, M, hC, hR.cd 0, hS⟩
theorem p_stores (I : IV u v) : ∃ r v1, m_Firm_stores u = some (r, u) ∧ m_Ref_stores v = some (r, v1) ∧ IV u v1 := by
  obtain ⟨M, hC, hR, hS⟩ := I
  obtain ⟨r, h1, h2⟩ := s_stores hC hR
  exact ⟨r, _, h1, h2, M, hC, hR.cd 0, hS⟩
theorem p_down (I : IV u v) : ∃ r v1, m_Firm_down u = some (r, u) ∧ m_Ref_down v = some (r, v1) ∧ IV u v1 := by
  obtain ⟨M, hC, hR, hS⟩ := I
  obtain ⟨r, h1, h2⟩ := s_down hC hR (by
    rcases hS with ⟨h, -⟩ | ⟨h, -⟩
    · exact Or.inl h
    · exact Or.inr h)
  exact ⟨r, _, h1, h2, M, hC, hR.cd 0, hS⟩
end
theorem lvc_nil (L : Nat) : lvc [] L = [] := rfl
theorem no_lvc {L b : Nat} (h : b ∈ lvc [] L) : False := by rw [lvc_nil] at h; cases h
theorem base_0 : Base (fun _ => (0 : Int64)) [] (fun _ => []) := by
  have hb : bls [] (fun _ => []) = [] := by
    simp [bls, hsA]
  refine ⟨⟨?_, ?_, ?_, ?_, ?_, ?_⟩, ?_, ?_, ?_, ?_⟩
  · exact fun L h => absurd h (Nat.not_lt_zero _)
  · exact fun L h => absurd h (Nat.not_lt_zero _)
  · exact fun b h => absurd h no_lvc
  · exact List.nodup_nil
  · exact (by decide : (0 : Int64) = lN 0)
  · exact fun L h => absurd h (Nat.not_lt_zero _)
  · exact fun L h => absurd h (Nat.not_lt_zero _)
  · exact fun h _ _ => ⟨(by decide : (0 : Int64) = lN 0), trivial⟩
  · intro h _ _
    refine ⟨fun b hb => ?_, fun b b' p p' hb => ?_⟩
    · cases hb
    · cases hb
  · rw [hb]; exact List.nodup_nil
theorem iv_0 : IV u_0 v_0 := by
  refine ⟨(fun _ => 0, [], -1, 0, 0, 0), ⟨fun _ _ => rfl, rfl, Nat.zero_le _, fun i h => absurd h (Nat.not_lt_zero _), rfl, rfl, rfl, rfl⟩, ⟨0, fun _ _ => rfl, rfl, Nat.zero_le _, fun i h => absurd h (Nat.not_lt_zero _), rfl, rfl, rfl, rfl, rfl⟩, Or.inl ⟨rfl, [], fun _ => [], base_0, ?_, ?_, rfl⟩⟩
  · exact fun L b h => absurd h no_lvc
  · exact fun l z h => no_lvc h.1
