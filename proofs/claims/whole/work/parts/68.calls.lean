/-! PURE: put, remove and get, as calls -/
def inRa (v : SR) (M : MM) : Prop := ∃ br, inR v M br
theorem inRa.w {v : SR} {M : MM} (h : inRa v M) : RW v M.1 := h.choose_spec.1
theorem inRa.dn {v : SR} {M : MM} (h : inRa v M) : rg_dn v = M.2.2.2.2.2 := h.choose_spec.2.2.2.2.2.2.2.1
theorem inRa.reset {v : SR} {M : MM} (h : inRa v M) (s : Int32) : inR (rs_br (rs_cd v s) 0) M 0 := by
  obtain ⟨br, h1, h2, h3, h4, h5, h6, h7, h8, h9⟩ := h
  exact ⟨h1, h2, h3, h4, h5, h6, h7, h8, rfl⟩
theorem inRa.cd {v : SR} {M : MM} (h : inRa v M) (s : Int32) : inRa (rs_cd v s) M := by
  obtain ⟨br, h⟩ := h
  exact ⟨br, h⟩
theorem inR.a {v : SR} {M : MM} {br : Int32} (h : inR v M br) : inRa v M := ⟨br, h⟩
def okF (res : Option (Int32 × SR)) (cd : Int32) (o : MM ⊕ (Int32 × MM)) : Prop := ∃ r u1, res = some (r, u1) ∧ rg_cd u1 = cd ∧ match o with
  | .inl M => r = -2 ∧ inRa u1 M
  | .inr q => r = q.1 ∧ inRa u1 q.2
theorem okS.fin {res : Option (Int32 × SR)} {cd : Int32} {o : MM ⊕ (Int32 × MM)} (h : okS res cd o) : okF (ob res (fun r9 u10 => if (rg_br u10) = 0 then (some (r9, u10)) else (some ((-2 : Int32), u10)))) cd o := by
  obtain ⟨r, u1, e, hc, hm⟩ := h
  rw [e, obS]
  cases o with
  | inl M =>
    have hm' : inR u1 M 1 := hm
    rw [if_neg (by rw [hm'.b1]; decide)]
    exact ⟨-2, u1, rfl, hc, rfl, hm'.a⟩
  | inr q =>
    have hm' : r = q.1 ∧ inR u1 q.2 0 := hm
    rw [if_pos hm'.2.b1]
    exact ⟨r, u1, rfl, hc, hm'.1, hm'.2.a⟩
def gdB (t k : Int32) : Bool := decide ((t = 0 ∨ t = 1) ∧ ¬ k < 0 ∧ ¬ (999 : Int32) < k)
theorem gdB_iff {t k : Int32} : gdB t k = true ↔ (t = 0 ∨ t = 1) ∧ ¬ k < 0 ∧ ¬ (999 : Int32) < k := by unfold gdB; exact decide_eq_true_iff
theorem r_isGood (v : SR) (t k : Int32) : m_Ref_isGood v t k = some (if gdB t k = true then 1 else 0, v) := by
  have j9 : ∀ (ht : t = 0 ∨ t = 1), m_Ref_isGood_J9 v k = some (if gdB t k = true then 1 else 0, v) := by
    intro ht
    rw [m_Ref_isGood_J9]
    by_cases c1 : k < 0
    · rw [if_pos c1, if_neg (fun q => (gdB_iff.mp q).2.1 c1)]
    · rw [if_neg c1]
      by_cases c2 : (999 : Int32) < k
      · rw [if_pos c2, if_neg (fun q => (gdB_iff.mp q).2.2 c2)]
      · rw [if_neg c2, if_pos (gdB_iff.mpr ⟨ht, c1, c2⟩)]
  rw [m_Ref_isGood]
  by_cases c0 : t = 0
  · rw [if_pos c0]; exact j9 (Or.inl c0)
  · rw [if_neg c0]
    by_cases c1 : t = 1
    · rw [if_pos c1]; exact j9 (Or.inr c1)
    · rw [if_neg c1, if_neg (fun q => by rcases (gdB_iff.mp q).1 with z | z; exact c0 z; exact c1 z)]
theorem key_of {k : Int32} (h1 : ¬ k < 0) (h2 : ¬ (999 : Int32) < k) : ∃ j, j < 1000 ∧ k = nI j := by
  obtain ⟨j, hj, e⟩ := nI_of2 (M := (999 : Int32)) (n := 999) (by decide) h1 (Int32.not_lt.mp h2)
  exact ⟨j, by omega, e⟩
theorem c_isPart (u : SM) (t : Int32) : m_Firm_isPart u t = some (if t = 0 ∨ t = 1 then 1 else 0, u) := by
  rw [m_Firm_isPart]
  by_cases c0 : t = 0
  · rw [if_pos c0, if_pos (Or.inl c0)]
  · rw [if_neg c0]
    by_cases c1 : t = 1
    · rw [if_pos c1, if_pos (Or.inr c1)]
    · rw [if_neg c1, if_neg (by rintro (z | z); exact c0 z; exact c1 z)]
theorem k999 {k : Int32} : (1000 : Int32) ≤ k ↔ (999 : Int32) < k := by
  rw [Int32.le_iff_toInt_le, Int32.lt_iff_toInt_lt]
  rw [show (1000 : Int32).toInt = 1000 by decide, show (999 : Int32).toInt = 999 by decide]
  omega
theorem c_isKey (u : SM) (k : Int32) : m_Firm_isKey u k = some (if ¬ k < 0 ∧ ¬ (999 : Int32) < k then 1 else 0, u) := by
  rw [m_Firm_isKey]
  by_cases c0 : k < 0
  · rw [if_pos c0, if_neg (fun q => q.1 c0)]
  · rw [if_neg c0]
    by_cases c1 : (1000 : Int32) ≤ k
    · rw [if_pos c1, if_neg (fun q => q.2 (k999.mp c1))]
    · rw [if_neg c1, if_pos ⟨c0, fun q => c1 (k999.mpr q)⟩]
def rdT (hs : Nat → List Nat) (cs : List (List Nat)) (w : Mem) (t : Int32) (k : Nat) : Option Nat :=
  if t = 1 then tsk w (nI k) (hs (k % 8 + 1)) else if cs.length = 0 then none else if hasK w (fk w cs 0 k) k = true then some (9 * fk w cs 0 k + 3 + cl w (fk w cs 0 k) k) else none
section Rd
variable {u : SM} {v : SR} {M : MM} {cs : List (List Nat)} {hs : Nat → List Nat} {k : Nat} {t : Int32}
theorem rdT_lt (Bs : Base M.1 cs hs) (hk : k < 1000) {a : Nat} (h : rdT hs cs M.1 t k = some a) : 0 < a ∧ a < 279 := by
  unfold rdT at h
  by_cases e : t = 1
  · rw [if_pos e] at h
    obtain ⟨b, p, z1, z2, z3, -⟩ := tsk_key Bs.2.2.2.1 (by omega) (by omega) hk h
    have := tab_lt Bs (by omega) (by omega) z1 z2
    omega
  · rw [if_neg e] at h
    by_cases e0 : cs.length = 0
    · rw [if_pos e0] at h; cases h
    · rw [if_neg e0] at h
      by_cases e1 : hasK M.1 (fk M.1 cs 0 k) k = true
      · rw [if_pos e1] at h
        cases h
        have hm := fk_mem Bs.1 k (lev := 0) (by omega)
        have hr := ((Bs.1.1 0 (by omega)).1.mem _ hm).1
        have h6 := rl_le M.1 (fk M.1 cs 0 k)
        have := (hasK_iff.mp e1).1
        omega
      · rw [if_neg e1] at h; cases h
theorem r_read (Bs : Base M.1 cs hs) (h : RW v M.1) (hk : k < 1000) (ht : t = 0 ∨ t = 1) : m_Ref_read v t (nI k) = some (oA (-1) (rdT hs cs M.1 t k), v) := by
  rw [m_Ref_read]
  unfold rdT
  by_cases e : t = 1
  · rw [if_pos e, if_pos e, r_tseek Bs h hk, obS]
  · have T := Bs.1
    rw [if_neg e, if_neg e, r_root h, obS, T.2.2.2.2.1, lN_i]
    by_cases e0 : cs.length = 0
    · have hc0 : cs = [] := List.length_eq_zero_iff.mp e0
      rw [if_pos e0, if_pos (by rw [hc0]; rfl)]; rfl
    · have hL : 0 < cs.length := by omega
      have hne : cs ≠ [] := fun e => by rw [e] at hL; simp at hL
      obtain ⟨r, er, er0, er30, er1⟩ := T.top hne
      have h6 := rl_le M.1 (fk M.1 cs 0 k)
      rw [if_neg e0, if_neg (nI_ne0 (by omega) (by omega)), r_find0 T h hk hL, obS, r_place0 T h hk hL, obS]
      by_cases e1 : hasK M.1 (fk M.1 cs 0 k) k = true
      · have := (hasK_iff.mp e1).1
        rw [if_pos e1, if_pos e1, if_pos (nI_pos' (by omega)), pl_addr']; rfl
      · rw [if_neg e1, if_neg e1, if_neg (by decide)]; rfl
theorem c_addr (Bs : Base M.1 cs hs) (h : CW u M.1) (hk : k < 1000) (ht : t = 0 ∨ t = 1) : m_Firm_addressOf u t (nI k) = some (oA 0 (rdT hs cs M.1 t k), u) := by
  rw [m_Firm_addressOf]
  unfold rdT
  by_cases e : t = 1
  · rw [if_neg (by rw [e]; decide), if_pos e, c_tseek Bs h hk, obS]
  · have T := Bs.1
    rw [if_pos (ht.resolve_right e), if_neg e]
    by_cases e0 : cs.length = 0
    · have hc0 : cs = [] := List.length_eq_zero_iff.mp e0
      rw [if_pos e0, c_seek_none h (by rw [T.2.2.2.2.1, hc0]; rfl), obS]; rfl
    · rw [if_neg e0, c_seek T h hk (by omega), obS]
      by_cases e1 : hasK M.1 (fk M.1 cs 0 k) k = true
      · rw [if_pos e1, if_pos e1]; rfl
      · rw [if_neg e1, if_neg e1]; rfl
theorem oA_neg {o : Option Nat} (h : ∀ a, o = some a → a < 279) : (oA (-1) o < 0 ↔ o = none) ∧ (0 ≤ oA (-1) o ↔ ¬ o = none) := by
  cases o with
  | none => exact ⟨⟨fun _ => rfl, fun _ => by decide⟩, ⟨fun q => absurd q (by decide), fun q => absurd rfl q⟩⟩
  | some a =>
    have := h a rfl
    exact ⟨⟨fun q => absurd q (nI_pos (by omega)), (fun q => by cases q)⟩, ⟨(fun _ q => by cases q), fun _ => nI_pos' (by omega)⟩⟩
def rmT (M : MM) (t : Int32) (a : Nat) : MM ⊕ (Int32 × MM) := if t = 1 then fT M a 0 1 else drT M (a / 9) (a % 9 - 3)
theorem rm_tree (hL : ¬ t = 1) {a : Nat} (h : rdT hs cs M.1 t k = some a) : 0 < cs.length ∧ cl M.1 (fk M.1 cs 0 k) k < rl M.1 (fk M.1 cs 0 k) ∧ a = 9 * fk M.1 cs 0 k + 3 + cl M.1 (fk M.1 cs 0 k) k ∧ a / 9 = fk M.1 cs 0 k ∧ a % 9 - 3 = cl M.1 (fk M.1 cs 0 k) k := by
  unfold rdT at h
  rw [if_neg hL] at h
  by_cases e0 : cs.length = 0
  · rw [if_pos e0] at h; cases h
  · rw [if_neg e0] at h
    by_cases e1 : hasK M.1 (fk M.1 cs 0 k) k = true
    · rw [if_pos e1] at h
      cases h
      have h6 := rl_le M.1 (fk M.1 cs 0 k)
      have := (hasK_iff.mp e1).1
      exact ⟨by omega, this, rfl, by omega, by omega⟩
    · rw [if_neg e1] at h; cases h
theorem rmT_post (U : Up M cs hs) (hk : k < 1000) {a : Nat} (h : rdT hs cs M.1 t k = some a) : QOut M (rmT M t a) := by
  unfold rmT
  by_cases e : t = 1
  · rw [if_pos e]
    unfold rdT at h
    rw [if_pos e] at h
    obtain ⟨b, p, z1, z2, z3, -⟩ := tsk_key U.1.2.2.2.1 (by omega) (by omega) hk h
    rw [z3]
    exact fT_post U (by omega) (by omega) z1 z2 (Or.inl rfl)
  · rw [if_neg e]
    obtain ⟨h1, h2, h3, h4, h5⟩ := rm_tree e h
    rw [h4, h5]
    exact (drT_post U (fk_mem U.1.1 k h1) h2).q
theorem c_rm1 (h : inC u M) (h0 : M.2.1 = []) (Bs : Base M.1 cs hs) (e : ¬ t = 1) {a : Nat} (hr : rdT hs cs M.1 t k = some a) : okC (m_Tree_dropAt u (nI a)) (fsM (drL M.1 (a / 9) (6 - (a % 9 - 3)) (a % 9 - 3)) M) := by
  obtain ⟨h1, h2, h3, h4, h5⟩ := rm_tree e hr
  have hm := fk_mem Bs.1 k (lev := 0) h1
  have hr30 := ((Bs.1.1 0 h1).1.mem _ hm).1
  have h6 := rl_le M.1 (fk M.1 cs 0 k)
  rw [h4, h5, m_Tree_dropAt, show (9 : Int32) = nI 9 from rfl, pk_div (by omega) (by omega) (by omega), h4]
  have hp0 : m_Blocks_addressOfPlace u (nI (fk M.1 cs 0 k)) (0 : Int32) = some (nI (9 * fk M.1 cs 0 k + 3 + 0), u) := c_place (p := 0)
  rw [hp0, obS, pk_sub (by omega), show a - (9 * fk M.1 cs 0 k + 3 + 0) = cl M.1 (fk M.1 cs 0 k) k by omega, ob_id]
  exact c_drop h h0 hr30.2 (by omega)
theorem r_put (h : inRa v M) (t k x : Int32) : (¬ gdB t k = true → m_Ref_put v t k x = some (0, rs_cd v 1)) ∧ (gdB t k = true → M.2.2.2.2.2 ≠ 0 → m_Ref_put v t k x = some (0, rs_cd v 2)) := by
  constructor
  · intro g
    rw [m_Ref_put, r_isGood, obS, if_neg g, if_pos rfl, m_Ref_put_J25, if_neg (by decide)]
  · intro g hd
    rw [m_Ref_put, r_isGood, obS, if_pos g, if_neg (by decide), if_neg (by rw [h.dn]; exact hd), m_Ref_put_J25, if_neg (by decide)]
theorem r_put0 (U : Up M cs hs) (h : inRa v M) (hk : k < 1000) (hd : M.2.2.2.2.2 = 0) (x : Int32) : okF (m_Ref_put v 0 (nI k) x) 0 (putT hs M cs k x) := by
  have g : gdB 0 (nI k) = true := gdB_iff.mpr ⟨Or.inl rfl, nI_pos (by omega), by rw [show (999 : Int32) = nI 999 from rfl]; exact nI_nlt (by omega) (by omega)⟩
  rw [m_Ref_put, r_isGood, obS, if_pos g, if_neg (by decide), if_pos (by rw [h.dn]; exact hd), m_Ref_put_J25, if_pos (by decide), if_pos rfl]
  exact (r_putTree U (h.reset 0) hk).fin
theorem r_put1 (U : Up M cs hs) (h : inRa v M) (hk : k < 1000) (hd : M.2.2.2.2.2 = 0) (x : Int32) : okF (m_Ref_put v 1 (nI k) x) 0 (tabT hs cs M k x) := by
  have g : gdB 1 (nI k) = true := gdB_iff.mpr ⟨Or.inr rfl, nI_pos (by omega), by rw [show (999 : Int32) = nI 999 from rfl]; exact nI_nlt (by omega) (by omega)⟩
  rw [m_Ref_put, r_isGood, obS, if_pos g, if_neg (by decide), if_pos (by rw [h.dn]; exact hd), m_Ref_put_J25, if_pos (by decide), if_neg (by decide)]
  exact (r_tput U (h.reset 0) hk).fin
theorem r_remove (h : inRa v M) (t k : Int32) : (¬ gdB t k = true → m_Ref_remove v t k = some (0, rs_cd v 1)) ∧ (gdB t k = true → M.2.2.2.2.2 ≠ 0 → m_Ref_remove v t k = some (0, rs_cd v 2)) := by
  constructor
  · intro g
    rw [m_Ref_remove, r_isGood, obS, if_neg g, if_pos rfl, m_Ref_remove_J38, if_neg (by decide)]
  · intro g hd
    rw [m_Ref_remove, r_isGood, obS, if_pos g, if_neg (by decide), if_neg (by rw [h.dn]; exact hd), m_Ref_remove_J38, if_neg (by decide)]
theorem r_remove2 (U : Up M cs hs) (h : inRa v M) (g : gdB t (nI k) = true) (hk : k < 1000) (hd : M.2.2.2.2.2 = 0) : match rdT hs cs M.1 t k with
    | none => m_Ref_remove v t (nI k) = some (0, rs_cd v 3)
    | some a => okF (m_Ref_remove v t (nI k)) 0 (rmT M t a) := by
  have ht := (gdB_iff.mp g).1
  have Bs := U.1
  rw [m_Ref_remove, r_isGood, obS, if_pos g, if_neg (by decide), if_pos (by rw [h.dn]; exact hd), r_read Bs h.w hk ht, obS]
  cases e : rdT hs cs M.1 t k with
  | none =>
    simp only
    rw [if_neg (show ¬ 0 ≤ oA (-1) none by decide), m_Ref_remove_J38, if_neg (by decide)]
  | some a =>
    simp only
    have ha := rdT_lt Bs hk e
    have hv := h.reset 0
    rw [if_pos (show 0 ≤ oA (-1) (some a) from nI_pos' (by omega)), m_Ref_remove_J38, if_pos (by decide), r_read Bs hv.1 hk ht, obS, e]
    unfold rmT
    by_cases e1 : t = 1
    · rw [if_pos e1, if_pos e1]
      have := (r_fT hv U.2.2.2 (a := a) ha.2 0 1).fin
      rw [ob_assoc] at this
      exact this
    · rw [if_neg e1, if_neg e1]
      obtain ⟨h1, h2, h3, h4, h5⟩ := rm_tree e1 e
      have hm := fk_mem Bs.1 k (lev := 0) h1
      have hr30 := ((Bs.1.1 0 h1).1.mem _ hm).1
      have h6 := rl_le M.1 (fk M.1 cs 0 k)
      have e2 : (oA (-1) (some a) / (9 : Int32)) = nI (a / 9) := by show nI a / nI 9 = _; rw [pk_div (by omega) (by omega) (by omega)]
      have e3 : ((oA (-1) (some a) - oA (-1) (some a) / (9 : Int32) * (9 : Int32)) - (3 : Int32)) = nI (a % 9 - 3) := by
        show (nI a - nI a / nI 9 * nI 9) - nI 3 = _
        rw [pk_rem (by omega) (by omega) (by omega), pk_sub (by omega)]
      rw [e3, e2]
      obtain ⟨v1, ev1, hv1⟩ := r_drop hv U.2.2.2 (b := a / 9) (p := a % 9 - 3) (by omega) (by omega)
      have hg := gk_cd (pr_drop (v := rs_br (rs_cd v 0) 0) rfl _ _ _ _ ev1)
      rw [ev1, obS]
      unfold drT
      cases ef : fsM (drL M.1 (a / 9) (6 - (a % 9 - 3)) (a % 9 - 3)) M with
      | inl M' =>
        rw [ef] at hv1
        rw [if_neg (by rw [hv1.b1]; decide)]
        exact ⟨-2, v1, rfl, hg, rfl, hv1.a⟩
      | inr M' =>
        rw [ef] at hv1
        rw [if_pos hv1.b1]
        exact ⟨1, v1, rfl, hg, rfl, hv1.a⟩
theorem r_get1 (h : inRa v M) (t k : Int32) (g : ¬ gdB t k = true) : m_Ref_get v t k = some (0, rs_cd v 1) := by
  rw [m_Ref_get, r_isGood, obS, if_neg g, if_pos rfl, m_Ref_get_J27, if_neg (by decide)]
theorem r_get2 (Bs : Base M.1 cs hs) (h : inRa v M) (g : gdB t (nI k) = true) (hk : k < 1000) : m_Ref_get v t (nI k) = match rdT hs cs M.1 t k with
    | none => some (0, rs_cd v 2)
    | some a => some ((M.1 a).toInt32, rs_cd v 0) := by
  have ht := (gdB_iff.mp g).1
  rw [m_Ref_get, r_isGood, obS, if_pos g, if_neg (by decide), r_read Bs h.w hk ht, obS]
  cases e : rdT hs cs M.1 t k with
  | none =>
    simp only
    rw [if_neg (show ¬ 0 ≤ oA (-1) none by decide), m_Ref_get_J27, if_neg (by decide)]
  | some a =>
    simp only
    have ha := rdT_lt Bs hk e
    rw [if_pos (show 0 ≤ oA (-1) (some a) from nI_pos' (by omega)), m_Ref_get_J27, if_pos (by decide), r_read Bs (h.cd 0).w hk ht, obS, e]
    show (if inb (nI a) 279 = true then _ else _) = _
    rw [if_pos (inb_n ha.2 (by omega))]
    show some (((rg_mem (rs_cd v 0) (nI a).toNatClampNeg).toInt32), rs_cd v 0) = _
    rw [nI_clamp (by omega), (h.cd 0).w a ha.2]
end Rd
