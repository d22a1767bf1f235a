/-! PURE: twins, and putting a block right -/
def twB (w : Mem) (x p : Nat) : Bool := decide (kp w x p = kp w x (p - 1))
def ftw (w : Mem) (x : Nat) : Option Nat := fp (twB w x) (rl w x - 1) 1
def twM (x : Nat) : Nat → MM → MM ⊕ MM
  | 0, M => .inr M
  | n + 1, M => match ftw M.1 x with
    | none => .inr M
    | some p => match fsM (drL M.1 x (6 - p) p) M with
      | .inl M' => .inl M'
      | .inr M' => twM x n M'
def prM (M : MM) (x : Nat) : MM ⊕ MM := match looseM (clW M.1 x 6) M with
  | .inl M' => .inl M'
  | .inr M1 => twM x 6 M1
theorem alk.trans {w w1 w2 : Mem} {cs : List (List Nat)} (h1 : alk w w1 cs) (h2 : alk w1 w2 cs) : alk w w2 cs := ⟨fun b hb => (h2.1 b hb).trans (h1.1 b hb), fun L hL b hb => (h2.2 L hL b hb).trans (h1.2 L hL b hb)⟩
theorem alk.rf {w : Mem} {cs : List (List Nat)} : alk w w cs := ⟨fun _ _ => rfl, fun _ _ _ _ => rfl⟩
theorem ftw_some {w : Mem} {x p : Nat} (h : ftw w x = some p) : 1 ≤ p ∧ p < rl w x ∧ kp w x p = kp w x (p - 1) := by
  obtain ⟨h1, h2, h3, -⟩ := fp_some h
  exact ⟨h1, by omega, of_decide_eq_true h3⟩
section TwE
variable {M : MM} {cs : List (List Nat)} {hs : Nat → List Nat} {L x : Nat}
theorem tw_step (Bs : Base M.1 cs hs) (hx : x ∈ lvc cs L) (hsm : semi M.1 x) (h0 : M.2.1 = []) {p : Nat} (hp : ftw M.1 x = some p) :
    (∃ M', fsM (drL M.1 x (6 - p) p) M = .inl M' ∧ endC M M' ∧ Base M'.1 cs hs ∧ alk M.1 M'.1 cs) ∨
    (∃ M', fsM (drL M.1 x (6 - p) p) M = .inr M' ∧ endO M M' ∧ Base M'.1 cs hs ∧ alk M.1 M'.1 cs ∧ semi M'.1 x ∧ rl M'.1 x + 1 = rl M.1 x ∧ ∀ a, a < 9 * x + 3 ∨ 9 * x + 9 ≤ a → M'.1 a = M.1 a) := by
  obtain ⟨p1, p2, p3⟩ := ftw_some hp
  have T := Bs.1
  have h6 := rl_le M.1 x
  have hlen := drL_len (w := M.1) (b := x) (6 - p) p (by omega) p2
  have ev : ∀ t, t ≤ rl M.1 x - p → Base (apl ((drL M.1 x (6 - p) p).take t) M.1) cs hs ∧ alk M.1 (apl ((drL M.1 x (6 - p) p).take t) M.1) cs := by
    intro t ht
    obtain ⟨d1, d2, d3, d4⟩ := drop_gen T hx p2 (fun _ => by omega) ht
    refine ⟨out_base Bs hx (T.rowch hx d1 d3 d4) d1, rowch_alk T hx d1 (Or.inr (fun k => ?_))⟩
    rcases Nat.eq_zero_or_pos t with z | z
    · subst z; rw [List.take_zero]; exact Iff.rfl
    · rw [d2, drP_kF (f := pf M.1 x) p2 z ht]
      constructor
      · rintro ⟨q, h1, -, h3⟩; exact ⟨q, h1, h3⟩
      · rintro ⟨q, h1, h3⟩
        by_cases e : q = p
        · exact ⟨p - 1, (by show p - 1 < rl M.1 x; omega), by omega, by rw [e] at h3; show kp M.1 x (p - 1) = k; rw [← p3]; exact h3⟩
        · exact ⟨q, h1, e, h3⟩
  rcases fs_img (drL M.1 x (6 - p) p) M h0 with ⟨M', t, g1, g2, g3, g4⟩ | ⟨M', g1, g2, g3⟩
  · left
    have := ev t (by omega)
    rw [← g3] at this
    exact ⟨M', g1, g4, this.1, this.2⟩
  · right
    have hev := ev (rl M.1 x - p) (Nat.le_refl _)
    obtain ⟨d1, d2, d3, d4⟩ := drop_gen T hx p2 (fun _ => by omega) (Nat.le_refl (rl M.1 x - p))
    rw [← hlen, List.take_length, ← g2] at hev d1 d2 d3 d4
    rw [hlen] at d2
    have hrl : rl M'.1 x = rl M.1 x - 1 := by rw [rl_pf, d2]; exact drP_rF2 p2
    refine ⟨M', g1, g3, hev.1, hev.2, ⟨fun q hq => ?_, fun q h1 h2 => ?_⟩, by omega, d1⟩
    · rw [hrl] at hq
      rw [out_ubd d1, kp_pf, d2]
      unfold drP
      by_cases c : p ≤ q ∧ q < p + (rl M.1 x - p)
      · rw [if_pos c, if_pos (by omega)]; exact hsm.1 (q + 1) (by omega)
      · rw [if_neg c]; exact hsm.1 q (by omega)
    · rw [hrl] at h1
      show pf M'.1 x q = 0
      rw [d2]
      unfold drP
      by_cases c : p ≤ q ∧ q < p + (rl M.1 x - p)
      · rw [if_pos c]
        by_cases c2 : q + 1 < 6
        · rw [if_pos c2]; exact hsm.2 (q + 1) (by omega) c2
        · rw [if_neg c2]
      · rw [if_neg c]; exact hsm.2 q (by omega) h2
theorem tw_none {w : Mem} (hs : wst w x) (hsm : semi w x) (h : ftw w x = none) : clean w x := by
  refine ⟨fun p hp => ?_, hsm.1, hsm.2⟩
  have h1 := hs p hp
  have h2 := fp_none h (p + 1) (by omega) (by omega)
  have h3 : ¬ kp w x (p + 1) = kp w x (p + 1 - 1) := of_decide_eq_false h2
  rw [show p + 1 - 1 = p from rfl] at h3
  omega
def ROut (M : MM) (cs : List (List Nat)) (hs : Nat → List Nat) (x : Nat) : MM ⊕ MM → Prop
  | .inl M' => endC M M' ∧ Base M'.1 cs hs ∧ alk M.1 M'.1 cs
  | .inr M' => endO M M' ∧ Base M'.1 cs hs ∧ alk M.1 M'.1 cs ∧ clean M'.1 x ∧ ∀ a, a < 9 * x + 3 ∨ 9 * x + 9 ≤ a → M'.1 a = M.1 a
theorem twM_post : ∀ (n : Nat) (M : MM), Base M.1 cs hs → x ∈ lvc cs L → semi M.1 x → M.2.1 = [] → rl M.1 x ≤ n → ROut M cs hs x (twM x n M) := by
  intro n
  induction n with
  | zero =>
    intro M Bs hx hsm h0 hr
    exact ⟨endO.rf h0, Bs, alk.rf, tw_none (Bs.1.2.2.2.2.2 L (lvc_in hx) x hx) hsm (by unfold ftw; rw [show rl M.1 x - 1 = 0 by omega]; rfl), fun _ _ => rfl⟩
  | succ n ih =>
    intro M Bs hx hsm h0 hr
    rw [twM]
    cases e : ftw M.1 x with
    | none => exact ⟨endO.rf h0, Bs, alk.rf, tw_none (Bs.1.2.2.2.2.2 L (lvc_in hx) x hx) hsm e, fun _ _ => rfl⟩
    | some p =>
      simp only
      rcases tw_step Bs hx hsm h0 e with ⟨M', g1, g2, g3, g4⟩ | ⟨M', g1, g2, g3, g4, g5, g6, g7⟩
      · rw [g1]; exact ⟨g2, g3, g4⟩
      · rw [g1]
        have := ih M' g3 hx g5 g2.1 (by omega)
        show ROut M cs hs x (twM x n M')
        cases e2 : twM x n M' with
        | inl M2 =>
          rw [e2] at this
          exact ⟨endC.trans g2 this.1, this.2.1, g4.trans this.2.2⟩
        | inr M2 =>
          rw [e2] at this
          obtain ⟨q1, q2, q3, q4, q5⟩ := this
          exact ⟨endO.trans g2 q1, q2, g4.trans q3, q4, fun a ha => (q5 a ha).trans (g7 a ha)⟩
theorem prM_post (Bs : Base M.1 cs hs) (hx : x ∈ lvc cs L) (h0 : M.2.1 = []) : ROut M cs hs x (prM M x) := by
  unfold prM
  rcases loose_img (l := clW M.1 x 6) h0 (clW_nd 6) with ⟨M', g1, g2, g3⟩ | ⟨M', g1, g2, g3⟩
  · rw [g1]
    obtain ⟨b1, b2⟩ := cl_ev (w' := M'.1) Bs hx (fun a => by
      rcases g2 a with y | ⟨q, y1, y2, y3⟩
      · exact Or.inl y
      · obtain ⟨p, z1, z2, z3⟩ := clW_mem y1
        right
        refine ⟨p, z1, z2, ?_, ?_⟩
        · rw [← y2, z3]
        · rw [y3, z3])
    exact ⟨g3, b1, b2⟩
  · rw [g1]
    obtain ⟨b1, b2⟩ := cl_ev (w' := M'.1) Bs hx (fun a => by
      by_cases c : ∃ p, p < 6 ∧ wrB M.1 x p = true ∧ a = 9 * x + 3 + p
      · obtain ⟨p, z1, z2, z3⟩ := c
        exact Or.inr ⟨p, z1, z2, z3, by rw [g2, z3]; exact clW_in z1 z2⟩
      · left; rw [g2]; exact clW_out c)
    have hsm := cl_semi Bs.1 hx g2
    have hout : ∀ a, a < 9 * x + 3 ∨ 9 * x + 9 ≤ a → M'.1 a = M.1 a := fun a ha => by
      rw [g2]; exact clW_out (by rintro ⟨p, h1, -, h3⟩; omega)
    have := twM_post (L := L) 6 M' b1 hx hsm g3.1 (rl_le _ _)
    show ROut M cs hs x (twM x 6 M')
    cases e2 : twM x 6 M' with
    | inl M2 =>
      rw [e2] at this
      exact ⟨endC.trans g3 this.1, this.2.1, b2.trans this.2.2⟩
    | inr M2 =>
      rw [e2] at this
      obtain ⟨q1, q2, q3, q4, q5⟩ := this
      exact ⟨endO.trans g3 q1, q2, b2.trans q3, q4, fun a ha => (q5 a ha).trans (hout a ha)⟩
end TwE
section TwC
variable {u : SM} {v : SR} {M : MM} {cs : List (List Nat)} {hs : Nat → List Nat} {L x : Nat}
theorem c_tw_L (h : CW u M.1) (hx : x ≤ 30) (hE : rowE M.1 x) : ∀ (d p n : Nat), 1 ≤ p → p + d = max 1 (rl M.1 x) → d < n → ol0 (m_Tree_secondTwin_L11 n u (nI p) (nI x) (nI (rl M.1 x))) id (fun u13 => some ((0 : Int32), u13)) = some (oA 0 (fp (twB M.1 x) d p), u) := by
  have h6 := rl_le M.1 x
  intro d
  induction d with
  | zero =>
    intro p n h1 hp hn
    obtain ⟨n, rfl⟩ : ∃ e, n = e + 1 := ⟨n - 1, by omega⟩
    rw [m_Tree_secondTwin_L11, if_pos (nI_le (by omega) (by omega))]; rfl
  | succ d ih =>
    intro p n h1 hp hn
    obtain ⟨n, rfl⟩ : ∃ e, n = e + 1 := ⟨n - 1, by omega⟩
    have k1 := hE.key (p := p) (by omega)
    have k2 := hE.key (p := p - 1) (by omega)
    rw [m_Tree_secondTwin_L11, if_neg (nI_ge (by omega) (by omega)), c_key h hx (by omega), obS, k1.1]
    have hp1 : nI p - (1 : Int32) = nI (p - 1) := by have := nI_pred (p - 1); rw [show p - 1 + 1 = p by omega] at this; exact this
    rw [hp1, c_key h hx (by omega), obS, k2.1, fp]
    by_cases e : kp M.1 x p = kp M.1 x (p - 1)
    · rw [if_pos (by rw [e]), if_pos (show twB M.1 x p = true from decide_eq_true e)]; rfl
    · rw [if_neg (by rw [nI_eq (by omega) (by omega)]; exact e), if_neg (show ¬ twB M.1 x p = true by unfold twB; simpa using e), a1]
      exact ih (p + 1) n (by omega) (by omega) (by omega)
theorem c_secondTwin (h : CW u M.1) (hx : x ≤ 30) (hE : rowE M.1 x) : m_Tree_secondTwin u (nI x) = some (oA 0 (ftw M.1 x), u) := by
  have h6 := rl_le M.1 x
  rw [m_Tree_secondTwin, c_rl h hx, obS]
  have := c_tw_L h hx hE (rl M.1 x - 1) 1 fz (Nat.le_refl _) (by omega) (by unfold fz; omega)
  exact this
theorem c_dt_L : ∀ (m i n : Nat) (u : SM) (M : MM), i + m = 6 → m < n → inC u M → Base M.1 cs hs → x ∈ lvc cs L → semi M.1 x → M.2.1 = [] → okC (ol0 (m_Tree_dropTwins_L2 n u (nI i) (nI x)) id (fun u9 => some ((1 : Int32), u9))) (twM x m M) := by
  intro m
  induction m with
  | zero =>
    intro i n u M hi hn h _ _ _ _
    obtain ⟨n, rfl⟩ : ∃ e, n = e + 1 := ⟨n - 1, by omega⟩
    rw [m_Tree_dropTwins_L2, if_pos (by rw [show (6 : Int32) = nI 6 from rfl]; exact nI_le (by omega) (by omega)), ol0R]
    exact ⟨u, rfl, h⟩
  | succ m ih =>
    intro i n u M hi hn h Bs hx hsm h0
    obtain ⟨n, rfl⟩ : ∃ e, n = e + 1 := ⟨n - 1, by omega⟩
    have T := Bs.1
    have hr := ((T.1 L (lvc_in hx)).1.mem x hx).1
    have h6 := rl_le M.1 x
    rw [m_Tree_dropTwins_L2, if_neg (by rw [show (6 : Int32) = nI 6 from rfl]; exact nI_ge (by omega) (by omega)), c_secondTwin h.1 hr.2 (T.row hx), obS, twM]
    cases e : ftw M.1 x with
    | none =>
      rw [if_pos (show oA 0 none = 0 from rfl)]
      exact ⟨u, rfl, h⟩
    | some p =>
      obtain ⟨p1, p2, p3⟩ := ftw_some e
      obtain ⟨u1, hu1⟩ := c_drop h h0 hr.2 (p := p) (by omega)
      rw [if_neg (show ¬ oA 0 (some p) = 0 from nI_ne0 (by omega) (by omega))]
      show okC (ol0 (ob (m_Tree_dropPlace u (nI x) (nI p)) _) _ _) _
      simp only
      rcases tw_step Bs hx hsm h0 e with ⟨M', g1, g2, g3, g4⟩ | ⟨M', g1, g2, g3, g4, g5, g6, g7⟩
      · rw [g1] at hu1 ⊢
        rw [hu1.1, obS, if_pos rfl]
        exact ⟨u1, rfl, hu1.2⟩
      · rw [g1] at hu1 ⊢
        rw [hu1.1, obS, if_neg (by decide), a1]
        exact ih (i + 1) n u1 M' (by omega) (by omega) hu1.2 g3 hx g5 g2.1
theorem c_dropTwins (h : inC u M) (Bs : Base M.1 cs hs) (hx : x ∈ lvc cs L) (hsm : semi M.1 x) (h0 : M.2.1 = []) : okC (m_Tree_dropTwins u (nI x)) (twM x 6 M) := by
  rw [m_Tree_dropTwins]
  exact c_dt_L 6 0 fz u M (by omega) (by unfold fz; omega) h Bs hx hsm h0
theorem r_tw_scan (h : inR v M 0) (hx : x ≤ 30) (hE : rowE M.1 x) : ∀ (d p n : Nat), 1 ≤ p → p + d = max 1 (rl M.1 x) → d < n → (fp (twB M.1 x) d p = none → m_Ref_putRight_L155 n v (nI p) (nI x) = some (.inr v)) ∧ (∀ q, fp (twB M.1 x) d p = some q → ∃ n', n ≤ n' + d + 1 ∧ m_Ref_putRight_L155 n v (nI p) (nI x) = ob (m_Ref_drop v (nI x) (nI q)) (fun _ u18 => m_Ref_putRight_L155 n' u18 (1 : Int32) (nI x))) := by
  have h6 := rl_le M.1 x
  intro d
  induction d with
  | zero =>
    intro p n h1 hp hn
    obtain ⟨n, rfl⟩ : ∃ e, n = e + 1 := ⟨n - 1, by omega⟩
    refine ⟨fun _ => ?_, (fun q z => by cases z)⟩
    rw [m_Ref_putRight_L155, if_pos h.b1, r_rl h.1 hx, obS, if_pos (nI_le (by omega) (by omega))]
  | succ d ih =>
    intro p n h1 hp hn
    obtain ⟨n, rfl⟩ : ∃ e, n = e + 1 := ⟨n - 1, by omega⟩
    have k1 := hE.key (p := p) (by omega)
    have k2 := hE.key (p := p - 1) (by omega)
    have hp1 : nI p - (1 : Int32) = nI (p - 1) := by have := nI_pred (p - 1); rw [show p - 1 + 1 = p by omega] at this; exact this
    have hun : m_Ref_putRight_L155 (n + 1) v (nI p) (nI x) = if nI (kp M.1 x p) = nI (kp M.1 x (p - 1)) then ob (m_Ref_drop v (nI x) (nI p)) (fun _ u18 => m_Ref_putRight_L155 n u18 (1 : Int32) (nI x)) else m_Ref_putRight_L155 n v (nI (p + 1)) (nI x) := by
      rw [m_Ref_putRight_L155, if_pos h.b1, r_rl h.1 hx, obS, if_neg (nI_ge (by omega) (by omega)), r_key h.1 hx (by omega), obS, k1.1, hp1, r_key h.1 hx (by omega), obS, k2.1, a1]
    rw [hun, fp]
    by_cases e : kp M.1 x p = kp M.1 x (p - 1)
    · rw [if_pos (show nI (kp M.1 x p) = nI (kp M.1 x (p - 1)) by rw [e]), if_pos (show twB M.1 x p = true from decide_eq_true e)]
      refine ⟨(fun z => by cases z), fun q z => ?_⟩
      cases z
      exact ⟨n, by omega, rfl⟩
    · rw [if_neg (show ¬ nI (kp M.1 x p) = nI (kp M.1 x (p - 1)) by rw [nI_eq (by omega) (by omega)]; exact e), if_neg (show ¬ twB M.1 x p = true by unfold twB; simpa using e)]
      obtain ⟨i1, i2⟩ := ih (p + 1) n (by omega) (by omega) (by omega)
      refine ⟨i1, fun q z => ?_⟩
      obtain ⟨n', z1, z2⟩ := i2 q z
      exact ⟨n', by omega, z2⟩
theorem r_dt_L : ∀ (m n : Nat) (v : SR) (M : MM), 10 * m + 20 ≤ n → rl M.1 x ≤ m → inR v M 0 → Base M.1 cs hs → x ∈ lvc cs L → semi M.1 x → M.2.1 = [] → ∃ v1, m_Ref_putRight_L155 n v (1 : Int32) (nI x) = some (.inr v1) ∧ match twM x m M with
    | .inl M' => inR v1 M' 1
    | .inr M' => inR v1 M' 0 := by
  intro m
  induction m with
  | zero =>
    intro n v M hn hr h Bs hx hsm h0
    have hx30 := ((Bs.1.1 L (lvc_in hx)).1.mem x hx).1.2
    obtain ⟨i1, -⟩ := r_tw_scan h hx30 (Bs.1.row hx) 0 1 n (Nat.le_refl _) (by omega) (by omega)
    exact ⟨v, i1 rfl, h⟩
  | succ m ih =>
    intro n v M hn hr h Bs hx hsm h0
    have h6 := rl_le M.1 x
    have hx30 := ((Bs.1.1 L (lvc_in hx)).1.mem x hx).1.2
    obtain ⟨i1, i2⟩ := r_tw_scan h hx30 (Bs.1.row hx) (rl M.1 x - 1) 1 n (Nat.le_refl _) (by omega) (by omega)
    rw [twM]
    cases e : ftw M.1 x with
    | none => exact ⟨v, i1 e, h⟩
    | some p =>
      obtain ⟨p1, p2, p3⟩ := ftw_some e
      obtain ⟨n', z1, z2⟩ := i2 p e
      obtain ⟨v1, ev, hv1⟩ := r_drop h h0 hx30 (p := p) (by omega)
      rw [show m_Ref_putRight_L155 n v (1 : Int32) (nI x) = _ from z2, ev, obS]
      simp only
      rcases tw_step Bs hx hsm h0 e with ⟨M', g1, g2, g3, g4⟩ | ⟨M', g1, g2, g3, g4, g5, g6, g7⟩
      · rw [g1] at hv1 ⊢
        simp only at hv1 ⊢
        obtain ⟨n'', rfl⟩ : ∃ e, n' = e + 1 := ⟨n' - 1, by omega⟩
        exact ⟨v1, by rw [m_Ref_putRight_L155, if_neg (by rw [hv1.b1]; decide)], hv1⟩
      · rw [g1] at hv1 ⊢
        simp only at hv1 ⊢
        exact ih n' v1 M' (by omega) (by omega) hv1 g3 hx g5 g2.1
theorem r_putRight (h : inR v M 0) (Bs : Base M.1 cs hs) (hx : x ∈ lvc cs L) (h0 : M.2.1 = []) : okR (m_Ref_putRight v (nI x)) (prM M x) := by
  have T := Bs.1
  have hr := ((T.1 L (lvc_in hx)).1.mem x hx).1
  obtain ⟨m, e1, hm⟩ := r_mask_L T hx h.1 6 0 fz 0 (by omega) (by unfold fz; omega) (fun i hi => by rw [b_0, decide_eq_false (by omega)]; rfl)
  rw [if_neg (by omega)] at e1
  obtain ⟨v1, e2, hv1⟩ := r_clr_L hr hm 6 fz v M (by omega) (by unfold fz; omega) h (by rw [h0]; simp)
  obtain ⟨v2, e3, hv2⟩ : ∃ v2, m_Ref_fence v1 = some ((), v2) ∧ match looseM (clW M.1 x 6) M with
      | .inl M' => inR v2 M' 1
      | .inr M' => inR v2 M' 0 := by
    unfold looseM
    cases e : lsM (clW M.1 x 6) M with
    | inl M' =>
      rw [e] at hv1
      obtain ⟨v2, a1, a2⟩ := r_fence hv1
      have hnil := lsM_cut_nil e
      have hfe : feM M' = M' := by
        obtain ⟨m1, m2, m3⟩ := M'
        have : m2 = [] := hnil
        subst this; rfl
      rw [hfe] at a2
      exact ⟨v2, a1, a2⟩
    | inr M' =>
      rw [e] at hv1
      exact r_fence hv1
  rw [m_Ref_putRight, r_next2 T h.1 hx, obS, show m_Ref_putRight_L14 fz v (0 : Int32) (0 : Int32) (0 : Int32) (nI x) (nI (nxN M.1 x)) = some (.inr (m, v)) from e1, ol1R, show m_Ref_putRight_L113 fz v (5 : Int32) (nI x) m = some (.inr v1) from e2, ol0R, e3, obS]
  unfold prM
  rcases loose_img (l := clW M.1 x 6) h0 (clW_nd 6) with ⟨M', g1, g2, g3⟩ | ⟨M', g1, g2, g3⟩
  · rw [g1] at hv2 ⊢
    simp only at hv2
    refine ⟨v2, ?_, hv2⟩
    rw [show fz = 3999 + 1 from rfl, m_Ref_putRight_L155, if_neg (by rw [hv2.b1]; decide), ol0R]
  · rw [g1] at hv2 ⊢
    simp only at hv2
    obtain ⟨b1, b2⟩ := cl_ev (w' := M'.1) Bs hx (fun a => by
      by_cases c : ∃ p, p < 6 ∧ wrB M.1 x p = true ∧ a = 9 * x + 3 + p
      · obtain ⟨p, z1, z2, z3⟩ := c
        exact Or.inr ⟨p, z1, z2, z3, by rw [g2, z3]; exact clW_in z1 z2⟩
      · left; rw [g2]; exact clW_out c)
    have hsm := cl_semi Bs.1 hx g2
    obtain ⟨v3, e4, hv3⟩ := r_dt_L (L := L) 6 fz v2 M' (by unfold fz; omega) (rl_le _ _) hv2 b1 hx hsm g3.1
    rw [e4, ol0R]
    exact ⟨v3, rfl, hv3⟩
/-- the class's two steps on one block -/
theorem c_putRight1 (h : inC u M) (Bs : Base M.1 cs hs) (hx : x ∈ lvc cs L) (h0 : M.2.1 = []) : okC (ob (m_Tree_clearWrong u (nI x)) (fun r1 u2 => if r1 = 0 then some ((0 : Int32), u2) else m_Tree_dropTwins u2 (nI x))) (prM M x) := by
  obtain ⟨u1, hu1⟩ := c_clear Bs.1 hx h h0
  unfold prM
  rcases loose_img (l := clW M.1 x 6) h0 (clW_nd 6) with ⟨M', g1, g2, g3⟩ | ⟨M', g1, g2, g3⟩
  · rw [g1] at hu1 ⊢
    rw [hu1.1, obS, if_pos rfl]
    exact ⟨u1, rfl, hu1.2⟩
  · rw [g1] at hu1 ⊢
    obtain ⟨b1, b2⟩ := cl_ev (w' := M'.1) Bs hx (fun a => by
      by_cases c : ∃ p, p < 6 ∧ wrB M.1 x p = true ∧ a = 9 * x + 3 + p
      · obtain ⟨p, z1, z2, z3⟩ := c
        exact Or.inr ⟨p, z1, z2, z3, by rw [g2, z3]; exact clW_in z1 z2⟩
      · left; rw [g2]; exact clW_out c)
    have hsm := cl_semi Bs.1 hx g2
    rw [hu1.1, obS, if_neg (by decide)]
    exact c_dropTwins hu1.2 b1 hx hsm g3.1
end TwC
