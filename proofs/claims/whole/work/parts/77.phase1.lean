/-! PURE: recovery, the first phase -/
def prL : List Nat → MM → MM ⊕ MM
  | [], M => .inr M
  | b :: r, M => match prM M b with
    | .inl M' => .inl M'
    | .inr M' => prL r M'
theorem prL_app : ∀ (a b : List Nat) (M : MM), prL (a ++ b) M = match prL a M with
    | .inl M' => .inl M'
    | .inr M' => prL b M' := by
  intro a
  induction a with
  | nil => intro b M; rfl
  | cons x a ih =>
    intro b M
    rw [List.cons_append, prL, prL]
    cases prM M x with
    | inl M' => rfl
    | inr M' => exact ih b M'
def LOut (M : MM) (cs : List (List Nat)) (hs : Nat → List Nat) (l : List Nat) : MM ⊕ MM → Prop
  | .inl M' => endC M M' ∧ Base M'.1 cs hs ∧ alk M.1 M'.1 cs
  | .inr M' => endO M M' ∧ Base M'.1 cs hs ∧ alk M.1 M'.1 cs ∧ ∀ b ∈ cs.flatten, clean M.1 b ∨ b ∈ l → clean M'.1 b
section P1
variable {cs : List (List Nat)} {hs : Nat → List Nat}
theorem prL_post : ∀ (l : List Nat) (M : MM), Base M.1 cs hs → M.2.1 = [] → (∀ b ∈ l, b ∈ cs.flatten) → LOut M cs hs l (prL l M) := by
  intro l
  induction l with
  | nil => intro M Bs h0 _; exact ⟨endO.rf h0, Bs, alk.rf, fun b _ h => h.resolve_right (by simp)⟩
  | cons x l ih =>
    intro M Bs h0 hl
    obtain ⟨L, hL, hx⟩ := flat_lvc (hl x List.mem_cons_self)
    have p1 := prM_post Bs hx h0
    rw [prL]
    cases e : prM M x with
    | inl M' => rw [e] at p1; exact p1
    | inr M' =>
      rw [e] at p1
      obtain ⟨g1, g2, g3, g4, g5⟩ := p1
      have p2 := ih M' g2 g1.1 (fun b hb => hl b (List.mem_cons_of_mem _ hb))
      show LOut M cs hs (x :: l) (prL l M')
      cases e2 : prL l M' with
      | inl M2 => rw [e2] at p2; exact ⟨endC.trans g1 p2.1, p2.2.1, g3.trans p2.2.2⟩
      | inr M2 =>
        rw [e2] at p2
        obtain ⟨q1, q2, q3, q4⟩ := p2
        refine ⟨endO.trans g1 q1, q2, g3.trans q3, fun b hb hc => q4 b hb ?_⟩
        by_cases ex : b = x
        · left; rw [ex]; exact g4
        · rcases hc with y | y
          · exact Or.inl (y.of_sb (out_sb g5 ex) (out_ubd g5 b))
          · exact Or.inr ((List.mem_cons.mp y).resolve_left ex)
theorem drop_flat {l : Nat} (hl : l < cs.length) : (cs.drop l).flatten = lvc cs l ++ (cs.drop (l + 1)).flatten := by
  rw [List.drop_eq_getElem_cons hl, List.flatten_cons]
  unfold lvc
  rw [List.getD_eq_getElem?_getD, List.getElem?_eq_getElem hl]; rfl
theorem ob_if2 {γ : Type} (X : Option (Int32 × SM)) (D : SM → Option (Int32 × SM)) (A B : SM → Option γ) : ob X (fun r1 u2 => if r1 = 0 then A u2 else ob (D u2) (fun r5 u6 => if r5 = 0 then A u6 else B u6)) = ob (ob X (fun r1 u2 => if r1 = 0 then some ((0 : Int32), u2) else D u2)) (fun r5 u6 => if r5 = 0 then A u6 else B u6) := by
  cases X with
  | none => rfl
  | some q =>
    obtain ⟨r, u⟩ := q
    rw [obS, obS]
    by_cases e : r = 0
    · rw [if_pos e, if_pos e, obS, if_pos rfl]
    · rw [if_neg e, if_neg e]
theorem c_p1_in {lev : Nat} (x1 x2 : Int32) : ∀ (r pre : List Nat) (cn n : Nat) (u : SM) (M : MM), lvc cs lev = pre ++ r → cn + r.length ≤ 30 → 31 ≤ cn + n → inC u M → Base M.1 cs hs → M.2.1 = [] → ∃ u1, match prL r M with
    | .inl M' => m_Tree_putRight_L27 n u (nI (r.headD 0)) (nI cn) x1 x2 = some (.inl (0, u1)) ∧ inC u1 M'
    | .inr M' => m_Tree_putRight_L27 n u (nI (r.headD 0)) (nI cn) x1 x2 = some (.inr u1) ∧ inC u1 M' := by
  intro r
  induction r with
  | nil =>
    intro pre cn n u M e hc hn h Bs h0
    obtain ⟨n, rfl⟩ : ∃ e, n = e + 1 := ⟨n - 1, by omega⟩
    refine ⟨u, ?_, h⟩
    rw [m_Tree_putRight_L27]
    by_cases c : (30 : Int32) ≤ nI cn
    · rw [if_pos c]
    · rw [if_neg c, if_pos (show nI (([] : List Nat).headD 0) = 0 from rfl)]
  | cons b r ih =>
    intro pre cn n u M e hc hn h Bs h0
    rw [List.length_cons] at hc
    obtain ⟨n, rfl⟩ : ∃ e, n = e + 1 := ⟨n - 1, by omega⟩
    have hb : b ∈ lvc cs lev := by rw [e]; simp
    have hr := ((Bs.1.1 lev (lvc_in hb)).1.mem b hb).1
    obtain ⟨u1, hu1⟩ := c_putRight1 h Bs hb h0
    have post := prM_post Bs hb h0
    have hun : m_Tree_putRight_L27 (n + 1) u (nI ((b :: r).headD 0)) (nI cn) x1 x2 = ob (ob (m_Tree_clearWrong u (nI b)) (fun r1 u2 => if r1 = 0 then some ((0 : Int32), u2) else m_Tree_dropTwins u2 (nI b))) (fun r5 u6 => if r5 = 0 then (some (.inl ((0 : Int32), u6))) else (ob (m_Blocks_nextOf u6 (nI b)) (fun r9 u10 => m_Tree_putRight_L27 n u10 r9 (nI cn + (1 : Int32)) x1 x2))) := by
      rw [m_Tree_putRight_L27, if_neg (by rw [show (30 : Int32) = nI 30 from rfl]; exact nI_ge (by omega) (by omega)), if_neg (show ¬ nI ((b :: r).headD 0) = 0 from nI_ne0 hr.1 (Nat.lt_of_le_of_lt hr.2 (by omega)))]
      exact ob_if2 (m_Tree_clearWrong u (nI b)) (fun u2 => m_Tree_dropTwins u2 (nI b)) (fun u2 => some (.inl ((0 : Int32), u2))) (fun u6 => ob (m_Blocks_nextOf u6 (nI b)) (fun r9 u10 => m_Tree_putRight_L27 n u10 r9 (nI cn + (1 : Int32)) x1 x2))
    rw [hun, prL]
    cases em : prM M b with
    | inl M' =>
      rw [em] at hu1
      rw [hu1.1, obS, if_pos rfl]
      exact ⟨u1, rfl, hu1.2⟩
    | inr M' =>
      rw [em] at hu1 post
      obtain ⟨g1, g2, g3, g4, g5⟩ := post
      rw [hu1.1, obS, if_neg (by decide), c_next' g2.1 hu1.2.1 hb, obS, nx_tail g2.1 e, a1]
      exact ih (pre ++ [b]) (cn + 1) n u1 M' (by rw [e]; simp) (by omega) (by omega) hu1.2 g2 g1.1
theorem c_p1_L : ∀ (d l n : Nat) (u : SM) (M : MM), l + d = cs.length → d < n → inC u M → Base M.1 cs hs → M.2.1 = [] → 0 < cs.length → okC (ol0 (m_Tree_putRight_L7 n u (nI l) (nI (cs.length - 1))) id (fun u22 => some ((1 : Int32), u22))) (prL (cs.drop l).flatten M) := by
  intro d
  induction d with
  | zero =>
    intro l n u M hl hn h Bs h0 hL
    obtain ⟨n, rfl⟩ : ∃ e, n = e + 1 := ⟨n - 1, by omega⟩
    have h15 := Bs.1.h15 Bs.2.1
    rw [List.drop_of_length_le (by omega), m_Tree_putRight_L7, if_neg (by rw [show (30 : Int32) = nI 30 from rfl]; exact nI_ge (by omega) (by omega)), if_pos (nI_lt (by omega) (by omega)), ol0R]
    exact ⟨u, rfl, h⟩
  | succ d ih =>
    intro l n u M hl hn h Bs h0 hL
    obtain ⟨n, rfl⟩ : ∃ e, n = e + 1 := ⟨n - 1, by omega⟩
    have h15 := Bs.1.h15 Bs.2.1
    have hll : l < cs.length := by omega
    have hnd : (lvc cs l).length ≤ 30 := nd_le 30 _ (nd_part Bs.1.2.2.2.1) (fun x hx => Bs.1.rng (lvc_flat hx))
    rw [drop_flat hll, prL_app, m_Tree_putRight_L7, if_neg (by rw [show (30 : Int32) = nI 30 from rfl]; exact nI_ge (by omega) (by omega)), if_neg (nI_nlt (by omega) (by omega)), c_firstOf Bs.1 h.1 hll, obS]
    obtain ⟨u1, hu1⟩ := c_p1_in (lev := l) (nI (cs.length - 1)) (nI l) (lvc cs l) [] 0 fz u M rfl (by omega) (by unfold fz; omega) h Bs h0
    have post := prL_post (lvc cs l) M Bs h0 (fun b hb => lvc_flat hb)
    cases em : prL (lvc cs l) M with
    | inl M' =>
      rw [em] at hu1
      rw [show m_Tree_putRight_L27 fz u (nI ((lvc cs l).headD 0)) (0 : Int32) (nI (cs.length - 1)) (nI l) = some (.inl (0, u1)) from hu1.1]
      exact ⟨u1, rfl, hu1.2⟩
    | inr M' =>
      rw [em] at hu1 post
      rw [show m_Tree_putRight_L27 fz u (nI ((lvc cs l).headD 0)) (0 : Int32) (nI (cs.length - 1)) (nI l) = some (.inr u1) from hu1.1, ol0R, a1]
      exact ih (l + 1) n u1 M' (by omega) (by omega) hu1.2 post.2.1 post.1.1 hL
theorem c_phase1 {u : SM} {M : MM} (h : inC u M) (Bs : Base M.1 cs hs) (h0 : M.2.1 = []) (hL : 0 < cs.length) : okC (m_Tree_putRight u) (prL cs.flatten M) := by
  rw [m_Tree_putRight, c_top Bs.1 h.1 (fun e => by rw [e] at hL; simp at hL), obS]
  have h15 := Bs.1.h15 Bs.2.1
  exact c_p1_L cs.length 0 fz u M (by omega) (by unfold fz; omega) h Bs h0 hL
theorem r_p1_in {lev : Nat} (x1 : Int32) : ∀ (r pre : List Nat) (n : Nat) (v : SR) (M : MM), lvc cs lev = pre ++ r → r.length < n → inR v M 0 → Base M.1 cs hs → M.2.1 = [] → ∃ v1, m_Ref_repair_L27 n v (nI (r.headD 0)) x1 = some (.inr v1) ∧ rg_cd v1 = rg_cd v ∧ match prL r M with
    | .inl M' => inR v1 M' 1
    | .inr M' => inR v1 M' 0 := by
  intro r
  induction r with
  | nil =>
    intro pre n v M e hn h Bs h0
    obtain ⟨n, rfl⟩ : ∃ e, n = e + 1 := ⟨n - 1, by omega⟩
    exact ⟨v, by rw [m_Ref_repair_L27, if_pos (show nI (([] : List Nat).headD 0) = 0 from rfl)], rfl, h⟩
  | cons b r ih =>
    intro pre n v M e hn h Bs h0
    rw [List.length_cons] at hn
    obtain ⟨n, rfl⟩ : ∃ e, n = e + 1 := ⟨n - 1, by omega⟩
    have hb : b ∈ lvc cs lev := by rw [e]; simp
    have hr := ((Bs.1.1 lev (lvc_in hb)).1.mem b hb).1
    obtain ⟨v1, e1, hv1⟩ := r_putRight h Bs hb h0
    have hg := gk_cd (pr_putRight (v := v) rfl _ _ _ e1)
    have post := prM_post Bs hb h0
    have hun : m_Ref_repair_L27 (n + 1) v (nI ((b :: r).headD 0)) x1 = ob (m_Ref_next v1 (nI b)) (fun r5 u6 => m_Ref_repair_L27 n u6 r5 x1) := by
      rw [m_Ref_repair_L27, if_neg (show ¬ nI ((b :: r).headD 0) = 0 from nI_ne0 hr.1 (Nat.lt_of_le_of_lt hr.2 (by omega))), if_pos h.b1, show m_Ref_putRight v (nI ((b :: r).headD 0)) = some ((), v1) from e1, obS]; rfl
    rw [hun, prL]
    cases em : prM M b with
    | inl M' =>
      rw [em] at hv1 post
      obtain ⟨g1, g2, g3⟩ := post
      simp only at hv1
      rw [r_next2 g2.1 hv1.1 hb, obS]
      obtain ⟨n', rfl⟩ : ∃ e, n = e + 1 := ⟨n - 1, by omega⟩
      refine ⟨v1, ?_, hg, hv1⟩
      rw [m_Ref_repair_L27]
      by_cases c : nI (nxN M'.1 b) = 0
      · rw [if_pos c]
      · rw [if_neg c, if_neg (by rw [hv1.b1]; decide)]
    | inr M' =>
      rw [em] at hv1 post
      obtain ⟨g1, g2, g3, g4, g5⟩ := post
      simp only at hv1
      rw [r_next2 g2.1 hv1.1 hb, obS, nx_tail g2.1 e]
      obtain ⟨v2, w1, w2, w3⟩ := ih (pre ++ [b]) n v1 M' (by rw [e]; simp) (by omega) hv1 g2 g1.1
      exact ⟨v2, w1, w2.trans hg, w3⟩
theorem r_top {v : SR} {w : Mem} (T : TS w cs) (h : RW v w) (hL : 0 < cs.length) : m_Ref_root v = some (nI (rootOf cs), v) ∧ m_Ref_level v (nI (rootOf cs)) = some (nI (cs.length - 1), v) := by
  have hne : cs ≠ [] := fun e => by rw [e] at hL; simp at hL
  obtain ⟨r, er, er0, er30, er1⟩ := T.top hne
  have hzm := (T.1 (cs.length - 1) (by omega)).1.mem (rootOf cs) (by rw [er]; exact List.mem_cons_self)
  exact ⟨by rw [r_root h, T.2.2.2.2.1, lN_i], by rw [r_level h er30, hzm.2.1, lN_i]⟩
theorem r_p1_L : ∀ (d l n : Nat) (v : SR) (M : MM), l + d = cs.length → d < n → inR v M 0 → Base M.1 cs hs → M.2.1 = [] → 0 < cs.length → ∃ v1, m_Ref_repair_L2 n v (nI l) = some (.inr v1) ∧ rg_cd v1 = rg_cd v ∧ match prL (cs.drop l).flatten M with
    | .inl M' => inR v1 M' 1
    | .inr M' => inR v1 M' 0 := by
  intro d
  induction d with
  | zero =>
    intro l n v M hl hn h Bs h0 hL
    obtain ⟨n, rfl⟩ : ∃ e, n = e + 1 := ⟨n - 1, by omega⟩
    have h15 := Bs.1.h15 Bs.2.1
    obtain ⟨t1, t2⟩ := r_top Bs.1 h.1 hL
    rw [List.drop_of_length_le (by omega)]
    exact ⟨v, by rw [m_Ref_repair_L2, t1, obS, t2, obS, if_pos (nI_lt (by omega) (by omega))], rfl, h⟩
  | succ d ih =>
    intro l n v M hl hn h Bs h0 hL
    obtain ⟨n, rfl⟩ : ∃ e, n = e + 1 := ⟨n - 1, by omega⟩
    have h15 := Bs.1.h15 Bs.2.1
    have hll : l < cs.length := by omega
    have hnd : (lvc cs l).length ≤ 30 := nd_le 30 _ (nd_part Bs.1.2.2.2.1) (fun x hx => Bs.1.rng (lvc_flat hx))
    obtain ⟨t1, t2⟩ := r_top Bs.1 h.1 hL
    obtain ⟨v1, e1, hc1, hv1⟩ := r_p1_in (lev := l) (nI l) (lvc cs l) [] fz v M rfl (by unfold fz; omega) h Bs h0
    have post := prL_post (lvc cs l) M Bs h0 (fun b hb => lvc_flat hb)
    rw [drop_flat hll, prL_app, m_Ref_repair_L2, t1, obS, t2, obS, if_neg (nI_nlt (by omega) (by omega)), if_pos h.b1, r_firstAt Bs.1 h.1 hll, obS, e1, ol0R, a1]
    cases em : prL (lvc cs l) M with
    | inl M' =>
      rw [em] at hv1 post
      simp only at hv1
      obtain ⟨g1, g2, g3⟩ := post
      obtain ⟨s1, s2⟩ := r_top g2.1 hv1.1 hL
      obtain ⟨n', rfl⟩ : ∃ e, n = e + 1 := ⟨n - 1, by omega⟩
      refine ⟨v1, ?_, hc1, hv1⟩
      rw [m_Ref_repair_L2, s1, obS, s2, obS]
      by_cases c : nI (cs.length - 1) < nI (l + 1)
      · rw [if_pos c]
      · rw [if_neg c, if_neg (by rw [hv1.b1]; decide)]
    | inr M' =>
      rw [em] at hv1 post
      simp only at hv1
      obtain ⟨v2, w1, w2, w3⟩ := ih (l + 1) n v1 M' (by omega) (by omega) hv1 post.2.1 post.1.1 hL
      exact ⟨v2, w1, w2.trans hc1, w3⟩
end P1
