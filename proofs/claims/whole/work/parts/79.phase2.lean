/-! PURE: recovery, the second phase -/
def HG (M : MM) (cs : List (List Nat)) (hs : Nat → List Nat) (L : Nat) : MM ⊕ (MM × List (List Nat)) → Prop
  | .inl M' => endC M M' ∧ ∃ cs', Base M'.1 cs' hs ∧ DI M'.1 cs' (frN (bls cs' hs))
  | .inr q => endO M q.1 ∧ Base q.1.1 q.2 hs ∧ allClean q.1.1 q.2 ∧ DI q.1.1 q.2 (frN (bls q.2 hs)) ∧ (∀ l z, l < L → stray q.1.1 q.2 l z → stray M.1 cs l z ∧ l ≠ L - 1) ∧ (∀ l, l < L → lvc q.2 l = lvc cs l) ∧ cs.length ≤ q.2.length
section Hg
variable {u : SM} {v : SR} {M : MM} {cs : List (List Nat)} {hs : Nat → List Nat} {y L : Nat}
theorem hg_all (Bs : Base M.1 cs hs) (hcl : allClean M.1 cs) (D : DI M.1 cs (frN (bls cs hs))) (h0 : M.2.1 = []) (h1 : 1 ≤ L) (hy : stray M.1 cs (L - 1) y) : HG M cs hs L (hangM hs 40 M cs y L) ∧ (∀ u, inC u M → okH (m_Tree_hang 40 u (nI y) (nI L)) (hangM hs 40 M cs y L)) ∧ (∀ v, inR v M 0 → ∃ v1, m_Ref_hang v (nI y) (nI L) = some ((), v1) ∧ rg_cd v1 = rg_cd v ∧ (match hangM hs 40 M cs y L with
    | .inl M' => inR v1 M' 1
    | .inr q => inR v1 q.1 0)) := by
  have T := Bs.1
  have h30 := T.hgt
  have e1 : L - 1 + 1 = L := by omega
  rcases D.2 (L - 1) y hy with q | ⟨q1, q2⟩
  · rw [e1] at q
    have nz := need_zero q
    have hm := fk_mem T (lo M.1 y) nz.1
    obtain ⟨pp, rr, exx⟩ := List.append_of_mem hm
    have hub := (T.ub exx nz.1).2.2.1
    have h6 : rl M.1 (fk M.1 cs L (lo M.1 y)) < 6 := by rw [← (hcl L _ hm).kcE hub]; exact nz.2
    rw [show (40 : Nat) = 39 + 1 from rfl, hangM_ins nz.1 h6 39]
    have post := ins0_post Bs hcl D h0 h1 hy nz.1 rfl h6
    refine ⟨?_, fun u hu => c_hang0 Bs h0 h1 hy nz.1 h6 hu, fun v hv => r_hang0 Bs h0 h1 hy nz.1 h6 hv⟩
    cases e : insY M cs (fk M.1 cs L (lo M.1 y)) y with
    | inl M' => rw [e] at post; exact ⟨post.1, cs, post.2.1, post.2.2⟩
    | inr q =>
      rw [e] at post
      obtain ⟨p1, p2, p3, p4, p5, p6, p7⟩ := post
      refine ⟨p1, by rw [p2]; exact p3, by rw [p2]; exact p4, by rw [p2]; exact p5, fun l z _ hz => ?_, fun l _ => by rw [p2], by rw [p2]; exact Nat.le_refl _⟩
      rw [p2] at hz
      exact (p6 l z).mp hz
  · have P : HPre M cs hs y L := ⟨Bs, hcl, D, h0, h1, hy, fun L' z hL' => q1 L' z (by omega)⟩
    have post := hang_post 40 M cs y L P (by omega)
    refine ⟨?_, fun u hu => c_hang 40 u M cs y L 40 P (by omega) (Nat.le_refl _) hu, fun v hv => r_hang P hv⟩
    cases e : hangM hs 40 M cs y L with
    | inl M' => rw [e] at post; exact post
    | inr q =>
      rw [e] at post
      obtain ⟨p1, p2, p3, p4, p5, p6, p7, p8⟩ := post
      exact ⟨p1, p2, p3, p4, fun l z _ hz => ⟨((p5 l z).mp hz).1, by have := ((p5 l z).mp hz).2; omega⟩, p6, p8⟩
end Hg
def chB (w : Mem) (c b p : Nat) : Bool := decide ((w (9 * c + 3 + p)).toInt32 = nI b)
def rowHas (w : Mem) (b c : Nat) : Bool := (fp (chB w c b) (rl w c) 0).isSome
def hungB (w : Mem) (cs : List (List Nat)) (l b : Nat) : Bool := (lvc cs (l + 1)).any (rowHas w b)
section Hu
variable {u : SM} {v : SR} {w : Mem} {cs : List (List Nat)} {l b : Nat}
theorem rowHas_iff {c : Nat} : rowHas w b c = true ↔ ∃ p, p < rl w c ∧ (w (9 * c + 3 + p)).toInt32 = nI b := by
  unfold rowHas
  cases e : fp (chB w c b) (rl w c) 0 with
  | none =>
    constructor
    · intro h; cases h
    · rintro ⟨p, h1, h2⟩
      have := fp_none e p (by omega) (by omega)
      rw [show chB w c b p = true from decide_eq_true h2] at this
      cases this
  | some q =>
    obtain ⟨h1, h2, h3, -⟩ := fp_some e
    exact ⟨fun _ => ⟨q, by omega, of_decide_eq_true h3⟩, fun _ => rfl⟩
theorem hung_iff (T : TS w cs) (hcl : allClean w cs) (hb : b ∈ lvc cs l) (hlo : lo w b ≠ 0) : hungB w cs l b = false ↔ stray w cs l b := by
  have hb30 := ((T.1 l (lvc_in hb)).1.mem b hb).1
  have key : ∀ c ∈ lvc cs (l + 1), (rowHas w b c = true ↔ ksB w c (lo w b) = true) := by
    intro c hc
    have hin := T.2.1 l (lvc_in hc) c hc
    have h6 := rl_le w c
    have hent : ∀ p, p < rl w c → ∃ x ∈ lvc cs l, w (9 * c + 3 + p) = ent (lo w x) (nI x) := fun p hp => by
      rcases hin.2.2 p (by omega) with y | ⟨x, x1, x2, -⟩
      · exact absurd y (rl_nz hp)
      · exact ⟨x, x1, x2⟩
    rw [rowHas_iff, ksB_iff]
    constructor
    · rintro ⟨p, h1, h2⟩
      obtain ⟨x, x1, x2⟩ := hent p h1
      have hx1000 := T.lo1000 x1
      have hx30 := ((T.1 l (lvc_in x1)).1.mem x x1).1
      rw [x2, ent_val _ (by omega), nI_eq (by omega) (by omega)] at h2
      have hk : kp w c p = lo w b := by unfold kp; rw [x2, kN_ent _ (by omega), h2]
      exact ⟨by rw [← hk]; exact (hcl (l + 1) c hc).2.1 p h1, p, h1, hk⟩
    · rintro ⟨-, p, h1, h2⟩
      obtain ⟨x, x1, x2⟩ := hent p h1
      have hx1000 := T.lo1000 x1
      have hk : kp w c p = lo w x := by unfold kp; rw [x2, kN_ent _ (by omega)]
      have hxb := T.lo_inj x1 hb (by rw [← hk]; exact h2)
      exact ⟨p, h1, by rw [x2, ent_val _ (by omega), hxb]⟩
  unfold hungB stray
  rw [List.any_eq_false]
  constructor
  · intro h
    refine ⟨hb, hlo, fun c hc => ?_⟩
    cases e : ksB w c (lo w b) with
    | false => rfl
    | true => exact absurd ((key c hc).mpr e) (h c hc)
  · rintro ⟨-, -, h⟩ c hc q
    have := h c hc
    rw [(key c hc).mp q] at this
    cases this
theorem c_hung_in (T : TS w cs) (h : CW u w) (hb : b ≤ 30) {c : Nat} (hc : c ∈ lvc cs (l + 1)) (x4 : Int32) : ∀ (d p n : Nat), p + d = rl w c → d < n → m_Tree_isHung_L43 n u (nI p) (nI b) (nI c) x4 (nI (rl w c)) = if (fp (chB w c b) d p).isSome = true then some (.inl (1, u)) else some (.inr u) := by
  have hr := ((T.1 _ (lvc_in hc)).1.mem c hc).1
  have h6 := rl_le w c
  have hin := T.2.1 l (lvc_in hc) c hc
  intro d
  induction d with
  | zero =>
    intro p n hp hn
    obtain ⟨n, rfl⟩ : ∃ e, n = e + 1 := ⟨n - 1, by omega⟩
    rw [m_Tree_isHung_L43, if_pos (nI_le (by omega) (by omega))]; rfl
  | succ d ih =>
    intro p n hp hn
    obtain ⟨n, rfl⟩ : ∃ e, n = e + 1 := ⟨n - 1, by omega⟩
    have hch : m_Blocks_childAt u (nI c) (nI p) = some ((w (9 * c + 3 + p)).toInt32, u) := by
      rw [c_child h hr.2 (by omega)]
      rcases hin.2.2 p (by omega) with y | ⟨x, x1, x2, -⟩
      · exact absurd y (rl_nz (by omega))
      · have hx1000 := T.lo1000 x1
        have hx30 := ((T.1 l (lvc_in x1)).1.mem x x1).1
        rw [x2, ent_val _ (by omega), blk_nI hx30.2]
    rw [m_Tree_isHung_L43, if_neg (nI_ge (by omega) (by omega)), hch, obS, fp]
    by_cases e : (w (9 * c + 3 + p)).toInt32 = nI b
    · rw [if_pos e, if_pos (show chB w c b p = true from decide_eq_true e)]; rfl
    · rw [if_neg e, if_neg (show ¬ chB w c b p = true by unfold chB; simpa using e), a1, ih (p + 1) n (by omega) (by omega)]
theorem c_hung_L (T : TS w cs) (h : CW u w) (hb : b ≤ 30) : ∀ (r pre : List Nat) (cn n : Nat), lvc cs (l + 1) = pre ++ r → cn + r.length ≤ 30 → 31 ≤ cn + n → m_Tree_isHung_L19 n u (nI (r.headD 0)) (nI cn) (nI b) = if r.any (rowHas w b) = true then some (.inl (1, u)) else some (.inr u) := by
  intro r
  induction r with
  | nil =>
    intro pre cn n e hc hn
    obtain ⟨n, rfl⟩ : ∃ e, n = e + 1 := ⟨n - 1, by omega⟩
    rw [m_Tree_isHung_L19]
    by_cases c : (30 : Int32) ≤ nI cn
    · rw [if_pos c]; rfl
    · rw [if_neg c, if_pos (show nI (([] : List Nat).headD 0) = 0 from rfl)]; rfl
  | cons c r ih =>
    intro pre cn n e hc hn
    rw [List.length_cons] at hc
    obtain ⟨n, rfl⟩ : ∃ e, n = e + 1 := ⟨n - 1, by omega⟩
    have hcm : c ∈ lvc cs (l + 1) := by rw [e]; simp
    have hr := ((T.1 _ (lvc_in hcm)).1.mem c hcm).1
    have h6 := rl_le w c
    have hin := c_hung_in T h hb hcm (nI cn) (rl w c) 0 fz (by omega) (by unfold fz; omega)
    rw [m_Tree_isHung_L19, if_neg (by rw [show (30 : Int32) = nI 30 from rfl]; exact nI_ge (by omega) (by omega)), if_neg (show ¬ nI ((c :: r).headD 0) = 0 from nI_ne0 hr.1 (Nat.lt_of_le_of_lt hr.2 (by omega))), show m_Blocks_rowLength u (nI ((c :: r).headD 0)) = some (nI (rl w c), u) from c_rl h hr.2, obS, show m_Tree_isHung_L43 fz u (0 : Int32) (nI b) (nI ((c :: r).headD 0)) (nI cn) (nI (rl w c)) = _ from hin, List.any_cons]
    by_cases e1 : rowHas w b c = true
    · rw [if_pos (show (fp (chB w c b) (rl w c) 0).isSome = true from e1), e1]; rfl
    · have e2 : rowHas w b c = false := by simpa using e1
      rw [if_neg (show ¬ (fp (chB w c b) (rl w c) 0).isSome = true from e1), ol0R, show m_Blocks_nextOf u (nI ((c :: r).headD 0)) = some (nI (nxN w c), u) from c_next' T h hcm, obS, nx_tail T e, a1, ih (pre ++ [c]) (cn + 1) n (by rw [e]; simp) (by omega) (by omega), e2, Bool.false_or]
theorem lvc_none {L : Nat} (h : cs.length ≤ L) : lvc cs L = [] := by
  cases e : lvc cs L with
  | nil => rfl
  | cons b r =>
    have := lvc_in (cs := cs) (L := L) (b := b) (by rw [e]; exact List.mem_cons_self)
    omega
theorem c_isHung (T : TS w cs) (h : CW u w) (hb : b ∈ lvc cs l) : m_Tree_isHung u (nI b) (nI (l + 1)) = some (if hungB w cs l b = true then 1 else 0, u) := by
  have hl := lvc_in hb
  have h30 := T.hgt
  have hb30 := ((T.1 l hl).1.mem b hb).1.2
  rw [m_Tree_isHung, c_top T h (fun e => by rw [e] at hl; simp at hl), obS]
  by_cases e : l + 1 < cs.length
  · have hnd : (lvc cs (l + 1)).length ≤ 30 := nd_le 30 _ (nd_part T.2.2.2.1) (fun x hx => T.rng (lvc_flat hx))
    rw [if_pos (nI_le (by omega) (by omega)), c_firstOf T h e, obS]
    have := c_hung_L T h hb30 (lvc cs (l + 1)) [] 0 fz rfl (by omega) (by unfold fz; omega)
    rw [show m_Tree_isHung_L19 fz u (nI ((lvc cs (l + 1)).headD 0)) (0 : Int32) (nI b) = _ from this]
    unfold hungB
    by_cases e1 : (lvc cs (l + 1)).any (rowHas w b) = true
    · rw [if_pos e1, if_pos e1]; rfl
    · rw [if_neg e1, if_neg e1]; rfl
  · rw [if_neg (nI_ge (by omega) (by omega)), if_neg (by unfold hungB; rw [lvc_none (by omega)]; simp)]
theorem r_val_in (T : TS w cs) (h : RW v w) {c : Nat} (hc : c ∈ lvc cs (l + 1)) : ∀ (d p n : Nat) (f : Bool), p + d = rl w c → d < n → m_Ref_isValue_L31 n v (if f = true then 1 else 0) (nI p) (nI b) (nI c) = some (.inr (if (f || (fp (chB w c b) d p).isSome) = true then 1 else 0, v)) := by
  have hr := ((T.1 _ (lvc_in hc)).1.mem c hc).1
  have h6 := rl_le w c
  intro d
  induction d with
  | zero =>
    intro p n f hp hn
    obtain ⟨n, rfl⟩ : ∃ e, n = e + 1 := ⟨n - 1, by omega⟩
    rw [m_Ref_isValue_L31, r_rl h hr.2, obS, if_pos (nI_le (by omega) (by omega))]
    cases f <;> rfl
  | succ d ih =>
    intro p n f hp hn
    obtain ⟨n, rfl⟩ : ∃ e, n = e + 1 := ⟨n - 1, by omega⟩
    rw [m_Ref_isValue_L31, r_rl h hr.2, obS, if_neg (nI_ge (by omega) (by omega)), fp, a1]
    have i1 := ih (p + 1) n true (by omega) (by omega)
    have i0 := ih (p + 1) n false (by omega) (by omega)
    rw [if_pos rfl] at i1
    rw [if_neg (by decide)] at i0
    cases f with
    | true =>
      rw [if_neg (show ¬ (if true = true then (1 : Int32) else 0) = 0 by decide), i1]
      simp
    | false =>
      rw [if_pos (show (if false = true then (1 : Int32) else 0) = 0 from rfl), r_block h hr.2 (by omega), obS]
      by_cases e : (w (9 * c + 3 + p)).toInt32 = nI b
      · rw [if_pos e, if_pos (show chB w c b p = true from decide_eq_true e), i1]; rfl
      · rw [if_neg e, if_neg (show ¬ chB w c b p = true by unfold chB; simpa using e), i0]
theorem r_val_L (T : TS w cs) (h : RW v w) : ∀ (r pre : List Nat) (n : Nat) (f : Bool), lvc cs (l + 1) = pre ++ r → r.length < n → m_Ref_isValue_L23 n v (if f = true then 1 else 0) (nI (r.headD 0)) (nI b) = some (.inr (if (f || r.any (rowHas w b)) = true then 1 else 0, v)) := by
  intro r
  induction r with
  | nil =>
    intro pre n f e hn
    obtain ⟨n, rfl⟩ : ∃ e, n = e + 1 := ⟨n - 1, by omega⟩
    rw [m_Ref_isValue_L23, if_pos (show nI (([] : List Nat).headD 0) = 0 from rfl)]
    cases f <;> rfl
  | cons c r ih =>
    intro pre n f e hn
    rw [List.length_cons] at hn
    obtain ⟨n, rfl⟩ : ∃ e, n = e + 1 := ⟨n - 1, by omega⟩
    have hcm : c ∈ lvc cs (l + 1) := by rw [e]; simp
    have hr := ((T.1 _ (lvc_in hcm)).1.mem c hcm).1
    have h6 := rl_le w c
    have hin := r_val_in (b := b) T h hcm (rl w c) 0 fz f (by omega) (by unfold fz; omega)
    rw [m_Ref_isValue_L23, if_neg (show ¬ nI ((c :: r).headD 0) = 0 from nI_ne0 hr.1 (Nat.lt_of_le_of_lt hr.2 (by omega))), show m_Ref_isValue_L31 fz v (if f = true then 1 else 0) (0 : Int32) (nI b) (nI ((c :: r).headD 0)) = _ from hin, ol1R, show m_Ref_next v (nI ((c :: r).headD 0)) = some (nI (nxN w c), v) from r_next2 T h hcm, obS, nx_tail T e, ih (pre ++ [c]) n _ (by rw [e]; simp) (by omega), List.any_cons, ← Bool.or_assoc]; rfl
theorem r_isValue (T : TS w cs) (h : RW v w) (hb : b ∈ lvc cs l) : m_Ref_isValue v (nI b) (nI (l + 1)) = some (if hungB w cs l b = true then 1 else 0, v) := by
  have hl := lvc_in hb
  have h30 := T.hgt
  obtain ⟨t1, t2⟩ := r_top T h (cs := cs) (by omega)
  rw [m_Ref_isValue, t1, obS, t2, obS]
  by_cases e : l + 1 < cs.length
  · have hnd : (lvc cs (l + 1)).length ≤ 30 := nd_le 30 _ (nd_part T.2.2.2.1) (fun x hx => T.rng (lvc_flat hx))
    rw [if_pos (nI_le (by omega) (by omega)), r_firstAt T h e, obS]
    have := r_val_L (b := b) T h (lvc cs (l + 1)) [] fz false rfl (by unfold fz; omega)
    rw [if_neg (by decide), Bool.false_or] at this
    rw [show m_Ref_isValue_L23 fz v (0 : Int32) (nI ((lvc cs (l + 1)).headD 0)) (nI b) = _ from this, ol1R]
    unfold hungB
    by_cases e1 : (lvc cs (l + 1)).any (rowHas w b) = true
    · rw [if_pos e1]; rfl
    · rw [if_neg e1]; rfl
  · rw [if_neg (nI_ge (by omega) (by omega)), if_neg (by unfold hungB; rw [lvc_none (by omega)]; simp)]
end Hu
