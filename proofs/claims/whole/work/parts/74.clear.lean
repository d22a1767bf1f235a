/-! PURE: clearing the wrong places of a row -/
def wrB (w : Mem) (x p : Nat) : Bool := decide (w (9 * x + 3 + p) ≠ 0 ∧ (rl w x < p ∨ (nxN w x ≠ 0 ∧ lo w (nxN w x) ≤ kp w x p)))
theorem wrB_iff {w : Mem} {x p : Nat} : wrB w x p = true ↔ w (9 * x + 3 + p) ≠ 0 ∧ (rl w x < p ∨ (nxN w x ≠ 0 ∧ lo w (nxN w x) ≤ kp w x p)) := by unfold wrB; exact decide_eq_true_iff
def clW (w : Mem) (x : Nat) : Nat → List (Nat × Int64)
  | 0 => []
  | n + 1 => if wrB w x n = true then (9 * x + 3 + n, 0) :: clW w x n else clW w x n
theorem clW_mem {w : Mem} {x : Nat} : ∀ {n : Nat} {q : Nat × Int64}, q ∈ clW w x n → ∃ p, p < n ∧ wrB w x p = true ∧ q = (9 * x + 3 + p, 0) := by
  intro n
  induction n with
  | zero => intro q h; cases h
  | succ n ih =>
    intro q h
    rw [clW] at h
    by_cases e : wrB w x n = true
    · rw [if_pos e] at h
      rcases List.mem_cons.mp h with z | z
      · exact ⟨n, by omega, e, z⟩
      · obtain ⟨p, h1, h2, h3⟩ := ih z
        exact ⟨p, by omega, h2, h3⟩
    · rw [if_neg e] at h
      obtain ⟨p, h1, h2, h3⟩ := ih h
      exact ⟨p, by omega, h2, h3⟩
theorem clW_nd {w : Mem} {x : Nat} : ∀ n, ((clW w x n).map (·.1)).Nodup := by
  intro n
  induction n with
  | zero => exact List.nodup_nil
  | succ n ih =>
    rw [clW]
    by_cases e : wrB w x n = true
    · rw [if_pos e, List.map_cons]
      refine List.nodup_cons.mpr ⟨fun q => ?_, ih⟩
      obtain ⟨y, h1, h2⟩ := List.mem_map.mp q
      obtain ⟨p, g1, -, g3⟩ := clW_mem h1
      rw [g3] at h2
      have h2' : 9 * x + 3 + p = 9 * x + 3 + n := h2
      omega
    · rw [if_neg e]; exact ih
theorem clW_apl {w : Mem} {x : Nat} : ∀ (n : Nat) (w0 : Mem) (a : Nat), apl (clW w x n) w0 a = if ∃ p, p < n ∧ wrB w x p = true ∧ a = 9 * x + 3 + p then 0 else w0 a := by
  intro n
  induction n with
  | zero => intro w0 a; rw [if_neg (by rintro ⟨p, h, -⟩; omega)]; rfl
  | succ n ih =>
    intro w0 a
    rw [clW]
    by_cases e : wrB w x n = true
    · rw [if_pos e, apl, ih]
      by_cases c : ∃ p, p < n ∧ wrB w x p = true ∧ a = 9 * x + 3 + p
      · obtain ⟨p, h1, h2, h3⟩ := c
        rw [if_pos ⟨p, h1, h2, h3⟩, if_pos ⟨p, by omega, h2, h3⟩]
      · rw [if_neg c]
        by_cases c2 : a = 9 * x + 3 + n
        · rw [if_pos ⟨n, by omega, e, c2⟩, c2]; exact pk_uLs
        · rw [if_neg (by
            rintro ⟨p, h1, h2, h3⟩
            by_cases q : p = n
            · exact c2 (by rw [h3, q])
            · exact c ⟨p, by omega, h2, h3⟩)]
          exact pk_uLn c2
    · rw [if_neg e, ih]
      by_cases c : ∃ p, p < n ∧ wrB w x p = true ∧ a = 9 * x + 3 + p
      · obtain ⟨p, h1, h2, h3⟩ := c
        rw [if_pos ⟨p, h1, h2, h3⟩, if_pos ⟨p, by omega, h2, h3⟩]
      · rw [if_neg c, if_neg (by
          rintro ⟨p, h1, h2, h3⟩
          by_cases q : p = n
          · rw [q] at h2; exact e h2
          · exact c ⟨p, by omega, h2, h3⟩)]
theorem clW_in {w w0 : Mem} {x n p : Nat} (h1 : p < n) (h2 : wrB w x p = true) : apl (clW w x n) w0 (9 * x + 3 + p) = 0 := by rw [clW_apl, if_pos ⟨p, h1, h2, rfl⟩]
theorem clW_out {w w0 : Mem} {x n a : Nat} (h : ¬ ∃ p, p < n ∧ wrB w x p = true ∧ a = 9 * x + 3 + p) : apl (clW w x n) w0 a = w0 a := by rw [clW_apl, if_neg h]
/-- the row is right but for twins -/
def semi (w : Mem) (x : Nat) : Prop := (∀ p, p < rl w x → kp w x p < ubd w x) ∧ ∀ p, rl w x ≤ p → p < 6 → w (9 * x + 3 + p) = 0
section ClE
variable {w w' : Mem} {cs : List (List Nat)} {hs : Nat → List Nat} {L x : Nat}
theorem cl_core (T : TS w cs) (hx : x ∈ lvc cs L) (hw' : ∀ a, w' a = w a ∨ ∃ p, p < 6 ∧ wrB w x p = true ∧ a = 9 * x + 3 + p ∧ w' a = 0) :
    (∀ a, a < 9 * x + 3 ∨ 9 * x + 9 ≤ a → w' a = w a) ∧ rl w' x ≤ rl w x ∧ (∀ p, p < rl w' x → w' (9 * x + 3 + p) = w (9 * x + 3 + p)) ∧ (∀ p, rl w' x ≤ p → p < rl w x → ubd w x ≤ kp w x p) := by
  have hw := T.2.2.2.2.2 L (lvc_in hx) x hx
  have h6 := rl_le w x
  have hout : ∀ a, a < 9 * x + 3 ∨ 9 * x + 9 ≤ a → w' a = w a := fun a ha => by
    rcases hw' a with q | ⟨p, h1, -, h3, -⟩
    · exact q
    · omega
  have hle : rl w' x ≤ rl w x := by
    rcases Nat.lt_or_ge (rl w x) (rl w' x) with q | q
    · exfalso
      have h6' := rl_le w' x
      have hz := rl_z (w := w) (b := x) (by omega)
      have hn := rl_nz q
      rcases hw' (9 * x + 3 + rl w x) with y | ⟨p, -, -, -, y⟩
      · exact hn (by rw [y]; exact hz)
      · exact hn y
    · exact q
  refine ⟨hout, hle, fun p hp => ?_, fun p h1 h2 => ?_⟩
  · rcases hw' (9 * x + 3 + p) with y | ⟨q, -, -, -, y⟩
    · exact y
    · exact absurd y (rl_nz hp)
  · have hz := rl_z (w := w') (b := x) (by omega)
    have hn := rl_nz (w := w) (b := x) (q := rl w' x) (by omega)
    rcases hw' (9 * x + 3 + rl w' x) with y | ⟨q, g1, g2, g3, g4⟩
    · exact absurd (by rw [← y]; exact hz) hn
    · have hq : q = rl w' x := by omega
      rw [hq] at g2
      obtain ⟨-, g5⟩ := wrB_iff.mp g2
      rcases g5 with y | ⟨y1, y2⟩
      · omega
      · have hu : ubd w x = lo w (nxN w x) := by unfold ubd; rw [if_neg y1]
        have := hw.le (p - rl w' x) (rl w' x) (by omega)
        rw [show rl w' x + (p - rl w' x) = p by omega] at this
        omega
theorem cl_ev (Bs : Base w cs hs) (hx : x ∈ lvc cs L) (hw' : ∀ a, w' a = w a ∨ ∃ p, p < 6 ∧ wrB w x p = true ∧ a = 9 * x + 3 + p ∧ w' a = 0) : Base w' cs hs ∧ alk w w' cs := by
  have T := Bs.1
  have hL := lvc_in hx
  have hw := T.2.2.2.2.2 L hL x hx
  obtain ⟨hout, hle, hpre, hub⟩ := cl_core T hx hw'
  have h6 := rl_le w x
  have hkp : ∀ p, p < rl w' x → kp w' x p = kp w x p := fun p hp => by unfold kp; rw [hpre p hp]
  obtain ⟨pp, rr, exx⟩ := List.append_of_mem hx
  have hubx := (T.ub exx hL)
  have hrow : rowOK w' cs L x := by
    refine rowOK.of (out_lo hout) (T.rwo hx) (fun p hp => ?_) (fun hL0 => ?_)
    · rcases hw' (9 * x + 3 + p) with y | ⟨q, -, -, -, y⟩
      · rw [y]; exact (T.rwo hx).at hp
      · exact Or.inl y
    · rcases hw' (9 * x + 3) with y | ⟨q, g1, g2, g3, g4⟩
      · exact y
      · exfalso
        have hq : q = 0 := by omega
        rw [hq] at g2
        obtain ⟨-, g5⟩ := wrB_iff.mp g2
        obtain ⟨N, rfl⟩ : ∃ N, L = N + 1 := ⟨L - 1, by omega⟩
        have h0 := (T.2.1 N hL x hx).2.1
        rcases g5 with y | ⟨y1, y2⟩
        · omega
        · have hu : ubd w x = lo w (nxN w x) := by unfold ubd; rw [if_neg y1]
          have := hubx.2.2.2
          omega
  have hwst : wst w' x := fun p hp => by rw [hkp p (by omega), hkp (p + 1) hp]; exact hw p (by omega)
  have T' := T.rowch hx hout hrow hwst
  refine ⟨out_base Bs hx T' hout, fun b hb => out_lo hout b, fun M hM b hb => ?_⟩
  by_cases e : b = x
  · subst e
    funext k
    have key : ksB w' b k = true ↔ ksB w b k = true := by
      rw [ksB_iff, ksB_iff, out_ubd hout]
      constructor
      · rintro ⟨h1, p, h2, h3⟩
        exact ⟨h1, p, by omega, by rw [← hkp p h2]; exact h3⟩
      · rintro ⟨h1, p, h2, h3⟩
        rcases Nat.lt_or_ge p (rl w' b) with y | y
        · exact ⟨h1, p, y, by rw [hkp p y]; exact h3⟩
        · have := hub p y h2; omega
    cases e1 : ksB w b k with
    | true => exact key.mpr e1
    | false =>
      cases e2 : ksB w' b k with
      | false => rfl
      | true => rw [key.mp e2] at e1; cases e1
  · exact ksB_sb (out_sb hout e) (out_ubd hout b)
theorem cl_semi (T : TS w cs) (hx : x ∈ lvc cs L) (hw' : w' = apl (clW w x 6) w) : semi w' x := by
  have hL := lvc_in hx
  have hw2 : ∀ a, w' a = w a ∨ ∃ p, p < 6 ∧ wrB w x p = true ∧ a = 9 * x + 3 + p ∧ w' a = 0 := fun a => by
    by_cases c : ∃ p, p < 6 ∧ wrB w x p = true ∧ a = 9 * x + 3 + p
    · obtain ⟨p, h1, h2, h3⟩ := c
      exact Or.inr ⟨p, h1, h2, h3, by rw [hw', h3]; exact clW_in h1 h2⟩
    · left; rw [hw']; exact clW_out c
  obtain ⟨hout, hle, hpre, hub⟩ := cl_core T hx hw2
  have h6 := rl_le w x
  have hnw : ∀ p, p < 6 → w' (9 * x + 3 + p) ≠ 0 → w' (9 * x + 3 + p) = w (9 * x + 3 + p) ∧ ¬ wrB w x p = true := fun p hp hn => by
    by_cases c : wrB w x p = true
    · exact absurd (by rw [hw']; exact clW_in hp c) hn
    · refine ⟨?_, c⟩
      rw [hw']
      refine clW_out ?_
      rintro ⟨q, h1, h2, h3⟩
      have : q = p := by omega
      rw [this] at h2; exact c h2
  have lt : ∀ p, p < 6 → w' (9 * x + 3 + p) ≠ 0 → p ≤ rl w x ∧ kp w x p < ubd w x := fun p hp hn => by
    obtain ⟨g1, g2⟩ := hnw p hp hn
    rw [g1] at hn
    refine ⟨?_, ?_⟩
    · rcases Nat.lt_or_ge (rl w x) p with y | y
      · exact absurd (wrB_iff.mpr ⟨hn, Or.inl y⟩) g2
      · exact y
    · unfold ubd
      by_cases c : nxN w x = 0
      · rw [if_pos c]
        rcases T.row hx p hp with y | y
        · exact absurd y hn
        · exact y.ky.2.1
      · rw [if_neg c]
        rcases Nat.lt_or_ge (kp w x p) (lo w (nxN w x)) with y | y
        · exact y
        · exact absurd (wrB_iff.mpr ⟨hn, Or.inr ⟨c, y⟩⟩) g2
  refine ⟨fun p hp => ?_, fun p h1 h2 => ?_⟩
  · have := (lt p (by omega) (rl_nz hp)).2
    rw [out_ubd hout]
    unfold kp; rw [hpre p hp]; exact this
  · by_cases hn : w' (9 * x + 3 + p) = 0
    · exact hn
    · exfalso
      obtain ⟨g1, g2⟩ := lt p h2 hn
      obtain ⟨g3, -⟩ := hnw p h2 hn
      rcases Nat.lt_or_ge p (rl w x) with y | y
      · have := hub p h1 y; omega
      · have e : p = rl w x := by omega
        exact hn (by rw [g3, e]; exact rl_z (by omega))
end ClE
theorem rl_lt {w : Mem} {x p : Nat} (hp : p ≤ 6) : rl w x < p ↔ ∃ q, q < p ∧ w (9 * x + 3 + q) = 0 := by
  constructor
  · intro h; exact ⟨rl w x, h, rl_z (by omega)⟩
  · rintro ⟨q, h1, h2⟩
    rcases Nat.lt_or_ge (rl w x) p with y | y
    · exact y
    · exact absurd h2 (rl_nz (by omega))
section ClC
variable {w : Mem} {cs : List (List Nat)} {L x : Nat}
theorem c_isWrong {u : SM} {w1 : Mem} (T : TS w cs) (hx : x ∈ lvc cs L) (h : CW u w1) {p : Nat} (hp : p < 6) (ha : ∀ a, a ≤ 9 * x + 3 + p ∨ 9 * x + 9 ≤ a → w1 a = w a) : m_Tree_isWrong u (nI x) (nI p) = some (if wrB w x p = true then 1 else 0, u) := by
  have hL := lvc_in hx
  have hr := ((T.1 L hL).1.mem x hx).1
  have h6 := rl_le w x
  have h6' := rl_le w1 x
  obtain ⟨n, hn1, hn2⟩ := (T.1 L hL).1.next x hx
  have hn30 : n ≤ 30 := by
    rcases hn2 with q | q
    · omega
    · exact ((T.1 L hL).1.mem n q).1.2
  have hnx := nxN_of hn1 hn30
  have hnext : m_Blocks_nextOf u (nI x) = some (nI (nxN w x), u) := by rw [c_next h hr.2, ha _ (by omega), hn1, blk_lN hn30, hnx]
  have hrl : rl w1 x < p ↔ rl w x < p := by
    rw [rl_lt (by omega), rl_lt (by omega)]
    constructor
    · rintro ⟨q, h1, h2⟩; exact ⟨q, h1, by rw [← ha _ (by omega)]; exact h2⟩
    · rintro ⟨q, h1, h2⟩; exact ⟨q, h1, by rw [ha _ (by omega)]; exact h2⟩
  rw [m_Tree_isWrong, c_entry h hr.2 hp, obS, ha _ (by omega)]
  by_cases e0 : w (9 * x + 3 + p) = 0
  · rw [if_pos (by rw [cmp_eq]; exact e0), if_neg (fun q => (wrB_iff.mp q).1 e0)]
  · rw [if_neg (by rw [cmp_eq]; exact e0), hnext, obS, c_rl h hr.2, obS]
    by_cases e1 : rl w1 x < p
    · rw [if_pos (nI_lt e1 (by omega)), if_pos (wrB_iff.mpr ⟨e0, Or.inl (hrl.mp e1)⟩)]
    · rw [if_neg (nI_nlt (by omega) (by omega))]
      by_cases e2 : nxN w x = 0
      · rw [if_pos (by rw [e2]; rfl), if_neg (fun q => by
          rcases (wrB_iff.mp q).2 with y | y
          · exact e1 (hrl.mpr y)
          · exact y.1 e2)]
      · have hnm : nxN w x ∈ lvc cs L := (T.nx hx).resolve_left e2
        have hm := (T.1 L hL).1.mem _ hnm
        have hne : nxN w x ≠ x := fun q => by
          obtain ⟨pp, rr, exx⟩ := List.append_of_mem hx
          have hu := (T.ub exx hL).2.2.2
          unfold ubd at hu
          rw [if_neg e2, q] at hu
          omega
        have hky : kyI (w (9 * x + 3 + p)) = nI (kp w x p) ∧ kp w x p < 1000 := by
          rcases T.row hx p hp with y | y
          · exact absurd y e0
          · exact ⟨y.ky.1, y.ky.2.1⟩
        rw [if_neg (nI_ne0 (by omega) (by omega)), c_keyOf, obS, hky.1, c_low h hm.1.2, obS, ha _ (by omega), lo_i hm.2.2.1]
        by_cases e3 : lo w (nxN w x) ≤ kp w x p
        · rw [if_neg (nI_nlt e3 (by omega)), if_pos (wrB_iff.mpr ⟨e0, Or.inr ⟨e2, e3⟩⟩)]
        · rw [if_pos (nI_lt (by omega) (by omega)), if_neg (fun q => by
            rcases (wrB_iff.mp q).2 with y | y
            · exact e1 (hrl.mpr y)
            · exact e3 y.2)]
theorem c_clr_L (T : TS w cs) (hx : x ∈ lvc cs L) : ∀ (p n : Nat) (u : SM) (M : MM), p ≤ 6 → p < n → inC u M → M.2.1.length + p ≤ 6 → (∀ a, a < 9 * x + 3 + p ∨ 9 * x + 9 ≤ a → M.1 a = w a) → ∃ u1, match lsM (clW w x p) M with
    | .inl M' => m_Tree_clearWrong_L2 n u (nI p + (-1 : Int32)) (nI x) = some (.inl (0, u1)) ∧ inC u1 M'
    | .inr M' => m_Tree_clearWrong_L2 n u (nI p + (-1 : Int32)) (nI x) = some (.inr u1) ∧ inC u1 M' := by
  have hr := ((T.1 L (lvc_in hx)).1.mem x hx).1
  intro p
  induction p with
  | zero =>
    intro n u M _ hn h _ _
    obtain ⟨n, rfl⟩ : ∃ e, n = e + 1 := ⟨n - 1, by omega⟩
    exact ⟨u, by rw [m_Tree_clearWrong_L2, if_pos (by decide)], h⟩
  | succ p ih =>
    intro n u M hp hn h hl ha
    obtain ⟨n, rfl⟩ : ∃ e, n = e + 1 := ⟨n - 1, by omega⟩
    rw [addm1, m_Tree_clearWrong_L2, if_neg (nI_pos (by omega)), c_isWrong T hx h.1 (by omega) (fun a hq => ha a (by omega)), obS, clW]
    by_cases e : wrB w x p = true
    · rw [if_pos e, if_pos e, if_neg (by decide), c_place, obS]
      by_cases hs : M.2.2.1 = 0
      · obtain ⟨u1, e1, hu1⟩ := c_store_cut h hs (nI (9 * x + 3 + p)) 0
        rw [lsM_cut hs, e1, obS, if_pos rfl]
        exact ⟨u1, rfl, hu1⟩
      · obtain ⟨u1, e1, hu1⟩ := c_store_ok h hs (a := 9 * x + 3 + p) (by omega) (by omega) 0
        rw [lsM_ok hs, e1, obS, if_neg (by decide)]
        exact ih n u1 _ (by omega) (by omega) hu1 (by rw [stM_len]; omega) (fun a hq => by
          show vp_updL M.1 (9 * x + 3 + p) 0 a = w a
          rw [pk_uLn (by omega)]; exact ha a (by omega))
    · rw [if_neg e, if_neg e, if_pos rfl]
      exact ih n u M (by omega) (by omega) h (by omega) (fun a hq => ha a (by omega))
theorem c_clear {u : SM} {M : MM} (T : TS M.1 cs) (hx : x ∈ lvc cs L) (h : inC u M) (h0 : M.2.1 = []) : okC (m_Tree_clearWrong u (nI x)) (looseM (clW M.1 x 6) M) := by
  obtain ⟨u1, hu1⟩ := c_clr_L T hx 6 fz u M (by omega) (by unfold fz; omega) h (by rw [h0]; simp) (fun a _ => rfl)
  unfold looseM
  rw [m_Tree_clearWrong]
  cases e : lsM (clW M.1 x 6) M with
  | inl M' =>
    rw [e] at hu1
    rw [show m_Tree_clearWrong_L2 fz u (5 : Int32) (nI x) = some (.inl (0, u1)) from hu1.1, ol0I]
    exact ⟨u1, rfl, hu1.2⟩
  | inr M' =>
    rw [e] at hu1
    rw [show m_Tree_clearWrong_L2 fz u (5 : Int32) (nI x) = some (.inr u1) from hu1.1, ol0R]
    obtain ⟨u2, e2, hu2⟩ := c_fence hu1.2
    rw [e2, obS]
    exact ⟨u2, rfl, hu2⟩
end ClC
