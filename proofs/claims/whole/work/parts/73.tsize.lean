/-! PURE: size of the table -/
def nzB (w : Mem) (b p : Nat) : Bool := decide (w (9 * b + 3 + p) ≠ 0)
section Tz
variable {u : SM} {v : SR} {M : MM} {cs : List (List Nat)} {hs : Nat → List Nat}
theorem nz_rd (Bs : Base M.1 cs hs) {b p h : Nat} (h1 : 1 ≤ h) (h2 : h ≤ 8) (hb : b ∈ hs h) (hp : p < 6) : rdB hs cs M.1 1 (9 * b + 3 + p) = nzB M.1 b p := by
  have H := Bs.2.2.2.1
  have : rdB hs cs M.1 1 (9 * b + 3 + p) = true ↔ nzB M.1 b p = true := by
    rw [rdB_iff Bs]
    unfold nzB
    rw [decide_eq_true_iff]
    constructor
    · rintro ⟨kk, g1, g2⟩
      exact (rdT_key Bs g1 g2).1
    · intro g
      rcases (H h h1 h2).1 b hb p hp with q | ⟨k, vv, q1, q2, q3⟩
      · exact absurd q g
      · refine ⟨k, q2, ?_⟩
        unfold rdT
        rw [if_pos rfl, q3]
        have hkp : kp M.1 b p = k := by unfold kp; rw [q1, kN_ent _ (by omega)]
        cases e : tsk M.1 (nI k) (hs h) with
        | none => exact absurd (by rw [q1, ky_ent _ (by omega)]) (tsk_none e b hb p hp)
        | some a =>
          obtain ⟨b', p', y1, y2, y3, y4, y5⟩ := tsk_key H h1 h2 q2 e
          have := (H h h1 h2).2 b' b p' p y1 hb y2 hp (by rw [← y3]; exact y4) g (by rw [y5, hkp])
          rw [y3, this.1, this.2]
  cases e1 : rdB hs cs M.1 1 (9 * b + 3 + p) with
  | true => exact (this.mp e1).symm
  | false =>
    cases e2 : nzB M.1 b p with
    | false => rfl
    | true => rw [this.mpr e2] at e1; cases e1
theorem c_ce_L (h : CW u M.1) {b : Nat} (hb : b ≤ 30) : ∀ (d p n : Nat), p + d = 6 → d < n → m_Table_countEntries_L4 n u (nI (cnt (nzB M.1 b) p)) (nI p) (nI b) = some (.inr (nI (cnt (nzB M.1 b) 6), u)) := by
  intro d
  induction d with
  | zero =>
    intro p n hp hn
    obtain ⟨n, rfl⟩ : ∃ e, n = e + 1 := ⟨n - 1, by omega⟩
    have : p = 6 := by omega
    subst this
    rw [m_Table_countEntries_L4, if_pos (by decide)]
  | succ d ih =>
    intro p n hp hn
    obtain ⟨n, rfl⟩ : ∃ e, n = e + 1 := ⟨n - 1, by omega⟩
    rw [m_Table_countEntries_L4, if_neg (by rw [show (6 : Int32) = nI 6 from rfl]; exact nI_ge (by omega) (by omega)), c_entry h hb (by omega), obS, a1, a1]
    have hcs := cnt_succ (nzB M.1 b) p
    have nxt := ih (p + 1) n (by omega) (by omega)
    by_cases e : M.1 (9 * b + 3 + p) = 0
    · rw [if_pos (by rw [cmp_eq]; exact e)]
      rw [if_neg (show ¬ nzB M.1 b p = true by unfold nzB; simpa using e)] at hcs
      rw [hcs] at nxt
      exact nxt
    · rw [if_neg (by rw [cmp_eq]; exact e)]
      rw [if_pos (show nzB M.1 b p = true by unfold nzB; simpa using e)] at hcs
      rw [hcs] at nxt
      exact nxt
theorem c_ce (h : CW u M.1) {b : Nat} (hb : b ≤ 30) : m_Table_countEntries u (nI b) = some (nI (cnt (nzB M.1 b) 6), u) := by
  have := c_ce_L h hb 6 0 fz (by omega) (by unfold fz; omega)
  rw [m_Table_countEntries, show m_Table_countEntries_L4 fz u (0 : Int32) (0 : Int32) (nI b) = some (.inr (nI (cnt (nzB M.1 b) 6), u)) from this, ol1R]
theorem c_tck_in (h : CW u M.1) (x2 : Int32) : ∀ (c : List Nat) (x cn n : Nat), cch M.1 c → cn + c.length ≤ 30 → 31 ≤ cn + n → m_Table_countKeys_L22 n u (nI x) (nI (c.headD 0)) (nI cn) x2 = some (.inr (nI (x + lsm (fun b => cnt (nzB M.1 b) 6) c), u)) := by
  intro c
  induction c with
  | nil =>
    intro x cn n _ h1 h2
    rw [List.length_nil] at h1
    obtain ⟨n, rfl⟩ : ∃ e, n = e + 1 := ⟨n - 1, by omega⟩
    rw [m_Table_countKeys_L22]
    by_cases e : (30 : Int32) ≤ nI cn
    · rw [if_pos e]; rfl
    · rw [if_neg e, if_pos (show nI (([] : List Nat).headD 0) = 0 from rfl)]; rfl
  | cons b r ih =>
    intro x cn n hc h1 h2
    rw [List.length_cons] at h1
    obtain ⟨n, rfl⟩ : ∃ e, n = e + 1 := ⟨n - 1, by omega⟩
    obtain ⟨hb, hlv, hnx, hr⟩ := hc
    have hn : m_Blocks_nextOf u (nI ((b :: r).headD 0)) = some (nI (r.headD 0), u) := by
      have := c_next h hb.2
      rw [hnx, blk_lN hr.hd] at this
      exact this
    rw [m_Table_countKeys_L22, if_neg (by rw [show (30 : Int32) = nI 30 from rfl]; exact nI_ge (by omega) (by omega)), if_neg (show ¬ nI ((b :: r).headD 0) = 0 from nI_ne0 hb.1 (Nat.lt_of_le_of_lt hb.2 (by omega))), show m_Table_countEntries u (nI ((b :: r).headD 0)) = some (nI (cnt (nzB M.1 b) 6), u) from c_ce h hb.2, obS, hn, obS, nAdd, a1, ih _ (cn + 1) n hr (by omega) (by omega)]
    rw [show x + cnt (nzB M.1 b) 6 + lsm (fun b => cnt (nzB M.1 b) 6) r = x + lsm (fun b => cnt (nzB M.1 b) 6) (b :: r) by show _ = x + (cnt (nzB M.1 b) 6 + lsm (fun b => cnt (nzB M.1 b) 6) r); omega]
def hsP (hs : Nat → List Nat) (i : Nat) : List Nat := (List.range i).flatMap (fun j => hs (j + 1))
theorem hsP_succ (hs : Nat → List Nat) (i : Nat) : hsP hs (i + 1) = hsP hs i ++ hs (i + 1) := by
  unfold hsP
  rw [List.range_succ, List.flatMap_append]
  simp
theorem c_tck_L (Bs : Base M.1 cs hs) (h : CW u M.1) : ∀ (d i n : Nat), i + d = 8 → d < n → m_Table_countKeys_L4 n u (nI (lsm (fun b => cnt (nzB M.1 b) 6) (hsP hs i))) (nI (i + 1)) = some (.inr (nI (lsm (fun b => cnt (nzB M.1 b) 6) (hsA hs)), u)) := by
  intro d
  induction d with
  | zero =>
    intro i n hp hn
    obtain ⟨n, rfl⟩ : ∃ e, n = e + 1 := ⟨n - 1, by omega⟩
    have : i = 8 := by omega
    subst this
    rw [m_Table_countKeys_L4, if_pos (by decide)]; rfl
  | succ d ih =>
    intro i n hp hn
    obtain ⟨n, rfl⟩ : ∃ e, n = e + 1 := ⟨n - 1, by omega⟩
    have hc := Bs.2.2.1 (i + 1) (by omega) (by omega)
    have hl := hs_len Bs (h := i + 1) (by omega) (by omega)
    have hin := c_tck_in h (nI (i + 1)) (hs (i + 1)) (lsm (fun b => cnt (nzB M.1 b) 6) (hsP hs i)) 0 fz hc.2 (by omega) (by unfold fz; omega)
    rw [m_Table_countKeys_L4, if_neg (by rw [show (9 : Int32) = nI 9 from rfl]; exact nI_ge (by omega) (by omega)), c_blockIn h (by omega), obS, hc.1, blk_lN hc.2.hd]
    rw [show m_Table_countKeys_L22 fz u (nI (lsm (fun b => cnt (nzB M.1 b) 6) (hsP hs i))) (nI ((hs (i + 1)).headD 0)) (0 : Int32) (nI (i + 1)) = some (.inr (nI (lsm (fun b => cnt (nzB M.1 b) 6) (hsP hs i) + lsm (fun b => cnt (nzB M.1 b) 6) (hs (i + 1))), u)) from hin, ol1R, a1]
    have nxt := ih (i + 1) n (by omega) (by omega)
    rw [hsP_succ, lsm_app] at nxt
    exact nxt
theorem c_tcount (Bs : Base M.1 cs hs) (h : CW u M.1) : m_Table_countKeys u = some (nI (lsm (fun b => cnt (nzB M.1 b) 6) (hsA hs)), u) := by
  have := c_tck_L Bs h 8 0 fz (by omega) (by unfold fz; omega)
  rw [m_Table_countKeys, show m_Table_countKeys_L4 fz u (0 : Int32) (1 : Int32) = some (.inr (nI (lsm (fun b => cnt (nzB M.1 b) 6) (hsA hs)), u)) from this, ol1R]
theorem r_size1 (Bs : Base M.1 cs hs) (h : inRa v M) : ∃ f, m_Ref_size v 1 = some (nI (lsm (fun b => cnt (nzB M.1 b) 6) (hsA hs)), rs_rea (rs_cd v 0) f) := by
  have T := Bs.1
  refine r_size Bs h (Or.inr rfl) (List.nodup_append.mp Bs.2.2.2.2).2.1 (fun b hb => ?_) (fun b h1 h2 => ?_) _ (fun b hb => ?_)
  · obtain ⟨g, y1, y2, y3⟩ := hsA_mem.mp hb
    exact ((Bs.2.2.1 g y1 y2).2.mem b y3).1
  · constructor
    · intro hb
      obtain ⟨g, y1, y2, y3⟩ := hsA_mem.mp hb
      exact ⟨List.mem_append_right _ hb, by rw [((Bs.2.2.1 g y1 y2).2.mem b y3).2, lNneg]⟩
    · rintro ⟨g1, g2⟩
      rcases List.mem_append.mp g1 with q | q
      · obtain ⟨L, hL, hb⟩ := flat_lvc q
        have h30 := T.hgt
        rw [((T.1 L hL).1.mem b hb).2.1, lN_i] at g2
        have := nI_pos (n := L) (by omega)
        rw [g2] at this
        exact absurd (by decide) this
      · exact q
  · obtain ⟨g, y1, y2, y3⟩ := hsA_mem.mp hb
    exact cnt_congr 6 (fun p hp => (nz_rd Bs y1 y2 y3 hp).symm)
theorem c_size (Bs : Base M.1 cs hs) (h : inC u M) (hv : inRa v M) (t : Int32) : ∃ r v1, m_Firm_size u t = some (r, u) ∧ m_Ref_size v t = some (r, v1) ∧ inRa v1 M := by
  rw [m_Firm_size, c_isPart, obS]
  by_cases c0 : t = 0
  · obtain ⟨f, hf⟩ := r_size0 Bs hv
    rw [if_pos (Or.inl c0), if_neg (by decide), if_pos c0, c_countKeys Bs h.1, obS, c0]
    obtain ⟨br, hb⟩ := hv
    exact ⟨_, _, rfl, hf, br, hb⟩
  · by_cases c1 : t = 1
    · obtain ⟨f, hf⟩ := r_size1 Bs hv
      rw [if_pos (Or.inr c1), if_neg (by decide), if_neg c0, c_tcount Bs h.1, obS, c1]
      obtain ⟨br, hb⟩ := hv
      exact ⟨_, _, rfl, hf, br, hb⟩
    · rw [if_neg (show ¬ (t = 0 ∨ t = 1) from fun q => q.elim c0 c1), if_pos rfl]
      refine ⟨-1, rs_cd v 0, rfl, ?_, hv.cd 0⟩
      rw [m_Ref_size]
      by_cases d1 : t < 0
      · rw [if_pos d1]
      · rw [if_neg d1, if_neg (fun q => by
          obtain ⟨j, hj, e⟩ := nI_of2 (M := (1 : Int32)) (n := 1) (by decide) d1 q
          have : j = 0 ∨ j = 1 := by omega
          rcases this with z | z
          · exact c0 (by rw [e, z]; rfl)
          · exact c1 (by rw [e, z]; rfl))]
end Tz
