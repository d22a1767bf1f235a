/-! PURE: what putRight leaves alone -/
section Pr2
variable {c : (Nat → Int32) × Int32}

theorem pr_putRight_L113 : ∀ (n : Nat) {v : SR} (h : gk v = c) (a0) (a1) (a2), q0 c (m_Ref_putRight_L113 n v a0 a1 a2) := by
  intro n
  induction n with
  | zero => intro v h a0 a1 a2; exact q0_none
  | succ n ih =>
    intro v h a0 a1 a2
    unfold m_Ref_putRight_L113
    repeat' first | with_reducible exact pr_none | with_reducible exact q0_none | with_reducible exact q1_none | with_reducible refine pr_some ?_ | with_reducible refine q0_inr ?_ | with_reducible refine q1_inr ?_ | with_reducible refine q0_inl ?_ | with_reducible refine q1_inl ?_ | with_reducible refine pr_store ?_ _ _ | with_reducible refine ih ?_ _ _ _ | with_reducible apply pr_ite | with_reducible apply q0_ite | with_reducible apply q1_ite | with_reducible refine pr_ob ?_ (fun _ _ h => ?_) | with_reducible refine q0_ob ?_ (fun _ _ h => ?_) | with_reducible refine q1_ob ?_ (fun _ _ h => ?_) | with_reducible refine pr_ol0 ?_ (fun _ h => ?_) | with_reducible refine pr_ol1 ?_ (fun _ _ h => ?_) | with_reducible refine q0_ol1 ?_ (fun _ _ h => ?_) | with_reducible refine q1_ol1 ?_ (fun _ _ h => ?_) | exact h
theorem pr_putRight_L155 : ∀ (n : Nat) {v : SR} (h : gk v = c) (a0) (a1), q0 c (m_Ref_putRight_L155 n v a0 a1) := by
  intro n
  induction n with
  | zero => intro v h a0 a1; exact q0_none
  | succ n ih =>
    intro v h a0 a1
    unfold m_Ref_putRight_L155
    repeat' first | with_reducible exact pr_none | with_reducible exact q0_none | with_reducible exact q1_none | with_reducible refine pr_some ?_ | with_reducible refine q0_inr ?_ | with_reducible refine q1_inr ?_ | with_reducible refine q0_inl ?_ | with_reducible refine q1_inl ?_ | with_reducible refine pr_length ?_ _ | with_reducible refine pr_keyAt ?_ _ _ | with_reducible refine pr_drop ?_ _ _ | with_reducible refine ih ?_ _ _ | with_reducible apply pr_ite | with_reducible apply q0_ite | with_reducible apply q1_ite | with_reducible refine pr_ob ?_ (fun _ _ h => ?_) | with_reducible refine q0_ob ?_ (fun _ _ h => ?_) | with_reducible refine q1_ob ?_ (fun _ _ h => ?_) | with_reducible refine pr_ol0 ?_ (fun _ h => ?_) | with_reducible refine pr_ol1 ?_ (fun _ _ h => ?_) | with_reducible refine q0_ol1 ?_ (fun _ _ h => ?_) | with_reducible refine q1_ol1 ?_ (fun _ _ h => ?_) | exact h
theorem pr_putRight_L14 : ∀ (n : Nat) {v : SR} (h : gk v = c) (a0) (a1) (a2) (a3) (a4), q1 c (m_Ref_putRight_L14 n v a0 a1 a2 a3 a4) := by
  intro n
  induction n with
  | zero => intro v h a0 a1 a2 a3 a4; exact q1_none
  | succ n ih =>
    intro v h a0 a1 a2 a3 a4
    unfold m_Ref_putRight_L14
    repeat' first | with_reducible exact pr_none | with_reducible exact q0_none | with_reducible exact q1_none | with_reducible refine pr_some ?_ | with_reducible refine q0_inr ?_ | with_reducible refine q1_inr ?_ | with_reducible refine q0_inl ?_ | with_reducible refine q1_inl ?_ | with_reducible refine pr_at ?_ _ _ | with_reducible refine pr_keyAt ?_ _ _ | with_reducible refine pr_low ?_ _ | with_reducible refine ih ?_ _ _ _ _ _ | with_reducible apply pr_ite | with_reducible apply q0_ite | with_reducible apply q1_ite | with_reducible refine pr_ob ?_ (fun _ _ h => ?_) | with_reducible refine q0_ob ?_ (fun _ _ h => ?_) | with_reducible refine q1_ob ?_ (fun _ _ h => ?_) | with_reducible refine pr_ol0 ?_ (fun _ h => ?_) | with_reducible refine pr_ol1 ?_ (fun _ _ h => ?_) | with_reducible refine q0_ol1 ?_ (fun _ _ h => ?_) | with_reducible refine q1_ol1 ?_ (fun _ _ h => ?_) | exact h
theorem pr_putRight {v : SR} (h : gk v = c) : ∀ a0, pr c (m_Ref_putRight v a0) := by
  intro a0
  unfold m_Ref_putRight
  repeat' first | with_reducible exact pr_none | with_reducible exact q0_none | with_reducible exact q1_none | with_reducible refine pr_some ?_ | with_reducible refine q0_inr ?_ | with_reducible refine q1_inr ?_ | with_reducible refine q0_inl ?_ | with_reducible refine q1_inl ?_ | with_reducible refine pr_next ?_ _ | with_reducible refine pr_putRight_L14 _ ?_ _ _ _ _ _ | with_reducible refine pr_putRight_L113 _ ?_ _ _ _ | with_reducible refine pr_fence ?_ | with_reducible refine pr_putRight_L155 _ ?_ _ _ | with_reducible apply pr_ite | with_reducible apply q0_ite | with_reducible apply q1_ite | with_reducible refine pr_ob ?_ (fun _ _ h => ?_) | with_reducible refine q0_ob ?_ (fun _ _ h => ?_) | with_reducible refine q1_ob ?_ (fun _ _ h => ?_) | with_reducible refine pr_ol0 ?_ (fun _ h => ?_) | with_reducible refine pr_ol1 ?_ (fun _ _ h => ?_) | with_reducible refine q0_ol1 ?_ (fun _ _ h => ?_) | with_reducible refine q1_ol1 ?_ (fun _ _ h => ?_) | exact h
end Pr2
section RC
variable {w : Mem} {cs : List (List Nat)} {L x : Nat}
theorem bt_set {m : Int32} {p i : Nat} (hp : p < 32) (hi : i < 32) : bt (m ||| ((1 : Int32) <<< (nI p &&& 31))) i = (bt m i || decide (i = p)) := by rw [b_or, b_bit hp hi]
theorem r_mask_L {v : SR} (T : TS w cs) (hx : x ∈ lvc cs L) (h : RW v w) : ∀ (d p n : Nat) (m : Int32), p + d = 6 → d < n → (∀ i, i < 32 → bt m i = (decide (i < p) && wrB w x i)) → ∃ m', m_Ref_putRight_L14 n v m (if rl w x < p then 1 else 0) (nI p) (nI x) (nI (nxN w x)) = some (.inr (m', v)) ∧ ∀ i, i < 32 → bt m' i = (decide (i < 6) && wrB w x i) := by
  have hL := lvc_in hx
  have hr := ((T.1 L hL).1.mem x hx).1
  intro d
  induction d with
  | zero =>
    intro p n m hp hn hm
    obtain ⟨n, rfl⟩ : ∃ e, n = e + 1 := ⟨n - 1, by omega⟩
    have : p = 6 := by omega
    subst this
    exact ⟨m, by rw [m_Ref_putRight_L14, if_pos (by decide)], hm⟩
  | succ d ih =>
    intro p n m hp hn hm
    obtain ⟨n, rfl⟩ : ∃ e, n = e + 1 := ⟨n - 1, by omega⟩
    have hat : m_Ref_at v (nI x) (nI p) = some (w (9 * x + 3 + p), v) := r_at h hr.2 (by omega)
    have keep : wrB w x p = false → ∀ i, i < 32 → bt m i = (decide (i < p + 1) && wrB w x i) := fun g i hi => by
      rw [hm i hi]
      by_cases e : i = p
      · rw [e, g]; simp
      · by_cases e2 : i < p
        · rw [decide_eq_true e2, decide_eq_true (show i < p + 1 by omega)]
        · rw [decide_eq_false e2, decide_eq_false (show ¬ i < p + 1 by omega)]
    have setb : wrB w x p = true → ∀ i, i < 32 → bt (m ||| ((1 : Int32) <<< (nI p &&& 31))) i = (decide (i < p + 1) && wrB w x i) := fun g i hi => by
      rw [bt_set (by omega) hi, hm i hi]
      by_cases e : i = p
      · rw [e, g]; simp
      · by_cases e2 : i < p
        · rw [decide_eq_true e2, decide_eq_true (show i < p + 1 by omega), decide_eq_false e]; simp
        · rw [decide_eq_false e2, decide_eq_false (show ¬ i < p + 1 by omega), decide_eq_false e]; simp
    rw [m_Ref_putRight_L14, if_neg (by rw [show (6 : Int32) = nI 6 from rfl]; exact nI_ge (by omega) (by omega)), hat, obS]
    by_cases e0 : w (9 * x + 3 + p) = 0
    · have hnw : wrB w x p = false := by
        cases q : wrB w x p with
        | false => rfl
        | true => exact absurd e0 (wrB_iff.mp q).1
      have hgap : rl w x < p + 1 := (rl_lt (by omega)).mpr ⟨p, by omega, e0⟩
      have nxt := ih (p + 1) n m (by omega) (by omega) (keep hnw)
      rw [if_pos hgap] at nxt
      rw [if_pos (by rw [cmp_eq]; exact e0)]
      by_cases g : rl w x < p
      · rw [if_pos g, if_neg (by decide), a1]; exact nxt
      · rw [if_neg g, if_pos rfl, hat, obS, if_pos (by rw [cmp_eq]; exact e0), a1]; exact nxt
    · have c0 : ¬ lg_cmp (w (9 * x + 3 + p)) 0 = 0 := by rw [cmp_eq]; exact e0
      rw [if_neg c0]
      by_cases g : rl w x < p
      · have hw : wrB w x p = true := wrB_iff.mpr ⟨e0, Or.inl g⟩
        have nxt := ih (p + 1) n _ (by omega) (by omega) (setb hw)
        rw [if_pos (show rl w x < p + 1 by omega)] at nxt
        rw [if_pos g, if_neg (by decide), if_neg (by decide), a1]; exact nxt
      · have hg2 : ¬ rl w x < p + 1 := fun q => by
          obtain ⟨j, j1, j2⟩ := (rl_lt (by omega)).mp q
          rcases Nat.lt_or_ge j p with y | y
          · exact g ((rl_lt (by omega)).mpr ⟨j, y, j2⟩)
          · have : j = p := by omega
            rw [this] at j2; exact e0 j2
        rw [if_neg g, if_pos rfl]
        by_cases e2 : nxN w x = 0
        · have hnw : wrB w x p = false := by
            cases q : wrB w x p with
            | false => rfl
            | true =>
              rcases (wrB_iff.mp q).2 with y | y
              · exact absurd y g
              · exact absurd e2 y.1
          have nxt := ih (p + 1) n m (by omega) (by omega) (keep hnw)
          rw [if_neg hg2] at nxt
          rw [if_pos (show nI (nxN w x) = 0 by rw [e2]; rfl), if_pos rfl, hat, obS, if_neg c0, a1]; exact nxt
        · have hnm : nxN w x ∈ lvc cs L := (T.nx hx).resolve_left e2
          have hmm := (T.1 L hL).1.mem _ hnm
          have hky : kyI (w (9 * x + 3 + p)) = nI (kp w x p) ∧ kp w x p < 1000 := by
            rcases T.row hx p (by omega) with y | y
            · exact absurd y e0
            · exact ⟨y.ky.1, y.ky.2.1⟩
          rw [if_neg (nI_ne0 (by omega) (by omega)), r_key h hr.2 (by omega), obS, hky.1, r_low h hmm.1.2, obS, lo_i hmm.2.2.1]
          by_cases e3 : lo w (nxN w x) ≤ kp w x p
          · have hw : wrB w x p = true := wrB_iff.mpr ⟨e0, Or.inr ⟨e2, e3⟩⟩
            have nxt := ih (p + 1) n _ (by omega) (by omega) (setb hw)
            rw [if_neg hg2] at nxt
            rw [if_neg (nI_nlt e3 (by omega)), if_pos rfl, hat, obS, if_neg c0, a1]; exact nxt
          · have hnw : wrB w x p = false := by
              cases q : wrB w x p with
              | false => rfl
              | true =>
                rcases (wrB_iff.mp q).2 with y | y
                · exact absurd y g
                · exact absurd y.2 e3
            have nxt := ih (p + 1) n m (by omega) (by omega) (keep hnw)
            rw [if_neg hg2] at nxt
            rw [if_pos (nI_lt (by omega) (by omega)), if_pos rfl, hat, obS, if_neg c0, a1]; exact nxt
theorem bit1 {m : Int32} {p : Nat} (hp : p < 32) : ((m >>> (nI p &&& 31)) &&& (1 : Int32)) = (1 : Int32) ↔ bt m p = true := by
  have h1 := bitS m hp
  have h2 := b_and1 (m >>> (nI p &&& 31))
  constructor
  · intro q
    cases e : bt m p with
    | true => rfl
    | false => rw [h1.mpr e] at q; exact absurd q (by decide)
  · intro q
    by_cases e : bt (m >>> (nI p &&& 31)) 0 = true
    · rw [h2, if_pos e]
    · rw [if_neg e] at h2
      rw [h1.mp h2] at q; cases q
theorem r_clr_brk {v : SR} (hb : rg_br v ≠ 0) (a m : Int32) : ∀ (p n : Nat), p ≤ 6 → p < n → m_Ref_putRight_L113 n v (nI p + (-1 : Int32)) a m = some (.inr v) := by
  intro p
  induction p with
  | zero =>
    intro n _ hn
    obtain ⟨n, rfl⟩ : ∃ e, n = e + 1 := ⟨n - 1, by omega⟩
    rw [m_Ref_putRight_L113, if_pos (by decide)]
  | succ p ih =>
    intro n hp hn
    obtain ⟨n, rfl⟩ : ∃ e, n = e + 1 := ⟨n - 1, by omega⟩
    rw [addm1, m_Ref_putRight_L113, if_neg (nI_pos (by omega)), r_store_brk hb, obS, ih n (by omega) (by omega)]
    by_cases e : ((m >>> (nI p &&& 31)) &&& (1 : Int32)) = (1 : Int32)
    · rw [if_pos e]
    · rw [if_neg e]
theorem r_clr_L (hx : 1 ≤ x ∧ x ≤ 30) {m : Int32} (hm : ∀ i, i < 32 → bt m i = (decide (i < 6) && wrB w x i)) : ∀ (p n : Nat) (v : SR) (M : MM), p ≤ 6 → p < n → inR v M 0 → M.2.1.length + p ≤ 6 → ∃ v1, m_Ref_putRight_L113 n v (nI p + (-1 : Int32)) (nI x) m = some (.inr v1) ∧ match lsM (clW w x p) M with
    | .inl M' => inR v1 M' 1
    | .inr M' => inR v1 M' 0 := by
  intro p
  induction p with
  | zero =>
    intro n v M _ hn h _
    obtain ⟨n, rfl⟩ : ∃ e, n = e + 1 := ⟨n - 1, by omega⟩
    exact ⟨v, by rw [m_Ref_putRight_L113, if_pos (by decide)], h⟩
  | succ p ih =>
    intro n v M hp hn h hl
    obtain ⟨n, rfl⟩ : ∃ e, n = e + 1 := ⟨n - 1, by omega⟩
    have hb : bt m p = wrB w x p := by rw [hm p (by omega), decide_eq_true (show p < 6 by omega)]; simp
    rw [addm1, m_Ref_putRight_L113, if_neg (nI_pos (by omega)), clW]
    by_cases e : wrB w x p = true
    · rw [if_pos ((bit1 (by omega)).mpr (by rw [hb]; exact e)), if_pos e, pl_addr']
      by_cases hs : M.2.2.1 = 0
      · obtain ⟨v1, e1, hv1⟩ := r_store_cut h hs (nI (9 * x + 3 + p)) 0
        rw [lsM_cut hs, e1, obS]
        exact ⟨v1, r_clr_brk (by rw [hv1.b1]; decide) _ _ p n (by omega) (by omega), hv1⟩
      · obtain ⟨v1, e1, hv1⟩ := r_store_ok h hs (a := 9 * x + 3 + p) (by omega) (by omega) 0
        rw [lsM_ok hs, e1, obS]
        exact ih n v1 _ (by omega) (by omega) hv1 (by rw [stM_len]; omega)
    · rw [if_neg (fun q => e (by rw [← hb]; exact (bit1 (by omega)).mp q)), if_neg e]
      exact ih n v M (by omega) (by omega) h (by omega)
end RC
