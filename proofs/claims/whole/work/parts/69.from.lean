/-! PURE: from -/
section Fr
variable {u : SM} {v : SR} {M : MM} {cs : List (List Nat)} {hs : Nat → List Nat} {k : Nat} {t : Int32}
theorem rdT_key (Bs : Base M.1 cs hs) (hk : k < 1000) {a : Nat} (h : rdT hs cs M.1 t k = some a) : M.1 a ≠ 0 ∧ kyI (M.1 a) = nI k := by
  by_cases e : t = 1
  · unfold rdT at h
    rw [if_pos e] at h
    obtain ⟨b, p, z1, z2, z3, z4, z5⟩ := tsk_key Bs.2.2.2.1 (by omega) (by omega) hk h
    refine ⟨z4, ?_⟩
    rcases Bs.2.2.2.1.row (by omega) (by omega) z1 p z2 with y | y
    · rw [z3] at z4; exact absurd y z4
    · rw [z3, y.ky.1]; show nI (kp M.1 b p) = nI k; rw [z5]
  · obtain ⟨h1, h2, h3, -, -⟩ := rm_tree e h
    have hm := fk_mem Bs.1 k (lev := 0) h1
    have hh : hasK M.1 (fk M.1 cs 0 k) k = true := by
      unfold rdT at h
      rw [if_neg e, if_neg (by omega)] at h
      by_cases e1 : hasK M.1 (fk M.1 cs 0 k) k = true
      · exact e1
      · rw [if_neg e1] at h; cases h
    rw [h3]
    exact ⟨rl_nz h2, by rw [((Bs.1.row hm).key h2).1, (hasK_iff.mp hh).2]⟩
theorem r_keyOf (x : Int64) : m_Ref_keyOf v x = some (kyI x, v) := rfl
theorem kN_of {x : Int64} {j : Nat} (h : kyI x = nI j) (hj : j < 1000) : kN x = j := by unfold kN; rw [h]; exact nI_clamp (by omega)
def rdB (hs : Nat → List Nat) (cs : List (List Nat)) (w : Mem) (t : Int32) (a : Nat) : Bool := decide ((w a ≠ 0 ∧ ¬ kyI (w a) < 0 ∧ ¬ (999 : Int32) < kyI (w a)) ∧ rdT hs cs w t (kN (w a)) = some a)
theorem rdB_iff (Bs : Base M.1 cs hs) {a : Nat} : rdB hs cs M.1 t a = true ↔ ∃ kk, kk < 1000 ∧ rdT hs cs M.1 t kk = some a := by
  unfold rdB
  rw [decide_eq_true_iff]
  constructor
  · rintro ⟨⟨h1, h2, h3⟩, h4⟩
    obtain ⟨j, hj, e⟩ := key_of h2 h3
    rw [kN_of e hj] at h4
    exact ⟨j, hj, h4⟩
  · rintro ⟨kk, h1, h2⟩
    have h3 := rdT_key Bs h1 h2
    refine ⟨⟨h3.1, by rw [h3.2]; exact nI_pos (by omega), by rw [h3.2, show (999 : Int32) = nI 999 from rfl]; exact nI_nlt (by omega) (by omega)⟩, ?_⟩
    rw [kN_of h3.2 h1]; exact h2
theorem r_isRead (Bs : Base M.1 cs hs) (h : RW v M.1) (ht : t = 0 ∨ t = 1) {a : Nat} (ha : a < 279) : m_Ref_isRead v t (nI a) = some (if rdB hs cs M.1 t a = true then 1 else 0, v) := by
  rw [m_Ref_isRead, if_pos (inb_n ha (by omega)), nI_clamp (by omega), h a ha]
  by_cases e0 : M.1 a = 0
  · rw [if_pos (by rw [cmp_eq]; exact e0), if_neg (fun q => by unfold rdB at q; exact (of_decide_eq_true q).1.1 e0)]
  · rw [if_neg (by rw [cmp_eq]; exact e0), if_pos (inb_n ha (by omega)), r_keyOf, obS]
    by_cases e1 : kyI (M.1 a) < 0
    · rw [if_pos e1, if_neg (fun q => by unfold rdB at q; exact (of_decide_eq_true q).1.2.1 e1)]
    · rw [if_neg e1]
      by_cases e2 : (999 : Int32) < kyI (M.1 a)
      · rw [if_pos e2, if_neg (fun q => by unfold rdB at q; exact (of_decide_eq_true q).1.2.2 e2)]
      · obtain ⟨j, hj, ej⟩ := key_of e1 e2
        have hkn := kN_of ej hj
        have hrd : m_Ref_read v t (kyI (M.1 a)) = some (oA (-1) (rdT hs cs M.1 t j), v) := by rw [ej]; exact r_read Bs h hj ht
        have hlt : ∀ a', rdT hs cs M.1 t j = some a' → a' < 279 := fun a' q => (rdT_lt Bs hj q).2
        rw [if_neg e2, hrd, obS]
        by_cases e3 : rdT hs cs M.1 t j = some a
        · rw [if_pos (by rw [e3]; rfl), if_pos ((rdB_iff Bs).mpr ⟨j, hj, e3⟩)]
        · rw [if_neg (fun q => e3 (by
            cases e4 : rdT hs cs M.1 t j with
            | none => rw [e4] at q; exact absurd q (fun z => by
                have := nI_pos (n := a) (by omega)
                rw [← z] at this
                exact this (by decide))
            | some a' =>
              rw [e4] at q
              have := hlt a' e4
              have q2 : nI a' = nI a := q
              rw [nI_eq (by omega) (by omega)] at q2
              rw [q2])), if_neg (fun q => by
            obtain ⟨kk, z1, z2⟩ := (rdB_iff Bs).mp q
            have := rdT_key Bs z1 z2
            rw [ej, nI_eq (by omega) (by omega)] at this
            exact e3 (by rw [this.2]; exact z2))]
def Lst (hs : Nat → List Nat) (cs : List (List Nat)) (w : Mem) (k m : Nat) (bd : Nat) : Prop := m ≤ 1000 ∧ (m = 1000 ∨ (k ≤ m ∧ ∃ a, rdT hs cs w 0 m = some a)) ∧ ∀ kk a, k ≤ kk → kk < 1000 → rdT hs cs w 0 kk = some a → a < bd → m ≤ kk
theorem rd0_in {a : Nat} (h : rdT hs cs M.1 0 k = some a) : ∃ b p, b ∈ lvc cs 0 → True ∧ a = 9 * b + 3 + p ∧ p < 6 := by
  obtain ⟨h1, h2, h3, h4, h5⟩ := rm_tree (by decide) h
  have h6 := rl_le M.1 (fk M.1 cs 0 k)
  exact ⟨_, _, fun _ => ⟨trivial, h3, by omega⟩⟩
theorem rd0_blk (T : TS M.1 cs) {a b : Nat} (h : rdT hs cs M.1 0 k = some a) (h1 : 9 * b ≤ a) (h2 : a < 9 * b + 9) : b ∈ lvc cs 0 ∧ (M.1 (9 * b)).toInt32 = 0 := by
  obtain ⟨g1, g2, g3, g4, g5⟩ := rm_tree (by decide) h
  have h6 := rl_le M.1 (fk M.1 cs 0 k)
  have hb : b = fk M.1 cs 0 k := by omega
  have hm := fk_mem T k g1
  rw [hb]
  exact ⟨hm, by rw [((T.1 0 g1).1.mem _ hm).2.1, lN_i]; rfl⟩
theorem r_from_in (Bs : Base M.1 cs hs) (h : RW v M.1) (hk : k < 1000) {b : Nat} (hb : b ≤ 30) (h0 : (M.1 (9 * b)).toInt32 = 0) : ∀ (d p n m : Nat), p + d = 6 → d < n → Lst hs cs M.1 k m (9 * b + 3 + p) → ∃ m', m_Ref_from_L42 n v (nI m) (nI p) (nI k) (nI b) = some (.inr (nI m', v)) ∧ Lst hs cs M.1 k m' (9 * b + 9) := by
  intro d
  induction d with
  | zero =>
    intro p n m hp hn I
    obtain ⟨n, rfl⟩ : ∃ e, n = e + 1 := ⟨n - 1, by omega⟩
    refine ⟨m, ?_, by rw [show 9 * b + 9 = 9 * b + 3 + p by omega]; exact I⟩
    rw [m_Ref_from_L42, if_pos (by rw [show (6 : Int32) = nI 6 from rfl]; exact nI_le (by omega) (by omega))]
  | succ d ih =>
    intro p n m hp hn I
    obtain ⟨n, rfl⟩ : ∃ e, n = e + 1 := ⟨n - 1, by omega⟩
    rw [m_Ref_from_L42, if_neg (by rw [show (6 : Int32) = nI 6 from rfl]; exact nI_ge (by omega) (by omega)), r_level h hb, obS, if_pos h0, pl_addr', r_isRead Bs h (Or.inl rfl) (by omega), obS, a1]
    have step : ∀ m', m' ≤ m → m' ≤ 1000 → (m' = m ∨ (k ≤ m' ∧ ∃ a, rdT hs cs M.1 0 m' = some a)) → (∀ kk, k ≤ kk → kk < 1000 → rdT hs cs M.1 0 kk = some (9 * b + 3 + p) → m' ≤ kk) → Lst hs cs M.1 k m' (9 * b + 3 + (p + 1)) := by
      intro m' g1 g2 g3 g4
      refine ⟨g2, ?_, fun kk a z1 z2 z3 z4 => ?_⟩
      · rcases g3 with y | y
        · rw [y]; exact I.2.1
        · exact Or.inr y
      · by_cases ea : a = 9 * b + 3 + p
        · exact g4 kk z1 z2 (by rw [← ea]; exact z3)
        · have := I.2.2 kk a z1 z2 z3 (by omega); omega
    by_cases e : rdB hs cs M.1 0 (9 * b + 3 + p) = true
    · obtain ⟨kk, g1, g2⟩ := (rdB_iff Bs).mp e
      have g3 := rdT_key Bs g1 g2
      rw [if_pos e, if_neg (by decide), if_pos (inb_n (by omega) (by omega)), nI_clamp (by omega), h _ (by omega), r_keyOf, obS, g3.2]
      have huniq : ∀ k2, k2 < 1000 → rdT hs cs M.1 0 k2 = some (9 * b + 3 + p) → k2 = kk := fun k2 z1 z2 => by
        have := (rdT_key Bs z1 z2).2
        rw [g3.2, nI_eq (by omega) (by omega)] at this
        exact this.symm
      have hm := I.1
      by_cases c1 : kk < k
      · rw [if_pos (nI_lt c1 (by omega))]
        exact ih (p + 1) n m (by omega) (by omega) (step m (Nat.le_refl _) hm (Or.inl rfl) (fun k2 z1 z2 z3 => by have := huniq k2 z2 z3; omega))
      · rw [if_neg (nI_nlt (by omega) (by omega))]
        have hrest : ∀ (X : Option ((Int32 × SR) ⊕ (Int32 × SR))), (if inb (nI (9 * b + 3 + p)) 279 = true then X else none) = X := fun X => if_pos (inb_n (by omega) (by omega))
        rw [hrest, h _ (by omega), r_keyOf, obS, g3.2]
        by_cases c2 : m ≤ kk
        · rw [if_pos (nI_le c2 (by omega))]
          exact ih (p + 1) n m (by omega) (by omega) (step m (Nat.le_refl _) hm (Or.inl rfl) (fun k2 z1 z2 z3 => by have := huniq k2 z2 z3; omega))
        · rw [if_neg (nI_ge (by omega) (by omega)), hrest, h _ (by omega), r_keyOf, obS, g3.2]
          exact ih (p + 1) n kk (by omega) (by omega) (step kk (by omega) (by omega) (Or.inr ⟨by omega, _, g2⟩) (fun k2 z1 z2 z3 => by have := huniq k2 z2 z3; omega))
    · rw [if_neg e, if_pos rfl]
      refine ih (p + 1) n m (by omega) (by omega) (step m (Nat.le_refl _) I.1 (Or.inl rfl) (fun k2 z1 z2 z3 => ?_))
      exact absurd ((rdB_iff Bs).mpr ⟨k2, z2, z3⟩) e
theorem r_from_L (Bs : Base M.1 cs hs) (h : RW v M.1) (hc : rg_cd v = 0) (hk : k < 1000) : ∀ (d b n m : Nat), b + d = 31 → d < n → Lst hs cs M.1 k m (9 * b + 3) → ∃ m', m_Ref_from_L26 n v (nI m) (nI b) (nI k) = some (.inr (nI m', v)) ∧ Lst hs cs M.1 k m' 279 := by
  intro d
  induction d with
  | zero =>
    intro b n m hp hn I
    obtain ⟨n, rfl⟩ : ∃ e, n = e + 1 := ⟨n - 1, by omega⟩
    refine ⟨m, ?_, I.1, I.2.1, fun kk a z1 z2 z3 z4 => I.2.2 kk a z1 z2 z3 (by omega)⟩
    rw [m_Ref_from_L26, if_pos (by rw [show (30 : Int32) = nI 30 from rfl]; exact nI_lt (by omega) (by omega))]
  | succ d ih =>
    intro b n m hp hn I
    obtain ⟨n, rfl⟩ : ∃ e, n = e + 1 := ⟨n - 1, by omega⟩
    rw [m_Ref_from_L26, if_neg (by rw [show (30 : Int32) = nI 30 from rfl]; exact nI_nlt (by omega) (by omega)), if_pos hc]
    have next : ∀ m1, Lst hs cs M.1 k m1 (9 * b + 9) → Lst hs cs M.1 k m1 (9 * (b + 1) + 3) := fun m1 J => ⟨J.1, J.2.1, fun kk a z1 z2 z3 z4 => by
      obtain ⟨g1, g2, g3, g4, g5⟩ := rm_tree (by decide) z3
      have h6 := rl_le M.1 (fk M.1 cs 0 kk)
      exact J.2.2 kk a z1 z2 z3 (by omega)⟩
    by_cases h0 : (M.1 (9 * b)).toInt32 = 0
    · obtain ⟨m1, e1, J⟩ := r_from_in Bs h hk (by omega) h0 6 0 fz m (by omega) (by unfold fz; omega) I
      rw [show m_Ref_from_L42 fz v (nI m) (0 : Int32) (nI k) (nI b) = some (.inr (nI m1, v)) from e1, ol1R, a1]
      exact ih (b + 1) n m1 (by omega) (by omega) (next m1 J)
    · have e1 : m_Ref_from_L42 fz v (nI m) (0 : Int32) (nI k) (nI b) = some (.inr (nI m, v)) := by
        rw [show fz = 3999 + 1 from rfl, m_Ref_from_L42, if_neg (by decide), r_level h (by omega), obS, if_neg h0]
      rw [e1, ol1R, a1]
      refine ih (b + 1) n m (by omega) (by omega) (next m ⟨I.1, I.2.1, fun kk a z1 z2 z3 z4 => ?_⟩)
      rcases Nat.lt_or_ge a (9 * b + 3) with y | y
      · exact I.2.2 kk a z1 z2 z3 y
      · exact absurd (rd0_blk Bs.1 z3 (by omega) z4).2 h0
/-- what from answers: the code and the key -/
theorem r_from_bad {x : Int32} (hx : x < 0 ∨ (999 : Int32) < x) : m_Ref_from v x = some (0, rs_cd v 1) := by
  have j : m_Ref_from_J12 v x = some (0, rs_cd v 1) := by
    rw [m_Ref_from_J12, m_Ref_from_J17, show fz = 3999 + 1 from rfl, m_Ref_from_L26, if_neg (by decide), if_neg (show ¬ rg_cd (rs_cd v 1) = 0 by show ¬ (1 : Int32) = 0; decide), ol1R, if_neg (show ¬ rg_cd (rs_cd v 1) = 0 by show ¬ (1 : Int32) = 0; decide), m_Ref_from_J152, if_neg (show ¬ rg_cd (rs_cd v 1) ≤ 0 by show ¬ (1 : Int32) ≤ 0; decide)]
    rfl
  rw [m_Ref_from]
  by_cases c : x < 0
  · rw [if_pos c]; exact j
  · rw [if_neg c, if_neg (fun q => by
      have h2 := hx.resolve_left c
      rw [Int32.lt_iff_toInt_lt] at h2
      rw [Int32.le_iff_toInt_le] at q
      omega)]; exact j
theorem r_from (Bs : Base M.1 cs hs) (h : inRa v M) (hk : k < 1000) : ∃ m, Lst hs cs M.1 k m 279 ∧ m_Ref_from v (nI k) = if m = 1000 then some (0, rs_cd v 2) else some (nI m, rs_cd v 0) := by
  obtain ⟨m, e, I⟩ := r_from_L (v := rs_cd v 0) Bs (h.cd 0).w rfl hk 30 1 fz 1000 (by omega) (by unfold fz; omega) ⟨Nat.le_refl _, Or.inl rfl, fun kk a z1 z2 z3 z4 => by
    have := (rdT_lt Bs z2 z3)
    obtain ⟨g1, g2, g3, g4, g5⟩ := rm_tree (by decide) z3
    have hm := fk_mem Bs.1 kk g1
    have := ((Bs.1.1 0 g1).1.mem _ hm).1
    omega⟩
  refine ⟨m, I, ?_⟩
  rw [m_Ref_from, if_neg (nI_pos (by omega)), if_pos (by rw [show (999 : Int32) = nI 999 from rfl]; exact nI_le (by omega) (by omega)), m_Ref_from_J17]
  rw [show m_Ref_from_L26 fz (rs_cd v 0) (1000 : Int32) (1 : Int32) (nI k) = some (.inr (nI m, rs_cd v 0)) from e, ol1R, if_pos (show rg_cd (rs_cd v 0) = 0 from rfl)]
  have hm := I.1
  by_cases c : m = 1000
  · rw [if_pos c, if_pos (by rw [c]; rfl)]; rfl
  · rw [if_neg c, if_neg (by rw [show (1000 : Int32) = nI 1000 from rfl, nI_eq (by omega) (by omega)]; exact c), m_Ref_from_J152, if_pos (show rg_cd (rs_cd v 0) ≤ 0 by show (0 : Int32) ≤ 0; decide)]; rfl
theorem Lst.uniq (Bs : Base M.1 cs hs) {m m' : Nat} (I : Lst hs cs M.1 k m 279) (I' : Lst hs cs M.1 k m' 279) : m = m' := by
  have half : ∀ {a b}, Lst hs cs M.1 k a 279 → Lst hs cs M.1 k b 279 → a ≤ b := fun {a b} A B => by
    have h1 := A.1
    have h2 := B.1
    by_cases e : b = 1000
    · omega
    · obtain ⟨q1, x, q2⟩ := B.2.1.resolve_left e
      exact A.2.2 b x q1 (by omega) q2 (rdT_lt Bs (by omega) q2).2
  have := half I I'
  have := half I' I
  omega
end Fr
