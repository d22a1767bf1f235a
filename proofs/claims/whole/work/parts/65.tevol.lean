/-! PURE: what changes in the table -/
theorem tree_same {w w' : Mem} {cs : List (List Nat)} (T : TS w cs) (h0 : w' 0 = w 0) (hT : ∀ b ∈ cs.flatten, sb w w' b) : TS w' cs ∧ alk w w' cs ∧ (allClean w cs → allClean w' cs) := by
  have hub : ∀ {L b}, b ∈ lvc cs L → ubd w' b = ubd w b := by
    intro L b q
    have hsb := hT b (lvc_flat q)
    have e1 : nxN w' b = nxN w b := by unfold nxN; rw [hsb 1 (by omega)]
    unfold ubd
    rw [e1]
    rcases T.nx q with z | z
    · rw [if_pos z, if_pos z]
    · rw [(hT _ (lvc_flat z)).lo]
  exact ⟨T.congr h0 hT, ⟨fun b q => (hT b q).lo, fun M _ b q => ksB_sb (hT b (lvc_flat q)) (hub q)⟩, fun hc L b q => (hc L b q).of_sb (hT b (lvc_flat q)) (hub q)⟩
def hsL (hs : Nat → List Nat) : List (List Nat) := (List.range 8).map (fun i => hs (i + 1))
theorem hsL_flat (hs : Nat → List Nat) : (hsL hs).flatten = hsA hs := by unfold hsL hsA; rw [List.flatMap_def]
theorem hsL_at (hs : Nat → List Nat) {h : Nat} (h1 : 1 ≤ h) (h2 : h ≤ 8) : lvc (hsL hs) (h - 1) = hs h := by
  unfold lvc hsL
  rw [List.getD_eq_getElem?_getD, List.getElem?_map, List.getElem?_range (by omega)]
  show hs (h - 1 + 1) = hs h
  rw [show h - 1 + 1 = h by omega]
theorem hs_idx {cs : List (List Nat)} {hs : Nat → List Nat} (hn : (bls cs hs).Nodup) {b h h' : Nat} (h1 : 1 ≤ h) (h2 : h ≤ 8) (h3 : 1 ≤ h') (h4 : h' ≤ 8) (hb : b ∈ hs h) (hb' : b ∈ hs h') : h = h' := by
  have hn2 : (hsL hs).flatten.Nodup := by rw [hsL_flat]; exact (List.nodup_append.mp hn).2.1
  have := nd_lvc hn2 (L := h - 1) (L' := h' - 1) (by rw [hsL_at hs h1 h2]; exact hb) (by rw [hsL_at hs h3 h4]; exact hb')
  omega
theorem hs_nd {cs : List (List Nat)} {hs : Nat → List Nat} (hn : (bls cs hs).Nodup) {h : Nat} (h1 : 1 ≤ h) (h2 : h ≤ 8) : (hs h).Nodup := by
  have hn2 : (hsL hs).flatten.Nodup := by rw [hsL_flat]; exact (List.nodup_append.mp hn).2.1
  have := nd_part (L := h - 1) hn2
  rw [hsL_at hs h1 h2] at this
  exact this
theorem hs_len {w : Mem} {cs : List (List Nat)} {hs : Nat → List Nat} (Bs : Base w cs hs) {h : Nat} (h1 : 1 ≤ h) (h2 : h ≤ 8) : (hs h).length ≤ 30 :=
  nd_le 30 _ (hs_nd Bs.2.2.2.2 h1 h2) (fun x hx => ((Bs.2.2.1 h h1 h2).2.mem x hx).1)
theorem HR.row {w : Mem} {hs : Nat → List Nat} (H : HR w hs) {h b : Nat} (h1 : 1 ≤ h) (h2 : h ≤ 8) (hb : b ∈ hs h) : rowE w b := fun p hp => by
  rcases (H h h1 h2).1 b hb p hp with q | ⟨k, v, q1, q2, -⟩
  · exact Or.inl q
  · exact Or.inr ⟨k, v, q2, q1⟩
theorem cch.congr2 {w w' : Mem} : ∀ {c : List Nat}, (∀ b ∈ c, w' (9 * b) = w (9 * b) ∧ w' (9 * b + 1) = w (9 * b + 1)) → cch w c → cch w' c := by
  intro c
  induction c with
  | nil => intro _ _; trivial
  | cons a r ih =>
    intro h hc
    obtain ⟨h1, h2, h3, h4⟩ := hc
    have ha := h a List.mem_cons_self
    exact ⟨h1, by rw [ha.1]; exact h2, by rw [ha.2]; exact h3, ih (fun b hb => h b (List.mem_cons_of_mem _ hb)) h4⟩
section Tb
variable {w w' : Mem} {cs : List (List Nat)} {hs : Nat → List Nat} {h b p : Nat} {e : Int64}
theorem tab_one (Bs : Base w cs hs) (h1 : 1 ≤ h) (h2 : h ≤ 8) (hb : b ∈ hs h) (hp : p < 6) (hat : w' (9 * b + 3 + p) = e) (hout : ∀ a, a ≠ 9 * b + 3 + p → w' a = w a)
    (he : e = 0 ∨ ∃ (k : Nat) (v : Int32), e = ent k v ∧ k < 1000 ∧ k % 8 + 1 = h ∧ ∀ b' p', b' ∈ hs h → p' < 6 → (b' ≠ b ∨ p' ≠ p) → w (9 * b' + 3 + p') ≠ 0 → kp w b' p' ≠ k) :
    Base w' cs hs ∧ alk w w' cs ∧ (allClean w cs → allClean w' cs) := by
  obtain ⟨T, t2, hc1, hr1, hn⟩ := Bs
  have hbr := ((hc1 h h1 h2).2.mem b hb).1
  have hbA : b ∈ hsA hs := hsA_mem.mpr ⟨h, h1, h2, hb⟩
  have hT : ∀ c ∈ cs.flatten, sb w w' c := fun c hc i hi => hout _ (by have := hs_ne hn hbA hc; omega)
  obtain ⟨T', A, hcl⟩ := tree_same T (hout 0 (by omega)) hT
  have hoth : ∀ {c q}, q < 6 → (c ≠ b ∨ q ≠ p) → w' (9 * c + 3 + q) = w (9 * c + 3 + q) := fun hq hne => hout _ (by omega)
  refine ⟨⟨T', t2, ?_, ?_, hn⟩, A, hcl⟩
  · intro g g1 g2
    refine ⟨by rw [hout g (by omega)]; exact (hc1 g g1 g2).1, (hc1 g g1 g2).2.congr2 (fun c hc => ⟨hout _ (by omega), hout _ (by omega)⟩)⟩
  · intro g g1 g2
    by_cases eg : g = h
    · subst eg
      refine ⟨fun c hc q hq => ?_, ?_⟩
      · by_cases ec : c = b ∧ q = p
        · obtain ⟨rfl, rfl⟩ := ec
          rw [hat]
          rcases he with z | ⟨k, v, z1, z2, z3, -⟩
          · exact Or.inl z
          · exact Or.inr ⟨k, v, z1, z2, z3⟩
        · rw [hoth hq (by omega)]; exact (hr1 g g1 g2).1 c hc q hq
      · have half : ∀ c q, c ∈ hs g → q < 6 → (c ≠ b ∨ q ≠ p) → w' (9 * c + 3 + q) ≠ 0 → w' (9 * b + 3 + p) ≠ 0 → kp w' c q ≠ kp w' b p := by
          intro c q hc hq hne n1 n2
          rcases he with z | ⟨k, v, z1, z2, z3, z4⟩
          · exact absurd (hat.trans z) n2
          · have e1 : kp w' b p = k := by unfold kp; rw [hat, z1, kN_ent _ (by omega)]
            have e2 : kp w' c q = kp w c q := by unfold kp; rw [hoth hq hne]
            rw [e1, e2]
            exact z4 c q hc hq hne (by rw [← hoth hq hne]; exact n1)
        intro c c' q q' hc hc' hq hq' n1 n2 ek
        by_cases e1 : c = b ∧ q = p
        · by_cases e2 : c' = b ∧ q' = p
          · exact ⟨by omega, by omega⟩
          · obtain ⟨rfl, rfl⟩ := e1
            exact absurd ek.symm (half c' q' hc' hq' (by omega) n2 n1)
        · by_cases e2 : c' = b ∧ q' = p
          · obtain ⟨rfl, rfl⟩ := e2
            exact absurd ek (half c q hc hq (by omega) n1 n2)
          · have k1 : kp w' c q = kp w c q := by unfold kp; rw [hoth hq (by omega)]
            have k2 : kp w' c' q' = kp w c' q' := by unfold kp; rw [hoth hq' (by omega)]
            rw [hoth hq (by omega)] at n1
            rw [hoth hq' (by omega)] at n2
            exact (hr1 g g1 g2).2 c c' q q' hc hc' hq hq' n1 n2 (by rw [← k1, ← k2]; exact ek)
    · have hneb : ∀ c ∈ hs g, c ≠ b := fun c hc ec => eg (hs_idx hn g1 g2 h1 h2 hc (ec ▸ hb))
      refine ⟨fun c hc q hq => by rw [hoth hq (Or.inl (hneb c hc))]; exact (hr1 g g1 g2).1 c hc q hq, ?_⟩
      intro c c' q q' hc hc' hq hq' n1 n2 ek
      have k1 : kp w' c q = kp w c q := by unfold kp; rw [hoth hq (Or.inl (hneb c hc))]
      have k2 : kp w' c' q' = kp w c' q' := by unfold kp; rw [hoth hq' (Or.inl (hneb c' hc'))]
      rw [hoth hq (Or.inl (hneb c hc))] at n1
      rw [hoth hq' (Or.inl (hneb c' hc'))] at n2
      exact (hr1 g g1 g2).2 c c' q q' hc hc' hq hq' n1 n2 (by rw [← k1, ← k2]; exact ek)
def hsN (hs : Nat → List Nat) (h b : Nat) : Nat → List Nat := fun i => if i = h then b :: hs h else hs i
theorem hsL_set (hs : Nat → List Nat) {h b : Nat} (h1 : 1 ≤ h) (h2 : h ≤ 8) : hsL (hsN hs h b) = (hsL hs).set (h - 1) (b :: hs h) := by
  have : h = 1 ∨ h = 2 ∨ h = 3 ∨ h = 4 ∨ h = 5 ∨ h = 6 ∨ h = 7 ∨ h = 8 := by omega
  rcases this with e | e | e | e | e | e | e | e <;> (subst e; rfl)
theorem tab_new {k : Nat} {v : Int32} (Bs : Base w cs hs) (h1 : 1 ≤ h) (h2 : h ≤ 8) (hb : fst (bls cs hs) b) (hk : k < 1000) (hkh : k % 8 + 1 = h)
    (hn : ∀ c ∈ hs h, ∀ q, q < 6 → kyI (w (9 * c + 3 + q)) ≠ nI k)
    (q0 : w' (9 * b) = -1) (q1 : w' (9 * b + 1) = lN ((hs h).headD 0)) (q3 : w' (9 * b + 3 + 0) = ent k v) (qz : ∀ p, 1 ≤ p → p < 6 → w' (9 * b + 3 + p) = 0) (qh : w' h = lN b)
    (hout : ∀ a, a ≠ h → (a < 9 * b ∨ 9 * b + 9 ≤ a) → w' a = w a) : Base w' cs (hsN hs h b) ∧ alk w w' cs ∧ (allClean w cs → allClean w' cs) := by
  obtain ⟨T, t2, hc1, hr1, hnd⟩ := Bs
  have hb1 := hb.1
  have hb2 := hb.2.1
  have hT : ∀ c ∈ cs.flatten, sb w w' c := fun c hc i hi => by
    have h3 : c ≠ b := fun e => hb.2.2.1 (by rw [← e]; exact List.mem_append_left _ hc)
    have h4 := T.rng hc
    exact hout _ (by omega) (by omega)
  obtain ⟨T', A, hcl⟩ := tree_same T (hout 0 (by omega) (by omega)) hT
  have hsb : ∀ g, 1 ≤ g → g ≤ 8 → ∀ c ∈ hs g, sb w w' c := fun g g1 g2 c hc i hi => by
    have h3 : c ≠ b := fun e => hb.2.2.1 (by rw [← e]; exact List.mem_append_right _ (hsA_mem.mpr ⟨g, g1, g2, hc⟩))
    have h4 := ((hc1 g g1 g2).2.mem c hc).1
    exact hout _ (by omega) (by omega)
  have kpE : ∀ g, 1 ≤ g → g ≤ 8 → ∀ c ∈ hs g, ∀ q, q < 6 → kp w' c q = kp w c q := fun g g1 g2 c hc q hq => (hsb g g1 g2 c hc).kp hq
  refine ⟨⟨T', t2, ?_, ?_, ?_⟩, A, hcl⟩
  · intro g g1 g2
    by_cases eg : g = h
    · subst eg
      have e1 : hsN hs g b g = b :: hs g := by unfold hsN; rw [if_pos rfl]
      rw [e1]
      exact ⟨qh, ⟨hb1, hb2⟩, q0, q1, (hc1 g g1 g2).2.congr (hsb g g1 g2)⟩
    · have e1 : hsN hs h b g = hs g := by unfold hsN; rw [if_neg eg]
      rw [e1]
      exact ⟨by rw [hout g eg (by omega)]; exact (hc1 g g1 g2).1, (hc1 g g1 g2).2.congr (hsb g g1 g2)⟩
  · intro g g1 g2
    have old : (∀ c ∈ hs g, ∀ q, q < 6 → w' (9 * c + 3 + q) = 0 ∨ ∃ (k : Nat) (v : Int32), w' (9 * c + 3 + q) = ent k v ∧ k < 1000 ∧ k % 8 + 1 = g) ∧
        ∀ c c' q q', c ∈ hs g → c' ∈ hs g → q < 6 → q' < 6 → w' (9 * c + 3 + q) ≠ 0 → w' (9 * c' + 3 + q') ≠ 0 → kp w' c q = kp w' c' q' → c = c' ∧ q = q' := by
      refine ⟨fun c hc q hq => by rw [(hsb g g1 g2 c hc).pl hq]; exact (hr1 g g1 g2).1 c hc q hq, ?_⟩
      intro c c' q q' hc hc' hq hq' n1 n2 ek
      rw [(hsb g g1 g2 c hc).pl hq] at n1
      rw [(hsb g g1 g2 c' hc').pl hq'] at n2
      rw [kpE g g1 g2 c hc q hq, kpE g g1 g2 c' hc' q' hq'] at ek
      exact (hr1 g g1 g2).2 c c' q q' hc hc' hq hq' n1 n2 ek
    by_cases eg : g = h
    · subst eg
      have e1 : hsN hs g b g = b :: hs g := by unfold hsN; rw [if_pos rfl]
      rw [e1]
      have k0 : kp w' b 0 = k := by unfold kp; rw [q3, kN_ent _ (by omega)]
      have nz : ∀ q, q < 6 → w' (9 * b + 3 + q) ≠ 0 → q = 0 := fun q hq z => by
        rcases Nat.eq_zero_or_pos q with y | y
        · exact y
        · exact absurd (qz q y hq) z
      have kne : ∀ c ∈ hs g, ∀ q, q < 6 → w' (9 * c + 3 + q) ≠ 0 → kp w' c q ≠ k := by
        intro c hc q hq z ek
        rw [(hsb g g1 g2 c hc).pl hq] at z
        rw [kpE g g1 g2 c hc q hq] at ek
        rcases HR.row hr1 g1 g2 hc q hq with y | y
        · exact z y
        · apply hn c hc q hq
          rw [y.ky.1]
          show nI (kp w c q) = nI k
          rw [ek]
      refine ⟨fun c hc q hq => ?_, ?_⟩
      · rcases List.mem_cons.mp hc with z | z
        · rw [z]
          rcases Nat.eq_zero_or_pos q with y | y
          · right; rw [y]; exact ⟨k, v, q3, hk, hkh⟩
          · left; exact qz q y hq
        · exact old.1 c z q hq
      · intro c c' q q' hc hc' hq hq' n1 n2 ek
        rcases List.mem_cons.mp hc with z | z
        · subst z
          rcases List.mem_cons.mp hc' with z' | z'
          · subst z'
            exact ⟨rfl, by rw [nz q hq n1, nz q' hq' n2]⟩
          · rw [nz q hq n1, k0] at ek
            exact absurd ek.symm (kne c' z' q' hq' n2)
        · rcases List.mem_cons.mp hc' with z' | z'
          · subst z'
            rw [nz q' hq' n2, k0] at ek
            exact absurd ek (kne c z q hq n1)
          · exact old.2 c c' q q' z z' hq hq' n1 n2 ek
    · have e1 : hsN hs h b g = hs g := by unfold hsN; rw [if_neg eg]
      rw [e1]
      exact old
  · have hn0 := List.nodup_append.mp hnd
    have hnA : (hsA (hsN hs h b)).Nodup := by
      rw [← hsL_flat, hsL_set hs h1 h2]
      refine set_nd (k := b) (hsL hs) (h - 1) (by unfold hsL; simp; omega) (by rw [hsL_flat]; exact hn0.2.1) ?_ ?_ ?_
      · refine List.nodup_cons.mpr ⟨fun z => hb.2.2.1 (List.mem_append_right _ (hsA_mem.mpr ⟨h, h1, h2, z⟩)), hs_nd hnd h1 h2⟩
      · intro c hc
        rw [hsL_at hs h1 h2]
        rcases List.mem_cons.mp hc with z | z
        · exact Or.inr z
        · exact Or.inl z
      · rw [hsL_flat]; exact fun z => hb.2.2.1 (List.mem_append_right _ z)
    unfold bls
    refine List.nodup_append.mpr ⟨hn0.1, hnA, fun c hc c' hc' ec => ?_⟩
    subst ec
    obtain ⟨g, g1, g2, hg⟩ := hsA_mem.mp hc'
    unfold hsN at hg
    by_cases eg : g = h
    · rw [if_pos eg] at hg
      rcases List.mem_cons.mp hg with z | z
      · exact hb.2.2.1 (by rw [← z]; exact List.mem_append_left _ hc)
      · exact hn0.2.2 c hc c (hsA_mem.mpr ⟨h, h1, h2, z⟩) rfl
    · rw [if_neg eg] at hg
      exact hn0.2.2 c hc c (hsA_mem.mpr ⟨g, g1, g2, hg⟩) rfl
end Tb
