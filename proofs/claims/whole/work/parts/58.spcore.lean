/-! PURE: a split at any level, told once more (for the leaf's split) -/
section SpC
variable {w w' : Mem} {cs : List (List Nat)} {hs : Nat → List Nat} {L x k y : Nat}
theorem sp_core (Bs : Base w cs hs) (hcl : allClean w cs) (hxm : x ∈ lvc cs L) (h6 : rl w x = 6) (hk : fst (bls cs hs) k) (S : SpW w w' x k) :
    lo w' k = kp w x 3 ∧ kp w x 3 < 1000 ∧ (∀ q, fk w cs L q = x → q < 1000 → kc w' (fk w' (csI cs L x k) L q) < 6) ∧ (∀ M z, stray w' (csI cs L x k) M z ↔ stray w cs M z ∨ (M = L ∧ z = k)) ∧ (∀ n M q, L < M → q < 1000 → need w' (csI cs L x k) n M q = need w cs n M q) := by
  have T := Bs.1
  have hLl := lvc_in hxm
  have hc := hcl L x hxm
  have hkn : k ∉ cs.flatten := fun q => hk.2.2.1 (List.mem_append_left _ q)
  have hk30 : 1 ≤ k ∧ k ≤ 30 := ⟨hk.1, hk.2.1⟩
  obtain ⟨Bs', hfr⟩ := sp_base Bs hxm hc h6 hk S
  have T' := Bs'.1
  obtain ⟨F1, F2, F3, F4, F5, F6, F7⟩ := sp_facts T hxm hc h6 hkn hk30 S
  have nek : ∀ {M b}, b ∈ lvc cs M → b ≠ k := fun hb q => hkn (by rw [← q]; exact lvc_flat hb)
  have lo' : ∀ {M b}, b ∈ lvc cs M → lo w' b = lo w b := fun hb => S.lo (nek hb)
  obtain ⟨pp, rr, exx⟩ := List.append_of_mem hxm
  have hub := T.ub exx hLl
  have k1000 : kp w x 3 < 1000 := by have := hc.2.1 3 (by omega); have := hub.2.2.1; omega
  have hlk := S.loK k1000
  have hcL := T.hgt
  have klt : kp w x 3 < ubd w x := hc.2.1 3 (by omega)
  have kgt : lo w x < kp w x 3 := by
    have h1 := T'.1 L (by rw [csI_len]; exact hLl)
    have hk' := csI_new (k := k) hLl hxm
    have hx' := csI_old (k := k) hxm hxm
    -- x stands before k in the chain
    have hxu := fk_uniq T' hk' (k := kp w x 3) (by rw [hlk]; exact Nat.le_refl _) (by rw [F3]; exact klt)
    rcases Nat.lt_or_ge (lo w x) (kp w x 3) with z | z
    · exact z
    · exfalso
      have h1 := hc.mono 3 0 (by omega)
      rw [Nat.zero_add] at h1
      have h0 : lo w x ≤ kp w x 0 := by
        rcases (T.rwo hxm).at (p := 0) (by omega) with q | q
        · exact absurd q (rl_nz (by omega))
        · cases L with
          | zero =>
            obtain ⟨k1, v1, q1, q2, q3⟩ := q
            unfold kp; rw [q1, kN_ent _ (by omega)]; exact q2
          | succ M =>
            obtain ⟨c, hc1, q1, q2⟩ := q
            unfold kp; rw [q1, kN_ent _ (by have := T.lo1000 hc1; omega)]; exact q2
      omega
  -- the blocks of level L: x and k hold three keys each
  have kcx : kc w' x < 6 := by
    have h1 : cnt (ksB w' x) 1000 = cnt (ksB w x) (kp w x 3) := by
      have : cnt (ksB w' x) (kp w x 3 + (1000 - kp w x 3)) = cnt (ksB w' x) (kp w x 3) := cnt_none _ _ (fun j h1 h2 => by
        cases e : ksB w' x j with
        | false => rfl
        | true => have := ((F4 j).mp e).2; omega)
      rw [show kp w x 3 + (1000 - kp w x 3) = 1000 by omega] at this
      rw [this]
      apply cnt_congr
      intro i hi
      cases e : ksB w x i with
      | true => exact (F4 i).mpr ⟨e, hi⟩
      | false =>
        cases e2 : ksB w' x i with
        | false => rfl
        | true => rw [((F4 i).mp e2).1] at e; cases e
    show cnt (ksB w' x) 1000 < 6
    rw [h1, hc.cn 3 (by omega)]; omega
  have kck : kc w' k < 6 := by
    have hu : ubd w' k ≤ 1000 := by rw [F3]; exact hub.2.2.1
    rw [F6.kcE hu, S.rlK h6]; omega
  have hfk : ∀ q, fk w cs L q = x → q < 1000 → kc w' (fk w' (csI cs L x k) L q) < 6 := by
    intro q hx hq
    have hlx : lo w x ≤ q := by rw [← hx]; exact fk_lo T _ hLl
    have hux : q < ubd w x := by rw [← hx]; exact fk_ub T hLl hq
    by_cases e : q < kp w x 3
    · rw [fk_uniq T' (csI_old hxm hxm) (by rw [S.loX]; exact hlx) (by rw [F2]; exact e)]; exact kcx
    · rw [fk_uniq T' (csI_new hLl hxm) (by rw [hlk]; omega) (by rw [F3]; exact hux)]; exact kck
  -- strays
  have ksM : ∀ {M b}, b ∈ lvc cs M → M ≠ L → ksB w' b = ksB w b := fun hb hM => (F1 _ _ hb (fun e => hM (nd_lvc T.2.2.2.1 (e ▸ hb) hxm))).2
  have hkstray : ∀ b ∈ lvc cs (L + 1), ksB w b (kp w x 3) = false := by
    intro b hb
    cases e : ksB w b (kp w x 3) with
    | false => rfl
    | true =>
      exfalso
      obtain ⟨c, hc1, hc2⟩ := T.key_low hb e
      have h1 := fk_uniq T hxm (k := kp w x 3) (by omega) klt
      have h2 : fk w cs L (kp w x 3) = c := by
        obtain ⟨p2, r2, e2⟩ := List.append_of_mem hc1
        rw [← hc2]
        exact fk_uniq T hc1 (Nat.le_refl _) (T.ub e2 hLl).2.2.2
      rw [h1] at h2
      subst h2
      omega
  have hstr : ∀ M z, stray w' (csI cs L x k) M z ↔ stray w cs M z ∨ (M = L ∧ z = k) := by
    intro M z
    constructor
    · rintro ⟨h1, h2, h3⟩
      rcases csI_cls hxm h1 with q | q
      · left
        refine ⟨q, by rw [← lo' q]; exact h2, fun b hb => ?_⟩
        have hb' := csI_old (k := k) hxm hb
        have h4 := h3 b hb'
        rw [lo' q] at h4
        by_cases e : M + 1 = L
        · by_cases ex : b = x
          · subst ex
            cases e2 : ksB w b (lo w z) with
            | false => rfl
            | true =>
              exfalso
              by_cases e3 : lo w z < kp w b 3
              · rw [(F4 _).mpr ⟨e2, e3⟩] at h4; cases h4
              · have hkm : k ∈ lvc (csI cs L b k) (M + 1) := by rw [e]; exact csI_new hLl hxm
                have h5 := h3 k hkm
                rw [lo' q, (F5 _).mpr ⟨e2, by omega⟩] at h5; cases h5
          · rw [(F1 _ _ hb ex).2] at h4; exact h4
        · rw [ksM hb e] at h4; exact h4
      · exact Or.inr q
    · rintro (⟨h1, h2, h3⟩ | ⟨q1, q2⟩)
      · refine ⟨csI_old hxm h1, by rw [lo' h1]; exact h2, fun b hb => ?_⟩
        rw [lo' h1]
        rcases csI_cls hxm hb with q | ⟨q1, q2⟩
        · by_cases ex : b = x
          · subst ex
            have := h3 b q
            cases e2 : ksB w' b (lo w z) with
            | false => rfl
            | true => rw [((F4 _).mp e2).1] at this; cases this
          · rw [(F1 _ _ q ex).2]; exact h3 b q
        · subst q2
          have hxM : x ∈ lvc cs (M + 1) := by rw [q1]; exact hxm
          have := h3 x hxM
          cases e2 : ksB w' b (lo w z) with
          | false => rfl
          | true => rw [((F5 _).mp e2).1] at this; cases this
      · subst q1; subst q2
        refine ⟨csI_new hLl hxm, by rw [hlk]; omega, fun b hb => ?_⟩
        rw [hlk]
        rcases csI_cls hxm hb with q | ⟨q1, q2⟩
        · rw [ksM q (by omega)]; exact hkstray b q
        · omega
  -- needs above level L
  have fkM : ∀ M, M ≠ L → ∀ q, fk w' (csI cs L x k) M q = fk w cs M q := by
    intro M hM q
    have e : lvc (csI cs L x k) M = lvc cs M := by rw [lvc_csI hLl, if_neg hM]
    unfold fk
    rw [e]
    cases e2 : lvc cs M with
    | nil => rfl
    | cons b r => exact fnd_congr r b (fun z hz => lo' (M := M) (by rw [e2]; exact List.mem_cons_of_mem _ hz))
  have nup : ∀ n M q, L < M → q < 1000 → need w' (csI cs L x k) n M q = need w cs n M q := by
    intro n M q hM hq
    apply need_up (csI_len cs L x k) n M q (fun M' h q _ => fkM M' (by omega) q) (fun M' h q _ hl => ksM (fk_mem T q hl) (by omega)) hq
  exact ⟨hlk, k1000, hfk, hstr, nup⟩
/-- the split of a leaf, where nothing strays -/
theorem sp_DI0 (Bs : Base w cs hs) (hcl : allClean w cs) (hns : ∀ M z, ¬ stray w cs M z) (hxm : x ∈ lvc cs L) (h6 : rl w x = 6) (hk : fst (bls cs hs) k) (S : SpW w w' x k) (hnd : 1 + need w cs 40 (L + 1) (kp w x 3) ≤ frN (bls cs hs)) :
    DI w' (csI cs L x k) (frN (bls (csI cs L x k) hs)) ∧ (∀ M z, stray w' (csI cs L x k) M z ↔ M = L ∧ z = k) := by
  obtain ⟨hlk, k1000, hfk, hstr, nup⟩ := sp_core Bs hcl hxm h6 hk S
  obtain ⟨Bs', hfr⟩ := sp_base Bs hxm (hcl L x hxm) h6 hk S
  have hs' : ∀ M z, stray w' (csI cs L x k) M z ↔ M = L ∧ z = k := fun M z => by
    rw [hstr]
    exact ⟨fun h => h.resolve_left (hns M z), fun h => Or.inr h⟩
  refine ⟨⟨fun M a b ha hb => ?_, fun M a ha => ?_⟩, hs'⟩
  · rw [((hs' M a).mp ha).2, ((hs' M b).mp hb).2]
  · obtain ⟨q1, q2⟩ := (hs' M a).mp ha
    subst q1; subst q2
    right
    refine ⟨fun M' z hM' hz => ?_, ?_⟩
    · have := ((hs' M' z).mp hz).1; omega
    · rw [hlk, nup 40 (M + 1) _ (by omega) k1000]; omega
theorem DI.none {fr : Nat} (hns : ∀ M z, ¬ stray w cs M z) : DI w cs fr := ⟨fun M a _ ha => absurd ha (hns M a), fun M a ha => absurd ha (hns M a)⟩
end SpC
