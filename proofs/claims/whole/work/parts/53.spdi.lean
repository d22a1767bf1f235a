/-! PURE: strays and needs through a split -/
section Fk
variable {w : Mem} {cs : List (List Nat)} {L k b : Nat}
theorem fnd_split (w : Mem) (k : Nat) : ∀ (r : List Nat) (b : Nat), ∃ p s, b :: r = p ++ fnd w k b r :: s ∧ ∀ c t, s = c :: t → k < lo w c := by
  intro r
  induction r with
  | nil => intro b; exact ⟨[], [], rfl, fun c t e => by cases e⟩
  | cons a r ih =>
    intro b
    unfold fnd
    by_cases h : lo w a ≤ k
    · rw [if_pos h]
      obtain ⟨p, s, e, h2⟩ := ih a
      exact ⟨b :: p, s, by rw [List.cons_append, ← e], h2⟩
    · rw [if_neg h]
      exact ⟨[], a :: r, rfl, fun c t e => by cases e; omega⟩
theorem fk_ub (T : TS w cs) (hL : L < cs.length) (hk : k < 1000) : k < ubd w (fk w cs L k) := by
  obtain ⟨h0, r, e, -⟩ := (T.1 L hL).2
  obtain ⟨p, s, e2, h2⟩ := fnd_split w k r h0
  have ef : fk w cs L k = fnd w k h0 r := by unfold fk; rw [e]
  rw [ef]
  have e3 : lvc cs L = p ++ fnd w k h0 r :: s := by rw [e]; exact e2
  have hu := T.ub e3 hL
  cases s with
  | nil => rw [hu.1 rfl]; exact hk
  | cons c t =>
    have ht := tch.suffix p (e3 ▸ (T.1 L hL).1)
    have h3 := h2 c t rfl
    unfold ubd
    rw [nxN_of ht.2.2.1 ht.2.2.2.2.2.1.2, show (c :: t).headD 0 = c from rfl, if_neg (by have := ht.2.2.2.2.2.1.1; omega)]
    exact h3
/-- the block found is the one whose range holds the key -/
theorem fk_uniq (T : TS w cs) (hb : b ∈ lvc cs L) (h1 : lo w b ≤ k) (h2 : k < ubd w b) : fk w cs L k = b := by
  have hL := lvc_in hb
  obtain ⟨p, r, e⟩ := List.append_of_mem hb
  rw [fk_at T hL e h1]
  have hu := T.ub e hL
  cases r with
  | nil => rfl
  | cons c r =>
    have := hu.2.1 c List.mem_cons_self
    rw [fnd, if_neg (by omega)]
theorem need_fuel (w : Mem) (cs : List (List Nat)) : ∀ (n L k : Nat), cs.length < L + n → 0 < n → need w cs (n + 1) L k = need w cs n L k := by
  intro n
  induction n with
  | zero => intro L k h h2; omega
  | succ n ih =>
    intro L k h h2
    rw [need]
    conv => rhs; rw [need]
    by_cases e : cs.length ≤ L
    · rw [if_pos e, if_pos e]
    · rw [if_neg e, if_neg e]
      by_cases e6 : kc w (fk w cs L k) < 6
      · rw [if_pos e6, if_pos e6]
      · rw [if_neg e6, if_neg e6, ih (L + 1) _ (by omega) (by omega)]
end Fk
section SpDI
variable {w w' : Mem} {cs : List (List Nat)} {hs : Nat → List Nat} {L x k y : Nat}
/-- needs of a level look at that level and those above alone -/
theorem need_up {cs' : List (List Nat)} (hlen : cs'.length = cs.length) : ∀ (n M q : Nat), (∀ M', M ≤ M' → ∀ q, q < 1000 → fk w' cs' M' q = fk w cs M' q) → (∀ M', M ≤ M' → ∀ q, q < 1000 → M' < cs.length → ksB w' (fk w cs M' q) = ksB w (fk w cs M' q)) → q < 1000 → need w' cs' n M q = need w cs n M q := by
  intro n
  induction n with
  | zero => intro M q _ _ _; rfl
  | succ n ih =>
    intro M q h1 h2 hq
    rw [need, need, hlen, h1 M (Nat.le_refl _) q hq]
    by_cases e : cs.length ≤ M
    · rw [if_pos e, if_pos e]
    · rw [if_neg e, if_neg e]
      have hk := h2 M (Nat.le_refl _) q hq (by omega)
      unfold kc
      rw [hk]
      by_cases e6 : cnt (ksB w (fk w cs M q)) 1000 < 6
      · rw [if_pos e6, if_pos e6]
      · rw [if_neg e6, if_neg e6, ih (M + 1) _ (fun M' h => h1 M' (by omega)) (fun M' h => h2 M' (by omega))]
        have : ∀ n, kth (ksB w (fk w cs M q)) 3 n < 1000 ∨ 1000 ≤ n := by
          intro n
          induction n with
          | zero => left; show 0 < 1000; omega
          | succ n ihn =>
            rw [kth]
            by_cases c : cnt (ksB w (fk w cs M q)) n = 3 ∧ ksB w (fk w cs M q) n = true
            · rw [if_pos c]
              rcases Nat.lt_or_ge n 1000 with z | z
              · exact Or.inl z
              · exact Or.inr (by omega)
            · rw [if_neg c]
              rcases ihn with z | z
              · exact Or.inl z
              · exact Or.inr (by omega)
        have kl : ∀ n, n ≤ 1000 → kth (ksB w (fk w cs M q)) 3 n < 1000 := by
          intro n
          induction n with
          | zero => intro _; show 0 < 1000; omega
          | succ n ihn =>
            intro hn
            rw [kth]
            by_cases c : cnt (ksB w (fk w cs M q)) n = 3 ∧ ksB w (fk w cs M q) n = true
            · rw [if_pos c]; omega
            · rw [if_neg c]; exact ihn (by omega)
        exact kl 1000 (Nat.le_refl _)
theorem need_zero {n M q : Nat} (h : need w cs (n + 1) M q = 0) : M < cs.length ∧ kc w (fk w cs M q) < 6 := by
  rw [need] at h
  by_cases e : cs.length ≤ M
  · rw [if_pos e] at h; omega
  · rw [if_neg e] at h
    by_cases e6 : kc w (fk w cs M q) < 6
    · exact ⟨by omega, e6⟩
    · rw [if_neg e6] at h; omega
theorem need_of {n M q : Nat} (h1 : M < cs.length) (h2 : kc w (fk w cs M q) < 6) : need w cs (n + 1) M q = 0 := by
  rw [need, if_neg (by omega), if_pos h2]
/-- a key of an inner block is the low of a block below -/
theorem TS.key_low (T : TS w cs) {M b j : Nat} (hb : b ∈ lvc cs (M + 1)) (h : ksB w b j = true) : ∃ c ∈ lvc cs M, lo w c = j := by
  obtain ⟨-, p, hp, e⟩ := ksB_iff.mp h
  have h6 := rl_le w b
  rcases (T.2.1 M (lvc_in hb) b hb).2.2 p (by omega) with q | ⟨c, hc, q, -⟩
  · exact absurd q (rl_nz hp)
  · refine ⟨c, hc, ?_⟩
    rw [← e]; unfold kp; rw [q, kN_ent _ (by have := T.lo1000 hc; omega)]
theorem TS.lo_inj (T : TS w cs) {M b c : Nat} (hb : b ∈ lvc cs M) (hc : c ∈ lvc cs M) (e : lo w b = lo w c) : b = c := by
  have hu := fk_ub T (lvc_in hb) (T.lo1000 hb)
  have key : ∀ {z}, z ∈ lvc cs M → fk w cs M (lo w z) = z := by
    intro z hz
    obtain ⟨p, r, ez⟩ := List.append_of_mem hz
    exact fk_uniq T hz (Nat.le_refl _) (T.ub ez (lvc_in hz)).2.2.2
  rw [← key hb, ← key hc, e]
/-- the split of the block found for y: what stays true while the memory may be cut off, and behind it -/
theorem sp_DI (Bs : Base w cs hs) (hcl : allClean w cs) (D : DI w cs (frN (bls cs hs))) (hL : 1 ≤ L) (hy : stray w cs (L - 1) y) (hup : ∀ L' z, L ≤ L' → ¬ stray w cs L' z) (hLl : L < cs.length) (hx : fk w cs L (lo w y) = x) (h6 : rl w x = 6) (hk : fst (bls cs hs) k) (S : SpW w w' x k) :
    DI w' (csI cs L x k) (frN (bls (csI cs L x k) hs)) ∧ (∀ M z, stray w' (csI cs L x k) M z ↔ stray w cs M z ∨ (M = L ∧ z = k)) ∧ kc w' (fk w' (csI cs L x k) L (lo w y)) < 6 ∧ lo w' k = kp w x 3 := by
  have T := Bs.1
  have hy1000 := T.lo1000 hy.1
  have hxm : x ∈ lvc cs L := by rw [← hx]; exact fk_mem T _ hLl
  have hc := hcl L x hxm
  have hkn : k ∉ cs.flatten := fun q => hk.2.2.1 (List.mem_append_left _ q)
  have hk30 : 1 ≤ k ∧ k ≤ 30 := ⟨hk.1, hk.2.1⟩
  obtain ⟨Bs', hfr⟩ := sp_base Bs hxm hc h6 hk S
  have T' := Bs'.1
  obtain ⟨F1, F2, F3, F4, F5, F6, F7⟩ := sp_facts T hxm hc h6 hkn hk30 S
  have nek : ∀ {M b}, b ∈ lvc cs M → b ≠ k := fun hb q => hkn (by rw [← q]; exact lvc_flat hb)
  have lo' : ∀ {M b}, b ∈ lvc cs M → lo w' b = lo w b := fun hb => S.lo (nek hb)
  obtain ⟨pp, rr, exx⟩ := List.append_of_mem hxm
  have hub := T.ub exx hLl
  have k1000 : kp w x 3 < 1000 := by have := hc.2.1 3 (by omega); have := hub.2.2.1; omega
  have hlk := S.loK k1000
  have hcL := T.hgt
  have klt : kp w x 3 < ubd w x := hc.2.1 3 (by omega)
  have kgt : lo w x < kp w x 3 := by
    have h1 := T'.1 L (by rw [csI_len]; exact hLl)
    have hk' := csI_new (k := k) hLl hxm
    have hx' := csI_old (k := k) hxm hxm
    -- x stands before k in the chain
    have hxu := fk_uniq T' hk' (k := kp w x 3) (by rw [hlk]; exact Nat.le_refl _) (by rw [F3]; exact klt)
    rcases Nat.lt_or_ge (lo w x) (kp w x 3) with z | z
    · exact z
    · exfalso
      have h1 := hc.mono 3 0 (by omega)
      rw [Nat.zero_add] at h1
      have h0 : lo w x ≤ kp w x 0 := by
        rcases (T.rwo hxm).at (p := 0) (by omega) with q | q
        · exact absurd q (rl_nz (by omega))
        · obtain ⟨M, rfl⟩ : ∃ M, L = M + 1 := ⟨L - 1, by omega⟩
          obtain ⟨c, hc1, q1, q2⟩ := q
          unfold kp; rw [q1, kN_ent _ (by have := T.lo1000 hc1; omega)]; exact q2
      omega
  -- the blocks of level L: x and k hold three keys each
  have kcx : kc w' x < 6 := by
    have h1 : cnt (ksB w' x) 1000 = cnt (ksB w x) (kp w x 3) := by
      have : cnt (ksB w' x) (kp w x 3 + (1000 - kp w x 3)) = cnt (ksB w' x) (kp w x 3) := cnt_none _ _ (fun j h1 h2 => by
        cases e : ksB w' x j with
        | false => rfl
        | true => have := ((F4 j).mp e).2; omega)
      rw [show kp w x 3 + (1000 - kp w x 3) = 1000 by omega] at this
      rw [this]
      apply cnt_congr
      intro i hi
      cases e : ksB w x i with
      | true => exact (F4 i).mpr ⟨e, hi⟩
      | false =>
        cases e2 : ksB w' x i with
        | false => rfl
        | true => rw [((F4 i).mp e2).1] at e; cases e
    show cnt (ksB w' x) 1000 < 6
    rw [h1, hc.cn 3 (by omega)]; omega
  have kck : kc w' k < 6 := by
    have hu : ubd w' k ≤ 1000 := by rw [F3]; exact hub.2.2.1
    rw [F6.kcE hu, S.rlK h6]; omega
  have hfk : kc w' (fk w' (csI cs L x k) L (lo w y)) < 6 := by
    have hlx : lo w x ≤ lo w y := by rw [← hx]; exact fk_lo T _ hLl
    have hux : lo w y < ubd w x := by rw [← hx]; exact fk_ub T hLl hy1000
    by_cases e : lo w y < kp w x 3
    · rw [fk_uniq T' (csI_old hxm hxm) (by rw [S.loX]; exact hlx) (by rw [F2]; exact e)]; exact kcx
    · rw [fk_uniq T' (csI_new hLl hxm) (by rw [hlk]; omega) (by rw [F3]; exact hux)]; exact kck
  -- strays
  have ksM : ∀ {M b}, b ∈ lvc cs M → M ≠ L → ksB w' b = ksB w b := fun hb hM => (F1 _ _ hb (fun e => hM (nd_lvc T.2.2.2.1 (e ▸ hb) hxm))).2
  have hkstray : ∀ b ∈ lvc cs (L + 1), ksB w b (kp w x 3) = false := by
    intro b hb
    cases e : ksB w b (kp w x 3) with
    | false => rfl
    | true =>
      exfalso
      obtain ⟨c, hc1, hc2⟩ := T.key_low hb e
      have h1 := fk_uniq T hxm (k := kp w x 3) (by omega) klt
      have h2 : fk w cs L (kp w x 3) = c := by
        obtain ⟨p2, r2, e2⟩ := List.append_of_mem hc1
        rw [← hc2]
        exact fk_uniq T hc1 (Nat.le_refl _) (T.ub e2 hLl).2.2.2
      rw [h1] at h2
      subst h2
      omega
  have hstr : ∀ M z, stray w' (csI cs L x k) M z ↔ stray w cs M z ∨ (M = L ∧ z = k) := by
    intro M z
    constructor
    · rintro ⟨h1, h2, h3⟩
      rcases csI_cls hxm h1 with q | q
      · left
        refine ⟨q, by rw [← lo' q]; exact h2, fun b hb => ?_⟩
        have hb' := csI_old (k := k) hxm hb
        have h4 := h3 b hb'
        rw [lo' q] at h4
        by_cases e : M + 1 = L
        · by_cases ex : b = x
          · subst ex
            cases e2 : ksB w b (lo w z) with
            | false => rfl
            | true =>
              exfalso
              by_cases e3 : lo w z < kp w b 3
              · rw [(F4 _).mpr ⟨e2, e3⟩] at h4; cases h4
              · have hkm : k ∈ lvc (csI cs L b k) (M + 1) := by rw [e]; exact csI_new hLl hxm
                have h5 := h3 k hkm
                rw [lo' q, (F5 _).mpr ⟨e2, by omega⟩] at h5; cases h5
          · rw [(F1 _ _ hb ex).2] at h4; exact h4
        · rw [ksM hb e] at h4; exact h4
      · exact Or.inr q
    · rintro (⟨h1, h2, h3⟩ | ⟨q1, q2⟩)
      · refine ⟨csI_old hxm h1, by rw [lo' h1]; exact h2, fun b hb => ?_⟩
        rw [lo' h1]
        rcases csI_cls hxm hb with q | ⟨q1, q2⟩
        · by_cases ex : b = x
          · subst ex
            have := h3 b q
            cases e2 : ksB w' b (lo w z) with
            | false => rfl
            | true => rw [((F4 _).mp e2).1] at this; cases this
          · rw [(F1 _ _ q ex).2]; exact h3 b q
        · subst q2
          have hxM : x ∈ lvc cs (M + 1) := by rw [q1]; exact hxm
          have := h3 x hxM
          cases e2 : ksB w' b (lo w z) with
          | false => rfl
          | true => rw [((F5 _).mp e2).1] at this; cases this
      · subst q1; subst q2
        refine ⟨csI_new hLl hxm, by rw [hlk]; omega, fun b hb => ?_⟩
        rw [hlk]
        rcases csI_cls hxm hb with q | ⟨q1, q2⟩
        · rw [ksM q (by omega)]; exact hkstray b q
        · omega
  -- needs above level L
  have fkM : ∀ M, M ≠ L → ∀ q, fk w' (csI cs L x k) M q = fk w cs M q := by
    intro M hM q
    have e : lvc (csI cs L x k) M = lvc cs M := by rw [lvc_csI hLl, if_neg hM]
    unfold fk
    rw [e]
    cases e2 : lvc cs M with
    | nil => rfl
    | cons b r => exact fnd_congr r b (fun z hz => lo' (M := M) (by rw [e2]; exact List.mem_cons_of_mem _ hz))
  have nup : ∀ n M q, L < M → q < 1000 → need w' (csI cs L x k) n M q = need w cs n M q := by
    intro n M q hM hq
    apply need_up (csI_len cs L x k) n M q (fun M' h q _ => fkM M' (by omega) q) (fun M' h q _ hl => ksM (fk_mem T q hl) (by omega)) hq
  refine ⟨⟨?_, ?_⟩, hstr, hfk, hlk⟩
  · intro M a b ha hb
    rcases (hstr M a).mp ha with q | ⟨q1, q2⟩
    · rcases (hstr M b).mp hb with z | ⟨z1, z2⟩
      · exact D.1 M a b q z
      · exact absurd q (hup M a (by omega))
    · rcases (hstr M b).mp hb with z | ⟨z1, z2⟩
      · exact absurd z (hup M b (by omega))
      · rw [q2, z2]
  · intro M a ha
    rcases (hstr M a).mp ha with q | ⟨q1, q2⟩
    · left
      have hM : M < L := by
        rcases Nat.lt_or_ge M L with z | z
        · exact z
        · exact absurd q (hup M a z)
      rw [lo' q.1]
      by_cases e : M + 1 = L
      · have hay : a = y := D.1 M a y q (by rw [show M = L - 1 by omega]; exact hy)
        subst hay
        rw [e]
        exact need_of (by rw [csI_len]; exact hLl) hfk
      · have h0 : need w cs 40 (M + 1) (lo w a) = 0 := by
          rcases D.2 M a q with z | ⟨z, -⟩
          · exact z
          · exact absurd hy (z (L - 1) y (by omega))
        have nz := need_zero h0
        refine need_of (by rw [csI_len]; exact nz.1) ?_
        rw [fkM (M + 1) e]
        unfold kc
        rw [ksM (fk_mem T _ nz.1) e]
        exact nz.2
    · subst q1; subst q2
      right
      refine ⟨fun M' z hM' hz => ?_, ?_⟩
      · rcases (hstr M' z).mp hz with q | ⟨q, -⟩
        · exact hup M' z (by omega) q
        · omega
      · rw [hlk, nup 40 (M + 1) _ (by omega) k1000]
        have hu : ubd w x ≤ 1000 := hub.2.2.1
        have hny : need w cs 40 M (lo w y) ≤ frN (bls cs hs) := by
          rcases D.2 (M - 1) y hy with z | ⟨-, z⟩
          · rw [show M - 1 + 1 = M by omega] at z; omega
          · rw [show M - 1 + 1 = M by omega] at z; exact z
        rw [show 40 = 39 + 1 from rfl, need, if_neg (by omega), hx, hc.kcE hu, if_neg (by omega), hc.kthE hu (by omega), ← need_fuel w cs 39 (M + 1) _ (by omega) (by omega)] at hny
        have h40 : need w cs 40 (M + 1) (kp w x 3) = need w cs (39 + 1) (M + 1) (kp w x 3) := rfl
        omega
end SpDI
