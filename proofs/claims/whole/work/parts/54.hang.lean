/-! PURE: hang, told once; what it keeps -/
def ffF (B : List Nat) : Nat → Nat → Nat
  | 0, b => b
  | n + 1, b => if b ∈ B then ffF B n (b + 1) else b
def ffr (B : List Nat) : Nat := ffF B 30 1
theorem ffr_fst {B : List Nat} (h : 0 < frN B) : fst B (ffr B) := by
  obtain ⟨k, hk⟩ := fst_ex h
  obtain ⟨k1, k2, k3, k4⟩ := hk
  have L : ∀ n b, 1 ≤ b → b ≤ k → k < b + n → ffF B n b = k := by
    intro n
    induction n with
    | zero => intro b h1 h2 h3; omega
    | succ n ih =>
      intro b h1 h2 h3
      rw [ffF]
      by_cases e : b = k
      · subst e; rw [if_neg k3]
      · rw [if_pos (k4 b h1 (by omega))]; exact ih (b + 1) (by omega) (by omega) (by omega)
  have e : ffr B = k := L 30 1 (by omega) k1 (by omega)
  rw [e]; exact ⟨k1, k2, k3, k4⟩
def insY (M : MM) (cs : List (List Nat)) (x y : Nat) : MM ⊕ (MM × List (List Nat)) := match fsM (insL M.1 x (cl M.1 x (lo M.1 y)) (rl M.1 x) (ent (lo M.1 y) (nI y))) M with
  | .inl M' => .inl M'
  | .inr M' => .inr (M', cs)
def hangM (hs : Nat → List Nat) : Nat → MM → List (List Nat) → Nat → Nat → MM ⊕ (MM × List (List Nat))
  | 0, M, _, _, _ => .inl M
  | n + 1, M, cs, y, L =>
    if cs.length ≤ L then (match raiM M (rootOf cs) y L (ffr (bls cs hs)) with
      | .inl M' => .inl M'
      | .inr M' => .inr (M', cs ++ [[ffr (bls cs hs)]]))
    else if rl M.1 (fk M.1 cs L (lo M.1 y)) < 6 then insY M cs (fk M.1 cs L (lo M.1 y)) y
    else match splM M (fk M.1 cs L (lo M.1 y)) (ffr (bls cs hs)) with
      | .inl M' => .inl M'
      | .inr M1 => match hangM hs n M1 (csI cs L (fk M.1 cs L (lo M.1 y)) (ffr (bls cs hs))) (ffr (bls cs hs)) (L + 1) with
        | .inl M' => .inl M'
        | .inr q => insY q.1 q.2 (fk q.1.1 q.2 L (lo q.1.1 y)) y
def HPre (M : MM) (cs : List (List Nat)) (hs : Nat → List Nat) (y L : Nat) : Prop := Base M.1 cs hs ∧ allClean M.1 cs ∧ DI M.1 cs (frN (bls cs hs)) ∧ M.2.1 = [] ∧ 1 ≤ L ∧ stray M.1 cs (L - 1) y ∧ ∀ L' z, L ≤ L' → ¬ stray M.1 cs L' z
def HPost (M : MM) (cs : List (List Nat)) (hs : Nat → List Nat) (L : Nat) : MM ⊕ (MM × List (List Nat)) → Prop
  | .inl M' => endC M M' ∧ ∃ cs', Base M'.1 cs' hs ∧ DI M'.1 cs' (frN (bls cs' hs))
  | .inr q => endO M q.1 ∧ Base q.1.1 q.2 hs ∧ allClean q.1.1 q.2 ∧ DI q.1.1 q.2 (frN (bls q.2 hs)) ∧ (∀ l z, stray q.1.1 q.2 l z ↔ stray M.1 cs l z ∧ l + 1 < L) ∧ (∀ l, l < L → lvc q.2 l = lvc cs l) ∧ (∀ l, l < L → ∀ b ∈ lvc cs l, sb M.1 q.1.1 b) ∧ cs.length ≤ q.2.length
section Low
variable {w w' : Mem} {cs cs' : List (List Nat)} {N : Nat}
/-- levels up to N are as they were -/
def lowS (w w' : Mem) (cs cs' : List (List Nat)) (N : Nat) : Prop := (∀ l, l < N → lvc cs' l = lvc cs l) ∧ ∀ l, l < N → ∀ b ∈ lvc cs l, sb w w' b
theorem lowS.ub (h : lowS w w' cs cs' N) (T : TS w cs) {l b : Nat} (hl : l < N) (hb : b ∈ lvc cs l) : ubd w' b = ubd w b := by
  have hsb := h.2 l hl b hb
  have e1 : nxN w' b = nxN w b := by show (w' (9 * b + 1)).toInt32.toNatClampNeg = (w (9 * b + 1)).toInt32.toNatClampNeg; rw [hsb 1 (by omega)]
  show (if nxN w' b = 0 then 1000 else lo w' (nxN w' b)) = (if nxN w b = 0 then 1000 else lo w (nxN w b))
  rw [e1]
  rcases T.nx hb with z | z
  · rw [if_pos z, if_pos z]
  · rw [(h.2 l hl _ z).lo]
theorem lowS.ks (h : lowS w w' cs cs' N) (T : TS w cs) {l b : Nat} (hl : l < N) (hb : b ∈ lvc cs l) : ksB w' b = ksB w b := ksB_sb (h.2 l hl b hb) (h.ub T hl hb)
theorem lowS.fkE (h : lowS w w' cs cs' N) {l q : Nat} (hl : l < N) : fk w' cs' l q = fk w cs l q := by
  show (match lvc cs' l with | [] => 0 | b :: r => fnd w' q b r) = (match lvc cs l with | [] => 0 | b :: r => fnd w q b r)
  rw [h.1 l hl]
  cases e : lvc cs l with
  | nil => rfl
  | cons b r => exact fnd_congr r b (fun z hz => (h.2 l hl z (by rw [e]; exact List.mem_cons_of_mem _ hz)).lo)
theorem lowS.str (h : lowS w w' cs cs' N) (T : TS w cs) {l z : Nat} (hl : l + 1 < N) : stray w' cs' l z ↔ stray w cs l z := by
  unfold stray
  rw [h.1 l (by omega), h.1 (l + 1) hl]
  constructor
  · rintro ⟨h1, h2, h3⟩
    have e := (h.2 l (by omega) z h1).lo
    rw [e] at h2 h3
    exact ⟨h1, h2, fun b hb => by rw [← h.ks T hl hb]; exact h3 b hb⟩
  · rintro ⟨h1, h2, h3⟩
    have e := (h.2 l (by omega) z h1).lo
    rw [e]
    exact ⟨h1, h2, fun b hb => by rw [h.ks T hl hb]; exact h3 b hb⟩
theorem lowS.nd0 (h : lowS w w' cs cs' N) (T : TS w cs) (hlen : cs.length ≤ cs'.length) {l q : Nat} (hl : l < N) (h0 : need w cs 40 l q = 0) : need w' cs' 40 l q = 0 := by
  have nz := need_zero h0
  refine need_of (by omega) ?_
  rw [h.fkE hl]
  show cnt (ksB w' (fk w cs l q)) 1000 < 6
  rw [h.ks T hl (fk_mem T q nz.1)]
  exact nz.2
/-- nothing strays but below, and there nothing has changed: the invariant -/
theorem lowS.di (h : lowS w w' cs cs' N) (T : TS w cs) (hlen : cs.length ≤ cs'.length) {fr fr' y : Nat} (D : DI w cs fr) (hy : stray w cs (N - 1) y) (hN : 1 ≤ N) (hs : ∀ l z, stray w' cs' l z → stray w cs l z ∧ l + 1 < N) : DI w' cs' fr' := by
  refine ⟨fun l a b ha hb => D.1 l a b (hs l a ha).1 (hs l b hb).1, fun l a ha => ?_⟩
  obtain ⟨h1, h2⟩ := hs l a ha
  left
  rw [(h.2 l (by omega) a h1.1).lo]
  apply h.nd0 T hlen h2
  rcases D.2 l a h1 with q | ⟨q, -⟩
  · exact q
  · exact absurd hy (q (N - 1) y (by omega))
end Low
theorem out_base {w w' : Mem} {cs : List (List Nat)} {hs : Nat → List Nat} {L x : Nat} (Bs : Base w cs hs) (hx : x ∈ lvc cs L) (T' : TS w' cs) (hout : ∀ a, a < 9 * x + 3 ∨ 9 * x + 9 ≤ a → w' a = w a) : Base w' cs hs := by
  obtain ⟨T, t2, hc1, hr1, hn⟩ := Bs
  have hx1 := (T.rng (lvc_flat hx)).1
  have hH : ∀ b ∈ hsA hs, sb w w' b := fun b hb => out_sb hout (hs_ne hn hb (lvc_flat hx))
  exact ⟨T', t2, hc1.congr (fun a h1 h2 => hout a (by omega)) hH, hr1.congr hH, hn⟩
section Hang
variable {hs : Nat → List Nat}
theorem insY_post {M : MM} {cs : List (List Nat)} {y L x : Nat} (P : HPre M cs hs y L) (hL : L < cs.length) (hx : fk M.1 cs L (lo M.1 y) = x) (h6 : rl M.1 x < 6) : HPost M cs hs L (insY M cs x y) := by
  obtain ⟨Bs, hcl, D, h0, h1, hy, hup⟩ := P
  have T := Bs.1
  have hxm : x ∈ lvc cs L := by rw [← hx]; exact fk_mem T _ hL
  have hc := hcl L x hxm
  have hy1000 := T.lo1000 hy.1
  have hlx : lo M.1 x ≤ lo M.1 y := by rw [← hx]; exact fk_lo T _ hL
  have hux : lo M.1 y < ubd M.1 x := by rw [← hx]; exact fk_ub T hL hy1000
  have hnk : ∀ p, p < rl M.1 x → kp M.1 x p ≠ lo M.1 y := by
    intro p hp e
    have := hy.2.2 x (by rw [show L - 1 + 1 = L by omega]; exact hxm)
    rw [ksB_iff.mpr ⟨hux, p, hp, e⟩] at this
    cases this
  unfold insY
  rcases fs_img (insL M.1 x (cl M.1 x (lo M.1 y)) (rl M.1 x) (ent (lo M.1 y) (nI y))) M h0 with ⟨M', t, g1, g2, g3, g4⟩ | ⟨M', g1, g2, g3⟩
  · rw [g1]
    have ht : t ≤ rl M.1 x - cl M.1 x (lo M.1 y) := by
      unfold insL at g2
      rw [List.length_append, shl_len] at g2
      simp only [List.length_cons, List.length_nil] at g2
      omega
    obtain ⟨T', A⟩ := ins_part (e := ent (lo M.1 y) (nI y)) T hxm hc h6 ht
    rw [← g3] at T' A
    have hout : ∀ a, a < 9 * x + 3 ∨ 9 * x + 9 ≤ a → M'.1 a = M.1 a := fun a ha => by
      rw [g3]; exact (ins_img (e := ent (lo M.1 y) (nI y)) (cl_le M.1 x (lo M.1 y)) t ht).1 a ha h6
    exact ⟨g4, cs, out_base Bs hxm T' hout, D.congr T A (Nat.le_refl _)⟩
  · rw [g1]
    have he : entOK M.1 cs L x (ent (lo M.1 y) (nI y)) := by
      obtain ⟨N, rfl⟩ : ∃ N, L = N + 1 := ⟨L - 1, by omega⟩
      exact ⟨y, hy.1, rfl, hlx⟩
    obtain ⟨T', hsb, hout, hcx, hrl, hks⟩ := ins_done T hxm hc h6 he (kN_ent _ (by omega)) hux hnk
    rw [← g2] at T' hsb hout hcx hrl hks
    have nex : ∀ {l b}, b ∈ lvc cs l → l ≠ L → b ≠ x := fun hb hl e => hl (nd_lvc T.2.2.2.1 (e ▸ hb) hxm)
    have low : lowS M.1 M'.1 cs cs L := ⟨fun _ _ => rfl, fun l hl b hb => hsb b (nex hb (by omega))⟩
    have ksO : ∀ {l b}, b ∈ lvc cs l → b ≠ x → ksB M'.1 b = ksB M.1 b := fun hb hbx => ksB_sb (hsb _ hbx) (out_ubd hout _)
    have hstr : ∀ l z, stray M'.1 cs l z ↔ stray M.1 cs l z ∧ l + 1 < L := by
      intro l z
      constructor
      · rintro ⟨z1, z2, z3⟩
        have hst : stray M.1 cs l z := by
          refine ⟨z1, by rw [← out_lo hout]; exact z2, fun b hb => ?_⟩
          have z4 := z3 b hb
          rw [out_lo hout] at z4
          by_cases e : b = x
          · subst e
            cases e2 : ksB M.1 b (lo M.1 z) with
            | false => rfl
            | true => rw [(hks _).mpr (Or.inl e2)] at z4; cases z4
          · rw [ksO hb e] at z4; exact z4
        refine ⟨hst, ?_⟩
        rcases Nat.lt_or_ge l L with q | q
        · rcases Nat.lt_or_ge (l + 1) L with q2 | q2
          · exact q2
          · exfalso
            have hl : l = L - 1 := by omega
            subst hl
            have hzy := D.1 _ _ _ hst hy
            subst hzy
            have := z3 x (by rw [show L - 1 + 1 = L by omega]; exact hxm)
            rw [out_lo hout, (hks _).mpr (Or.inr rfl)] at this
            cases this
        · exact absurd hst (hup l z q)
      · rintro ⟨z1, z2⟩
        exact (low.str T z2).mpr z1
    refine ⟨g3, out_base Bs hxm T' hout, ?_, low.di T (Nat.le_refl _) D hy h1 (fun l z q => (hstr l z).mp q), hstr, fun _ _ => rfl, low.2, Nat.le_refl _⟩
    intro l b hb
    by_cases e : b = x
    · subst e; exact hcx
    · obtain ⟨c1, c2, c3⟩ := hcl l b hb
      have hs' := hsb b e
      have h6' := rl_le M.1 b
      refine ⟨fun p hp => ?_, fun p hp => ?_, fun p q1 q2 => ?_⟩
      · rw [hs'.rl] at hp; rw [hs'.kp (by omega), hs'.kp (by omega)]; exact c1 p hp
      · rw [hs'.rl] at hp; rw [hs'.kp (by omega), out_ubd hout]; exact c2 p hp
      · rw [hs'.rl] at q1; rw [hs'.pl q2]; exact c3 p q1 q2
theorem clean.of_sb {w w' : Mem} {b : Nat} (h : clean w b) (hs : sb w w' b) (hu : ubd w' b = ubd w b) : clean w' b := by
  obtain ⟨c1, c2, c3⟩ := h
  have h6' := rl_le w b
  refine ⟨fun p hp => ?_, fun p hp => ?_, fun p q1 q2 => ?_⟩
  · rw [hs.rl] at hp; rw [hs.kp (by omega), hs.kp (by omega)]; exact c1 p hp
  · rw [hs.rl] at hp; rw [hs.kp (by omega), hu]; exact c2 p hp
  · rw [hs.rl] at q1; rw [hs.pl q2]; exact c3 p q1 q2
theorem hang_post : ∀ (n : Nat) (M : MM) (cs : List (List Nat)) (y L : Nat), HPre M cs hs y L → cs.length < L + n → HPost M cs hs L (hangM hs n M cs y L) := by
  intro n
  induction n with
  | zero =>
    intro M cs y L P h
    have := lvc_in P.2.2.2.2.2.1.1
    have := P.2.2.2.2.1
    omega
  | succ n ih =>
    intro M cs y L P hn
    have P' := P
    obtain ⟨Bs, hcl, D, h0, h1, hy, hup⟩ := P
    have T := Bs.1
    have hyl := lvc_in hy.1
    have hy1000 := T.lo1000 hy.1
    have hne : cs ≠ [] := fun e => by rw [e] at hyl; simp at hyl
    have hny : need M.1 cs 40 L (lo M.1 y) ≤ frN (bls cs hs) := by
      rcases D.2 (L - 1) y hy with z | ⟨-, z⟩
      · rw [show L - 1 + 1 = L by omega] at z; omega
      · rw [show L - 1 + 1 = L by omega] at z; exact z
    rw [hangM]
    by_cases eL : cs.length ≤ L
    · rw [if_pos eL]
      have hLe : L = cs.length := by omega
      have hfr : 0 < frN (bls cs hs) := by
        rw [show 40 = 39 + 1 from rfl, need, if_pos eL] at hny; omega
      have hk := ffr_fst hfr
      rcases raise_img h0 (rootOf cs) y L hk.1 with ⟨M', g1, g2, g3⟩ | ⟨M', g1, g2, g3⟩
      · rw [g1]
        obtain ⟨B', A, -⟩ := free_base Bs hk g3
        exact ⟨g2, cs, B', D.congr T A (Nat.le_refl _)⟩
      · rw [g1]
        rw [hLe] at g3
        have hyt : y ∈ lvc cs (cs.length - 1) := by rw [← hLe]; exact hy.1
        obtain ⟨B', hf', hsb, hck, hlk, hks⟩ := rai_base Bs hne hk hyt hy.2.1 g3
        have low : lowS M.1 M'.1 cs (cs ++ [[ffr (bls cs hs)]]) L := ⟨fun l hl => by rw [lvc_app, if_pos (by omega)], fun l hl b hb => hsb b (lvc_flat hb)⟩
        have lv2 : lvc (cs ++ [[ffr (bls cs hs)]]) L = [ffr (bls cs hs)] := by rw [lvc_app, if_neg (by omega), if_pos hLe]
        have lv3 : ∀ l, L < l → lvc (cs ++ [[ffr (bls cs hs)]]) l = [] := fun l hl => by rw [lvc_app, if_neg (by omega), if_neg (by omega)]
        have hstr : ∀ l z, stray M'.1 (cs ++ [[ffr (bls cs hs)]]) l z ↔ stray M.1 cs l z ∧ l + 1 < L := by
          intro l z
          constructor
          · intro hz
            rcases Nat.lt_or_ge (l + 1) L with q | q
            · exact ⟨(low.str T q).mp hz, q⟩
            · exfalso
              obtain ⟨z1, z2, z3⟩ := hz
              rcases Nat.lt_trichotomy l L with q2 | q2 | q2
              · have hl : l = L - 1 := by omega
                subst hl
                rw [low.1 (L - 1) (by omega)] at z1
                have e1 := (low.2 (L - 1) (by omega) z z1).lo
                rw [e1] at z2
                have hst : stray M.1 cs (L - 1) z := ⟨z1, z2, fun b hb => by
                  rw [show L - 1 + 1 = L by omega] at hb
                  have := lvc_in hb
                  omega⟩
                have hzy := D.1 _ _ _ hst hy
                subst hzy
                have z4 := z3 (ffr (bls cs hs)) (by rw [show L - 1 + 1 = L by omega, lv2]; exact List.mem_cons_self)
                rw [e1, (hks _).mpr (Or.inr rfl)] at z4
                cases z4
              · subst q2
                rw [lv2] at z1
                rw [List.mem_singleton.mp z1] at z2
                exact z2 hlk
              · rw [lv3 l q2] at z1; cases z1
          · rintro ⟨z1, z2⟩
            exact (low.str T z2).mpr z1
        refine ⟨g2, B', ?_, low.di T (by simp) D hy h1 (fun l z q => (hstr l z).mp q), hstr, low.1, low.2, by simp⟩
        intro l b hb
        by_cases q : l < cs.length
        · rw [lvc_app, if_pos q] at hb
          exact (hcl l b hb).of_sb (hsb b (lvc_flat hb)) (low.ub T (by omega) hb)
        · rw [lvc_app, if_neg q] at hb
          by_cases q2 : l = cs.length
          · rw [if_pos q2] at hb
            rw [List.mem_singleton.mp hb]; exact hck
          · rw [if_neg q2] at hb; cases hb
    · rw [if_neg eL]
      have hLl : L < cs.length := by omega
      obtain ⟨x, hx⟩ : ∃ x, x = fk M.1 cs L (lo M.1 y) := ⟨_, rfl⟩
      rw [← hx]
      have hxm : x ∈ lvc cs L := by rw [hx]; exact fk_mem T _ hLl
      have hc := hcl L x hxm
      by_cases e6 : rl M.1 x < 6
      · rw [if_pos e6]
        exact insY_post P' hLl hx.symm e6
      · rw [if_neg e6]
        have h6 : rl M.1 x = 6 := by have := rl_le M.1 x; omega
        obtain ⟨pp, rr, exx⟩ := List.append_of_mem hxm
        have hub := T.ub exx hLl
        have hfr : 0 < frN (bls cs hs) := by
          rw [show 40 = 39 + 1 from rfl, need, if_neg (by omega), ← hx, hc.kcE hub.2.2.1, if_neg (by omega)] at hny; omega
        have hk := ffr_fst hfr
        obtain ⟨k, hkk⟩ : ∃ k, k = ffr (bls cs hs) := ⟨_, rfl⟩
        rw [← hkk] at hk ⊢
        have hkn : k ∉ cs.flatten := fun q => hk.2.2.1 (List.mem_append_left _ q)
        have hxk : x ≠ k := fun q => hkn (by rw [← q]; exact lvc_flat hxm)
        rcases split_img h0 hxk with ⟨M', g1, g2, g3⟩ | ⟨M1, g1, g2, g3, g4⟩
        · rw [g1]
          rcases g3 with q | q
          · obtain ⟨B', A, -⟩ := free_base Bs hk q
            exact ⟨g2, cs, B', D.congr T A (Nat.le_refl _)⟩
          · exact ⟨g2, csI cs L x k, (sp_base Bs hxm hc h6 hk q).1, (sp_DI Bs hcl D h1 hy hup hLl hx.symm h6 hk q).1⟩
        · rw [g1]
          obtain ⟨B1, hf1⟩ := sp_base Bs hxm hc h6 hk g3
          obtain ⟨D1, hstr1, hkc1, hlk1⟩ := sp_DI Bs hcl D h1 hy hup hLl hx.symm h6 hk g3
          obtain ⟨F1, F2, F3, F4, F5, F6, F7⟩ := sp_facts T hxm hc h6 hkn ⟨hk.1, hk.2.1⟩ g3
          have nek : ∀ {l b}, b ∈ lvc cs l → b ≠ k := fun hb q => hkn (by rw [← q]; exact lvc_flat hb)
          have cl1 : allClean M1.1 (csI cs L x k) := by
            intro l b hb
            rcases csI_cls hxm hb with q | ⟨-, q⟩
            · by_cases ex : b = x
              · subst ex; exact (F7 g4).1
              · exact (hcl l b q).of_sb (g3.sb ex (nek q)) (F1 l b q ex).1
            · rw [q]; exact F6
          have P1 : HPre M1 (csI cs L x k) hs k (L + 1) := by
            refine ⟨B1, cl1, D1, g2.1, by omega, ?_, ?_⟩
            · rw [show L + 1 - 1 = L by omega]
              exact (hstr1 L k).mpr (Or.inr ⟨rfl, rfl⟩)
            · intro L' z hL' hz
              rcases (hstr1 L' z).mp hz with q | ⟨q, -⟩
              · exact hup L' z (by omega) q
              · omega
          have post := ih M1 (csI cs L x k) k (L + 1) P1 (by rw [csI_len]; omega)
          show HPost M cs hs L (match hangM hs n M1 (csI cs L x k) k (L + 1) with
            | .inl M' => .inl M'
            | .inr q => insY q.1 q.2 (fk q.1.1 q.2 L (lo q.1.1 y)) y)
          cases eh : hangM hs n M1 (csI cs L x k) k (L + 1) with
          | inl M' =>
            rw [eh] at post
            exact ⟨endC.trans g2 post.1, post.2⟩
          | inr q =>
            rw [eh] at post
            obtain ⟨M2, cs2⟩ := q
            obtain ⟨q1, q2, q3, q4, q5, q6, q7, q8⟩ := post
            simp only at q1 q2 q3 q4 q5 q6 q7 q8
            have T1 := B1.1
            have hyM1 : y ∈ lvc (csI cs L x k) (L - 1) := csI_old hxm hy.1
            have hloY : lo M2.1 y = lo M1.1 y := (q7 (L - 1) (by omega) y hyM1).lo
            have hloY1 : lo M1.1 y = lo M.1 y := g3.lo (nek hy.1)
            have lowM : lowS M1.1 M2.1 (csI cs L x k) cs2 (L + 1) := ⟨q6, q7⟩
            have P2 : HPre M2 cs2 hs y L := by
              refine ⟨q2, q3, q4, q1.1, h1, ?_, ?_⟩
              · exact (q5 (L - 1) y).mpr ⟨(hstr1 (L - 1) y).mpr (Or.inl hy), by omega⟩
              · intro L' z hL' hz
                have := (q5 L' z).mp hz
                omega
            have hL2 : L < cs2.length := by rw [csI_len] at q8; omega
            have hfk2 : fk M2.1 cs2 L (lo M2.1 y) = fk M1.1 (csI cs L x k) L (lo M.1 y) := by rw [hloY, hloY1]; exact lowM.fkE (by omega)
            have hfm : fk M1.1 (csI cs L x k) L (lo M.1 y) ∈ lvc (csI cs L x k) L := fk_mem T1 _ (by rw [csI_len]; exact hLl)
            have hr2 : rl M2.1 (fk M2.1 cs2 L (lo M2.1 y)) < 6 := by
              rw [hfk2, (q7 L (by omega) _ hfm).rl]
              obtain ⟨p3, r3, e3⟩ := List.append_of_mem hfm
              have hu3 := (T1.ub e3 (by rw [csI_len]; exact hLl)).2.2.1
              rw [← (cl1 L _ hfm).kcE hu3]
              exact hkc1
            have fin := insY_post P2 hL2 rfl hr2
            show HPost M cs hs L (insY M2 cs2 (fk M2.1 cs2 L (lo M2.1 y)) y)
            have lowT : ∀ l, l < L → ∀ b ∈ lvc cs l, sb M.1 M1.1 b := fun l hl b hb => g3.sb (fun e => by have := nd_lvc T.2.2.2.1 (e ▸ hb) hxm; omega) (nek hb)
            have lvT : ∀ l, l < L → lvc cs2 l = lvc cs l := fun l hl => by rw [q6 l (by omega), lvc_csI hLl, if_neg (by omega)]
            cases ei : insY M2 cs2 (fk M2.1 cs2 L (lo M2.1 y)) y with
            | inl M' =>
              rw [ei] at fin
              exact ⟨endC.trans (endO.trans g2 q1) fin.1, fin.2⟩
            | inr q =>
              rw [ei] at fin
              obtain ⟨M3, cs3⟩ := q
              obtain ⟨r1, r2, r3, r4, r5, r6, r7, r8⟩ := fin
              simp only at r1 r2 r3 r4 r5 r6 r7 r8
              refine ⟨endO.trans (endO.trans g2 q1) r1, r2, r3, r4, ?_, ?_, ?_, ?_⟩
              · intro l z
                show stray M3.1 cs3 l z ↔ _
                rw [r5 l z, q5 l z, hstr1 l z]
                constructor
                · rintro ⟨⟨z1 | ⟨z1, -⟩, -⟩, z3⟩
                  · exact ⟨z1, z3⟩
                  · omega
                · rintro ⟨z1, z2⟩
                  exact ⟨⟨Or.inl z1, by omega⟩, z2⟩
              · intro l hl
                show lvc cs3 l = lvc cs l
                rw [r6 l hl, lvT l hl]
              · intro l hl b hb i hi
                show M3.1 (9 * b + i) = _
                have hb1 : b ∈ lvc (csI cs L x k) l := csI_old hxm hb
                have hb2 : b ∈ lvc cs2 l := by rw [lvT l hl]; exact hb
                rw [r7 l hl b hb2 i hi, q7 l (by omega) b hb1 i hi, lowT l hl b hb i hi]
              · show cs.length ≤ cs3.length
                rw [csI_len] at q8
                omega
end Hang
