/-! PURE: how the shape lives on when one row changes -/
def rowOK (w : Mem) (cs : List (List Nat)) : Nat → Nat → Prop
  | 0, x => leaf w x
  | L + 1, x => inn w (lvc cs L) x
theorem TS.rwo {w : Mem} {cs : List (List Nat)} (T : TS w cs) {L x : Nat} (h : x ∈ lvc cs L) : rowOK w cs L x := by
  cases L with
  | zero => exact T.2.2.1 x h
  | succ L => exact T.2.1 L (lvc_in h) x h
theorem nd_lvc {cs : List (List Nat)} (h : cs.flatten.Nodup) {L L' x : Nat} (h1 : x ∈ lvc cs L) (h2 : x ∈ lvc cs L') : L = L' := by
  have key : ∀ (cs : List (List Nat)) (L L' : Nat), cs.flatten.Nodup → x ∈ lvc cs L → x ∈ lvc cs L' → L = L' := by
    intro cs
    induction cs with
    | nil => intro L L' _ h1; have := lvc_in h1; simp at this
    | cons c cs ih =>
      intro L L' hn h1 h2
      rw [List.flatten_cons] at hn
      have hn' := List.nodup_append.mp hn
      have shift : ∀ i, lvc (c :: cs) (i + 1) = lvc cs i := fun i => rfl
      cases L with
      | zero =>
        cases L' with
        | zero => rfl
        | succ L' => exact absurd rfl (hn'.2.2 x h1 x (lvc_flat (by rw [shift] at h2; exact h2)))
      | succ L =>
        cases L' with
        | zero => exact absurd rfl (hn'.2.2 x h2 x (lvc_flat (by rw [shift] at h1; exact h1)))
        | succ L' => rw [shift] at h1 h2; rw [ih L L' hn'.2.1 h1 h2]
  exact key cs L L' h h1 h2
theorem out_lo {w w' : Mem} {x : Nat} (hout : ∀ a, a < 9 * x + 3 ∨ 9 * x + 9 ≤ a → w' a = w a) (b : Nat) : lo w' b = lo w b := by
  unfold lo; rw [hout _ (by omega)]
theorem out_sb {w w' : Mem} {x b : Nat} (hout : ∀ a, a < 9 * x + 3 ∨ 9 * x + 9 ≤ a → w' a = w a) (h : b ≠ x) : sb w w' b := fun i hi => hout _ (by omega)
theorem out_nx {w w' : Mem} {x : Nat} (hout : ∀ a, a < 9 * x + 3 ∨ 9 * x + 9 ≤ a → w' a = w a) (b : Nat) : nxN w' b = nxN w b := by
  unfold nxN; rw [hout _ (by omega)]
theorem out_ubd {w w' : Mem} {x : Nat} (hout : ∀ a, a < 9 * x + 3 ∨ 9 * x + 9 ≤ a → w' a = w a) (b : Nat) : ubd w' b = ubd w b := by
  unfold ubd; rw [out_nx hout, out_lo hout]
theorem TS.rowch {w w' : Mem} {cs : List (List Nat)} (T : TS w cs) {L x : Nat} (hx : x ∈ lvc cs L) (hout : ∀ a, a < 9 * x + 3 ∨ 9 * x + 9 ≤ a → w' a = w a) (hr : rowOK w' cs L x) (hw : wst w' x) : TS w' cs := by
  have hL := lvc_in hx
  have hx1 := ((T.1 L hL).1.mem x hx).1
  have hT := T
  obtain ⟨t1, t2, t3, t4, t5, t6⟩ := T
  have hlo := out_lo hout
  have tcg : ∀ (c : List Nat) (M : Nat), tch w M c → tch w' M c := by
    intro c M
    induction c with
    | nil => intro _; trivial
    | cons a r ih =>
      intro ht
      refine ⟨ht.1, by rw [← ht.2.1]; exact hout _ (by omega), by rw [← ht.2.2.1]; exact hout _ (by omega), ⟨by rw [hlo, ← ht.2.2.2.1.1]; exact hout _ (by omega), by rw [hlo]; exact ht.2.2.2.1.2⟩, fun c hc => by rw [hlo, hlo]; exact ht.2.2.2.2.1 c hc, ih ht.2.2.2.2.2⟩
  refine ⟨fun M hM => ⟨tcg _ _ (t1 M hM).1, ?_⟩, ?_, ?_, t4, by rw [hout 0 (by omega)]; exact t5, ?_⟩
  · obtain ⟨b, r, e, e0⟩ := (t1 M hM).2
    exact ⟨b, r, e, by rw [hlo]; exact e0⟩
  · intro M hM b hb
    by_cases e : b = x
    · subst e
      have := nd_lvc t4 hx hb
      subst this
      exact hr
    · exact (t2 M hM b hb).congr (fun y _ => hlo y) (out_sb hout e)
  · intro b hb
    by_cases e : b = x
    · subst e
      have := nd_lvc t4 hx hb
      subst this
      exact hr
    · exact (t3 b hb).congr (out_sb hout e)
  · intro M hM b hb
    by_cases e : b = x
    · subst e; exact hw
    · exact (t6 M hM b hb).congr (out_sb hout e)
theorem ksB_sb {w w' : Mem} {b : Nat} (h : sb w w' b) (hu : ubd w' b = ubd w b) : ksB w' b = ksB w b := by
  funext k
  have h6 := rl_le w b
  cases e : ksB w b k with
  | true =>
    obtain ⟨h1, p, h2, h3⟩ := ksB_iff.mp e
    exact ksB_iff.mpr ⟨by rw [hu]; exact h1, p, by rw [h.rl]; exact h2, by rw [h.kp (by omega)]; exact h3⟩
  | false =>
    cases e' : ksB w' b k with
    | false => rfl
    | true =>
      obtain ⟨h1, p, h2, h3⟩ := ksB_iff.mp e'
      rw [hu] at h1
      rw [h.rl] at h2
      rw [h.kp (by omega)] at h3
      rw [ksB_iff.mpr ⟨h1, p, h2, h3⟩] at e
      cases e
theorem ksB_kF {w : Mem} {b k : Nat} : ksB w b k = true ↔ k < ubd w b ∧ kF (pf w b) k := ksB_iff
theorem rowch_alk {w w' : Mem} {cs : List (List Nat)} (T : TS w cs) {L x : Nat} (hx : x ∈ lvc cs L) (hout : ∀ a, a < 9 * x + 3 ∨ 9 * x + 9 ≤ a → w' a = w a) (hk : L = 0 ∨ ∀ k, kF (pf w' x) k ↔ kF (pf w x) k) : alk w w' cs := by
  refine ⟨fun b _ => out_lo hout b, fun M hM b hb => ?_⟩
  by_cases e : b = x
  · subst e
    have := nd_lvc T.2.2.2.1 hx hb
    subst this
    rcases hk with q | q
    · omega
    · funext k
      cases e1 : ksB w b k with
      | true => obtain ⟨h1, h2⟩ := ksB_kF.mp e1; exact ksB_kF.mpr ⟨by rw [out_ubd hout]; exact h1, (q k).mpr h2⟩
      | false =>
        cases e2 : ksB w' b k with
        | false => rfl
        | true =>
          obtain ⟨h1, h2⟩ := ksB_kF.mp e2
          rw [out_ubd hout] at h1
          rw [ksB_kF.mpr ⟨h1, (q k).mp h2⟩] at e1
          cases e1
  · exact ksB_sb (out_sb hout e) (out_ubd hout b)
theorem clean.sF {w : Mem} {b : Nat} (h : clean w b) : sF (pf w b) := ⟨fun p hp => h.1 p hp, fun p h1 h2 => h.2.2 p h1 h2⟩
/-- the entry that may stand in block x of level L -/
def entOK (w : Mem) (cs : List (List Nat)) : Nat → Nat → Int64 → Prop
  | 0, x, e => ∃ (k : Nat) (v : Int32), e = ent k v ∧ lo w x ≤ k ∧ k < 1000
  | L + 1, x, e => ∃ y ∈ lvc cs L, e = ent (lo w y) (nI y) ∧ lo w x ≤ lo w y
theorem rowOK.at {w : Mem} {cs : List (List Nat)} {L x p : Nat} (h : rowOK w cs L x) (hp : p < 6) : w (9 * x + 3 + p) = 0 ∨ entOK w cs L x (w (9 * x + 3 + p)) := by
  cases L with
  | zero => exact h p hp
  | succ L => exact h.2.2 p hp
theorem entOK.ne {w : Mem} {cs : List (List Nat)} (T : TS w cs) {L x : Nat} {e : Int64} (h : entOK w cs L x e) : isE e := by
  cases L with
  | zero => obtain ⟨k, v, h1, -, h3⟩ := h; exact ⟨k, v, h3, h1⟩
  | succ L => obtain ⟨y, hy, h1, -⟩ := h; exact ⟨lo w y, nI y, T.lo1000 hy, h1⟩
theorem rowOK.of {w w' : Mem} {cs : List (List Nat)} {L x : Nat} (hlo : ∀ b, lo w' b = lo w b) (h : rowOK w cs L x) (hp : ∀ p, p < 6 → w' (9 * x + 3 + p) = 0 ∨ entOK w cs L x (w' (9 * x + 3 + p))) (h0 : 0 < L → w' (9 * x + 3) = w (9 * x + 3)) : rowOK w' cs L x := by
  cases L with
  | zero =>
    intro p hp6
    rcases hp p hp6 with q | ⟨k, v, q1, q2, q3⟩
    · exact Or.inl q
    · exact Or.inr ⟨k, v, q1, by rw [hlo]; exact q2, q3⟩
  | succ L =>
    have e0 := h0 (by omega)
    refine ⟨?_, ?_, ?_⟩
    · have : rl w x ≠ 0 := by have := h.1; omega
      rcases Nat.eq_zero_or_pos (rl w' x) with z | z
      · exfalso
        have z2 := rl_z (w := w') (b := x) (by omega)
        rw [z] at z2
        rw [show 9 * x + 3 + 0 = 9 * x + 3 from rfl, e0] at z2
        exact rl_nz (w := w) (b := x) (q := 0) h.1 z2
      · exact z
    · rw [hlo]
      have := h.2.1
      unfold kp at this ⊢
      rw [show 9 * x + 3 + 0 = 9 * x + 3 from rfl] at this ⊢
      rw [e0]; exact this
    · intro p hp6
      rcases hp p hp6 with q | ⟨y, hy, q1, q2⟩
      · exact Or.inl q
      · exact Or.inr ⟨y, hy, by rw [hlo]; exact q1, by rw [hlo, hlo]; exact q2⟩
section InsEv
variable {w : Mem} {cs : List (List Nat)} {L x k : Nat} {e : Int64}
/-- cut off on the way of an insert: the shape stands, the same keys count -/
theorem ins_part (T : TS w cs) (hx : x ∈ lvc cs L) (hc : clean w x) (h6 : rl w x < 6) {t : Nat} (ht : t ≤ rl w x - cl w x k) : TS (apl ((insL w x (cl w x k) (rl w x) e).take t) w) cs ∧ alk w (apl ((insL w x (cl w x k) (rl w x) e).take t) w) cs := by
  obtain ⟨i1, i2⟩ := ins_img (w := w) (b := x) (e := e) (cl_le w x k) t ht
  have hout := fun a ha => i1 a ha h6
  have hcl := cl_le w x k
  rcases Nat.eq_zero_or_pos t with z | z
  · subst z
    have e0 : apl ((insL w x (cl w x k) (rl w x) e).take 0) w = w := rfl
    rw [e0]
    exact ⟨T, fun b _ => rfl, fun M _ b _ => rfl⟩
  · have hm : rl w x - t < rF (pf w x) := by rw [← rl_pf]; omega
    have hs := hc.sF
    have hn : rF (pf w x) < 6 := h6
    have i2 : pf (apl ((insL w x (cl w x k) (rl w x) e).take t) w) x = insP (pf w x) (rF (pf w x)) (rF (pf w x) - t) := i2
    refine ⟨T.rowch hx hout (rowOK.of (out_lo hout) (T.rwo hx) ?_ ?_) ?_, rowch_alk T hx hout (Or.inr (fun j => ?_))⟩
    · intro p hp
      have : apl ((insL w x (cl w x k) (rl w x) e).take t) w (9 * x + 3 + p) = insP (pf w x) (rF (pf w x)) (rF (pf w x) - t) p := congrFun i2 p
      rw [this]
      unfold insP
      by_cases c1 : rF (pf w x) - t < p ∧ p ≤ rF (pf w x)
      · rw [if_pos c1]; exact (T.rwo hx).at (p := p - 1) (by omega)
      · rw [if_neg c1]; exact (T.rwo hx).at hp
    · intro _
      have : apl ((insL w x (cl w x k) (rl w x) e).take t) w (9 * x + 3 + 0) = insP (pf w x) (rF (pf w x)) (rF (pf w x) - t) 0 := congrFun i2 0
      rw [show 9 * x + 3 = 9 * x + 3 + 0 from rfl, this]
      unfold insP
      rw [if_neg (by omega)]; rfl
    · have := insP_wF hs hn (m := rF (pf w x) - t) hm
      rw [← i2] at this
      exact this
    · rw [i2]; exact insP_kF hs hn hm
/-- an insert that went through -/
theorem ins_done (T : TS w cs) (hx : x ∈ lvc cs L) (hc : clean w x) (h6 : rl w x < 6) (he : entOK w cs L x e) (hk : kN e = k) (hku : k < ubd w x) (hnk : ∀ p, p < rl w x → kp w x p ≠ k) :
    TS (apl (insL w x (cl w x k) (rl w x) e) w) cs ∧ (∀ b, b ≠ x → sb w (apl (insL w x (cl w x k) (rl w x) e) w) b) ∧ (∀ a, a < 9 * x + 3 ∨ 9 * x + 9 ≤ a → apl (insL w x (cl w x k) (rl w x) e) w a = w a) ∧ clean (apl (insL w x (cl w x k) (rl w x) e) w) x ∧
    rl (apl (insL w x (cl w x k) (rl w x) e) w) x = rl w x + 1 ∧ ∀ j, ksB (apl (insL w x (cl w x k) (rl w x) e) w) x j = true ↔ ksB w x j = true ∨ j = k := by
  obtain ⟨i1, i2⟩ := ins_full (w := w) (b := x) (e := e) (cl_le w x k)
  have hout := fun a ha => i1 a ha h6
  have hcl := cl_le w x k
  have hs := hc.sF
  have hn : rF (pf w x) < 6 := h6
  have hE := he.ne T
  have hne := hE.ky.2.2
  have i2 : pf (apl (insL w x (cl w x k) (rl w x) e) w) x = insN (pf w x) (rF (pf w x)) (cl w x k) e := i2
  have hcl' : cl w x k ≤ rF (pf w x) := hcl
  have k1 : ∀ p, p < cl w x k → kN (pf w x p) < k := fun p hp => cl_lt hp
  have k2 : ∀ p, cl w x k ≤ p → p < rF (pf w x) → k < kN (pf w x p) := fun p h1 h2 => by
    have h3 := hc.wst.ge (k := k) h1 h2
    have h4 := hnk p h2
    show k < kp w x p
    omega
  have hsN := insN_sF hs hn hcl' hne hk k1 k2
  have hrN := insN_rF hs.2 hn hcl' hne
  have hc0 : 0 < L → 0 < cl w x k := by
    intro hL
    obtain ⟨M, rfl⟩ : ∃ M, L = M + 1 := ⟨L - 1, by omega⟩
    have hi := T.2.1 M (lvc_in hx) x hx
    obtain ⟨y, hy, q1, q2⟩ := he
    rcases Nat.eq_zero_or_pos (cl w x k) with z | z
    · exfalso
      have h1 := cl_ge (w := w) (b := x) (k := k) (by rw [z]; exact hi.1)
      rw [z, hi.2.1] at h1
      have h2 := hnk 0 hi.1
      rw [hi.2.1] at h2
      rw [q1, kN_ent _ (by have := T.lo1000 hy; omega)] at hk
      omega
    · exact z
  have hwst : wst (apl (insL w x (cl w x k) (rl w x) e) w) x := by
    have := hsN.wF
    rw [← i2] at this
    exact this
  have hrow : rowOK (apl (insL w x (cl w x k) (rl w x) e) w) cs L x := by
    refine rowOK.of (out_lo hout) (T.rwo hx) ?_ ?_
    · intro p hp
      have this : apl (insL w x (cl w x k) (rl w x) e) w (9 * x + 3 + p) = insN (pf w x) (rF (pf w x)) (cl w x k) e p := congrFun i2 p
      rw [this]
      rcases insN_mem (f := pf w x) (n := rF (pf w x)) (c := cl w x k) (q := p) (e := e) with q | q | ⟨q0, q⟩
      · rw [q]; exact Or.inr he
      · rw [q]; exact (T.rwo hx).at hp
      · rw [q]; exact (T.rwo hx).at (p := p - 1) (by omega)
    · intro hL
      have this : apl (insL w x (cl w x k) (rl w x) e) w (9 * x + 3 + 0) = insN (pf w x) (rF (pf w x)) (cl w x k) e 0 := congrFun i2 0
      rw [show 9 * x + 3 = 9 * x + 3 + 0 from rfl, this]
      unfold insN
      have := hc0 hL
      rw [if_neg (by omega), if_neg (by omega)]; rfl
  have hrl : rl (apl (insL w x (cl w x k) (rl w x) e) w) x = rl w x + 1 := by
    rw [rl_pf, i2]; exact hrN
  refine ⟨T.rowch hx hout hrow hwst, fun b hb => out_sb hout hb, hout, ⟨?_, ?_, ?_⟩, hrl, ?_⟩
  · have := hsN.1
    rw [← i2] at this
    exact this
  · intro p hp
    rw [out_ubd hout]
    have : kF (pf (apl (insL w x (cl w x k) (rl w x) e) w) x) (kp (apl (insL w x (cl w x k) (rl w x) e) w) x p) := ⟨p, hp, rfl⟩
    rw [i2] at this
    rcases (insN_kF hs hn hcl' hne).mp this with ⟨q, hq, h⟩ | h
    · rw [← h]; exact hc.2.1 q hq
    · rw [h, hk]; exact hku
  · have := hsN.2
    rw [← i2] at this
    exact this
  · intro j
    rw [ksB_kF, out_ubd hout, i2, insN_kF hs hn hcl' hne, hk, ksB_kF]
    constructor
    · rintro ⟨h1, h2 | h2⟩
      · exact Or.inl ⟨h1, h2⟩
      · exact Or.inr h2
    · rintro (⟨h1, h2⟩ | h2)
      · exact ⟨h1, Or.inl h2⟩
      · exact ⟨by omega, Or.inr h2⟩
end InsEv
