/-! PURE: what a drop leaves -/
section DrI
variable {w : Mem} {b : Nat}
theorem dr_cond {i : Nat} (hi : i < rl w b) : (i + 1 < 6 ∧ w (9 * b + 3 + (i + 1)) ≠ 0) ↔ i + 1 < rl w b := by
  have h6 := rl_le w b
  constructor
  · rintro ⟨h1, h2⟩
    rcases Nat.lt_or_ge (i + 1) (rl w b) with q | q
    · exact q
    · have e : i + 1 = rl w b := by omega
      exact absurd (by rw [e]; exact rl_z (by omega)) h2
  · intro h; exact ⟨by omega, rl_nz h⟩
theorem drL_len : ∀ (d i : Nat), i + d = 6 → i < rl w b → (drL w b d i).length = rl w b - i := by
  intro d
  have h6 := rl_le w b
  induction d with
  | zero => intro i h1 h2; omega
  | succ d ih =>
    intro i h1 h2
    rw [drL]
    by_cases e : i + 1 < rl w b
    · rw [if_pos ((dr_cond h2).mpr e), List.length_cons, ih (i + 1) (by omega) e]; omega
    · rw [if_neg (fun q => e ((dr_cond h2).mp q))]; simp; omega
theorem drL_img : ∀ (d i t : Nat) (w0 : Mem), i + d = 6 → i < rl w b → t ≤ rl w b - i → ∀ a, apl ((drL w b d i).take t) w0 a = if 9 * b + 3 + i ≤ a ∧ a < 9 * b + 3 + i + t then (if a + 1 < 9 * b + 9 then w (a + 1) else 0) else w0 a := by
  intro d
  have h6 := rl_le w b
  induction d with
  | zero => intro i t w0 h1 h2; omega
  | succ d ih =>
    intro i t w0 h1 h2 h3 a
    cases t with
    | zero => rw [if_neg (by omega)]; rfl
    | succ t =>
      rw [drL]
      by_cases e : i + 1 < rl w b
      · rw [if_pos ((dr_cond h2).mpr e), List.take_succ_cons, apl, ih (i + 1) t _ (by omega) e (by omega)]
        by_cases c1 : 9 * b + 3 + (i + 1) ≤ a ∧ a < 9 * b + 3 + (i + 1) + t
        · rw [if_pos c1, if_pos (show 9 * b + 3 + i ≤ a ∧ a < 9 * b + 3 + i + (t + 1) by omega)]
        · rw [if_neg c1]
          by_cases c2 : a = 9 * b + 3 + i
          · rw [c2, if_pos (by omega), if_pos (by omega)]
            exact pk_uLs
          · rw [if_neg (by omega)]
            exact pk_uLn c2
      · rw [if_neg (fun q => e ((dr_cond h2).mp q))]
        have ht : t = 0 := by omega
        subst ht
        rw [List.take_succ_cons, List.take_zero]
        show vp_updL w0 (9 * b + 3 + i) 0 a = _
        by_cases c2 : a = 9 * b + 3 + i
        · rw [c2, pk_uLs, if_pos (by omega)]
          by_cases c3 : 9 * b + 3 + i + 1 < 9 * b + 9
          · rw [if_pos c3]
            have e2 : i + 1 = rl w b := by omega
            have := rl_z (w := w) (b := b) (by omega)
            rw [← e2] at this
            rw [show 9 * b + 3 + i + 1 = 9 * b + 3 + (i + 1) by omega]; exact this.symm
          · rw [if_neg c3]
        · rw [pk_uLn c2, if_neg (by omega)]
end DrI
section DrF
variable {f : Nat → Int64} {p t : Nat}
theorem drP_rF1 (hp : p < rF f) (ht : t < rF f - p) : rF (drP f p (p + t)) = rF f := by
  have h6 := rF_le f
  apply rF_eq h6
  · intro q hq
    unfold drP
    by_cases c : p ≤ q ∧ q < p + t
    · rw [if_pos c, if_pos (by omega)]; exact rF_nz (by omega)
    · rw [if_neg c]; exact rF_nz hq
  · intro hq
    unfold drP
    rw [if_neg (by omega)]; exact rF_z hq
theorem drP_rF2 (hp : p < rF f) : rF (drP f p (p + (rF f - p))) = rF f - 1 := by
  have h6 := rF_le f
  apply rF_eq (by omega)
  · intro q hq
    unfold drP
    by_cases c : p ≤ q ∧ q < p + (rF f - p)
    · rw [if_pos c, if_pos (by omega)]; exact rF_nz (by omega)
    · rw [if_neg c]; exact rF_nz (by omega)
  · intro hq
    unfold drP
    rw [if_pos (by omega)]
    by_cases c : rF f - 1 + 1 < 6
    · rw [if_pos c, show rF f - 1 + 1 = rF f by omega]; exact rF_z (by omega)
    · rw [if_neg c]
theorem drP_rl (hp : p < rF f) (ht : t ≤ rF f - p) : rF (drP f p (p + t)) ≤ rF f ∧ rF f ≤ rF (drP f p (p + t)) + 1 := by
  rcases Nat.lt_or_ge t (rF f - p) with q | q
  · rw [drP_rF1 hp q]; omega
  · rw [show t = rF f - p by omega, drP_rF2 hp]; omega
/-- every entry of the new row stood in the old one, at that place or the next -/
theorem drP_at {q : Nat} (hp : p < rF f) (ht : t ≤ rF f - p) (hq : q < rF (drP f p (p + t))) : (q < p ∧ drP f p (p + t) q = f q) ∨ (p ≤ q ∧ q < p + t ∧ q + 1 < rF f ∧ drP f p (p + t) q = f (q + 1)) ∨ (p + t ≤ q ∧ p ≤ q ∧ drP f p (p + t) q = f q) := by
  have hn := rF_nz hq
  unfold drP at hn ⊢
  by_cases c : p ≤ q ∧ q < p + t
  · rw [if_pos c] at hn
    by_cases c2 : q + 1 < 6
    · right; left
      refine ⟨c.1, c.2, ?_, by rw [if_pos c, if_pos c2]⟩
      rw [if_pos c2] at hn
      rcases Nat.lt_or_ge (q + 1) (rF f) with z | z
      · exact z
      · exfalso
        have e : q + 1 = rF f := by omega
        exact hn (by rw [e]; exact rF_z (by omega))
    · rw [if_neg c2] at hn; exact absurd rfl hn
  · rw [if_neg c]
    by_cases c2 : q < p
    · exact Or.inl ⟨c2, rfl⟩
    · exact Or.inr (Or.inr ⟨by omega, by omega, rfl⟩)
theorem drP_wF (hw : wF f) (hp : p < rF f) (ht : t ≤ rF f - p) : wF (drP f p (p + t)) := by
  have h6 := rF_le f
  have hle := drP_rl hp ht
  intro q hq
  have w2 : ∀ a, a + 2 < rF f → kN (f a) ≤ kN (f (a + 2)) := fun a ha => Nat.le_trans (hw a (by omega)) (hw (a + 1) (by omega))
  rcases drP_at (f := f) (p := p) (t := t) (q := q) hp ht (by omega) with ⟨a1, a2⟩ | ⟨a1, a2, a3, a4⟩ | ⟨a1, a2, a3⟩
  · rcases drP_at hp ht hq with ⟨b1, b2⟩ | ⟨b1, b2, b3, b4⟩ | ⟨b1, b2, b3⟩
    · rw [a2, b2]; exact hw q (by omega)
    · rw [a2, b4]; exact w2 q (by omega)
    · rw [a2, b3]; exact hw q (by omega)
  · rcases drP_at hp ht hq with ⟨b1, b2⟩ | ⟨b1, b2, b3, b4⟩ | ⟨b1, b2, b3⟩
    · omega
    · rw [a4, b4]; exact hw (q + 1) (by omega)
    · rw [a4, b3]; exact Nat.le_refl _
  · rcases drP_at hp ht hq with ⟨b1, b2⟩ | ⟨b1, b2, b3, b4⟩ | ⟨b1, b2, b3⟩
    · omega
    · omega
    · rw [a3, b3]; exact hw q (by omega)
theorem drP_kF {k : Nat} (hp : p < rF f) (h1 : 1 ≤ t) (ht : t ≤ rF f - p) : kF (drP f p (p + t)) k ↔ ∃ q, q < rF f ∧ q ≠ p ∧ kN (f q) = k := by
  have h6 := rF_le f
  have hle := drP_rl hp ht
  constructor
  · rintro ⟨q, hq, e⟩
    rcases drP_at hp ht hq with ⟨b1, b2⟩ | ⟨b1, b2, b3, b4⟩ | ⟨b1, b2, b3⟩
    · exact ⟨q, by omega, by omega, by rw [← b2]; exact e⟩
    · exact ⟨q + 1, b3, by omega, by rw [← b4]; exact e⟩
    · exact ⟨q, by omega, by omega, by rw [← b3]; exact e⟩
  · rintro ⟨q, hq, hne, e⟩
    rcases Nat.lt_or_ge q p with z | z
    · refine ⟨q, by omega, ?_⟩
      unfold drP; rw [if_neg (by omega)]; exact e
    · rcases Nat.lt_or_ge (p + t) q with z2 | z2
      · have hr : rF (drP f p (p + t)) = rF f := drP_rF1 hp (by omega)
        refine ⟨q, by omega, ?_⟩
        unfold drP; rw [if_neg (by omega)]; exact e
      · refine ⟨q - 1, by omega, ?_⟩
        unfold drP; rw [if_pos (by omega), if_pos (by omega), show q - 1 + 1 = q by omega]; exact e
end DrF
section DrG
variable {w : Mem} {cs : List (List Nat)} {L x p t : Nat}
theorem drop_gen (T : TS w cs) (hx : x ∈ lvc cs L) (hp : p < rl w x) (h0p : 0 < L → 0 < p) (ht : t ≤ rl w x - p) :
    (∀ a, a < 9 * x + 3 ∨ 9 * x + 9 ≤ a → apl ((drL w x (6 - p) p).take t) w a = w a) ∧ pf (apl ((drL w x (6 - p) p).take t) w) x = drP (pf w x) p (p + t) ∧
    rowOK (apl ((drL w x (6 - p) p).take t) w) cs L x ∧ wst (apl ((drL w x (6 - p) p).take t) w) x := by
  have h6 := rl_le w x
  have himg := drL_img (w := w) (b := x) (6 - p) p t w (by omega) hp ht
  have hout : ∀ a, a < 9 * x + 3 ∨ 9 * x + 9 ≤ a → apl ((drL w x (6 - p) p).take t) w a = w a := fun a ha => by rw [himg, if_neg (by omega)]
  have hpf : pf (apl ((drL w x (6 - p) p).take t) w) x = drP (pf w x) p (p + t) := by
    funext q
    unfold pf drP
    rw [himg]
    by_cases c : p ≤ q ∧ q < p + t
    · rw [if_pos (by omega), if_pos c]
      by_cases c2 : q + 1 < 6
      · rw [if_pos (by omega), if_pos c2]; rfl
      · rw [if_neg (by omega), if_neg c2]
    · rw [if_neg (by omega), if_neg c]
  refine ⟨hout, hpf, ?_, ?_⟩
  · refine rowOK.of (out_lo hout) (T.rwo hx) (fun q hq => ?_) (fun hL => ?_)
    · have e : apl ((drL w x (6 - p) p).take t) w (9 * x + 3 + q) = drP (pf w x) p (p + t) q := congrFun hpf q
      rw [e]
      unfold drP
      by_cases c : p ≤ q ∧ q < p + t
      · rw [if_pos c]
        by_cases c2 : q + 1 < 6
        · rw [if_pos c2]; exact (T.rwo hx).at c2
        · rw [if_neg c2]; exact Or.inl rfl
      · rw [if_neg c]; exact (T.rwo hx).at hq
    · have := h0p hL
      rw [himg, if_neg (by omega)]
  · have := drP_wF (f := pf w x) (p := p) (t := t) (fun q hq => T.2.2.2.2.2 L (lvc_in hx) x hx q hq) hp ht
    rw [← hpf] at this
    exact this
end DrG
def drT (M : MM) (x p : Nat) : MM ⊕ (Int32 × MM) := match fsM (drL M.1 x (6 - p) p) M with
  | .inl M' => .inl M'
  | .inr M' => .inr (1, M')
theorem drT_post {M : MM} {cs : List (List Nat)} {hs : Nat → List Nat} {x p : Nat} (U : Up M cs hs) (hx : x ∈ lvc cs 0) (hp : p < rl M.1 x) : POut M hs (drT M x p) := by
  obtain ⟨Bs, hcl, hns, h0⟩ := U
  have T := Bs.1
  have h6 := rl_le M.1 x
  have hlen := drL_len (w := M.1) (b := x) (6 - p) p (by omega) hp
  unfold drT
  rcases fs_img (drL M.1 x (6 - p) p) M h0 with ⟨M', t, g1, g2, g3, g4⟩ | ⟨M', g1, g2, g3⟩
  · rw [g1]
    obtain ⟨d1, d2, d3, d4⟩ := drop_gen T hx hp (fun h => by omega) (t := t) (by omega)
    rw [← g3] at d1 d2 d3 d4
    obtain ⟨B', A⟩ := leaf_base Bs hx d1 d3 d4
    exact ⟨g4, cs, B', DI.none (A.ns hns), g4.1⟩
  · rw [g1]
    obtain ⟨d1, d2, d3, d4⟩ := drop_gen T hx hp (fun h => by omega) (t := rl M.1 x - p) (by omega)
    rw [← hlen, List.take_length, ← g2] at d1 d2 d3 d4
    obtain ⟨B', A⟩ := leaf_base Bs hx d1 d3 d4
    rw [hlen] at d2
    have hc := hcl 0 x hx
    have hrl : rl M'.1 x = rl M.1 x - 1 := by rw [rl_pf, d2]; exact drP_rF2 hp
    have hkp : ∀ q, q < rl M.1 x - 1 → kp M'.1 x q = if q < p then kp M.1 x q else kp M.1 x (q + 1) := fun q hq => by
      rw [kp_pf, d2]
      unfold drP
      by_cases c : q < p
      · rw [if_neg (by omega), if_pos c]; rfl
      · rw [if_pos (by omega), if_pos (by omega), if_neg c]; rfl
    have hcx : clean M'.1 x := by
      refine ⟨fun q hq => ?_, fun q hq => ?_, fun q h1 h2 => ?_⟩
      · rw [hrl] at hq
        have s1 := hc.1 q (by omega)
        rw [hkp q (by omega), hkp (q + 1) hq]
        by_cases c : q + 1 < p
        · rw [if_pos (by omega), if_pos c]; exact s1
        · have s2 := hc.1 (q + 1) (by omega)
          by_cases c2 : q < p
          · rw [if_pos c2, if_neg c]; omega
          · rw [if_neg c2, if_neg c]; exact s2
      · rw [hrl] at hq
        rw [out_ubd d1, hkp q hq]
        by_cases c : q < p
        · rw [if_pos c]; exact hc.2.1 q (by omega)
        · rw [if_neg c]; exact hc.2.1 (q + 1) (by omega)
      · rw [hrl] at h1
        show pf M'.1 x q = 0
        rw [d2]
        unfold drP
        by_cases c : p ≤ q ∧ q < p + (rl M.1 x - p)
        · rw [if_pos c]
          by_cases c2 : q + 1 < 6
          · rw [if_pos c2]; exact hc.2.2 (q + 1) (by omega) c2
          · rw [if_neg c2]
        · rw [if_neg c]; exact hc.2.2 q (by omega) h2
    exact ⟨g3, cs, B', out_clean hcl d1 hcx, A.ns hns, g3.1⟩
