/-! PURE: up and down; what changes in a leaf's row -/
def Up (M : MM) (cs : List (List Nat)) (hs : Nat → List Nat) : Prop := Base M.1 cs hs ∧ allClean M.1 cs ∧ (∀ l z, ¬ stray M.1 cs l z) ∧ M.2.1 = []
def Dn (M : MM) (cs : List (List Nat)) (hs : Nat → List Nat) : Prop := Base M.1 cs hs ∧ DI M.1 cs (frN (bls cs hs)) ∧ M.2.1 = []
section Lf
variable {w w' : Mem} {cs : List (List Nat)} {hs : Nat → List Nat} {x : Nat}
theorem leaf_base (Bs : Base w cs hs) (hx : x ∈ lvc cs 0) (hout : ∀ a, a < 9 * x + 3 ∨ 9 * x + 9 ≤ a → w' a = w a) (hl : leaf w' x) (hw : wst w' x) : Base w' cs hs ∧ alk w w' cs :=
  ⟨out_base Bs hx (Bs.1.rowch hx hout hl hw) hout, rowch_alk Bs.1 hx hout (Or.inl rfl)⟩
theorem out_clean (hcl : allClean w cs) (hout : ∀ a, a < 9 * x + 3 ∨ 9 * x + 9 ≤ a → w' a = w a) (hc : clean w' x) : allClean w' cs := fun L b hb => by
  by_cases e : b = x
  · rw [e]; exact hc
  · exact (hcl L b hb).of_sb (out_sb hout e) (out_ubd hout b)
theorem alk.ns (A : alk w w' cs) (h : ∀ l z, ¬ stray w cs l z) : ∀ l z, ¬ stray w' cs l z := fun l z q => h l z ((stray_congr A).mp q)
end Lf
section Lp
variable {M : MM} {cs : List (List Nat)} {hs : Nat → List Nat} {x k : Nat} {v : Int32}
/-- what a call that may be cut leaves -/
def POut (M : MM) (hs : Nat → List Nat) : MM ⊕ (Int32 × MM) → Prop
  | .inl M' => endC M M' ∧ ∃ cs', Dn M' cs' hs
  | .inr q => endO M q.2 ∧ ∃ cs', Up q.2 cs' hs
def insT (M : MM) (x k : Nat) (v : Int32) : MM ⊕ (Int32 × MM) := match fsM (insL M.1 x (cl M.1 x k) (rl M.1 x) (ent k v)) M with
  | .inl M' => .inl M'
  | .inr M' => .inr (1, M')
theorem insT_post (U : Up M cs hs) (hk : k < 1000) (hx : x ∈ lvc cs 0) (hlo : lo M.1 x ≤ k) (hub : k < ubd M.1 x) (h6 : rl M.1 x < 6) (hnk : ∀ p, p < rl M.1 x → kp M.1 x p ≠ k) : POut M hs (insT M x k v) := by
  obtain ⟨Bs, hcl, hns, h0⟩ := U
  have T := Bs.1
  have hc := hcl 0 x hx
  unfold insT
  rcases fs_img (insL M.1 x (cl M.1 x k) (rl M.1 x) (ent k v)) M h0 with ⟨M', t, g1, g2, g3, g4⟩ | ⟨M', g1, g2, g3⟩
  · rw [g1]
    have ht : t ≤ rl M.1 x - cl M.1 x k := by
      unfold insL at g2
      rw [List.length_append, shl_len] at g2
      simp only [List.length_cons, List.length_nil] at g2
      omega
    obtain ⟨T', A⟩ := ins_part (e := ent k v) T hx hc h6 ht
    rw [← g3] at T' A
    have hout : ∀ a, a < 9 * x + 3 ∨ 9 * x + 9 ≤ a → M'.1 a = M.1 a := fun a ha => by
      rw [g3]; exact (ins_img (e := ent k v) (cl_le M.1 x k) t ht).1 a ha h6
    exact ⟨g4, cs, out_base Bs hx T' hout, DI.none (A.ns hns), g4.1⟩
  · rw [g1]
    obtain ⟨T', hsb, hout, hcx, hrl, hks⟩ := ins_done (e := ent k v) T hx hc h6 ⟨k, v, rfl, hlo, hk⟩ (kN_ent _ (by omega)) hub hnk
    rw [← g2] at T' hsb hout hcx hrl hks
    exact ⟨g3, cs, out_base Bs hx T' hout, out_clean hcl hout hcx, (rowch_alk T hx hout (Or.inl rfl)).ns hns, g3.1⟩
def repT (M : MM) (x p k : Nat) (v : Int32) : MM ⊕ (Int32 × MM) := match firmM M (9 * x + 3 + p) (ent k v) with
  | .inl M' => .inl M'
  | .inr M' => .inr (0, M')
theorem repT_post (U : Up M cs hs) (hx : x ∈ lvc cs 0) {p : Nat} (hp : p < rl M.1 x) (hk : kp M.1 x p = k) : POut M hs (repT M x p k v) := by
  obtain ⟨Bs, hcl, hns, h0⟩ := U
  have T := Bs.1
  have hc := hcl 0 x hx
  have h6 := rl_le M.1 x
  unfold repT
  rcases firm_img h0 (9 * x + 3 + p) (ent k v) with ⟨M', g1, g2, g3⟩ | ⟨M', g1, g2, g3⟩
  · rw [g1]
    exact ⟨g3, cs, by rw [g2]; exact Bs, by rw [g2]; exact DI.none hns, g3.1⟩
  · rw [g1]
    have hk1000 : k < 1000 := by rw [← hk]; exact ((T.row hx).key hp).2
    have hat : ∀ q, M'.1 (9 * x + 3 + q) = if q = p then ent k v else M.1 (9 * x + 3 + q) := fun q => by
      rw [g2]; show (if 9 * x + 3 + q = 9 * x + 3 + p then _ else _) = _
      by_cases e : q = p
      · rw [if_pos (by omega), if_pos e]
      · rw [if_neg (by omega), if_neg e]
    have hout : ∀ a, a < 9 * x + 3 ∨ 9 * x + 9 ≤ a → M'.1 a = M.1 a := fun a ha => by
      rw [g2]; show (if a = 9 * x + 3 + p then _ else _) = _
      rw [if_neg (by omega)]
    have hrl : rl M'.1 x = rl M.1 x := by
      apply rl_eq h6
      · intro q hq
        rw [hat]
        by_cases e : q = p
        · rw [if_pos e]; exact ent_ne v (by omega)
        · rw [if_neg e]; exact rl_nz hq
      · intro hq
        rw [hat, if_neg (by omega)]; exact rl_z hq
    have hkp : ∀ q, kp M'.1 x q = kp M.1 x q := fun q => by
      unfold kp; rw [hat]
      by_cases e : q = p
      · rw [if_pos e, e, kN_ent _ (by omega)]; exact hk.symm
      · rw [if_neg e]
    have hlf : leaf M'.1 x := fun q hq => by
      rw [hat, out_lo hout]
      by_cases e : q = p
      · rw [if_pos e]
        rcases T.2.2.1 x hx p (by omega) with z | ⟨k2, v2, z1, z2, z3⟩
        · exact absurd z (rl_nz hp)
        · right
          refine ⟨k, v, rfl, ?_, hk1000⟩
          have : kp M.1 x p = k2 := by unfold kp; rw [z1, kN_ent _ (by omega)]
          omega
      · rw [if_neg e]; exact T.2.2.1 x hx q hq
    have hcx : clean M'.1 x := by
      refine ⟨fun q hq => ?_, fun q hq => ?_, fun q h1 h2 => ?_⟩
      · rw [hkp, hkp]; exact hc.1 q (by omega)
      · rw [hkp, out_ubd hout]; exact hc.2.1 q (by omega)
      · rw [hat, if_neg (by omega)]; exact hc.2.2 q (by omega) h2
    obtain ⟨B', A⟩ := leaf_base Bs hx hout hlf hcx.wst
    exact ⟨g3, cs, B', out_clean hcl hout hcx, A.ns hns, g3.1⟩
def plaM (M : MM) (e : Int64) (k : Nat) : MM ⊕ MM := match looseM (mkl k (lN 0) (lN 0) (lN 0) e 0 0) M with
  | .inl M' => .inl M'
  | .inr M1 => firmM M1 0 (lN k)
end Lp
