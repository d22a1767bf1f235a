/-! PURE: the first block of the tree -/
def okT (res : Option (Int32 × SM)) (o : MM ⊕ (Int32 × MM)) : Prop := ∃ u1, match o with
  | .inl M => res = some (-2, u1) ∧ inC u1 M
  | .inr q => res = some (q.1, u1) ∧ inC u1 q.2
def okS (res : Option (Int32 × SR)) (cd : Int32) (o : MM ⊕ (Int32 × MM)) : Prop := ∃ r u1, res = some (r, u1) ∧ rg_cd u1 = cd ∧ match o with
  | .inl M => inR u1 M 1
  | .inr q => r = q.1 ∧ inR u1 q.2 0
def plaT (M : MM) (e : Int64) (B : List Nat) : MM ⊕ (Int32 × MM) := if frN B = 0 then .inr (-1, M) else match plaM M e (ffr B) with
  | .inl M' => .inl M'
  | .inr M' => .inr (1, M')
section Pla
variable {u : SM} {vv : SR} {M : MM} {hs : Nat → List Nat} {k b : Nat} {v : Int32}
theorem pla_post (U : Up M [] hs) (hk : k < 1000) (hb : fst (bls [] hs) b) : (∃ M', plaM M (ent k v) b = .inl M' ∧ endC M M' ∧ ∃ cs', Dn M' cs' hs) ∨ (∃ M', plaM M (ent k v) b = .inr M' ∧ endO M M' ∧ ∃ cs', Up M' cs' hs) := by
  obtain ⟨Bs, hcl, hns, h0⟩ := U
  have hb1 := hb.1
  have hb2 := hb.2.1
  unfold plaM
  have dn : ∀ {M' : MM}, (∀ a, a < 9 * b ∨ 9 * b + 9 ≤ a → M'.1 a = M.1 a) → M'.2.1 = [] → Dn M' [] hs := fun ho he => by
    obtain ⟨B', A, -⟩ := free_base Bs hb ho
    exact ⟨B', DI.none (A.ns hns), he⟩
  rcases make_img h0 b (lN 0) (lN 0) (lN 0) (ent k v) 0 0 with ⟨M1, g1, g2, g3⟩ | ⟨M1, g1, g2, g4, g3⟩
  · rw [g1]
    exact Or.inl ⟨M1, rfl, g3, [], dn g2 g3.1⟩
  · rw [g1]
    rcases firm_img g3.1 0 (lN b) with ⟨M2, e1, e2, e3⟩ | ⟨M2, e1, e2, e3⟩
    · exact Or.inl ⟨M2, e1, endC.trans g3 e3, [], dn (fun a ha => by rw [e2]; exact g2 a ha) e3.1⟩
    · right
      refine ⟨M2, e1, endO.trans g3 e3, [[b]], ?_⟩
      have at0 : M2.1 0 = lN b := by rw [e2]; show (if 0 = 0 then _ else _) = _; rw [if_pos rfl]
      have at1 : ∀ a, 1 ≤ a → M2.1 a = M1.1 a := fun a ha => by rw [e2]; show (if a = 0 then _ else _) = _; rw [if_neg (by omega)]
      obtain ⟨q0, q1, q2, q3, q4, q5, q6, q7, q8⟩ := g4
      have p0 : M2.1 (9 * b) = lN 0 := by rw [at1 _ (by omega)]; exact q0
      have p1 : M2.1 (9 * b + 1) = lN 0 := by rw [at1 _ (by omega)]; exact q1
      have p2 : M2.1 (9 * b + 2) = lN 0 := by rw [at1 _ (by omega)]; exact q2
      have pl0 : M2.1 (9 * b + 3 + 0) = ent k v := by rw [at1 _ (by omega)]; exact q3
      have plz : ∀ p, 1 ≤ p → p < 6 → M2.1 (9 * b + 3 + p) = 0 := fun p h1 h2 => by
        rw [at1 _ (by omega)]
        match p, h1, h2 with
        | 1, _, _ => exact q4
        | 2, _, _ => exact q5
        | 3, _, _ => exact q6
        | 4, _, _ => exact q7
        | 5, _, _ => exact q8
      have lk : lo M2.1 b = 0 := by unfold lo; rw [p2]; rfl
      have rk : rl M2.1 b = 1 := by
        apply rl_eq (by omega)
        · intro q hq
          have : q = 0 := by omega
          subst this
          rw [pl0]; exact ent_ne v (by omega)
        · intro _; exact plz 1 (by omega) (by omega)
      have k0 : kp M2.1 b 0 = k := by unfold kp; rw [pl0, kN_ent _ (by omega)]
      have ubk : ubd M2.1 b = 1000 := by unfold ubd nxN; rw [p1, if_pos (by decide)]
      have lv : ∀ L c, c ∈ lvc [[b]] L → L = 0 ∧ c = b := fun L c hc => by
        have hL := lvc_in hc
        have : L = 0 := by simp at hL; exact hL
        subst this
        exact ⟨rfl, List.mem_singleton.mp hc⟩
      have T' : TS M2.1 [[b]] := by
        refine ⟨?_, ?_, ?_, ?_, at0, ?_⟩
        · intro L hL
          have : L = 0 := by simp at hL; exact hL
          subst this
          exact ⟨⟨⟨hb1, hb2⟩, p0, p1, ⟨by rw [lk]; exact p2, by omega⟩, (fun c hc => by cases hc), trivial⟩, b, [], rfl, lk⟩
        · intro L hL; simp at hL
        · intro c hc
          rw [(lv 0 c hc).2]
          intro p hp
          by_cases e : p = 0
          · right; subst e; exact ⟨k, v, pl0, by rw [lk]; exact Nat.zero_le _, hk⟩
          · left; exact plz p (by omega) hp
        · simp
        · intro L hL c hc
          rw [(lv L c hc).2]
          intro p hp
          rw [rk] at hp; omega
      have hfl : ∀ c, c ∈ ([[b]] : List (List Nat)).flatten ↔ c ∈ ([] : List (List Nat)).flatten ∨ c = b := fun c => by simp
      have hH : ∀ c ∈ hsA hs, sb M.1 M2.1 c := fun c hc i hi => by
        obtain ⟨h, h1, h2, hbh⟩ := hsA_mem.mp hc
        have h3 := ((Bs.2.2.1 h h1 h2).2.mem c hbh).1
        have h4 : c ≠ b := fun e => hb.2.2.1 (by rw [← e]; exact List.mem_append_right _ hc)
        rw [at1 _ (by omega)]
        exact g2 _ (by omega)
      refine ⟨⟨T', ?_, Bs.2.2.1.congr (fun a h1 h2 => by rw [at1 _ h1]; exact g2 _ (by omega)) hH, Bs.2.2.2.1.congr hH, bls_nd Bs.2.2.2.2 T'.2.2.2.1 hfl hb.2.2.1⟩, ?_, ?_, e3.1⟩
      · intro L hL; simp at hL
      · intro L c hc
        rw [(lv L c hc).2]
        refine ⟨fun p hp => by rw [rk] at hp; omega, fun p hp => ?_, fun p h1 h2 => plz p (by rw [rk] at h1; exact h1) h2⟩
        rw [rk] at hp
        have : p = 0 := by omega
        subst this
        rw [k0, ubk]; exact hk
      · rintro L c ⟨s1, s2, -⟩
        rw [(lv L c s1).2] at s2
        exact s2 lk
theorem c_plant (h : inC u M) (h0 : M.2.1 = []) {B : List Nat} (hG : GB M.1 B) (e : Int64) : okT (m_Tree_plant u e) (plaT M e B) := by
  have hf := frN_le B
  rw [m_Tree_plant, c_countFree hG h.1, obS]
  unfold plaT
  by_cases e0 : frN B = 0
  · rw [if_pos e0, e0]; exact ⟨u, rfl, h⟩
  · rw [if_neg e0, if_neg (nI_ne0 (by omega) (by omega))]
    have hk := ffr_fst (B := B) (by omega)
    obtain ⟨u1, hu1⟩ := c_make h h0 hG hk (0 : Int32) (0 : Int32) (0 : Int32) e (0 : Int64) (0 : Int64)
    unfold plaM
    have el : looseM (mkl (ffr B) (0 : Int32).toInt64 (0 : Int32).toInt64 (0 : Int32).toInt64 e 0 0) M = looseM (mkl (ffr B) (lN 0) (lN 0) (lN 0) e 0 0) M := rfl
    rw [el] at hu1
    have hk1 := hk.1
    have hk2 := hk.2.1
    cases em : looseM (mkl (ffr B) (lN 0) (lN 0) (lN 0) e 0 0) M with
    | inl M1 =>
      rw [em] at hu1
      exact ⟨u1, by rw [hu1.1, obS, if_pos rfl], hu1.2⟩
    | inr M1 =>
      rw [em] at hu1
      obtain ⟨u2, hu2⟩ := c_firm hu1.2 (looseM_nil em) (a := 0) (by omega) (lN (ffr B))
      rw [hu1.1, obS, if_neg (nI_ne0 (by omega) (by omega)), nI_l (by omega)]
      refine ⟨u2, ?_⟩
      simp only
      cases ef : firmM M1 0 (lN (ffr B)) with
      | inl M2 => rw [ef] at hu2; exact ⟨by rw [show m_Memory_firmStore u1 (0 : Int32) (lN (ffr B)) = some (0, u2) from hu2.1, obS, if_pos rfl], hu2.2⟩
      | inr M2 => rw [ef] at hu2; exact ⟨by rw [show m_Memory_firmStore u1 (0 : Int32) (lN (ffr B)) = some (1, u2) from hu2.1, obS, if_neg (by decide)], hu2.2⟩
theorem r_plant (h : inR vv M 0) (h0 : M.2.1 = []) {B : List Nat} (hG : GB M.1 B) (e : Int64) (hk : 0 < frN B) : okR (ob (m_Ref_make vv (0 : Int32) (0 : Int32) (0 : Int32) e (0 : Int64) (0 : Int64)) (fun r53 u54 => m_Ref_firm u54 (0 : Int32) (r53.toInt64))) (plaM M e (ffr B)) := by
  have hk := ffr_fst hk
  have hk2 := hk.2.1
  obtain ⟨u1, e1, hu1⟩ := r_make h h0 hG hk (0 : Int32) (0 : Int32) (0 : Int32) e (0 : Int64) (0 : Int64)
  have el : looseM (mkl (ffr B) (0 : Int32).toInt64 (0 : Int32).toInt64 (0 : Int32).toInt64 e 0 0) M = looseM (mkl (ffr B) (lN 0) (lN 0) (lN 0) e 0 0) M := rfl
  rw [el] at hu1
  rw [e1, obS, nI_l (by omega)]
  unfold plaM
  cases em : looseM (mkl (ffr B) (lN 0) (lN 0) (lN 0) e 0 0) M with
  | inl M1 =>
    rw [em] at hu1
    obtain ⟨u2, e2, hu2⟩ := r_firm_brk hu1 (looseM_cut_nil em) (0 : Int32) (lN (ffr B))
    exact ⟨u2, e2, hu2⟩
  | inr M1 =>
    rw [em] at hu1
    exact r_firm hu1 (looseM_nil em) (a := 0) (by omega) (lN (ffr B))
end Pla
