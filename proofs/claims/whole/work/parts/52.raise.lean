/-! PURE: a new root -/
def raiM (M : MM) (z y L k : Nat) : MM ⊕ MM := match looseM (mkl k (lN L) 0 (lN (lo M.1 z)) (ent (lo M.1 z) (nI z)) (ent (lo M.1 y) (nI y)) 0) M with
  | .inl M' => .inl M'
  | .inr M1 => firmM M1 0 (lN k)
/-- memory behind it -/
def RaW (w w' : Mem) (z y L k : Nat) : Prop := (∀ a, a ≠ 0 → (a < 9 * k ∨ 9 * k + 9 ≤ a) → w' a = w a) ∧ w' 0 = lN k ∧ w' (9 * k) = lN L ∧ w' (9 * k + 1) = 0 ∧ w' (9 * k + 2) = lN (lo w z) ∧ w' (9 * k + 3) = ent (lo w z) (nI z) ∧ w' (9 * k + 4) = ent (lo w y) (nI y) ∧ ∀ p, 2 ≤ p → p < 6 → w' (9 * k + 3 + p) = 0
theorem raise_img {M : MM} (h0 : M.2.1 = []) (z y L : Nat) {k : Nat} (hk : 1 ≤ k) :
    (∃ M', raiM M z y L k = .inl M' ∧ endC M M' ∧ ∀ a, a < 9 * k ∨ 9 * k + 9 ≤ a → M'.1 a = M.1 a) ∨ (∃ M', raiM M z y L k = .inr M' ∧ endO M M' ∧ RaW M.1 M'.1 z y L k) := by
  unfold raiM
  rcases make_img h0 k (lN L) 0 (lN (lo M.1 z)) (ent (lo M.1 z) (nI z)) (ent (lo M.1 y) (nI y)) 0 with ⟨M1, g1, g2, g3⟩ | ⟨M1, g1, g2, g4, g3⟩
  · left; rw [g1]; exact ⟨M1, rfl, g3, g2⟩
  · rw [g1]
    simp only
    rcases firm_img g3.1 0 (lN k) with ⟨M2, e, f1, f2⟩ | ⟨M2, e, f1, f2⟩
    · left; rw [e]; exact ⟨M2, rfl, endC.trans g3 f2, fun a ha => by rw [f1]; exact g2 a ha⟩
    · right
      rw [e]
      have hw2 : ∀ a, a ≠ 0 → M2.1 a = M1.1 a := fun a ha => by rw [f1]; unfold vp_updL; rw [if_neg ha]
      refine ⟨M2, rfl, endO.trans g3 f2, ?_, ?_, ?_, ?_, ?_, ?_, ?_, ?_⟩
      · intro a h1 h2; rw [hw2 a h1, g2 a h2]
      · rw [f1]; unfold vp_updL; rw [if_pos rfl]
      · rw [hw2 _ (by omega)]; exact g4.1
      · rw [hw2 _ (by omega)]; exact g4.2.1
      · rw [hw2 _ (by omega)]; exact g4.2.2.1
      · rw [hw2 _ (by omega)]; exact g4.2.2.2.1
      · rw [hw2 _ (by omega)]; exact g4.2.2.2.2.1
      · intro p h1 h2
        rw [hw2 _ (by omega)]
        match p, h1, h2 with
        | 2, _, _ => exact g4.2.2.2.2.2.1
        | 3, _, _ => exact g4.2.2.2.2.2.2.1
        | 4, _, _ => exact g4.2.2.2.2.2.2.2.1
        | 5, _, _ => exact g4.2.2.2.2.2.2.2.2
section Rai
variable {u : SM} {v : SR} {M : MM} {B : List Nat} {z y L k : Nat}
theorem c_raise (h : inC u M) (h0 : M.2.1 = []) (hG : GB M.1 B) (hk : fst B k) (hz : M.1 0 = lN z ∧ z ≤ 30) (hy : y ≤ 30) (hlz : M.1 (9 * z + 2) = lN (lo M.1 z) ∧ lo M.1 z < 1000) (hly : M.1 (9 * y + 2) = lN (lo M.1 y) ∧ lo M.1 y < 1000) (hL : L < 1000) : okC (m_Tree_raise u (nI y) (nI L)) (raiM M z y L k) := by
  have hk1 := hk.1
  have hk2 := hk.2.1
  have mk := c_make h h0 hG hk (nI L) (nI 0) (nI (lo M.1 z)) (ent (lo M.1 z) (nI z)) (ent (lo M.1 y) (nI y)) 0
  rw [nI_l (by omega), nI_l (by omega), nI_l (by omega)] at mk
  have mk' : okV (m_Blocks_make u (nI L) (0 : Int32) (nI (lo M.1 z)) (ent (lo M.1 z) (nI z)) (ent (lo M.1 y) (nI y)) (0 : Int64)) (looseM (mkl k (lN L) 0 (lN (lo M.1 z)) (ent (lo M.1 z) (nI z)) (ent (lo M.1 y) (nI y)) 0) M) (nI k) := mk
  obtain ⟨u1, hu'⟩ := mk'
  unfold m_Tree_raise raiM
  rw [show m_Blocks_blockIn u (0 : Int32) = some (nI z, u) from by rw [nI_lit0, c_blockIn h.1 (by omega), hz.1, blk_lN hz.2], obS, c_low h.1 hz.2, obS, lo_i hlz.1, c_entryOf _ (by omega), obS, c_low h.1 hy, obS, lo_i hly.1, c_entryOf _ (by omega), obS]
  cases ef : looseM (mkl k (lN L) 0 (lN (lo M.1 z)) (ent (lo M.1 z) (nI z)) (ent (lo M.1 y) (nI y)) 0) M with
  | inl M' =>
    rw [ef] at hu'
    exact ⟨u1, by rw [hu'.1, obS, if_pos rfl], hu'.2⟩
  | inr M1 =>
    rw [ef] at hu'
    have hn1 := looseM_nil ef
    obtain ⟨u2, hu2⟩ := c_firm hu'.2 hn1 (a := 0) (by omega) (lN k)
    simp only
    rw [hu'.1, obS, if_neg (by rw [nI_lit0, nI_eq (by omega) (by omega)]; omega), nI_l (by omega)]
    cases ef2 : firmM M1 0 (lN k) with
    | inl M' =>
      rw [ef2] at hu2
      have q : m_Memory_firmStore u1 (0 : Int32) (lN k) = some (0, u2) := hu2.1
      exact ⟨u2, by rw [q, obS, if_pos rfl], hu2.2⟩
    | inr M2 =>
      rw [ef2] at hu2
      have q : m_Memory_firmStore u1 (0 : Int32) (lN k) = some (1, u2) := hu2.1
      exact ⟨u2, by rw [q, obS, if_neg (by decide)], hu2.2⟩
theorem r_entryOf (h : RW v M.1) (hy : y ≤ 30) (hly : M.1 (9 * y + 2) = lN (lo M.1 y) ∧ lo M.1 y < 1000) : m_Ref_entryOf v (nI y) = some (ent (lo M.1 y) (nI y), v) := by
  unfold m_Ref_entryOf
  rw [r_low h hy, obS, lo_i hly.1, r_entry _ (by omega), obS]
/-- the new root, in the words of the reference -/
theorem r_raise (h : inR v M 0) (h0 : M.2.1 = []) (hG : GB M.1 B) (hk : fst B k) (hL : L < 1000) (hlz : lo M.1 z < 1000) : okR (ob (m_Ref_make v (nI L) (0 : Int32) (nI (lo M.1 z)) (ent (lo M.1 z) (nI z)) (ent (lo M.1 y) (nI y)) (0 : Int64)) (fun r53 u54 => m_Ref_firm u54 (0 : Int32) (r53.toInt64))) (raiM M z y L k) := by
  have hk1 := hk.1
  have hk2 := hk.2.1
  have mk := r_make h h0 hG hk (nI L) (nI 0) (nI (lo M.1 z)) (ent (lo M.1 z) (nI z)) (ent (lo M.1 y) (nI y)) 0
  rw [nI_l (by omega), nI_l (by omega), nI_l (by omega)] at mk
  obtain ⟨v1, hv1, hv⟩ := mk
  have hv1' : m_Ref_make v (nI L) (0 : Int32) (nI (lo M.1 z)) (ent (lo M.1 z) (nI z)) (ent (lo M.1 y) (nI y)) (0 : Int64) = some (nI k, v1) := hv1
  have hv' : match looseM (mkl k (lN L) 0 (lN (lo M.1 z)) (ent (lo M.1 z) (nI z)) (ent (lo M.1 y) (nI y)) 0) M with
    | .inl M => inR v1 M 1
    | .inr M => inR v1 M 0 := hv
  unfold raiM
  rw [hv1', obS, nI_l (by omega)]
  cases ef : looseM (mkl k (lN L) 0 (lN (lo M.1 z)) (ent (lo M.1 z) (nI z)) (ent (lo M.1 y) (nI y)) 0) M with
  | inl M' =>
    rw [ef] at hv'
    obtain ⟨v2, q1, q2⟩ := r_firm_brk hv' (looseM_cut_nil ef) (0 : Int32) (lN k)
    exact ⟨v2, q1, q2⟩
  | inr M1 =>
    rw [ef] at hv'
    exact r_firm hv' (looseM_nil ef) (a := 0) (by omega) (lN k)
end Rai
/-! the shape behind it -/
theorem lvc_app {cs : List (List Nat)} {c : List Nat} (M : Nat) : lvc (cs ++ [c]) M = if M < cs.length then lvc cs M else if M = cs.length then c else [] := by
  unfold lvc
  rw [List.getD_eq_getElem?_getD, List.getD_eq_getElem?_getD]
  by_cases h : M < cs.length
  · rw [if_pos h, List.getElem?_append_left h]
  · rw [if_neg h, List.getElem?_append_right (by omega)]
    by_cases e : M = cs.length
    · rw [if_pos e, e]; simp
    · rw [if_neg e, List.getElem?_eq_none (by simp; omega)]; rfl
section RaiEv
variable {w w' : Mem} {cs : List (List Nat)} {hs : Nat → List Nat} {y k : Nat}
theorem RaW.sb {z L : Nat} (R : RaW w w' z y L k) {b : Nat} (h1 : 1 ≤ b) (h : b ≠ k) : sb w w' b := fun i hi => R.1 _ (by omega) (by omega)
theorem rai_base (Bs : Base w cs hs) (hne : cs ≠ []) (hk : fst (bls cs hs) k) (hy : y ∈ lvc cs (cs.length - 1)) (hly : lo w y ≠ 0) (R : RaW w w' (rootOf cs) y cs.length k) :
    Base w' (cs ++ [[k]]) hs ∧ frN (bls (cs ++ [[k]]) hs) + 1 = frN (bls cs hs) ∧ (∀ b ∈ cs.flatten, sb w w' b) ∧ clean w' k ∧ lo w' k = 0 ∧ ∀ j, ksB w' k j = true ↔ j = 0 ∨ j = lo w y := by
  obtain ⟨T, t2, hc1, hr1, hn⟩ := Bs
  obtain ⟨r, er, er0, er30, er1⟩ := T.top hne
  have hkn : k ∉ cs.flatten := fun q => hk.2.2.1 (List.mem_append_left _ q)
  have hk1 := hk.1
  have hk2 := hk.2.1
  have hcl := T.hgt
  have h0len : 0 < cs.length := List.length_pos_iff.mpr hne
  have hsb : ∀ b ∈ cs.flatten, sb w w' b := fun b hb => R.sb (T.rng hb).1 (fun e => hkn (by rw [← e]; exact hb))
  have hlo : ∀ {M b}, b ∈ lvc cs M → lo w' b = lo w b := fun hb => (hsb _ (lvc_flat hb)).lo
  have hy1000 := T.lo1000 hy
  have hzm : rootOf cs ∈ lvc cs (cs.length - 1) := by rw [er]; exact List.mem_cons_self
  obtain ⟨R1, R2, R3, R4, R5, R6, R7, R8⟩ := R
  have lk : lo w' k = 0 := by unfold lo; rw [R5, lN_i, er0]; rfl
  have rk : rl w' k = 2 := by
    apply rl_eq (by omega)
    · intro q hq
      match q, hq with
      | 0, _ => rw [show 9 * k + 3 + 0 = 9 * k + 3 from rfl, R6]; exact ent_ne _ (by omega)
      | 1, _ => rw [show 9 * k + 3 + 1 = 9 * k + 4 from rfl, R7]; exact ent_ne _ (by omega)
    · intro _; exact R8 2 (by omega) (by omega)
  have kp0 : kp w' k 0 = 0 := by unfold kp; rw [show 9 * k + 3 + 0 = 9 * k + 3 from rfl, R6, kN_ent _ (by omega), er0]
  have kp1 : kp w' k 1 = lo w y := by unfold kp; rw [show 9 * k + 3 + 1 = 9 * k + 4 from rfl, R7, kN_ent _ (by omega)]
  have ubk : ubd w' k = 1000 := by unfold ubd nxN; rw [R4, if_pos (by decide)]
  have lv1 : ∀ M, M < cs.length → lvc (cs ++ [[k]]) M = lvc cs M := fun M hM => by rw [lvc_app, if_pos hM]
  have lv2 : lvc (cs ++ [[k]]) cs.length = [k] := by rw [lvc_app, if_neg (by omega), if_pos rfl]
  have T' : TS w' (cs ++ [[k]]) := by
    refine ⟨?_, ?_, ?_, ?_, ?_, ?_⟩
    · intro M hM
      simp only [List.length_append, List.length_cons, List.length_nil] at hM
      by_cases q : M < cs.length
      · rw [lv1 M q]
        refine ⟨(T.1 M q).1.congr (fun b hb => hsb b (lvc_flat hb)), ?_⟩
        obtain ⟨b, r', e, e0⟩ := (T.1 M q).2
        exact ⟨b, r', e, by rw [hlo (M := M) (by rw [e]; exact List.mem_cons_self)]; exact e0⟩
      · have hMe : M = cs.length := by omega
        subst hMe
        rw [lv2]
        exact ⟨⟨⟨hk1, hk2⟩, R3, by rw [R4]; rfl, ⟨by rw [lk, R5, er0], by omega⟩, (fun c hc => by cases hc), trivial⟩, k, [], rfl, lk⟩
    · intro M hM b hb
      simp only [List.length_append, List.length_cons, List.length_nil] at hM
      by_cases q : M + 1 < cs.length
      · rw [lv1 (M + 1) q] at hb
        rw [lv1 M (by omega)]
        exact (T.2.1 M q b hb).congr (fun x hx => hlo hx) (hsb b (lvc_flat hb))
      · have hMe : M + 1 = cs.length := by omega
        rw [hMe, lv2] at hb
        have hbk : b = k := List.mem_singleton.mp hb
        subst hbk
        rw [lv1 M (by omega)]
        have hMl : M = cs.length - 1 := by omega
        refine ⟨by rw [rk]; omega, by rw [kp0, lk], ?_⟩
        intro p hp
        match p, hp with
        | 0, _ => right; exact ⟨rootOf cs, by rw [hMl]; exact hzm, by rw [hlo hzm]; exact R6, by rw [lk]; exact Nat.zero_le _⟩
        | 1, _ => right; exact ⟨y, by rw [hMl]; exact hy, by rw [hlo hy]; exact R7, by rw [lk]; exact Nat.zero_le _⟩
        | p + 2, hp => left; exact R8 (p + 2) (by omega) hp
    · intro b hb
      rw [lv1 0 h0len] at hb
      exact (T.2.2.1 b hb).congr (hsb b (lvc_flat hb))
    · rw [List.flatten_append]
      refine List.nodup_append.mpr ⟨T.2.2.2.1, by simp, ?_⟩
      intro a ha b hb e
      have : b = k := by simpa using hb
      subst this; subst e; exact hkn ha
    · have : rootOf (cs ++ [[k]]) = k := by
        unfold rootOf
        rw [List.length_append, show [[k]].length = 1 from rfl, show cs.length + 1 - 1 = cs.length by omega, lv2]; rfl
      rw [this]; exact R2
    · intro M hM b hb
      simp only [List.length_append, List.length_cons, List.length_nil] at hM
      by_cases q : M < cs.length
      · rw [lv1 M q] at hb
        exact (T.2.2.2.2.2 M q b hb).congr (hsb b (lvc_flat hb))
      · have hMe : M = cs.length := by omega
        subst hMe
        rw [lv2] at hb
        have hbk : b = k := List.mem_singleton.mp hb
        subst hbk
        intro p hp
        rw [rk] at hp
        have hp0 : p = 0 := by omega
        subst hp0
        rw [kp0]; exact Nat.zero_le _
  have hflat : ∀ b, b ∈ (cs ++ [[k]]).flatten ↔ b ∈ cs.flatten ∨ b = k := fun b => by rw [List.flatten_append]; simp
  have hH : ∀ b ∈ hsA hs, sb w w' b := fun b hb => by
    obtain ⟨h, h1, h2, hbh⟩ := hsA_mem.mp hb
    exact (fun i hi => R1 _ (by have := ((hc1 h h1 h2).2.mem b hbh).1; omega) (by have : b ≠ k := fun e => hk.2.2.1 (by rw [← e]; exact List.mem_append_right _ hb); omega))
  refine ⟨⟨T', ?_, hc1.congr (fun a h1 h2 => R1 a (by omega) (by omega)) hH, hr1.congr hH, bls_nd hn T'.2.2.2.1 hflat hk.2.2.1⟩, frN_add (bls_add hflat) ⟨hk1, hk2⟩ hk.2.2.1, hsb, ⟨?_, ?_, ?_⟩, lk, ?_⟩
  · intro M hM
    simp only [List.length_append, List.length_cons, List.length_nil] at hM
    rw [lv1 M (by omega)]
    by_cases q : M + 1 < cs.length
    · exact t2 M q
    · have hMl : M = cs.length - 1 := by omega
      subst hMl
      rw [er] at hy ⊢
      rcases List.mem_cons.mp hy with z | z
      · rw [z] at hly; exact absurd er0 hly
      · have : 0 < r.length := List.length_pos_iff.mpr (fun e => by rw [e] at z; cases z)
        simp; omega
  · intro p hp
    rw [rk] at hp
    have hp0 : p = 0 := by omega
    subst hp0
    rw [kp0, kp1]; omega
  · intro p hp
    rw [rk] at hp
    rw [ubk]
    match p, hp with
    | 0, _ => rw [kp0]; omega
    | 1, _ => rw [kp1]; exact hy1000
  · intro p h1 h2
    rw [rk] at h1
    exact R8 p h1 h2
  · intro j
    rw [ksB_iff, ubk, rk]
    constructor
    · rintro ⟨-, p, hp, e⟩
      match p, hp with
      | 0, _ => left; rw [kp0] at e; exact e.symm
      | 1, _ => right; rw [kp1] at e; exact e.symm
    · rintro (q | q)
      · exact ⟨by omega, 0, by omega, by rw [kp0, q]⟩
      · exact ⟨by omega, 1, by omega, by rw [kp1, q]⟩
end RaiEv
