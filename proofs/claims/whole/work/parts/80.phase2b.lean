/-! PURE: recovery, the second phase: the loops -/
def hgC (hs : Nat → List Nat) (l : Nat) : List Nat → MM → List (List Nat) → MM ⊕ (MM × List (List Nat))
  | [], M, cs => .inr (M, cs)
  | b :: r, M, cs => if hungB M.1 cs l b = true then hgC hs l r M cs else match hangM hs 40 M cs b (l + 1) with
    | .inl M' => .inl M'
    | .inr q => hgC hs l r q.1 q.2
def hgA (hs : Nat → List Nat) : Nat → Nat → MM → List (List Nat) → MM ⊕ (MM × List (List Nat))
  | 0, _, M, cs => .inr (M, cs)
  | n + 1, l, M, cs => if cs.length ≤ l then .inr (M, cs) else match hgC hs l (lvc cs l).tail M cs with
    | .inl M' => .inl M'
    | .inr q => hgA hs n (l + 1) q.1 q.2
def okL (f : Option ((Int32 × SM) ⊕ SM)) (o : MM ⊕ (MM × List (List Nat))) : Prop := ∃ u1, match o with
  | .inl M' => f = some (.inl (0, u1)) ∧ inC u1 M'
  | .inr q => f = some (.inr u1) ∧ inC u1 q.1
def okM (f : Option ((Unit × SR) ⊕ SR)) (cd : Int32) (o : MM ⊕ (MM × List (List Nat))) : Prop := ∃ v1, f = some (.inr v1) ∧ rg_cd v1 = cd ∧ match o with
  | .inl M' => inR v1 M' 1
  | .inr q => inR v1 q.1 0
def CP (M : MM) (cs : List (List Nat)) (hs : Nat → List Nat) (l : Nat) : MM ⊕ (MM × List (List Nat)) → Prop
  | .inl M' => endC M M' ∧ ∃ cs', Dn M' cs' hs
  | .inr q => endO M q.1 ∧ Base q.1.1 q.2 hs ∧ allClean q.1.1 q.2 ∧ DI q.1.1 q.2 (frN (bls q.2 hs)) ∧ lvc q.2 l = lvc cs l ∧ (∀ l' z, l' ≤ l → ¬ stray q.1.1 q.2 l' z) ∧ cs.length ≤ q.2.length
section P2
variable {hs : Nat → List Nat} {l : Nat}
theorem hgC_all : ∀ (r : List Nat) (M : MM) (cs : List (List Nat)) (a : Nat) (pre : List Nat), Base M.1 cs hs → allClean M.1 cs → DI M.1 cs (frN (bls cs hs)) → M.2.1 = [] → lvc cs l = a :: pre ++ r → (∀ l' z, l' < l → ¬ stray M.1 cs l' z) → (∀ z, stray M.1 cs l z → z ∈ r) →
    CP M cs hs l (hgC hs l r M cs) ∧ (∀ cn n u, cn + r.length ≤ 30 → 31 ≤ cn + n → inC u M → okL (m_Tree_hangStrays_L31 n u (nI (r.headD 0)) (nI cn) (nI l)) (hgC hs l r M cs)) ∧ (∀ n v, r.length < n → inR v M 0 → okM (m_Ref_repair_L89 n v (nI (r.headD 0)) (nI l)) (rg_cd v) (hgC hs l r M cs)) := by
  intro r
  induction r with
  | nil =>
    intro M cs a pre Bs hcl D h0 e hlow hst
    refine ⟨⟨endO.rf h0, Bs, hcl, D, rfl, fun l' z hl' hz => ?_, Nat.le_refl _⟩, fun cn n u hc hn hu => ?_, fun n v hn hv => ?_⟩
    · rcases Nat.lt_or_ge l' l with y | y
      · exact hlow l' z y hz
      · have : l' = l := by omega
        rw [this] at hz
        exact absurd (hst z hz) (by simp)
    · obtain ⟨n, rfl⟩ : ∃ e, n = e + 1 := ⟨n - 1, by omega⟩
      refine ⟨u, ?_, hu⟩
      rw [m_Tree_hangStrays_L31]
      by_cases c : (30 : Int32) ≤ nI cn
      · rw [if_pos c]
      · rw [if_neg c, if_pos (show nI (([] : List Nat).headD 0) = 0 from rfl)]
    · obtain ⟨n, rfl⟩ : ∃ e, n = e + 1 := ⟨n - 1, by omega⟩
      exact ⟨v, by rw [m_Ref_repair_L89, if_pos (show nI (([] : List Nat).headD 0) = 0 from rfl)], rfl, hv⟩
  | cons b r ih =>
    intro M cs a pre Bs hcl D h0 e hlow hst
    have T := Bs.1
    have hb : b ∈ lvc cs l := by rw [e]; simp
    have hl := lvc_in hb
    have h30 := T.hgt
    have hr := ((T.1 l hl).1.mem b hb).1
    have hlo : lo M.1 b ≠ 0 := by
      have ht := (T.1 l hl).1
      rw [e] at ht
      have ht2 : tch M.1 l (a :: (pre ++ b :: r)) := ht
      have := ht2.2.2.2.2.1 b (by simp)
      omega
    have e' : lvc cs l = a :: (pre ++ [b]) ++ r := by rw [e]; simp
    have e2 : lvc cs l = (a :: pre) ++ b :: r := e
    rw [hgC]
    by_cases hh : hungB M.1 cs l b = true
    · rw [if_pos hh]
      have hns : ¬ stray M.1 cs l b := fun q => by
        have := (hung_iff T hcl hb hlo).mpr q
        rw [hh] at this; cases this
      obtain ⟨i1, i2, i3⟩ := ih M cs a (pre ++ [b]) Bs hcl D h0 e' hlow (fun z hz => by
        rcases List.mem_cons.mp (hst z hz) with y | y
        · rw [y] at hz; exact absurd hz hns
        · exact y)
      refine ⟨i1, fun cn n u hc hn hu => ?_, fun n v hn hv => ?_⟩
      · rw [List.length_cons] at hc
        obtain ⟨n, rfl⟩ : ∃ e, n = e + 1 := ⟨n - 1, by omega⟩
        have := i2 (cn + 1) n u (by omega) (by omega) hu
        have hun : m_Tree_hangStrays_L31 (n + 1) u (nI ((b :: r).headD 0)) (nI cn) (nI l) = m_Tree_hangStrays_L31 n u (nI (r.headD 0)) (nI (cn + 1)) (nI l) := by
          rw [m_Tree_hangStrays_L31, if_neg (by rw [show (30 : Int32) = nI 30 from rfl]; exact nI_ge (by omega) (by omega)), if_neg (show ¬ nI ((b :: r).headD 0) = 0 from nI_ne0 hr.1 (Nat.lt_of_le_of_lt hr.2 (by omega))), a1, show m_Tree_isHung u (nI ((b :: r).headD 0)) (nI (l + 1)) = some (if hungB M.1 cs l b = true then 1 else 0, u) from c_isHung T hu.1 hb, obS, if_pos hh, if_neg (by decide), show m_Blocks_nextOf u (nI ((b :: r).headD 0)) = some (nI (nxN M.1 b), u) from c_next' T hu.1 hb, obS, nx_tail T e2, a1]
        rw [hun]; exact this
      · rw [List.length_cons] at hn
        obtain ⟨n, rfl⟩ : ∃ e, n = e + 1 := ⟨n - 1, by omega⟩
        have := i3 n v (by omega) hv
        have hun : m_Ref_repair_L89 (n + 1) v (nI ((b :: r).headD 0)) (nI l) = m_Ref_repair_L89 n v (nI (r.headD 0)) (nI l) := by
          rw [m_Ref_repair_L89, if_neg (show ¬ nI ((b :: r).headD 0) = 0 from nI_ne0 hr.1 (Nat.lt_of_le_of_lt hr.2 (by omega))), if_pos hv.b1, a1, show m_Ref_isValue v (nI ((b :: r).headD 0)) (nI (l + 1)) = some (if hungB M.1 cs l b = true then 1 else 0, v) from r_isValue T hv.1 hb, obS, if_pos hh, if_neg (by decide), show m_Ref_next v (nI ((b :: r).headD 0)) = some (nI (nxN M.1 b), v) from r_next2 T hv.1 hb, obS, nx_tail T e2]
        rw [hun]; exact this
    · rw [if_neg hh]
      have hsb : stray M.1 cs l b := (hung_iff T hcl hb hlo).mp (by simpa using hh)
      obtain ⟨g1, g2, g3⟩ := hg_all (L := l + 1) (y := b) Bs hcl D h0 (by omega) hsb
      have cun : ∀ n u cn, cn < 30 → inC u M → m_Tree_hangStrays_L31 (n + 1) u (nI ((b :: r).headD 0)) (nI cn) (nI l) = ob (m_Tree_hang 40 u (nI b) (nI (l + 1))) (fun r9 u10 => if r9 = 0 then (some (.inl ((0 : Int32), u10))) else (ob (m_Blocks_nextOf u10 (nI b)) (fun r13 u14 => m_Tree_hangStrays_L31 n u14 r13 (nI (cn + 1)) (nI l)))) := fun n u cn hc hu => by
        rw [m_Tree_hangStrays_L31, if_neg (by rw [show (30 : Int32) = nI 30 from rfl]; exact nI_ge (by omega) (by omega)), if_neg (show ¬ nI ((b :: r).headD 0) = 0 from nI_ne0 hr.1 (Nat.lt_of_le_of_lt hr.2 (by omega))), a1, a1, show m_Tree_isHung u (nI ((b :: r).headD 0)) (nI (l + 1)) = some (if hungB M.1 cs l b = true then 1 else 0, u) from c_isHung T hu.1 hb, obS, if_neg hh, if_pos rfl]; rfl
      have run : ∀ n v, inR v M 0 → m_Ref_repair_L89 (n + 1) v (nI ((b :: r).headD 0)) (nI l) = ob (m_Ref_hang v (nI b) (nI (l + 1))) (fun _ u18 => ob (m_Ref_next u18 (nI b)) (fun r21 u22 => m_Ref_repair_L89 n u22 r21 (nI l))) := fun n v hv => by
        rw [m_Ref_repair_L89, if_neg (show ¬ nI ((b :: r).headD 0) = 0 from nI_ne0 hr.1 (Nat.lt_of_le_of_lt hr.2 (by omega))), if_pos hv.b1, a1, show m_Ref_isValue v (nI ((b :: r).headD 0)) (nI (l + 1)) = some (if hungB M.1 cs l b = true then 1 else 0, v) from r_isValue T hv.1 hb, obS, if_neg hh, if_pos rfl]; rfl
      cases eh : hangM hs 40 M cs b (l + 1) with
      | inl M' =>
        rw [eh] at g1
        obtain ⟨p1, cs', p2, p3⟩ := g1
        refine ⟨⟨p1, cs', p2, p3, p1.1⟩, fun cn n u hc hn hu => ?_, fun n v hn hv => ?_⟩
        · rw [List.length_cons] at hc
          obtain ⟨n, rfl⟩ : ∃ e, n = e + 1 := ⟨n - 1, by omega⟩
          obtain ⟨u1, hu1⟩ := g2 u hu
          rw [eh] at hu1
          rw [cun n u cn (by omega) hu, hu1.1, obS, if_pos rfl]
          exact ⟨u1, rfl, hu1.2⟩
        · rw [List.length_cons] at hn
          obtain ⟨n, rfl⟩ : ∃ e, n = e + 1 := ⟨n - 1, by omega⟩
          obtain ⟨n, rfl⟩ : ∃ e, n = e + 1 := ⟨n - 1, by omega⟩
          obtain ⟨v1, w1, w2, w3⟩ := g3 v hv
          rw [eh] at w3
          have w3' : inR v1 M' 1 := w3
          rw [run _ v hv, w1, obS, r_next w3'.1 hr.2, obS]
          refine ⟨v1, ?_, w2, w3'⟩
          rw [m_Ref_repair_L89]
          by_cases c : (M'.1 (9 * b + 1)).toInt32 = 0
          · rw [if_pos c]
          · rw [if_neg c, if_neg (by rw [w3'.b1]; decide)]
      | inr q =>
        rw [eh] at g1
        obtain ⟨M2, cs2⟩ := q
        obtain ⟨p1, p2, p3, p4, p5, p6, p7⟩ := g1
        simp only at p1 p2 p3 p4 p5 p6 p7 ⊢
        have hlv := p6 l (by omega)
        have hnone : ∀ l' z, l' ≤ l → ¬ stray M2.1 cs2 l' z := fun l' z hl' hz => by
          obtain ⟨z1, z2⟩ := p5 l' z (by omega) hz
          exact hlow l' z (by omega) z1
        have hb2 : b ∈ lvc cs2 l := by rw [hlv]; exact hb
        obtain ⟨i1, i2, i3⟩ := ih M2 cs2 a (pre ++ [b]) p2 p3 p4 p1.1 (by rw [hlv]; exact e') (fun l' z hl' => hnone l' z (by omega)) (fun z hz => absurd hz (hnone l z (Nat.le_refl _)))
        refine ⟨?_, fun cn n u hc hn hu => ?_, fun n v hn hv => ?_⟩
        · cases ec : hgC hs l r M2 cs2 with
          | inl M3 => rw [ec] at i1; exact ⟨endC.trans p1 i1.1, i1.2⟩
          | inr q3 =>
            rw [ec] at i1
            obtain ⟨j1, j2, j3, j4, j5, j6, j7⟩ := i1
            exact ⟨endO.trans p1 j1, j2, j3, j4, by rw [j5, hlv], j6, by omega⟩
        · rw [List.length_cons] at hc
          obtain ⟨n, rfl⟩ : ∃ e, n = e + 1 := ⟨n - 1, by omega⟩
          obtain ⟨u1, hu1⟩ := g2 u hu
          rw [eh] at hu1
          rw [cun n u cn (by omega) hu, hu1.1, obS, if_neg (by decide), c_next' p2.1 hu1.2.1 hb2, obS, nx_tail p2.1 (by rw [hlv]; exact e2)]
          exact i2 (cn + 1) n u1 (by omega) (by omega) hu1.2
        · rw [List.length_cons] at hn
          obtain ⟨n, rfl⟩ : ∃ e, n = e + 1 := ⟨n - 1, by omega⟩
          obtain ⟨v1, w1, w2, w3⟩ := g3 v hv
          rw [eh] at w3
          have w3' : inR v1 M2 0 := w3
          rw [run n v hv, w1, obS, r_next2 p2.1 w3'.1 hb2, obS, nx_tail p2.1 (by rw [hlv]; exact e2)]
          obtain ⟨v2, y1, y2, y3⟩ := i3 n v1 (by omega) w3'
          exact ⟨v2, y1, y2.trans w2, y3⟩
end P2
def AP (M : MM) (hs : Nat → List Nat) : MM ⊕ (MM × List (List Nat)) → Prop
  | .inl M' => endC M M' ∧ ∃ cs', Dn M' cs' hs
  | .inr q => endO M q.1 ∧ Up q.1 q.2 hs
section P3
variable {hs : Nat → List Nat}
theorem hgA_all : ∀ (n l : Nat) (M : MM) (cs : List (List Nat)), 16 ≤ l + n → 0 < n → l ≤ 15 → 0 < cs.length → Base M.1 cs hs → allClean M.1 cs → DI M.1 cs (frN (bls cs hs)) → M.2.1 = [] → (∀ l' z, l' < l → ¬ stray M.1 cs l' z) →
    AP M hs (hgA hs n l M cs) ∧ (∀ m u, 17 ≤ l + m → inC u M → okL (m_Tree_hangStrays_L2 m u (nI l)) (hgA hs n l M cs)) ∧ (∀ m v, 18 ≤ l + m → inR v M 0 → okM (m_Ref_repair_L60 m v (nI l)) (rg_cd v) (hgA hs n l M cs)) := by
  intro n
  induction n with
  | zero => intro l M cs _ h; omega
  | succ n ih =>
    intro l M cs hln _ hl15 hL Bs hcl D h0 hlow
    have T := Bs.1
    have h15 := T.h15 Bs.2.1
    have hne : cs ≠ [] := fun e => by rw [e] at hL; simp at hL
    rw [hgA]
    by_cases eL : cs.length ≤ l
    · rw [if_pos eL]
      refine ⟨⟨endO.rf h0, Bs, hcl, fun l' z hz => hlow l' z (by have : l' < cs.length := lvc_in hz.1; omega) hz, h0⟩, fun m u hm hu => ?_, fun m v hm hv => ?_⟩
      · obtain ⟨m, rfl⟩ : ∃ e, m = e + 1 := ⟨m - 1, by omega⟩
        refine ⟨u, ?_, hu⟩
        rw [m_Tree_hangStrays_L2, if_neg (by rw [show (30 : Int32) = nI 30 from rfl]; exact nI_ge (by omega) (by omega)), c_top T hu.1 hne, obS, if_pos (nI_lt (by omega) (by omega))]
      · obtain ⟨m, rfl⟩ : ∃ e, m = e + 1 := ⟨m - 1, by omega⟩
        obtain ⟨t1, t2⟩ := r_top T hv.1 hL
        exact ⟨v, by rw [m_Ref_repair_L60, t1, obS, t2, obS, if_pos (nI_lt (by omega) (by omega))], rfl, hv⟩
    · rw [if_neg eL]
      have hll : l < cs.length := by omega
      obtain ⟨a, r, ea, ea0⟩ := (T.1 l hll).2
      have ham : a ∈ lvc cs l := by rw [ea]; exact List.mem_cons_self
      have har := ((T.1 l hll).1.mem a ham).1
      have hnd : (lvc cs l).length ≤ 30 := nd_le 30 _ (nd_part T.2.2.2.1) (fun x hx => T.rng (lvc_flat hx))
      have htl : (lvc cs l).tail = r := by rw [ea]; rfl
      have hhd : (lvc cs l).headD 0 = a := by rw [ea]; rfl
      rw [ea, List.length_cons] at hnd
      rw [htl]
      obtain ⟨i1, i2, i3⟩ := hgC_all (l := l) r M cs a [] Bs hcl D h0 (by rw [ea]; rfl) hlow (fun z hz => by
        have := hz.1
        rw [ea] at this
        rcases List.mem_cons.mp this with y | y
        · exact absurd (by rw [y]; exact ea0) hz.2.1
        · exact y)
      have cun : ∀ m u, inC u M → m_Tree_hangStrays_L2 (m + 1) u (nI l) = ol0 (m_Tree_hangStrays_L31 fz u (nI (r.headD 0)) (0 : Int32) (nI l)) Sum.inl (fun u29 => m_Tree_hangStrays_L2 m u29 (nI (l + 1))) := fun m u hu => by
        rw [m_Tree_hangStrays_L2, if_neg (by rw [show (30 : Int32) = nI 30 from rfl]; exact nI_ge (by omega) (by omega)), c_top T hu.1 hne, obS, if_neg (nI_nlt (by omega) (by omega)), c_firstOf T hu.1 hll, obS, hhd, c_next' T hu.1 ham, obS, nx_tail (pre := []) T ea, a1]
      have run : ∀ m v, inR v M 0 → m_Ref_repair_L60 (m + 1) v (nI l) = ol0 (m_Ref_repair_L89 fz v (nI (r.headD 0)) (nI l)) Sum.inl (fun u54 => m_Ref_repair_L60 m u54 (nI (l + 1))) := fun m v hv => by
        obtain ⟨t1, t2⟩ := r_top T hv.1 hL
        rw [m_Ref_repair_L60, t1, obS, t2, obS, if_neg (nI_nlt (by omega) (by omega)), if_pos hv.b1, r_firstAt T hv.1 hll, obS, hhd, r_next2 T hv.1 ham, obS, nx_tail (pre := []) T ea, a1]
      cases eh : hgC hs l r M cs with
      | inl M' =>
        rw [eh] at i1
        refine ⟨i1, fun m u hm hu => ?_, fun m v hm hv => ?_⟩
        · obtain ⟨m, rfl⟩ : ∃ e, m = e + 1 := ⟨m - 1, by omega⟩
          obtain ⟨u1, hu1⟩ := i2 0 fz u (by omega) (by unfold fz; omega) hu
          rw [eh] at hu1
          rw [cun m u hu, show m_Tree_hangStrays_L31 fz u (nI (r.headD 0)) (0 : Int32) (nI l) = some (.inl (0, u1)) from hu1.1]
          exact ⟨u1, rfl, hu1.2⟩
        · obtain ⟨m, rfl⟩ : ∃ e, m = e + 1 := ⟨m - 1, by omega⟩
          obtain ⟨m, rfl⟩ : ∃ e, m = e + 1 := ⟨m - 1, by omega⟩
          obtain ⟨v1, w1, w2, w3⟩ := i3 fz v (by unfold fz; omega) hv
          rw [eh] at w3
          have w3' : inR v1 M' 1 := w3
          rw [run _ v hv, w1, ol0R]
          obtain ⟨-, cs', B', -, -⟩ := i1
          have hrt : ∃ z, z ≤ 30 ∧ M'.1 0 = lN z := by
            by_cases q : cs' = []
            · exact ⟨0, by omega, by rw [B'.1.2.2.2.2.1, q]; rfl⟩
            · obtain ⟨r2, -, -, r4, -⟩ := B'.1.top q
              exact ⟨rootOf cs', r4, B'.1.2.2.2.2.1⟩
          obtain ⟨z, z1, z2⟩ := hrt
          refine ⟨v1, ?_, w2, w3'⟩
          rw [m_Ref_repair_L60, r_root w3'.1, obS, z2, lN_i, r_level w3'.1 z1, obS]
          by_cases c : (M'.1 (9 * z)).toInt32 < nI (l + 1)
          · rw [if_pos c]
          · rw [if_neg c, if_neg (by rw [w3'.b1]; decide)]
      | inr q =>
        rw [eh] at i1
        obtain ⟨M2, cs2⟩ := q
        obtain ⟨j1, j2, j3, j4, j5, j6, j7⟩ := i1
        simp only at j1 j2 j3 j4 j5 j6 j7 ⊢
        have h15' := j2.1.h15 j2.2.1
        obtain ⟨k1, k2, k3⟩ := ih (l + 1) M2 cs2 (by omega) (by omega) (by omega) (by omega) j2 j3 j4 j1.1 (fun l' z hl' => j6 l' z (by omega))
        refine ⟨?_, fun m u hm hu => ?_, fun m v hm hv => ?_⟩
        · cases ec : hgA hs n (l + 1) M2 cs2 with
          | inl M3 => rw [ec] at k1; exact ⟨endC.trans j1 k1.1, k1.2⟩
          | inr q3 => rw [ec] at k1; exact ⟨endO.trans j1 k1.1, k1.2⟩
        · obtain ⟨m, rfl⟩ : ∃ e, m = e + 1 := ⟨m - 1, by omega⟩
          obtain ⟨u1, hu1⟩ := i2 0 fz u (by omega) (by unfold fz; omega) hu
          rw [eh] at hu1
          rw [cun m u hu, show m_Tree_hangStrays_L31 fz u (nI (r.headD 0)) (0 : Int32) (nI l) = some (.inr u1) from hu1.1, ol0R]
          exact k2 m u1 (by omega) hu1.2
        · obtain ⟨m, rfl⟩ : ∃ e, m = e + 1 := ⟨m - 1, by omega⟩
          obtain ⟨v1, w1, w2, w3⟩ := i3 fz v (by unfold fz; omega) hv
          rw [eh] at w3
          have w3' : inR v1 M2 0 := w3
          rw [run m v hv, w1, ol0R]
          obtain ⟨v2, y1, y2, y3⟩ := k3 m v1 (by omega) w3'
          exact ⟨v2, y1, y2.trans w2, y3⟩
end P3
