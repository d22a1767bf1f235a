/-! PURE: how the shape lives on through a split -/
def insA (x k : Nat) : List Nat → List Nat
  | [] => []
  | b :: r => if b = x then b :: k :: r else b :: insA x k r
theorem insA_eq {x k : Nat} : ∀ (p r : List Nat), x ∉ p → insA x k (p ++ x :: r) = p ++ x :: k :: r := by
  intro p
  induction p with
  | nil => intro r _; show insA x k (x :: r) = _; rw [insA, if_pos rfl]; rfl
  | cons a p ih =>
    intro r h
    show insA x k (a :: (p ++ x :: r)) = _
    rw [insA, if_neg (fun e => h (by rw [e]; exact List.mem_cons_self)), ih r (fun q => h (List.mem_cons_of_mem _ q))]
    rfl
def csI (cs : List (List Nat)) (L x k : Nat) : List (List Nat) := cs.set L (insA x k (lvc cs L))
theorem lvc_set {cs : List (List Nat)} {L M : Nat} {c : List Nat} (hL : L < cs.length) : lvc (cs.set L c) M = if M = L then c else lvc cs M := by
  unfold lvc
  rw [List.getD_eq_getElem?_getD, List.getD_eq_getElem?_getD, List.getElem?_set]
  by_cases e : M = L
  · subst e; rw [if_pos rfl, if_pos rfl, if_pos hL]; rfl
  · rw [if_neg (fun q => e q.symm), if_neg e]
theorem csI_len (cs : List (List Nat)) (L x k : Nat) : (csI cs L x k).length = cs.length := by unfold csI; simp
theorem set_mem {L : Nat} {c : List Nat} : ∀ {cs : List (List Nat)} {b : Nat}, b ∈ (cs.set L c).flatten → b ∈ c ∨ b ∈ cs.flatten := by
  induction L with
  | zero =>
    intro cs b h
    cases cs with
    | nil => exact Or.inr h
    | cons a cs =>
      have h' : b ∈ c ++ cs.flatten := h
      rcases List.mem_append.mp h' with q | q
      · exact Or.inl q
      · exact Or.inr (List.mem_append_right _ q)
  | succ L ih =>
    intro cs b h
    cases cs with
    | nil => exact Or.inr h
    | cons a cs =>
      have h' : b ∈ a ++ (cs.set L c).flatten := h
      rcases List.mem_append.mp h' with q | q
      · exact Or.inr (List.mem_append_left _ q)
      · rcases ih q with z | z
        · exact Or.inl z
        · exact Or.inr (List.mem_append_right _ z)
theorem set_nd {k : Nat} {c : List Nat} : ∀ (cs : List (List Nat)) (L : Nat), L < cs.length → cs.flatten.Nodup → c.Nodup → (∀ b ∈ c, b ∈ lvc cs L ∨ b = k) → k ∉ cs.flatten → (cs.set L c).flatten.Nodup := by
  intro cs
  induction cs with
  | nil => intro L h; simp at h
  | cons a cs ih =>
    intro L hL hn hc hb hk
    have hn' := List.nodup_append.mp (show (a ++ cs.flatten).Nodup from hn)
    have hk' : k ∉ a ∧ k ∉ cs.flatten := ⟨fun q => hk (List.mem_append_left _ q), fun q => hk (List.mem_append_right _ q)⟩
    cases L with
    | zero =>
      show (c ++ cs.flatten).Nodup
      refine List.nodup_append.mpr ⟨hc, hn'.2.1, ?_⟩
      intro x hx y hy e
      subst e
      rcases hb x hx with q | q
      · exact hn'.2.2 x q x hy rfl
      · subst q; exact hk'.2 hy
    | succ L =>
      show (a ++ (cs.set L c).flatten).Nodup
      have sh : lvc (a :: cs) (L + 1) = lvc cs L := rfl
      rw [sh] at hb
      refine List.nodup_append.mpr ⟨hn'.1, ih L (by simpa using hL) hn'.2.1 hc hb hk'.2, ?_⟩
      intro x hx y hy e
      subst e
      rcases set_mem hy with q | q
      · rcases hb x q with z | z
        · exact hn'.2.2 x hx x (lvc_flat z) rfl
        · subst z; exact hk'.1 hx
      · exact hn'.2.2 x hx x q rfl
theorem nd_part {cs : List (List Nat)} : ∀ {L : Nat}, cs.flatten.Nodup → (lvc cs L).Nodup := by
  induction cs with
  | nil => intro L _; exact List.nodup_nil
  | cons a cs ih =>
    intro L h
    have hn := List.nodup_append.mp (show (a ++ cs.flatten).Nodup from h)
    cases L with
    | zero => exact hn.1
    | succ L => exact ih hn.2.1
/-- memory w', got from w by a split of x into x and k, places 3 .. 5 of x cleared or not yet -/
def SpW (w w' : Mem) (x k : Nat) : Prop :=
  (∀ a, (a < 9 * k ∨ 9 * k + 9 ≤ a) → (a < 9 * x ∨ 9 * x + 9 ≤ a) → w' a = w a) ∧
  (w' (9 * x) = w (9 * x) ∧ w' (9 * x + 1) = lN k ∧ w' (9 * x + 2) = w (9 * x + 2) ∧ (∀ p, p < 3 → w' (9 * x + 3 + p) = w (9 * x + 3 + p)) ∧ ∀ p, 3 ≤ p → p < 6 → w' (9 * x + 3 + p) = w (9 * x + 3 + p) ∨ w' (9 * x + 3 + p) = 0) ∧
  (w' (9 * k) = w (9 * x) ∧ w' (9 * k + 1) = w (9 * x + 1) ∧ w' (9 * k + 2) = lN (kp w x 3) ∧ (∀ p, p < 3 → w' (9 * k + 3 + p) = w (9 * x + 3 + (3 + p))) ∧ ∀ p, 3 ≤ p → p < 6 → w' (9 * k + 3 + p) = 0)
section SpEv
variable {w w' : Mem} {cs : List (List Nat)} {L x k : Nat}
theorem SpW.sb (S : SpW w w' x k) {b : Nat} (h1 : b ≠ x) (h2 : b ≠ k) : sb w w' b := fun i hi => S.1 _ (by omega) (by omega)
theorem SpW.loX (S : SpW w w' x k) : lo w' x = lo w x := by unfold lo; rw [S.2.1.2.2.1]
theorem SpW.loK (S : SpW w w' x k) (h : kp w x 3 < 1000) : lo w' k = kp w x 3 := by unfold lo; rw [S.2.2.2.2.1, lN_i]; exact nI_clamp (by omega)
theorem SpW.lo (S : SpW w w' x k) {b : Nat} (h : b ≠ k) : lo w' b = lo w b := by
  by_cases e : b = x
  · subst e; exact S.loX
  · exact (S.sb e h).lo
theorem SpW.rlX (S : SpW w w' x k) (h6 : rl w x = 6) : 3 ≤ rl w' x ∧ ∀ p, p < rl w' x → w' (9 * x + 3 + p) = w (9 * x + 3 + p) := by
  have nz : ∀ p, p < 3 → w' (9 * x + 3 + p) ≠ 0 := fun p hp => by rw [S.2.1.2.2.2.1 p hp]; exact rl_nz (by omega)
  have h3 : 3 ≤ rl w' x := by
    rcases Nat.lt_or_ge (rl w' x) 3 with q | q
    · exact absurd (rl_z (by omega)) (nz _ q)
    · exact q
  refine ⟨h3, fun p hp => ?_⟩
  have := rl_le w' x
  rcases Nat.lt_or_ge p 3 with q | q
  · exact S.2.1.2.2.2.1 p q
  · rcases S.2.1.2.2.2.2 p q (by omega) with z | z
    · exact z
    · exact absurd z (rl_nz hp)
theorem SpW.rlK (S : SpW w w' x k) (h6 : rl w x = 6) : rl w' k = 3 := by
  apply rl_eq (by omega)
  · intro q hq; rw [S.2.2.2.2.2.1 q hq]; exact rl_nz (by omega)
  · intro _; exact S.2.2.2.2.2.2 3 (by omega) (by omega)
theorem SpW.kpK (S : SpW w w' x k) {p : Nat} (hp : p < 3) : kp w' k p = kp w x (3 + p) := by unfold kp; rw [S.2.2.2.2.2.1 p hp]
theorem lvc_csI (hL : L < cs.length) (M : Nat) : lvc (csI cs L x k) M = if M = L then insA x k (lvc cs L) else lvc cs M := lvc_set hL
theorem insA_mem {x k : Nat} : ∀ {c : List Nat}, x ∈ c → ∀ b, b ∈ insA x k c ↔ b ∈ c ∨ b = k := by
  intro c
  induction c with
  | nil => intro h; cases h
  | cons a r ih =>
    intro h b
    rw [insA]
    by_cases e : a = x
    · rw [if_pos e]
      simp only [List.mem_cons]
      constructor
      · rintro (q | q | q)
        · exact Or.inl (Or.inl q)
        · exact Or.inr q
        · exact Or.inl (Or.inr q)
      · rintro ((q | q) | q)
        · exact Or.inl q
        · exact Or.inr (Or.inr q)
        · exact Or.inr (Or.inl q)
    · rw [if_neg e]
      have hx : x ∈ r := by
        rcases List.mem_cons.mp h with q | q
        · exact absurd q.symm e
        · exact q
      rw [List.mem_cons, ih hx b, List.mem_cons, or_assoc]
theorem insA_head {x k : Nat} {c : List Nat} : (insA x k c).headD 0 = c.headD 0 := by
  cases c with
  | nil => rfl
  | cons a r =>
    rw [insA]
    by_cases e : a = x
    · rw [if_pos e]; rfl
    · rw [if_neg e]; rfl
theorem tch_sp {N : Nat} (S : SpW w w' x k) (hk : 1 ≤ k ∧ k ≤ 30) (hc3 : lo w x < kp w x 3 ∧ kp w x 3 < 1000) : ∀ (p r : List Nat), x ∉ p → k ∉ p ++ x :: r → (∀ c ∈ r, kp w x 3 < lo w c) → tch w N (p ++ x :: r) → (p ++ x :: r).Nodup → tch w' N (p ++ x :: k :: r) := by
  intro p
  induction p with
  | nil =>
    intro r _ hkr h3 ht hn
    have ht : tch w N (x :: r) := ht
    have hn := List.nodup_cons.mp (show (x :: r).Nodup from hn)
    have hxk : x ≠ k := fun e => hkr (by rw [e]; exact List.mem_cons_self)
    have hr : ∀ c ∈ r, c ≠ x ∧ c ≠ k := fun c hc => ⟨fun e => hn.1 (by rw [← e]; exact hc), fun e => hkr (by rw [← e]; exact List.mem_cons_of_mem _ hc)⟩
    have hlk := S.loK hc3.2
    refine ⟨ht.1, by rw [S.2.1.1]; exact ht.2.1, S.2.1.2.1, ⟨by rw [S.loX, S.2.1.2.2.1]; exact ht.2.2.2.1.1, by rw [S.loX]; exact ht.2.2.2.1.2⟩, ?_, hk, by rw [S.2.2.1]; exact ht.2.1, by rw [S.2.2.2.1]; exact ht.2.2.1, ⟨by rw [hlk]; exact S.2.2.2.2.1, by rw [hlk]; exact hc3.2⟩, ?_, ?_⟩
    · intro c hc
      rw [S.loX]
      rcases List.mem_cons.mp hc with q | q
      · rw [q, hlk]; exact hc3.1
      · rw [S.lo (hr c q).2]; exact ht.2.2.2.2.1 c q
    · intro c hc; rw [hlk, S.lo (hr c hc).2]; exact h3 c hc
    · exact ht.2.2.2.2.2.congr (fun b hb => S.sb (hr b hb).1 (hr b hb).2)
  | cons a p ih =>
    intro r hxp hkr h3 ht hn
    have ht : tch w N (a :: (p ++ x :: r)) := ht
    have hn := List.nodup_cons.mp (show (a :: (p ++ x :: r)).Nodup from hn)
    have hax : a ≠ x := fun e => hxp (by rw [e]; exact List.mem_cons_self)
    have hak : a ≠ k := fun e => hkr (by rw [e]; exact List.mem_cons_self)
    have hsb := S.sb hax hak
    have hlk := S.loK hc3.2
    refine ⟨ht.1, by rw [← ht.2.1]; exact hsb 0 (by omega), ?_, ⟨by rw [hsb.lo, ← ht.2.2.2.1.1]; exact hsb 2 (by omega), by rw [hsb.lo]; exact ht.2.2.2.1.2⟩, ?_, ih r (fun q => hxp (List.mem_cons_of_mem _ q)) (fun q => hkr (List.mem_cons_of_mem _ q)) h3 ht.2.2.2.2.2 hn.2⟩
    · have e1 : w' (9 * a + 1) = w (9 * a + 1) := hsb 1 (by omega)
      rw [e1, ht.2.2.1]
      cases p <;> rfl
    · intro c hc
      rw [hsb.lo]
      have hlx : lo w a < lo w x := ht.2.2.2.2.1 x (List.mem_append_right _ List.mem_cons_self)
      rcases List.mem_append.mp hc with q | q
      · have hck : c ≠ k := fun e => hkr (by rw [← e]; exact List.mem_cons_of_mem _ (List.mem_append_left _ q))
        rw [S.lo hck]; exact ht.2.2.2.2.1 c (List.mem_append_left _ q)
      · rcases List.mem_cons.mp q with q | q
        · rw [q, S.loX]; exact hlx
        · rcases List.mem_cons.mp q with q | q
          · rw [q, hlk]; omega
          · have hck : c ≠ k := fun e => hkr (by rw [← e]; exact List.mem_cons_of_mem _ (List.mem_append_right _ (List.mem_cons_of_mem _ q)))
            rw [S.lo hck]; exact ht.2.2.2.2.1 c (List.mem_append_right _ (List.mem_cons_of_mem _ q))
/-- the bound of x is the low of its neighbour -/
theorem TS.ub {p r : List Nat} (T : TS w cs) (e : lvc cs L = p ++ x :: r) (hL : L < cs.length) : (r = [] → ubd w x = 1000) ∧ (∀ c ∈ r, ubd w x ≤ lo w c) ∧ ubd w x ≤ 1000 ∧ lo w x < ubd w x := by
  have ht := tch.suffix p (e ▸ (T.1 L hL).1)
  have hx1000 := ht.2.2.2.1.2
  unfold ubd nxN
  rw [ht.2.2.1, lN_i]
  cases r with
  | nil =>
    rw [show nI (([] : List Nat).headD 0) = 0 from rfl, show (0 : Int32).toNatClampNeg = 0 from rfl, if_pos rfl]
    exact ⟨fun _ => rfl, (fun c hc => by cases hc), Nat.le_refl _, by omega⟩
  | cons c r =>
    have htc := ht.2.2.2.2.2
    have h1 := htc.1
    rw [show (c :: r).headD 0 = c from rfl, nI_clamp (by omega), if_neg (by omega)]
    refine ⟨(fun q => by cases q), ?_, by have := htc.2.2.2.1.2; omega, ht.2.2.2.2.1 c List.mem_cons_self⟩
    intro d hd
    rcases List.mem_cons.mp hd with q | q
    · rw [q]; exact Nat.le_refl _
    · exact Nat.le_of_lt (htc.2.2.2.2.1 d q)
theorem sp_TS (T : TS w cs) (hx : x ∈ lvc cs L) (hc : clean w x) (h6 : rl w x = 6) (hkn : k ∉ cs.flatten) (hk : 1 ≤ k ∧ k ≤ 30) (S : SpW w w' x k) : TS w' (csI cs L x k) := by
  have hL := lvc_in hx
  obtain ⟨p, r, e⟩ := List.append_of_mem hx
  have hnd := nd_part (L := L) T.2.2.2.1
  have hnd' := hnd
  rw [e] at hnd
  have hxp : x ∉ p := by
    have := List.nodup_append.mp hnd
    exact fun q => this.2.2 x q x List.mem_cons_self rfl
  have hkL : k ∉ p ++ x :: r := fun q => hkn (lvc_flat (L := L) (by rw [e]; exact q))
  have hub := T.ub e hL
  have hrow := T.row hx
  have k3 : lo w x < kp w x 3 ∧ kp w x 3 < 1000 := by
    have h1 := hc.mono 3 0 (by omega)
    have h2 := hc.2.1 3 (by omega)
    have h3 : lo w x ≤ kp w x 0 := by
      rcases (T.rwo hx).at (p := 0) (by omega) with q | q
      · exact absurd q (rl_nz (by omega))
      · cases L with
        | zero => obtain ⟨k', v, q1, q2, q3⟩ := q; unfold kp; rw [q1, kN_ent _ (by omega)]; exact q2
        | succ L => obtain ⟨y, hy, q1, q2⟩ := q; unfold kp; rw [q1, kN_ent _ (by have := T.lo1000 hy; omega)]; exact q2
    rw [Nat.zero_add] at h1
    omega
  have hxk : x ≠ k := fun q => hkn (by rw [← q]; exact lvc_flat hx)
  have hcsL : lvc (csI cs L x k) L = p ++ x :: k :: r := by rw [lvc_csI hL, if_pos rfl, e, insA_eq p r hxp]
  have hcsM : ∀ M, M ≠ L → lvc (csI cs L x k) M = lvc cs M := fun M hM => by rw [lvc_csI hL, if_neg hM]
  have mem' : ∀ M b, b ∈ lvc cs M → b ∈ lvc (csI cs L x k) M := by
    intro M b hb
    by_cases q : M = L
    · subst q; rw [lvc_csI hL, if_pos rfl, insA_mem hx]; exact Or.inl hb
    · rw [hcsM M q]; exact hb
  have nek : ∀ {M b}, b ∈ lvc cs M → b ≠ k := fun hb q => hkn (by rw [← q]; exact lvc_flat hb)
  have lo' : ∀ {M b}, b ∈ lvc cs M → lo w' b = lo w b := fun hb => S.lo (nek hb)
  have rX := S.rlX h6
  have rowX : rowOK w' (csI cs L x k) L x := by
    have base := T.rwo hx
    cases L with
    | zero =>
      intro q hq
      have hor : w' (9 * x + 3 + q) = w (9 * x + 3 + q) ∨ w' (9 * x + 3 + q) = 0 := by
        rcases Nat.lt_or_ge q 3 with z | z
        · exact Or.inl (S.2.1.2.2.2.1 q z)
        · exact S.2.1.2.2.2.2 q z hq
      rcases hor with z | z
      · rcases base q hq with y | ⟨k', v, y1, y2, y3⟩
        · left; rw [z]; exact y
        · right; exact ⟨k', v, by rw [z]; exact y1, by rw [S.loX]; exact y2, y3⟩
      · exact Or.inl z
    | succ M =>
      have hM : M ≠ M + 1 := by omega
      refine ⟨by omega, ?_, ?_⟩
      · rw [S.loX]
        have := base.2.1
        unfold kp at this ⊢
        rw [S.2.1.2.2.2.1 0 (by omega)]; exact this
      · intro q hq
        have hor : w' (9 * x + 3 + q) = w (9 * x + 3 + q) ∨ w' (9 * x + 3 + q) = 0 := by
          rcases Nat.lt_or_ge q 3 with z | z
          · exact Or.inl (S.2.1.2.2.2.1 q z)
          · exact S.2.1.2.2.2.2 q z hq
        rcases hor with z | z
        · rcases base.2.2 q hq with y | ⟨c, hc1, y1, y2⟩
          · left; rw [z]; exact y
          · right; exact ⟨c, mem' M c hc1, by rw [z, lo' hc1]; exact y1, by rw [S.loX, lo' hc1]; exact y2⟩
        · exact Or.inl z
  have hlk := S.loK k3.2
  have kge : ∀ q, q < 3 → kp w x 3 ≤ kp w x (3 + q) := fun q hq => by have := hc.mono q 3 (by omega); omega
  have rowK : rowOK w' (csI cs L x k) L k := by
    have base := T.rwo hx
    cases L with
    | zero =>
      intro q hq
      rcases Nat.lt_or_ge q 3 with z | z
      · rcases base (3 + q) (by omega) with y | ⟨k', v, y1, y2, y3⟩
        · exact absurd y (rl_nz (by omega))
        · right
          refine ⟨k', v, by rw [S.2.2.2.2.2.1 q z]; exact y1, ?_, y3⟩
          have := kge q z
          have e2 : kp w x (3 + q) = k' := by unfold kp; rw [y1, kN_ent _ (by omega)]
          rw [hlk]; omega
      · left; exact S.2.2.2.2.2.2 q z hq
    | succ M =>
      refine ⟨by rw [S.rlK h6]; omega, by rw [S.kpK (by omega), hlk], ?_⟩
      intro q hq
      rcases Nat.lt_or_ge q 3 with z | z
      · rcases base.2.2 (3 + q) (by omega) with y | ⟨c, hc1, y1, y2⟩
        · exact absurd y (rl_nz (by omega))
        · right
          refine ⟨c, mem' M c hc1, by rw [S.2.2.2.2.2.1 q z, lo' hc1]; exact y1, ?_⟩
          have := kge q z
          have e2 : kp w x (3 + q) = lo w c := by unfold kp; rw [y1, kN_ent _ (by have := T.lo1000 hc1; omega)]
          rw [hlk, lo' hc1]; omega
      · left; exact S.2.2.2.2.2.2 q z hq
  have cls : ∀ M b, b ∈ lvc (csI cs L x k) M → (M = L ∧ b = k) ∨ b ∈ lvc cs M := by
    intro M b hb
    by_cases q : M = L
    · subst q
      rw [lvc_csI hL, if_pos rfl, insA_mem hx] at hb
      rcases hb with z | z
      · exact Or.inr z
      · exact Or.inl ⟨rfl, z⟩
    · rw [hcsM M q] at hb; exact Or.inr hb
  refine ⟨?_, ?_, ?_, ?_, ?_, ?_⟩
  · intro M hM
    rw [csI_len] at hM
    by_cases q : M = L
    · subst q
      rw [hcsL]
      have ht : tch w M (p ++ x :: r) := e ▸ (T.1 M hM).1
      have h3 : ∀ c ∈ r, kp w x 3 < lo w c := fun c hcr => by
        have h1 := hub.2.1 c hcr
        have h2 := hc.2.1 3 (by omega)
        omega
      refine ⟨tch_sp S hk k3 p r hxp hkL h3 ht hnd, ?_⟩
      obtain ⟨b, r', e', e0⟩ := (T.1 M hM).2
      rw [e] at e'
      cases p with
      | nil =>
        have : x = b := (List.cons.inj e').1
        exact ⟨x, k :: r, rfl, by rw [S.loX, this]; exact e0⟩
      | cons a p =>
        have : a = b := (List.cons.inj e').1
        have ha : a ∈ lvc cs M := by rw [e]; exact List.mem_cons_self
        exact ⟨a, p ++ x :: k :: r, rfl, by rw [lo' ha, this]; exact e0⟩
    · rw [hcsM M q]
      have hb : ∀ b ∈ lvc cs M, sb w w' b := fun b hb => S.sb (fun z => q (nd_lvc T.2.2.2.1 (z ▸ hb) hx)) (nek hb)
      refine ⟨(T.1 M hM).1.congr hb, ?_⟩
      obtain ⟨b, r', e', e0⟩ := (T.1 M hM).2
      exact ⟨b, r', e', by rw [lo' (M := M) (by rw [e']; exact List.mem_cons_self)]; exact e0⟩
  · intro M hM b hb
    rw [csI_len] at hM
    rcases cls (M + 1) b hb with ⟨q1, q2⟩ | q
    · subst q2
      subst q1
      exact rowK
    · by_cases z : b = x
      · subst z
        have hML := nd_lvc T.2.2.2.1 q hx
        subst hML
        exact rowX
      · obtain ⟨i1, i2, i3⟩ := T.2.1 M hM b q
        have hsb := S.sb z (nek q)
        refine ⟨by rw [hsb.rl]; exact i1, by rw [hsb.kp (by omega), hsb.lo]; exact i2, fun j hj => ?_⟩
        rcases i3 j hj with y | ⟨c, hc1, y1, y2⟩
        · left; rw [hsb.pl hj]; exact y
        · right; exact ⟨c, mem' M c hc1, by rw [hsb.pl hj, lo' hc1]; exact y1, by rw [hsb.lo, lo' hc1]; exact y2⟩
  · intro b hb
    rcases cls 0 b hb with ⟨q1, q2⟩ | q
    · subst q2
      rw [← q1] at rowK
      exact rowK
    · by_cases z : b = x
      · subst z
        have := nd_lvc T.2.2.2.1 q hx
        rw [← this] at rowX
        exact rowX
      · exact (T.2.2.1 b q).congr (S.sb z (nek q))
  · unfold csI
    refine set_nd cs L hL T.2.2.2.1 ?_ (fun b hb => (insA_mem hx b).mp hb) hkn
    rw [e, insA_eq p r hxp]
    have n1 := List.nodup_append.mp hnd
    have n2 := List.nodup_cons.mp n1.2.1
    refine List.nodup_append.mpr ⟨n1.1, List.nodup_cons.mpr ⟨?_, List.nodup_cons.mpr ⟨fun q => hkL (List.mem_append_right _ (List.mem_cons_of_mem _ q)), n2.2⟩⟩, ?_⟩
    · intro q
      rcases List.mem_cons.mp q with z | z
      · exact hxk z
      · exact n2.1 z
    · intro a ha b hb hab
      subst hab
      rcases List.mem_cons.mp hb with z | z
      · exact n1.2.2 a ha x List.mem_cons_self z
      · rcases List.mem_cons.mp z with z | z
        · exact hkL (by rw [← z]; exact List.mem_append_left _ ha)
        · exact n1.2.2 a ha a (List.mem_cons_of_mem _ z) rfl
  · have hx1 := ((T.1 L hL).1.mem x hx).1
    rw [S.1 0 (by omega) (by omega), T.2.2.2.2.1]
    congr 1
    unfold rootOf
    rw [csI_len]
    by_cases q : cs.length - 1 = L
    · rw [q, lvc_csI hL, if_pos rfl, insA_head]
    · rw [hcsM _ q]
  · intro M hM b hb
    rw [csI_len] at hM
    rcases cls M b hb with ⟨q1, q2⟩ | q
    · subst q2
      intro j hj
      rw [S.rlK h6] at hj
      rw [S.kpK (by omega), S.kpK (by omega)]
      have := hc.1 (3 + j) (by omega)
      rw [show 3 + (j + 1) = 3 + j + 1 from rfl]
      omega
    · by_cases z : b = x
      · subst z
        intro j hj
        have h6' := rl_le w' b
        unfold kp
        rw [rX.2 j (by omega), rX.2 (j + 1) (by omega)]
        exact Nat.le_of_lt (hc.1 j (by omega))
      · exact (T.2.2.2.2.2 M hM b q).congr (S.sb z (nek q))
end SpEv
