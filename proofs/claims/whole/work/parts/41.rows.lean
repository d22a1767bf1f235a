/-! PURE: places in a row; insert and drop -/
def clF (f : Nat → Nat) (k : Nat) : Nat → Nat → Nat
  | 0, p => p
  | n + 1, p => if f p < k then clF f k n (p + 1) else p
theorem clF_sp (f : Nat → Nat) (k : Nat) : ∀ n p, p ≤ clF f k n p ∧ clF f k n p ≤ p + n ∧ (∀ q, p ≤ q → q < clF f k n p → f q < k) ∧ (clF f k n p < p + n → k ≤ f (clF f k n p)) := by
  intro n
  induction n with
  | zero => intro p; exact ⟨Nat.le_refl _, Nat.le_refl _, fun q h1 h2 => by unfold clF at h2; omega, fun h => by unfold clF at h; omega⟩
  | succ n ih =>
    intro p
    unfold clF
    by_cases h : f p < k
    · rw [if_pos h]
      obtain ⟨h1, h2, h3, h4⟩ := ih (p + 1)
      refine ⟨by omega, by omega, fun q g1 g2 => ?_, fun g => h4 (by omega)⟩
      by_cases e : q = p
      · subst e; exact h
      · exact h3 q (by omega) g2
    · rw [if_neg h]
      exact ⟨Nat.le_refl _, by omega, fun q g1 g2 => by omega, fun _ => by omega⟩
/-- the number of entries ahead of the first one whose key is not below k -/
def cl (w : Mem) (b k : Nat) : Nat := clF (kp w b) k (rl w b) 0
theorem cl_le (w : Mem) (b k : Nat) : cl w b k ≤ rl w b := by have := (clF_sp (kp w b) k (rl w b) 0).2.1; unfold cl; omega
theorem cl_lt {w : Mem} {b k p : Nat} (h : p < cl w b k) : kp w b p < k := (clF_sp (kp w b) k (rl w b) 0).2.2.1 p (Nat.zero_le _) h
theorem cl_ge {w : Mem} {b k : Nat} (h : cl w b k < rl w b) : k ≤ kp w b (cl w b k) := (clF_sp (kp w b) k (rl w b) 0).2.2.2 (by unfold cl at h; omega)
theorem wst.le {w : Mem} {b : Nat} (h : wst w b) : ∀ (d p : Nat), p + d < rl w b → kp w b p ≤ kp w b (p + d) := by
  intro d
  induction d with
  | zero => intro p _; exact Nat.le_refl _
  | succ d ih =>
    intro p hp
    have h1 := ih p (by omega)
    have h2 := h (p + d) (by omega)
    show kp w b p ≤ kp w b (p + d + 1)
    omega
theorem wst.ge {w : Mem} {b k p : Nat} (h : wst w b) (hp : cl w b k ≤ p) (hr : p < rl w b) : k ≤ kp w b p := by
  have h1 := cl_ge (w := w) (b := b) (k := k) (by omega)
  have h2 := h.le (p - cl w b k) (cl w b k) (by omega)
  rw [show cl w b k + (p - cl w b k) = p by omega] at h2
  omega
def has (w : Mem) (b k : Nat) : Prop := cl w b k < rl w b ∧ kp w b (cl w b k) = k
section Rw
variable {u : SM} {v : SR} {w : Mem} {b k : Nat}
theorem c_cl_L (h : CW u w) (hb : b ≤ 30) (hE : rowE w b) (hk : k < 1000) : ∀ (d p n : Nat), p + d = rl w b → d < n → p ≤ cl w b k →
    m_Tree_countLesser_L12 n u (nI p) (nI b) (nI k) (nI (rl w b)) = if cl w b k = rl w b then some (.inr u) else some (.inl (nI (cl w b k), u)) := by
  intro d
  have h6 := rl_le w b
  have hc := cl_le w b k
  induction d with
  | zero =>
    intro p n hp hn hr
    obtain ⟨n, rfl⟩ : ∃ m, n = m + 1 := ⟨n - 1, by omega⟩
    rw [m_Tree_countLesser_L12, if_pos (nI_le (by omega) (by omega)), if_pos (by omega)]
  | succ d ih =>
    intro p n hp hn hr
    obtain ⟨n, rfl⟩ : ∃ m, n = m + 1 := ⟨n - 1, by omega⟩
    have hkp := hE.key (p := p) (by omega)
    rw [m_Tree_countLesser_L12, if_neg (nI_ge (by omega) (by omega)), c_key h hb (by omega), obS, hkp.1]
    by_cases e : p = cl w b k
    · have hge := cl_ge (w := w) (b := b) (k := k) (by omega)
      rw [if_neg (nI_nlt (by rw [e]; exact hge) (by omega)), if_neg (by omega), e]
    · have hlt := cl_lt (w := w) (b := b) (k := k) (p := p) (by omega)
      rw [if_pos (nI_lt hlt (by omega)), a1]
      exact ih (p + 1) n (by omega) (by omega) (by omega)
theorem c_cl (h : CW u w) (hb : b ≤ 30) (hE : rowE w b) (hk : k < 1000) : m_Tree_countLesser u (nI b) (nI k) = some (nI (cl w b k), u) := by
  have h6 := rl_le w b
  unfold m_Tree_countLesser
  have := c_cl_L h hb hE hk (rl w b) 0 fz (by omega) (by unfold fz; omega) (by omega)
  have this' : m_Tree_countLesser_L12 fz u (0 : Int32) (nI b) (nI k) (nI (rl w b)) = if cl w b k = rl w b then some (.inr u) else some (.inl (nI (cl w b k), u)) := this
  rw [c_rl h hb, obS, this']
  by_cases e : cl w b k = rl w b
  · rw [if_pos e, ol0R, e]
  · rw [if_neg e, ol0I]; rfl
/-- it answers something, whatever stands there -/
theorem c_cl_any (h : CW u w) (hb : b ≤ 30) (x : Int32) : ∃ y, m_Tree_countLesser u (nI b) x = some (y, u) := by
  have h6 := rl_le w b
  have L : ∀ (d p n : Nat), p + d = rl w b → d < n → (m_Tree_countLesser_L12 n u (nI p) (nI b) x (nI (rl w b)) = some (.inr u)) ∨ ∃ y, m_Tree_countLesser_L12 n u (nI p) (nI b) x (nI (rl w b)) = some (.inl (y, u)) := by
    intro d
    induction d with
    | zero =>
      intro p n hp hn
      obtain ⟨n, rfl⟩ : ∃ m, n = m + 1 := ⟨n - 1, by omega⟩
      left
      rw [m_Tree_countLesser_L12, if_pos (nI_le (by omega) (by omega))]
    | succ d ih =>
      intro p n hp hn
      obtain ⟨n, rfl⟩ : ∃ m, n = m + 1 := ⟨n - 1, by omega⟩
      rw [m_Tree_countLesser_L12, if_neg (nI_ge (by omega) (by omega)), c_key h hb (by omega), obS]
      by_cases e : kyI (w (9 * b + 3 + p)) < x
      · rw [if_pos e, a1]; exact ih (p + 1) n (by omega) (by omega)
      · rw [if_neg e]; exact Or.inr ⟨_, rfl⟩
  unfold m_Tree_countLesser
  rw [c_rl h hb, obS, nI_lit0]
  rcases L (rl w b) 0 fz (by omega) (by unfold fz; omega) with q | ⟨y, q⟩
  · exact ⟨_, by rw [q, ol0R]⟩
  · exact ⟨y, by rw [q, ol0I]; rfl⟩
theorem r_pi_L (h : RW v w) (hb : b ≤ 30) (hE : rowE w b) (hs : wst w b) (hk : k < 1000) : ∀ (d p n : Nat), p + d = rl w b → d < n → p ≤ cl w b k ∨ ¬ has w b k →
    m_Ref_placeIn_L2 n v (nI p) (nI b) (nI k) = if cl w b k < rl w b ∧ kp w b (cl w b k) = k then some (.inl (nI (cl w b k), v)) else some (.inr v) := by
  intro d
  have h6 := rl_le w b
  have hc := cl_le w b k
  induction d with
  | zero =>
    intro p n hp hn hr
    obtain ⟨n, rfl⟩ : ∃ m, n = m + 1 := ⟨n - 1, by omega⟩
    rw [m_Ref_placeIn_L2, r_rl h hb, obS, if_pos (nI_le (by omega) (by omega)), if_neg]
    rintro ⟨q1, q2⟩
    rcases hr with q | q
    · omega
    · exact q ⟨q1, q2⟩
  | succ d ih =>
    intro p n hp hn hr
    obtain ⟨n, rfl⟩ : ∃ m, n = m + 1 := ⟨n - 1, by omega⟩
    have hkp := hE.key (p := p) (by omega)
    rw [m_Ref_placeIn_L2, r_rl h hb, obS, if_neg (nI_ge (by omega) (by omega)), r_key h hb (by omega), obS, hkp.1]
    by_cases e : kp w b p = k
    · have hpc : p = cl w b k := by
        rcases Nat.lt_trichotomy p (cl w b k) with q | q | q
        · have := cl_lt q; omega
        · exact q
        · exfalso
          have hh : ¬ (p ≤ cl w b k) := by omega
          rcases hr with z | z
          · exact hh z
          · apply z
            have h1 := cl_ge (w := w) (b := b) (k := k) (by omega)
            have h2 := hs.le (p - cl w b k) (cl w b k) (by omega)
            rw [show cl w b k + (p - cl w b k) = p by omega] at h2
            exact ⟨by omega, by omega⟩
      rw [if_pos (by rw [e]), if_pos ⟨by omega, by rw [← hpc]; exact e⟩, hpc]
    · rw [if_neg (by rw [nI_eq (by omega) (by omega)]; exact e), a1]
      apply ih (p + 1) n (by omega) (by omega)
      rcases hr with q | q
      · by_cases e2 : p = cl w b k
        · right; rintro ⟨-, z⟩; rw [← e2] at z; exact e z
        · left; omega
      · exact Or.inr q
theorem r_placeIn (h : RW v w) (hb : b ≤ 30) (hE : rowE w b) (hs : wst w b) (hk : k < 1000) : m_Ref_placeIn v (nI b) (nI k) = some (if cl w b k < rl w b ∧ kp w b (cl w b k) = k then nI (cl w b k) else -1, v) := by
  unfold m_Ref_placeIn
  rw [nI_lit0, r_pi_L h hb hE hs hk (rl w b) 0 fz (by omega) (by have := rl_le w b; unfold fz; omega) (Or.inl (Nat.zero_le _))]
  by_cases e : cl w b k < rl w b ∧ kp w b (cl w b k) = k
  · rw [if_pos e, if_pos e, ol0I]; rfl
  · rw [if_neg e, if_neg e, ol0R]
end Rw
/-! firm stores one after the other -/
def fsM : List (Nat × Int64) → MM → MM ⊕ MM
  | [], M => .inr M
  | q :: r, M => match firmM M q.1 q.2 with
    | .inl M' => .inl M'
    | .inr M' => fsM r M'
theorem firmM_nil {M M' : MM} {a : Nat} {x : Int64} (h : firmM M a x = .inr M') : M'.2.1 = [] ∧ M'.1 = vp_updL M.1 a x := by
  unfold firmM at h
  by_cases e : M.2.2.1 = 0
  · rw [if_pos e] at h; cases h
  · rw [if_neg e] at h; cases h; exact ⟨rfl, rfl⟩
/-- what insert moves up: places p + d .. p + 1 get what stands one below -/
def shl (w : Mem) (b p : Nat) : Nat → List (Nat × Int64)
  | 0 => []
  | d + 1 => (9 * b + 3 + (p + (d + 1)), w (9 * b + 3 + (p + d))) :: shl w b p d
def insL (w : Mem) (b p n : Nat) (e : Int64) : List (Nat × Int64) := shl w b p (n - p) ++ [(9 * b + 3 + p, e)]
theorem fsM_app (l1 l2 : List (Nat × Int64)) : ∀ M, fsM (l1 ++ l2) M = match fsM l1 M with
    | .inl M' => .inl M'
    | .inr M' => fsM l2 M' := by
  induction l1 with
  | nil => intro M; rfl
  | cons q r ih =>
    intro M
    show fsM (q :: (r ++ l2)) M = _
    rw [fsM, fsM]
    cases e : firmM M q.1 q.2 with
    | inl M' => rfl
    | inr M' => exact ih M'
theorem fsM_nil {l : List (Nat × Int64)} : ∀ {M M' : MM}, M.2.1 = [] → fsM l M = .inr M' → M'.2.1 = [] := by
  induction l with
  | nil => intro M M' h e; cases e; exact h
  | cons q r ih =>
    intro M M' h e
    rw [fsM] at e
    cases e2 : firmM M q.1 q.2 with
    | inl M2 => rw [e2] at e; cases e
    | inr M2 => rw [e2] at e; exact ih (firmM_nil e2).1 e
theorem fsM_one (a : Nat) (x : Int64) (M : MM) : fsM [(a, x)] M = firmM M a x := by
  rw [fsM]
  cases firmM M a x <;> rfl
theorem firmM_cut {M M' : MM} {a : Nat} {x : Int64} (h : firmM M a x = .inl M') : M' = ctM M := by
  unfold firmM at h
  by_cases q : M.2.2.1 = 0
  · rw [if_pos q] at h; cases h; rfl
  · rw [if_neg q] at h; cases h
theorem fsM_cut_nil {l : List (Nat × Int64)} : ∀ {M M' : MM}, fsM l M = .inl M' → M'.2.1 = [] := by
  induction l with
  | nil => intro M M' e; cases e
  | cons q r ih =>
    intro M M' e
    rw [fsM] at e
    cases e2 : firmM M q.1 q.2 with
    | inl M2 => rw [e2] at e; cases e; rw [firmM_cut e2]; rfl
    | inr M2 => rw [e2] at e; exact ih e
theorem ob_id {α σ : Type} (x : Option (α × σ)) : ob x (fun r u => some (r, u)) = x := by cases x <;> rfl
theorem sub1 (a : Nat) : nI (a + 1) - (1 : Int32) = nI a := nI_pred a
theorem addm1 (a : Nat) : nI (a + 1) + (-1 : Int32) = nI a := pk_m1 a
section Ins
variable {b p : Nat} {w : Mem} {e : Int64}
theorem c_ins_L (hb : b ≤ 30) : ∀ (d n : Nat) (u : SM) (M : MM), inC u M → M.2.1 = [] → p + d < 6 → d < n → (∀ q, q ≤ p + d → M.1 (9 * b + 3 + q) = w (9 * b + 3 + q)) →
    ∃ u1, match fsM (shl w b p d) M with
      | .inl M' => m_Tree_insert_L21 n u (nI (p + d)) (nI b) e (nI p) = some (.inl (0, u1)) ∧ inC u1 M'
      | .inr M' => m_Tree_insert_L21 n u (nI (p + d)) (nI b) e (nI p) = some (.inr u1) ∧ inC u1 M' := by
  intro d
  induction d with
  | zero =>
    intro n u M h h0 hp hn hw
    obtain ⟨n, rfl⟩ : ∃ m, n = m + 1 := ⟨n - 1, by omega⟩
    refine ⟨u, ?_, h⟩
    rw [m_Tree_insert_L21, if_pos (nI_le (by omega) (by omega))]
  | succ d ih =>
    intro n u M h h0 hp hn hw
    obtain ⟨n, rfl⟩ : ∃ m, n = m + 1 := ⟨n - 1, by omega⟩
    have hf := c_firm h h0 (a := 9 * b + 3 + (p + (d + 1))) (by omega) (w (9 * b + 3 + (p + d)))
    rw [m_Tree_insert_L21, if_neg (nI_ge (by omega) (by omega)), show p + (d + 1) = p + d + 1 from rfl, sub1, c_entry h.1 hb (by omega), obS, hw (p + d) (by omega), c_place, obS]
    rw [shl, fsM]
    obtain ⟨u1, hu⟩ := hf
    simp only at hu ⊢
    cases ef : firmM M (9 * b + 3 + (p + (d + 1))) (w (9 * b + 3 + (p + d))) with
    | inl M' =>
      rw [ef] at hu
      simp only at hu ⊢
      exact ⟨u1, by rw [show 9 * b + 3 + (p + d + 1) = 9 * b + 3 + (p + (d + 1)) from rfl, hu.1, obS, if_pos rfl], hu.2⟩
    | inr M' =>
      rw [ef] at hu
      simp only at hu ⊢
      have hn2 := firmM_nil ef
      obtain ⟨u2, hu2⟩ := ih n u1 M' hu.2 hn2.1 (by omega) (by omega) (fun q hq => by
        rw [hn2.2]; unfold vp_updL; rw [if_neg (by omega)]; exact hw q (by omega))
      refine ⟨u2, ?_⟩
      have e1 : ob (m_Memory_firmStore u (nI (9 * b + 3 + (p + d + 1))) (w (9 * b + 3 + (p + d)))) (fun r9 u10 => if r9 = 0 then (some (.inl ((0 : Int32), u10))) else (m_Tree_insert_L21 n u10 (nI (p + d + 1) + (-1 : Int32)) (nI b) e (nI p))) = m_Tree_insert_L21 n u1 (nI (p + d)) (nI b) e (nI p) := by
        rw [show 9 * b + 3 + (p + d + 1) = 9 * b + 3 + (p + (d + 1)) from rfl, hu.1, obS, if_neg (by decide), addm1]
      rw [e1]
      exact hu2
theorem c_insert {u : SM} {M : MM} {k : Nat} {x : Int32} (h : inC u M) (h0 : M.2.1 = []) (hb : b ≤ 30) (hE : rowE M.1 b) (hk : k < 1000) (hr : rl M.1 b < 6) : okC (m_Tree_insert u (nI b) (ent k x)) (fsM (insL M.1 b (cl M.1 b k) (rl M.1 b) (ent k x)) M) := by
  have hcl := cl_le M.1 b k
  obtain ⟨u1, hu⟩ := c_ins_L (b := b) (p := cl M.1 b k) (w := M.1) (e := ent k x) hb (rl M.1 b - cl M.1 b k) fz u M h h0 (by omega) (by unfold fz; omega) (fun _ _ => rfl)
  rw [show cl M.1 b k + (rl M.1 b - cl M.1 b k) = rl M.1 b by omega] at hu
  unfold m_Tree_insert insL
  rw [show m_Firm_keyOf u (ent k x) = some (nI k, u) from by unfold m_Firm_keyOf; rw [key_ent x (by omega)], obS, c_cl h.1 hb hE hk, obS, c_rl h.1 hb, obS, fsM_app]
  cases ef : fsM (shl M.1 b (cl M.1 b k) (rl M.1 b - cl M.1 b k)) M with
  | inl M' =>
    rw [ef] at hu
    exact ⟨u1, by rw [hu.1, ol0I]; rfl, hu.2⟩
  | inr M' =>
    rw [ef] at hu
    have hn := fsM_nil h0 ef
    have hf := c_firm hu.2 hn (a := 9 * b + 3 + cl M.1 b k) (by omega) (ent k x)
    show okC _ (fsM [(9 * b + 3 + cl M.1 b k, ent k x)] M')
    rw [fsM_one, hu.1, ol0R, c_place, obS, ob_id]
    exact hf
-- the reference
theorem r_ins_brk (hb : b ≤ 30) {M : MM} (h0 : M.2.1 = []) : ∀ (d n : Nat) (v : SR), inR v M 1 → p + d < 6 → d < n → ∃ v1, m_Ref_insert_L55 n v (nI (p + d)) (nI b) e (nI p) = some (.inr v1) ∧ inR v1 M 1 := by
  intro d
  induction d with
  | zero =>
    intro n v h hp hn
    obtain ⟨n, rfl⟩ : ∃ m, n = m + 1 := ⟨n - 1, by omega⟩
    exact ⟨v, by rw [m_Ref_insert_L55, if_pos (nI_le (by omega) (by omega))], h⟩
  | succ d ih =>
    intro n v h hp hn
    obtain ⟨n, rfl⟩ : ∃ m, n = m + 1 := ⟨n - 1, by omega⟩
    obtain ⟨v1, q1, q2⟩ := r_firm_brk h h0 (nI (9 * b + 3 + (p + d + 1))) (M.1 (9 * b + 3 + (p + d)))
    obtain ⟨v2, q3, q4⟩ := ih n v1 q2 (by omega) (by omega)
    refine ⟨v2, ?_, q4⟩
    rw [m_Ref_insert_L55, if_neg (nI_ge (by omega) (by omega)), show p + (d + 1) = p + d + 1 from rfl, sub1, r_at h.1 hb (by omega), obS, pl_addr', q1, obS, addm1]
    exact q3
theorem r_ins_L (hb : b ≤ 30) : ∀ (d n : Nat) (v : SR) (M : MM), inR v M 0 → M.2.1 = [] → p + d < 6 → d < n → (∀ q, q ≤ p + d → M.1 (9 * b + 3 + q) = w (9 * b + 3 + q)) →
    ∃ v1, m_Ref_insert_L55 n v (nI (p + d)) (nI b) e (nI p) = some (.inr v1) ∧ match fsM (shl w b p d) M with
      | .inl M' => inR v1 M' 1
      | .inr M' => inR v1 M' 0 := by
  intro d
  induction d with
  | zero =>
    intro n v M h h0 hp hn hw
    obtain ⟨n, rfl⟩ : ∃ m, n = m + 1 := ⟨n - 1, by omega⟩
    exact ⟨v, by rw [m_Ref_insert_L55, if_pos (nI_le (by omega) (by omega))], h⟩
  | succ d ih =>
    intro n v M h h0 hp hn hw
    obtain ⟨n, rfl⟩ : ∃ m, n = m + 1 := ⟨n - 1, by omega⟩
    obtain ⟨v1, hv1, hv⟩ := r_firm h h0 (a := 9 * b + 3 + (p + (d + 1))) (by omega) (w (9 * b + 3 + (p + d)))
    have e1 : m_Ref_insert_L55 (n + 1) v (nI (p + (d + 1))) (nI b) e (nI p) = m_Ref_insert_L55 n v1 (nI (p + d)) (nI b) e (nI p) := by
      rw [m_Ref_insert_L55, if_neg (nI_ge (by omega) (by omega)), show p + (d + 1) = p + d + 1 from rfl, sub1, r_at h.1 hb (by omega), obS, hw (p + d) (by omega), pl_addr', show 9 * b + 3 + (p + d + 1) = 9 * b + 3 + (p + (d + 1)) from rfl, hv1, obS, addm1]
    rw [e1, shl, fsM]
    simp only
    cases ef : firmM M (9 * b + 3 + (p + (d + 1))) (w (9 * b + 3 + (p + d))) with
    | inl M' =>
      rw [ef] at hv
      have hM' : M'.2.1 = [] := by
        unfold firmM at ef
        by_cases q : M.2.2.1 = 0
        · rw [if_pos q] at ef; cases ef; rfl
        · rw [if_neg q] at ef; cases ef
      exact r_ins_brk hb hM' d n v1 hv (by omega) (by omega)
    | inr M' =>
      rw [ef] at hv
      have hn2 := firmM_nil ef
      exact ih n v1 M' hv hn2.1 (by omega) (by omega) (fun q hq => by
        rw [hn2.2]; unfold vp_updL; rw [if_neg (by omega)]; exact hw q (by omega))
/-- the reference counts all entries with a lesser key: in a sorted row these are the first -/
theorem r_cnt_L {v : SR} {k : Nat} {x : Int32} (h : RW v w) (hb : b ≤ 30) (hE : rowE w b) (hs : wst w b) (hk : k < 1000) : ∀ (d i n : Nat), i + d = rl w b → d < n → m_Ref_insert_L13 n v (nI (min i (cl w b k))) (nI i) (nI b) (ent k x) (nI (rl w b)) = some (.inr (nI (cl w b k), v)) := by
  intro d
  have h6 := rl_le w b
  have hc := cl_le w b k
  induction d with
  | zero =>
    intro i n hi hn
    obtain ⟨n, rfl⟩ : ∃ m, n = m + 1 := ⟨n - 1, by omega⟩
    rw [m_Ref_insert_L13, if_pos (nI_le (by omega) (by omega)), show min i (cl w b k) = cl w b k by omega]
  | succ d ih =>
    intro i n hi hn
    obtain ⟨n, rfl⟩ : ∃ m, n = m + 1 := ⟨n - 1, by omega⟩
    have hkp := hE.key (p := i) (by omega)
    rw [m_Ref_insert_L13, if_neg (nI_ge (by omega) (by omega)), r_key h hb (by omega), obS, show m_Ref_keyOf v (ent k x) = some (nI k, v) from by unfold m_Ref_keyOf; rw [key_ent x (by omega)], obS, hkp.1]
    have ih' := ih (i + 1) n (by omega) (by omega)
    by_cases e : i < cl w b k
    · have := cl_lt e
      rw [if_neg (nI_ge this (by omega)), a1, a1, show min i (cl w b k) + 1 = min (i + 1) (cl w b k) by omega]
      exact ih'
    · have := hs.ge (k := k) (p := i) (by omega) (by omega)
      rw [if_pos (nI_le this (by omega)), a1, show min i (cl w b k) = min (i + 1) (cl w b k) by omega]
      exact ih'
theorem r_insert {v : SR} {M : MM} {k : Nat} {x : Int32} (h : inR v M 0) (h0 : M.2.1 = []) (hb : b ≤ 30) (hE : rowE M.1 b) (hs : wst M.1 b) (hk : k < 1000) (hr : rl M.1 b < 6) : okR (m_Ref_insert v (nI b) (ent k x)) (fsM (insL M.1 b (cl M.1 b k) (rl M.1 b) (ent k x)) M) := by
  have hcl := cl_le M.1 b k
  obtain ⟨v1, hv1, hv⟩ := r_ins_L (b := b) (p := cl M.1 b k) (w := M.1) (e := ent k x) hb (rl M.1 b - cl M.1 b k) fz v M h h0 (by omega) (by unfold fz; omega) (fun _ _ => rfl)
  rw [show cl M.1 b k + (rl M.1 b - cl M.1 b k) = rl M.1 b by omega] at hv1
  have hc := r_cnt_L (x := x) h.1 hb hE hs hk (rl M.1 b) 0 fz (by omega) (by have := rl_le M.1 b; unfold fz; omega)
  have hc' : m_Ref_insert_L13 fz v (0 : Int32) (0 : Int32) (nI b) (ent k x) (nI (rl M.1 b)) = some (.inr (nI (cl M.1 b k), v)) := by
    rw [show min 0 (cl M.1 b k) = 0 by omega] at hc; exact hc
  unfold m_Ref_insert insL
  rw [r_rl h.1 hb, obS, hc', ol1R, hv1, ol0R, pl_addr', fsM_app]
  cases ef : fsM (shl M.1 b (cl M.1 b k) (rl M.1 b - cl M.1 b k)) M with
  | inl M' =>
    rw [ef] at hv
    have hM' : M'.2.1 = [] := fsM_cut_nil ef
    obtain ⟨v2, q1, q2⟩ := r_firm_brk hv hM' (nI (9 * b + 3 + cl M.1 b k)) (ent k x)
    exact ⟨v2, by rw [q1, obS], q2⟩
  | inr M' =>
    rw [ef] at hv
    have hn := fsM_nil h0 ef
    show okR _ (fsM [(9 * b + 3 + cl M.1 b k, ent k x)] M')
    obtain ⟨v2, q1, q2⟩ := r_firm hv hn (a := 9 * b + 3 + cl M.1 b k) (by omega) (ent k x)
    rw [fsM_one]
    exact ⟨v2, by rw [q1, obS], q2⟩
end Ins
