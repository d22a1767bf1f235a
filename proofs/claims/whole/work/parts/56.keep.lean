/-! PURE: what the reference's inner methods leave alone: rising and the code -/
def gk (v : SR) : (Nat → Int32) × Int32 := (rg_ris v, rg_cd v)
section Pr
variable {c : (Nat → Int32) × Int32}
def pr {α : Type} (c : (Nat → Int32) × Int32) (x : Option (α × SR)) : Prop := ∀ r v, x = some (r, v) → gk v = c
def q0 {ρ : Type} (c : (Nat → Int32) × Int32) (x : Option ((ρ × SR) ⊕ SR)) : Prop := (∀ r v, x = some (.inl (r, v)) → gk v = c) ∧ ∀ v, x = some (.inr v) → gk v = c
def q1 {ρ A : Type} (c : (Nat → Int32) × Int32) (x : Option ((ρ × SR) ⊕ (A × SR))) : Prop := (∀ r v, x = some (.inl (r, v)) → gk v = c) ∧ ∀ a v, x = some (.inr (a, v)) → gk v = c
theorem pr_none {α : Type} : pr (α := α) c none := fun _ _ h => by cases h
theorem pr_some {α : Type} {r : α} {v : SR} (h : gk v = c) : pr c (some (r, v)) := fun _ _ e => by cases e; exact h
theorem pr_ite {α : Type} {P : Prop} [Decidable P] {x y : Option (α × SR)} (h1 : pr c x) (h2 : pr c y) : pr c (if P then x else y) := by by_cases h : P <;> simp only [h, if_true, if_false] <;> assumption
theorem pr_ob {α β : Type} {x : Option (α × SR)} {f : α → SR → Option (β × SR)} (h1 : pr c x) (h2 : ∀ r v, gk v = c → pr c (f r v)) : pr c (ob x f) := by
  cases x with
  | none => exact pr_none
  | some q => exact h2 q.1 q.2 (h1 q.1 q.2 rfl)
theorem pr_ol0 {α : Type} {x : Option ((α × SR) ⊕ SR)} {f : SR → Option (α × SR)} (h1 : q0 c x) (h2 : ∀ v, gk v = c → pr c (f v)) : pr c (ol0 x id f) := by
  cases x with
  | none => exact pr_none
  | some q => cases q with
    | inl z => exact pr_some (h1.1 z.1 z.2 rfl)
    | inr z => exact h2 z (h1.2 z rfl)
theorem pr_ol1 {α A : Type} {x : Option ((α × SR) ⊕ (A × SR))} {f : A → SR → Option (α × SR)} (h1 : q1 c x) (h2 : ∀ a v, gk v = c → pr c (f a v)) : pr c (ol1 x id f) := by
  cases x with
  | none => exact pr_none
  | some q => cases q with
    | inl z => exact pr_some (h1.1 z.1 z.2 rfl)
    | inr z => exact h2 z.1 z.2 (h1.2 z.1 z.2 rfl)
theorem q0_none {ρ : Type} : q0 (ρ := ρ) c none := ⟨(fun _ _ h => by cases h), (fun _ h => by cases h)⟩
theorem q0_inr {ρ : Type} {v : SR} (h : gk v = c) : q0 (ρ := ρ) c (some (.inr v)) := ⟨(fun _ _ e => by cases e), (fun _ e => by cases e; exact h)⟩
theorem q0_inl {ρ : Type} {r : ρ} {v : SR} (h : gk v = c) : q0 c (some (.inl (r, v))) := ⟨(fun _ _ e => by cases e; exact h), (fun _ e => by cases e)⟩
theorem q0_ite {ρ : Type} {P : Prop} [Decidable P] {x y : Option ((ρ × SR) ⊕ SR)} (h1 : q0 c x) (h2 : q0 c y) : q0 c (if P then x else y) := by by_cases h : P <;> simp only [h, if_true, if_false] <;> assumption
theorem q0_ob {α ρ : Type} {x : Option (α × SR)} {f : α → SR → Option ((ρ × SR) ⊕ SR)} (h1 : pr c x) (h2 : ∀ r v, gk v = c → q0 c (f r v)) : q0 c (ob x f) := by
  cases x with
  | none => exact q0_none
  | some q => exact h2 q.1 q.2 (h1 q.1 q.2 rfl)
theorem q0_ol1 {ρ A : Type} {x : Option ((ρ × SR) ⊕ (A × SR))} {f : A → SR → Option ((ρ × SR) ⊕ SR)} (h1 : q1 c x) (h2 : ∀ a v, gk v = c → q0 c (f a v)) : q0 c (ol1 x Sum.inl f) := by
  cases x with
  | none => exact q0_none
  | some q => cases q with
    | inl z => exact q0_inl (h1.1 z.1 z.2 rfl)
    | inr z => exact h2 z.1 z.2 (h1.2 z.1 z.2 rfl)
theorem q1_none {ρ A : Type} : q1 (ρ := ρ) (A := A) c none := ⟨(fun _ _ h => by cases h), (fun _ _ h => by cases h)⟩
theorem q1_inr {ρ A : Type} {a : A} {v : SR} (h : gk v = c) : q1 (ρ := ρ) c (some (.inr (a, v))) := ⟨(fun _ _ e => by cases e), (fun _ _ e => by cases e; exact h)⟩
theorem q1_inl {ρ A : Type} {r : ρ} {v : SR} (h : gk v = c) : q1 (A := A) c (some (.inl (r, v))) := ⟨(fun _ _ e => by cases e; exact h), (fun _ _ e => by cases e)⟩
theorem q1_ite {ρ A : Type} {P : Prop} [Decidable P] {x y : Option ((ρ × SR) ⊕ (A × SR))} (h1 : q1 c x) (h2 : q1 c y) : q1 c (if P then x else y) := by by_cases h : P <;> simp only [h, if_true, if_false] <;> assumption
theorem q1_ob {α ρ A : Type} {x : Option (α × SR)} {f : α → SR → Option ((ρ × SR) ⊕ (A × SR))} (h1 : pr c x) (h2 : ∀ r v, gk v = c → q1 c (f r v)) : q1 c (ob x f) := by
  cases x with
  | none => exact q1_none
  | some q => exact h2 q.1 q.2 (h1 q.1 q.2 rfl)
theorem q1_ol1 {ρ A B : Type} {x : Option ((ρ × SR) ⊕ (B × SR))} {f : B → SR → Option ((ρ × SR) ⊕ (A × SR))} (h1 : q1 c x) (h2 : ∀ a v, gk v = c → q1 c (f a v)) : q1 c (ol1 x Sum.inl f) := by
  cases x with
  | none => exact q1_none
  | some q => cases q with
    | inl z => exact q1_inl (h1.1 z.1 z.2 rfl)
    | inr z => exact h2 z.1 z.2 (h1.2 z.1 z.2 rfl)

theorem pr_cutNow_L2 : ∀ (n : Nat) {v : SR} (h : gk v = c) (a0), q0 c (m_Ref_cutNow_L2 n v a0) := by
  intro n
  induction n with
  | zero => intro v h a0; exact q0_none
  | succ n ih =>
    intro v h a0
    unfold m_Ref_cutNow_L2
    repeat' first | with_reducible exact pr_none | with_reducible exact q0_none | with_reducible exact q1_none | with_reducible refine pr_some ?_ | with_reducible refine q0_inr ?_ | with_reducible refine q1_inr ?_ | with_reducible refine q0_inl ?_ | with_reducible refine q1_inl ?_ | with_reducible refine ih ?_ _ | with_reducible apply pr_ite | with_reducible apply q0_ite | with_reducible apply q1_ite | with_reducible refine pr_ob ?_ (fun _ _ h => ?_) | with_reducible refine q0_ob ?_ (fun _ _ h => ?_) | with_reducible refine q1_ob ?_ (fun _ _ h => ?_) | with_reducible refine pr_ol0 ?_ (fun _ h => ?_) | with_reducible refine pr_ol1 ?_ (fun _ _ h => ?_) | with_reducible refine q0_ol1 ?_ (fun _ _ h => ?_) | with_reducible refine q1_ol1 ?_ (fun _ _ h => ?_) | exact h
theorem pr_cutNow {v : SR} (h : gk v = c) : pr c (m_Ref_cutNow v) := by
  unfold m_Ref_cutNow
  repeat' first | with_reducible exact pr_none | with_reducible exact q0_none | with_reducible exact q1_none | with_reducible refine pr_some ?_ | with_reducible refine q0_inr ?_ | with_reducible refine q1_inr ?_ | with_reducible refine q0_inl ?_ | with_reducible refine q1_inl ?_ | with_reducible refine pr_cutNow_L2 _ ?_ _ | with_reducible apply pr_ite | with_reducible apply q0_ite | with_reducible apply q1_ite | with_reducible refine pr_ob ?_ (fun _ _ h => ?_) | with_reducible refine q0_ob ?_ (fun _ _ h => ?_) | with_reducible refine q1_ob ?_ (fun _ _ h => ?_) | with_reducible refine pr_ol0 ?_ (fun _ h => ?_) | with_reducible refine pr_ol1 ?_ (fun _ _ h => ?_) | with_reducible refine q0_ol1 ?_ (fun _ _ h => ?_) | with_reducible refine q1_ol1 ?_ (fun _ _ h => ?_) | exact h
theorem pr_store_J46 {v : SR} (h : gk v = c) : ∀ a0 a1 a2, pr c (m_Ref_store_J46 v a0 a1 a2) := by
  intro a0 a1 a2
  unfold m_Ref_store_J46
  repeat' first | with_reducible exact pr_none | with_reducible exact q0_none | with_reducible exact q1_none | with_reducible refine pr_some ?_ | with_reducible refine q0_inr ?_ | with_reducible refine q1_inr ?_ | with_reducible refine q0_inl ?_ | with_reducible refine q1_inl ?_ | with_reducible apply pr_ite | with_reducible apply q0_ite | with_reducible apply q1_ite | with_reducible refine pr_ob ?_ (fun _ _ h => ?_) | with_reducible refine q0_ob ?_ (fun _ _ h => ?_) | with_reducible refine q1_ob ?_ (fun _ _ h => ?_) | with_reducible refine pr_ol0 ?_ (fun _ h => ?_) | with_reducible refine pr_ol1 ?_ (fun _ _ h => ?_) | with_reducible refine q0_ol1 ?_ (fun _ _ h => ?_) | with_reducible refine q1_ol1 ?_ (fun _ _ h => ?_) | exact h
theorem pr_store_J18 {v : SR} (h : gk v = c) : ∀ a0 a1, pr c (m_Ref_store_J18 v a0 a1) := by
  intro a0 a1
  unfold m_Ref_store_J18
  repeat' first | with_reducible exact pr_none | with_reducible exact q0_none | with_reducible exact q1_none | with_reducible refine pr_some ?_ | with_reducible refine q0_inr ?_ | with_reducible refine q1_inr ?_ | with_reducible refine q0_inl ?_ | with_reducible refine q1_inl ?_ | with_reducible refine pr_store_J46 ?_ _ _ _ | with_reducible apply pr_ite | with_reducible apply q0_ite | with_reducible apply q1_ite | with_reducible refine pr_ob ?_ (fun _ _ h => ?_) | with_reducible refine q0_ob ?_ (fun _ _ h => ?_) | with_reducible refine q1_ob ?_ (fun _ _ h => ?_) | with_reducible refine pr_ol0 ?_ (fun _ h => ?_) | with_reducible refine pr_ol1 ?_ (fun _ _ h => ?_) | with_reducible refine q0_ol1 ?_ (fun _ _ h => ?_) | with_reducible refine q1_ol1 ?_ (fun _ _ h => ?_) | exact h
theorem pr_store {v : SR} (h : gk v = c) : ∀ a0 a1, pr c (m_Ref_store v a0 a1) := by
  intro a0 a1
  unfold m_Ref_store
  repeat' first | with_reducible exact pr_none | with_reducible exact q0_none | with_reducible exact q1_none | with_reducible refine pr_some ?_ | with_reducible refine q0_inr ?_ | with_reducible refine q1_inr ?_ | with_reducible refine q0_inl ?_ | with_reducible refine q1_inl ?_ | with_reducible refine pr_store_J18 ?_ _ _ | with_reducible refine pr_cutNow ?_ | with_reducible apply pr_ite | with_reducible apply q0_ite | with_reducible apply q1_ite | with_reducible refine pr_ob ?_ (fun _ _ h => ?_) | with_reducible refine q0_ob ?_ (fun _ _ h => ?_) | with_reducible refine q1_ob ?_ (fun _ _ h => ?_) | with_reducible refine pr_ol0 ?_ (fun _ h => ?_) | with_reducible refine pr_ol1 ?_ (fun _ _ h => ?_) | with_reducible refine q0_ol1 ?_ (fun _ _ h => ?_) | with_reducible refine q1_ol1 ?_ (fun _ _ h => ?_) | exact h
theorem pr_fence {v : SR} (h : gk v = c) : pr c (m_Ref_fence v) := by
  unfold m_Ref_fence
  repeat' first | with_reducible exact pr_none | with_reducible exact q0_none | with_reducible exact q1_none | with_reducible refine pr_some ?_ | with_reducible refine q0_inr ?_ | with_reducible refine q1_inr ?_ | with_reducible refine q0_inl ?_ | with_reducible refine q1_inl ?_ | with_reducible apply pr_ite | with_reducible apply q0_ite | with_reducible apply q1_ite | with_reducible refine pr_ob ?_ (fun _ _ h => ?_) | with_reducible refine q0_ob ?_ (fun _ _ h => ?_) | with_reducible refine q1_ob ?_ (fun _ _ h => ?_) | with_reducible refine pr_ol0 ?_ (fun _ h => ?_) | with_reducible refine pr_ol1 ?_ (fun _ _ h => ?_) | with_reducible refine q0_ol1 ?_ (fun _ _ h => ?_) | with_reducible refine q1_ol1 ?_ (fun _ _ h => ?_) | exact h
theorem pr_firm {v : SR} (h : gk v = c) : ∀ a0 a1, pr c (m_Ref_firm v a0 a1) := by
  intro a0 a1
  unfold m_Ref_firm
  repeat' first | with_reducible exact pr_none | with_reducible exact q0_none | with_reducible exact q1_none | with_reducible refine pr_some ?_ | with_reducible refine q0_inr ?_ | with_reducible refine q1_inr ?_ | with_reducible refine q0_inl ?_ | with_reducible refine q1_inl ?_ | with_reducible refine pr_store ?_ _ _ | with_reducible refine pr_fence ?_ | with_reducible apply pr_ite | with_reducible apply q0_ite | with_reducible apply q1_ite | with_reducible refine pr_ob ?_ (fun _ _ h => ?_) | with_reducible refine q0_ob ?_ (fun _ _ h => ?_) | with_reducible refine q1_ob ?_ (fun _ _ h => ?_) | with_reducible refine pr_ol0 ?_ (fun _ h => ?_) | with_reducible refine pr_ol1 ?_ (fun _ _ h => ?_) | with_reducible refine q0_ol1 ?_ (fun _ _ h => ?_) | with_reducible refine q1_ol1 ?_ (fun _ _ h => ?_) | exact h
theorem pr_entry {v : SR} (h : gk v = c) : ∀ a0 a1, pr c (m_Ref_entry v a0 a1) := by
  intro a0 a1
  unfold m_Ref_entry
  repeat' first | with_reducible exact pr_none | with_reducible exact q0_none | with_reducible exact q1_none | with_reducible refine pr_some ?_ | with_reducible refine q0_inr ?_ | with_reducible refine q1_inr ?_ | with_reducible refine q0_inl ?_ | with_reducible refine q1_inl ?_ | with_reducible apply pr_ite | with_reducible apply q0_ite | with_reducible apply q1_ite | with_reducible refine pr_ob ?_ (fun _ _ h => ?_) | with_reducible refine q0_ob ?_ (fun _ _ h => ?_) | with_reducible refine q1_ob ?_ (fun _ _ h => ?_) | with_reducible refine pr_ol0 ?_ (fun _ h => ?_) | with_reducible refine pr_ol1 ?_ (fun _ _ h => ?_) | with_reducible refine q0_ol1 ?_ (fun _ _ h => ?_) | with_reducible refine q1_ol1 ?_ (fun _ _ h => ?_) | exact h
theorem pr_keyOf {v : SR} (h : gk v = c) : ∀ a0, pr c (m_Ref_keyOf v a0) := by
  intro a0
  unfold m_Ref_keyOf
  repeat' first | with_reducible exact pr_none | with_reducible exact q0_none | with_reducible exact q1_none | with_reducible refine pr_some ?_ | with_reducible refine q0_inr ?_ | with_reducible refine q1_inr ?_ | with_reducible refine q0_inl ?_ | with_reducible refine q1_inl ?_ | with_reducible apply pr_ite | with_reducible apply q0_ite | with_reducible apply q1_ite | with_reducible refine pr_ob ?_ (fun _ _ h => ?_) | with_reducible refine q0_ob ?_ (fun _ _ h => ?_) | with_reducible refine q1_ob ?_ (fun _ _ h => ?_) | with_reducible refine pr_ol0 ?_ (fun _ h => ?_) | with_reducible refine pr_ol1 ?_ (fun _ _ h => ?_) | with_reducible refine q0_ol1 ?_ (fun _ _ h => ?_) | with_reducible refine q1_ol1 ?_ (fun _ _ h => ?_) | exact h
theorem pr_root {v : SR} (h : gk v = c) : pr c (m_Ref_root v) := by
  unfold m_Ref_root
  repeat' first | with_reducible exact pr_none | with_reducible exact q0_none | with_reducible exact q1_none | with_reducible refine pr_some ?_ | with_reducible refine q0_inr ?_ | with_reducible refine q1_inr ?_ | with_reducible refine q0_inl ?_ | with_reducible refine q1_inl ?_ | with_reducible apply pr_ite | with_reducible apply q0_ite | with_reducible apply q1_ite | with_reducible refine pr_ob ?_ (fun _ _ h => ?_) | with_reducible refine q0_ob ?_ (fun _ _ h => ?_) | with_reducible refine q1_ob ?_ (fun _ _ h => ?_) | with_reducible refine pr_ol0 ?_ (fun _ h => ?_) | with_reducible refine pr_ol1 ?_ (fun _ _ h => ?_) | with_reducible refine q0_ol1 ?_ (fun _ _ h => ?_) | with_reducible refine q1_ol1 ?_ (fun _ _ h => ?_) | exact h
theorem pr_level {v : SR} (h : gk v = c) : ∀ a0, pr c (m_Ref_level v a0) := by
  intro a0
  unfold m_Ref_level
  repeat' first | with_reducible exact pr_none | with_reducible exact q0_none | with_reducible exact q1_none | with_reducible refine pr_some ?_ | with_reducible refine q0_inr ?_ | with_reducible refine q1_inr ?_ | with_reducible refine q0_inl ?_ | with_reducible refine q1_inl ?_ | with_reducible apply pr_ite | with_reducible apply q0_ite | with_reducible apply q1_ite | with_reducible refine pr_ob ?_ (fun _ _ h => ?_) | with_reducible refine q0_ob ?_ (fun _ _ h => ?_) | with_reducible refine q1_ob ?_ (fun _ _ h => ?_) | with_reducible refine pr_ol0 ?_ (fun _ h => ?_) | with_reducible refine pr_ol1 ?_ (fun _ _ h => ?_) | with_reducible refine q0_ol1 ?_ (fun _ _ h => ?_) | with_reducible refine q1_ol1 ?_ (fun _ _ h => ?_) | exact h
theorem pr_next {v : SR} (h : gk v = c) : ∀ a0, pr c (m_Ref_next v a0) := by
  intro a0
  unfold m_Ref_next
  repeat' first | with_reducible exact pr_none | with_reducible exact q0_none | with_reducible exact q1_none | with_reducible refine pr_some ?_ | with_reducible refine q0_inr ?_ | with_reducible refine q1_inr ?_ | with_reducible refine q0_inl ?_ | with_reducible refine q1_inl ?_ | with_reducible apply pr_ite | with_reducible apply q0_ite | with_reducible apply q1_ite | with_reducible refine pr_ob ?_ (fun _ _ h => ?_) | with_reducible refine q0_ob ?_ (fun _ _ h => ?_) | with_reducible refine q1_ob ?_ (fun _ _ h => ?_) | with_reducible refine pr_ol0 ?_ (fun _ h => ?_) | with_reducible refine pr_ol1 ?_ (fun _ _ h => ?_) | with_reducible refine q0_ol1 ?_ (fun _ _ h => ?_) | with_reducible refine q1_ol1 ?_ (fun _ _ h => ?_) | exact h
theorem pr_low {v : SR} (h : gk v = c) : ∀ a0, pr c (m_Ref_low v a0) := by
  intro a0
  unfold m_Ref_low
  repeat' first | with_reducible exact pr_none | with_reducible exact q0_none | with_reducible exact q1_none | with_reducible refine pr_some ?_ | with_reducible refine q0_inr ?_ | with_reducible refine q1_inr ?_ | with_reducible refine q0_inl ?_ | with_reducible refine q1_inl ?_ | with_reducible apply pr_ite | with_reducible apply q0_ite | with_reducible apply q1_ite | with_reducible refine pr_ob ?_ (fun _ _ h => ?_) | with_reducible refine q0_ob ?_ (fun _ _ h => ?_) | with_reducible refine q1_ob ?_ (fun _ _ h => ?_) | with_reducible refine pr_ol0 ?_ (fun _ h => ?_) | with_reducible refine pr_ol1 ?_ (fun _ _ h => ?_) | with_reducible refine q0_ol1 ?_ (fun _ _ h => ?_) | with_reducible refine q1_ol1 ?_ (fun _ _ h => ?_) | exact h
theorem pr_at {v : SR} (h : gk v = c) : ∀ a0 a1, pr c (m_Ref_at v a0 a1) := by
  intro a0 a1
  unfold m_Ref_at
  repeat' first | with_reducible exact pr_none | with_reducible exact q0_none | with_reducible exact q1_none | with_reducible refine pr_some ?_ | with_reducible refine q0_inr ?_ | with_reducible refine q1_inr ?_ | with_reducible refine q0_inl ?_ | with_reducible refine q1_inl ?_ | with_reducible apply pr_ite | with_reducible apply q0_ite | with_reducible apply q1_ite | with_reducible refine pr_ob ?_ (fun _ _ h => ?_) | with_reducible refine q0_ob ?_ (fun _ _ h => ?_) | with_reducible refine q1_ob ?_ (fun _ _ h => ?_) | with_reducible refine pr_ol0 ?_ (fun _ h => ?_) | with_reducible refine pr_ol1 ?_ (fun _ _ h => ?_) | with_reducible refine q0_ol1 ?_ (fun _ _ h => ?_) | with_reducible refine q1_ol1 ?_ (fun _ _ h => ?_) | exact h
theorem pr_keyAt {v : SR} (h : gk v = c) : ∀ a0 a1, pr c (m_Ref_keyAt v a0 a1) := by
  intro a0 a1
  unfold m_Ref_keyAt
  repeat' first | with_reducible exact pr_none | with_reducible exact q0_none | with_reducible exact q1_none | with_reducible refine pr_some ?_ | with_reducible refine q0_inr ?_ | with_reducible refine q1_inr ?_ | with_reducible refine q0_inl ?_ | with_reducible refine q1_inl ?_ | with_reducible refine pr_at ?_ _ _ | with_reducible refine pr_keyOf ?_ _ | with_reducible apply pr_ite | with_reducible apply q0_ite | with_reducible apply q1_ite | with_reducible refine pr_ob ?_ (fun _ _ h => ?_) | with_reducible refine q0_ob ?_ (fun _ _ h => ?_) | with_reducible refine q1_ob ?_ (fun _ _ h => ?_) | with_reducible refine pr_ol0 ?_ (fun _ h => ?_) | with_reducible refine pr_ol1 ?_ (fun _ _ h => ?_) | with_reducible refine q0_ol1 ?_ (fun _ _ h => ?_) | with_reducible refine q1_ol1 ?_ (fun _ _ h => ?_) | exact h
theorem pr_blockAt {v : SR} (h : gk v = c) : ∀ a0 a1, pr c (m_Ref_blockAt v a0 a1) := by
  intro a0 a1
  unfold m_Ref_blockAt
  repeat' first | with_reducible exact pr_none | with_reducible exact q0_none | with_reducible exact q1_none | with_reducible refine pr_some ?_ | with_reducible refine q0_inr ?_ | with_reducible refine q1_inr ?_ | with_reducible refine q0_inl ?_ | with_reducible refine q1_inl ?_ | with_reducible refine pr_at ?_ _ _ | with_reducible apply pr_ite | with_reducible apply q0_ite | with_reducible apply q1_ite | with_reducible refine pr_ob ?_ (fun _ _ h => ?_) | with_reducible refine q0_ob ?_ (fun _ _ h => ?_) | with_reducible refine q1_ob ?_ (fun _ _ h => ?_) | with_reducible refine pr_ol0 ?_ (fun _ h => ?_) | with_reducible refine pr_ol1 ?_ (fun _ _ h => ?_) | with_reducible refine q0_ol1 ?_ (fun _ _ h => ?_) | with_reducible refine q1_ol1 ?_ (fun _ _ h => ?_) | exact h
theorem pr_length_L2 : ∀ (n : Nat) {v : SR} (h : gk v = c) (a0) (a1), q1 c (m_Ref_length_L2 n v a0 a1) := by
  intro n
  induction n with
  | zero => intro v h a0 a1; exact q1_none
  | succ n ih =>
    intro v h a0 a1
    unfold m_Ref_length_L2
    repeat' first | with_reducible exact pr_none | with_reducible exact q0_none | with_reducible exact q1_none | with_reducible refine pr_some ?_ | with_reducible refine q0_inr ?_ | with_reducible refine q1_inr ?_ | with_reducible refine q0_inl ?_ | with_reducible refine q1_inl ?_ | with_reducible refine pr_at ?_ _ _ | with_reducible refine ih ?_ _ _ | with_reducible apply pr_ite | with_reducible apply q0_ite | with_reducible apply q1_ite | with_reducible refine pr_ob ?_ (fun _ _ h => ?_) | with_reducible refine q0_ob ?_ (fun _ _ h => ?_) | with_reducible refine q1_ob ?_ (fun _ _ h => ?_) | with_reducible refine pr_ol0 ?_ (fun _ h => ?_) | with_reducible refine pr_ol1 ?_ (fun _ _ h => ?_) | with_reducible refine q0_ol1 ?_ (fun _ _ h => ?_) | with_reducible refine q1_ol1 ?_ (fun _ _ h => ?_) | exact h
theorem pr_length {v : SR} (h : gk v = c) : ∀ a0, pr c (m_Ref_length v a0) := by
  intro a0
  unfold m_Ref_length
  repeat' first | with_reducible exact pr_none | with_reducible exact q0_none | with_reducible exact q1_none | with_reducible refine pr_some ?_ | with_reducible refine q0_inr ?_ | with_reducible refine q1_inr ?_ | with_reducible refine q0_inl ?_ | with_reducible refine q1_inl ?_ | with_reducible refine pr_length_L2 _ ?_ _ _ | with_reducible apply pr_ite | with_reducible apply q0_ite | with_reducible apply q1_ite | with_reducible refine pr_ob ?_ (fun _ _ h => ?_) | with_reducible refine q0_ob ?_ (fun _ _ h => ?_) | with_reducible refine q1_ob ?_ (fun _ _ h => ?_) | with_reducible refine pr_ol0 ?_ (fun _ h => ?_) | with_reducible refine pr_ol1 ?_ (fun _ _ h => ?_) | with_reducible refine q0_ol1 ?_ (fun _ _ h => ?_) | with_reducible refine q1_ol1 ?_ (fun _ _ h => ?_) | exact h
theorem pr_reach_J17 {v : SR} (h : gk v = c) : ∀ a0, pr c (m_Ref_reach_J17 v a0) := by
  intro a0
  unfold m_Ref_reach_J17
  repeat' first | with_reducible exact pr_none | with_reducible exact q0_none | with_reducible exact q1_none | with_reducible refine pr_some ?_ | with_reducible refine q0_inr ?_ | with_reducible refine q1_inr ?_ | with_reducible refine q0_inl ?_ | with_reducible refine q1_inl ?_ | with_reducible apply pr_ite | with_reducible apply q0_ite | with_reducible apply q1_ite | with_reducible refine pr_ob ?_ (fun _ _ h => ?_) | with_reducible refine q0_ob ?_ (fun _ _ h => ?_) | with_reducible refine q1_ob ?_ (fun _ _ h => ?_) | with_reducible refine pr_ol0 ?_ (fun _ h => ?_) | with_reducible refine pr_ol1 ?_ (fun _ _ h => ?_) | with_reducible refine q0_ol1 ?_ (fun _ _ h => ?_) | with_reducible refine q1_ol1 ?_ (fun _ _ h => ?_) | exact h
theorem pr_reach {v : SR} (h : gk v = c) : ∀ a0, pr c (m_Ref_reach v a0) := by
  intro a0
  unfold m_Ref_reach
  repeat' first | with_reducible exact pr_none | with_reducible exact q0_none | with_reducible exact q1_none | with_reducible refine pr_some ?_ | with_reducible refine q0_inr ?_ | with_reducible refine q1_inr ?_ | with_reducible refine q0_inl ?_ | with_reducible refine q1_inl ?_ | with_reducible refine pr_reach_J17 ?_ _ | with_reducible apply pr_ite | with_reducible apply q0_ite | with_reducible apply q1_ite | with_reducible refine pr_ob ?_ (fun _ _ h => ?_) | with_reducible refine q0_ob ?_ (fun _ _ h => ?_) | with_reducible refine q1_ob ?_ (fun _ _ h => ?_) | with_reducible refine pr_ol0 ?_ (fun _ h => ?_) | with_reducible refine pr_ol1 ?_ (fun _ _ h => ?_) | with_reducible refine q0_ol1 ?_ (fun _ _ h => ?_) | with_reducible refine q1_ol1 ?_ (fun _ _ h => ?_) | exact h
theorem pr_mark_L2 : ∀ (n : Nat) {v : SR} (h : gk v = c) (a0), q0 c (m_Ref_mark_L2 n v a0) := by
  intro n
  induction n with
  | zero => intro v h a0; exact q0_none
  | succ n ih =>
    intro v h a0
    unfold m_Ref_mark_L2
    repeat' first | with_reducible exact pr_none | with_reducible exact q0_none | with_reducible exact q1_none | with_reducible refine pr_some ?_ | with_reducible refine q0_inr ?_ | with_reducible refine q1_inr ?_ | with_reducible refine q0_inl ?_ | with_reducible refine q1_inl ?_ | with_reducible refine ih ?_ _ | with_reducible apply pr_ite | with_reducible apply q0_ite | with_reducible apply q1_ite | with_reducible refine pr_ob ?_ (fun _ _ h => ?_) | with_reducible refine q0_ob ?_ (fun _ _ h => ?_) | with_reducible refine q1_ob ?_ (fun _ _ h => ?_) | with_reducible refine pr_ol0 ?_ (fun _ h => ?_) | with_reducible refine pr_ol1 ?_ (fun _ _ h => ?_) | with_reducible refine q0_ol1 ?_ (fun _ _ h => ?_) | with_reducible refine q1_ol1 ?_ (fun _ _ h => ?_) | exact h
theorem pr_mark_L32 : ∀ (n : Nat) {v : SR} (h : gk v = c) (a0) (a1), q1 c (m_Ref_mark_L32 n v a0 a1) := by
  intro n
  induction n with
  | zero => intro v h a0 a1; exact q1_none
  | succ n ih =>
    intro v h a0 a1
    unfold m_Ref_mark_L32
    repeat' first | with_reducible exact pr_none | with_reducible exact q0_none | with_reducible exact q1_none | with_reducible refine pr_some ?_ | with_reducible refine q0_inr ?_ | with_reducible refine q1_inr ?_ | with_reducible refine q0_inl ?_ | with_reducible refine q1_inl ?_ | with_reducible refine pr_reach ?_ _ | with_reducible refine ih ?_ _ _ | with_reducible apply pr_ite | with_reducible apply q0_ite | with_reducible apply q1_ite | with_reducible refine pr_ob ?_ (fun _ _ h => ?_) | with_reducible refine q0_ob ?_ (fun _ _ h => ?_) | with_reducible refine q1_ob ?_ (fun _ _ h => ?_) | with_reducible refine pr_ol0 ?_ (fun _ h => ?_) | with_reducible refine pr_ol1 ?_ (fun _ _ h => ?_) | with_reducible refine q0_ol1 ?_ (fun _ _ h => ?_) | with_reducible refine q1_ol1 ?_ (fun _ _ h => ?_) | exact h
theorem pr_mark_L134 : ∀ (n : Nat) {v : SR} (h : gk v = c) (a0) (a1) (a2) (a3), q1 c (m_Ref_mark_L134 n v a0 a1 a2 a3) := by
  intro n
  induction n with
  | zero => intro v h a0 a1 a2 a3; exact q1_none
  | succ n ih =>
    intro v h a0 a1 a2 a3
    unfold m_Ref_mark_L134
    repeat' first | with_reducible exact pr_none | with_reducible exact q0_none | with_reducible exact q1_none | with_reducible refine pr_some ?_ | with_reducible refine q0_inr ?_ | with_reducible refine q1_inr ?_ | with_reducible refine q0_inl ?_ | with_reducible refine q1_inl ?_ | with_reducible refine pr_reach ?_ _ | with_reducible refine pr_blockAt ?_ _ _ | with_reducible refine ih ?_ _ _ _ _ | with_reducible apply pr_ite | with_reducible apply q0_ite | with_reducible apply q1_ite | with_reducible refine pr_ob ?_ (fun _ _ h => ?_) | with_reducible refine q0_ob ?_ (fun _ _ h => ?_) | with_reducible refine q1_ob ?_ (fun _ _ h => ?_) | with_reducible refine pr_ol0 ?_ (fun _ h => ?_) | with_reducible refine pr_ol1 ?_ (fun _ _ h => ?_) | with_reducible refine q0_ol1 ?_ (fun _ _ h => ?_) | with_reducible refine q1_ol1 ?_ (fun _ _ h => ?_) | exact h
theorem pr_mark_L76 : ∀ (n : Nat) {v : SR} (h : gk v = c) (a0) (a1), q1 c (m_Ref_mark_L76 n v a0 a1) := by
  intro n
  induction n with
  | zero => intro v h a0 a1; exact q1_none
  | succ n ih =>
    intro v h a0 a1
    unfold m_Ref_mark_L76
    repeat' first | with_reducible exact pr_none | with_reducible exact q0_none | with_reducible exact q1_none | with_reducible refine pr_some ?_ | with_reducible refine q0_inr ?_ | with_reducible refine q1_inr ?_ | with_reducible refine q0_inl ?_ | with_reducible refine q1_inl ?_ | with_reducible refine pr_reach ?_ _ | with_reducible refine pr_next ?_ _ | with_reducible refine pr_level ?_ _ | with_reducible refine pr_length ?_ _ | with_reducible refine pr_mark_L134 _ ?_ _ _ _ _ | with_reducible refine ih ?_ _ _ | with_reducible apply pr_ite | with_reducible apply q0_ite | with_reducible apply q1_ite | with_reducible refine pr_ob ?_ (fun _ _ h => ?_) | with_reducible refine q0_ob ?_ (fun _ _ h => ?_) | with_reducible refine q1_ob ?_ (fun _ _ h => ?_) | with_reducible refine pr_ol0 ?_ (fun _ h => ?_) | with_reducible refine pr_ol1 ?_ (fun _ _ h => ?_) | with_reducible refine q0_ol1 ?_ (fun _ _ h => ?_) | with_reducible refine q1_ol1 ?_ (fun _ _ h => ?_) | exact h
theorem pr_mark_L68 : ∀ (n : Nat) {v : SR} (h : gk v = c) (a0), q0 c (m_Ref_mark_L68 n v a0) := by
  intro n
  induction n with
  | zero => intro v h a0; exact q0_none
  | succ n ih =>
    intro v h a0
    unfold m_Ref_mark_L68
    repeat' first | with_reducible exact pr_none | with_reducible exact q0_none | with_reducible exact q1_none | with_reducible refine pr_some ?_ | with_reducible refine q0_inr ?_ | with_reducible refine q1_inr ?_ | with_reducible refine q0_inl ?_ | with_reducible refine q1_inl ?_ | with_reducible refine pr_mark_L76 _ ?_ _ _ | with_reducible refine ih ?_ _ | with_reducible apply pr_ite | with_reducible apply q0_ite | with_reducible apply q1_ite | with_reducible refine pr_ob ?_ (fun _ _ h => ?_) | with_reducible refine q0_ob ?_ (fun _ _ h => ?_) | with_reducible refine q1_ob ?_ (fun _ _ h => ?_) | with_reducible refine pr_ol0 ?_ (fun _ h => ?_) | with_reducible refine pr_ol1 ?_ (fun _ _ h => ?_) | with_reducible refine q0_ol1 ?_ (fun _ _ h => ?_) | with_reducible refine q1_ol1 ?_ (fun _ _ h => ?_) | exact h
theorem pr_mark {v : SR} (h : gk v = c) : pr c (m_Ref_mark v) := by
  unfold m_Ref_mark
  repeat' first | with_reducible exact pr_none | with_reducible exact q0_none | with_reducible exact q1_none | with_reducible refine pr_some ?_ | with_reducible refine q0_inr ?_ | with_reducible refine q1_inr ?_ | with_reducible refine q0_inl ?_ | with_reducible refine q1_inl ?_ | with_reducible refine pr_mark_L2 _ ?_ _ | with_reducible refine pr_root ?_ | with_reducible refine pr_reach ?_ _ | with_reducible refine pr_mark_L32 _ ?_ _ _ | with_reducible refine pr_mark_L68 _ ?_ _ | with_reducible apply pr_ite | with_reducible apply q0_ite | with_reducible apply q1_ite | with_reducible refine pr_ob ?_ (fun _ _ h => ?_) | with_reducible refine q0_ob ?_ (fun _ _ h => ?_) | with_reducible refine q1_ob ?_ (fun _ _ h => ?_) | with_reducible refine pr_ol0 ?_ (fun _ h => ?_) | with_reducible refine pr_ol1 ?_ (fun _ _ h => ?_) | with_reducible refine q0_ol1 ?_ (fun _ _ h => ?_) | with_reducible refine q1_ol1 ?_ (fun _ _ h => ?_) | exact h
theorem pr_make_L7 : ∀ (n : Nat) {v : SR} (h : gk v = c) (a0) (a1) (a2) (a3) (a4) (a5) (a6), q1 c (m_Ref_make_L7 n v a0 a1 a2 a3 a4 a5 a6) := by
  intro n
  induction n with
  | zero => intro v h a0 a1 a2 a3 a4 a5 a6; exact q1_none
  | succ n ih =>
    intro v h a0 a1 a2 a3 a4 a5 a6
    unfold m_Ref_make_L7
    repeat' first | with_reducible exact pr_none | with_reducible exact q0_none | with_reducible exact q1_none | with_reducible refine pr_some ?_ | with_reducible refine q0_inr ?_ | with_reducible refine q1_inr ?_ | with_reducible refine q0_inl ?_ | with_reducible refine q1_inl ?_ | with_reducible refine ih ?_ _ _ _ _ _ _ _ | with_reducible apply pr_ite | with_reducible apply q0_ite | with_reducible apply q1_ite | with_reducible refine pr_ob ?_ (fun _ _ h => ?_) | with_reducible refine q0_ob ?_ (fun _ _ h => ?_) | with_reducible refine q1_ob ?_ (fun _ _ h => ?_) | with_reducible refine pr_ol0 ?_ (fun _ h => ?_) | with_reducible refine pr_ol1 ?_ (fun _ _ h => ?_) | with_reducible refine q0_ol1 ?_ (fun _ _ h => ?_) | with_reducible refine q1_ol1 ?_ (fun _ _ h => ?_) | exact h
theorem pr_make_L113 : ∀ (n : Nat) {v : SR} (h : gk v = c) (a0) (a1), q0 c (m_Ref_make_L113 n v a0 a1) := by
  intro n
  induction n with
  | zero => intro v h a0 a1; exact q0_none
  | succ n ih =>
    intro v h a0 a1
    unfold m_Ref_make_L113
    repeat' first | with_reducible exact pr_none | with_reducible exact q0_none | with_reducible exact q1_none | with_reducible refine pr_some ?_ | with_reducible refine q0_inr ?_ | with_reducible refine q1_inr ?_ | with_reducible refine q0_inl ?_ | with_reducible refine q1_inl ?_ | with_reducible refine pr_store ?_ _ _ | with_reducible refine ih ?_ _ _ | with_reducible apply pr_ite | with_reducible apply q0_ite | with_reducible apply q1_ite | with_reducible refine pr_ob ?_ (fun _ _ h => ?_) | with_reducible refine q0_ob ?_ (fun _ _ h => ?_) | with_reducible refine q1_ob ?_ (fun _ _ h => ?_) | with_reducible refine pr_ol0 ?_ (fun _ h => ?_) | with_reducible refine pr_ol1 ?_ (fun _ _ h => ?_) | with_reducible refine q0_ol1 ?_ (fun _ _ h => ?_) | with_reducible refine q1_ol1 ?_ (fun _ _ h => ?_) | exact h
theorem pr_make {v : SR} (h : gk v = c) : ∀ a0 a1 a2 a3 a4 a5, pr c (m_Ref_make v a0 a1 a2 a3 a4 a5) := by
  intro a0 a1 a2 a3 a4 a5
  unfold m_Ref_make
  repeat' first | with_reducible exact pr_none | with_reducible exact q0_none | with_reducible exact q1_none | with_reducible refine pr_some ?_ | with_reducible refine q0_inr ?_ | with_reducible refine q1_inr ?_ | with_reducible refine q0_inl ?_ | with_reducible refine q1_inl ?_ | with_reducible refine pr_mark ?_ | with_reducible refine pr_make_L7 _ ?_ _ _ _ _ _ _ _ | with_reducible refine pr_store ?_ _ _ | with_reducible refine pr_make_L113 _ ?_ _ _ | with_reducible refine pr_fence ?_ | with_reducible apply pr_ite | with_reducible apply q0_ite | with_reducible apply q1_ite | with_reducible refine pr_ob ?_ (fun _ _ h => ?_) | with_reducible refine q0_ob ?_ (fun _ _ h => ?_) | with_reducible refine q1_ob ?_ (fun _ _ h => ?_) | with_reducible refine pr_ol0 ?_ (fun _ h => ?_) | with_reducible refine pr_ol1 ?_ (fun _ _ h => ?_) | with_reducible refine q0_ol1 ?_ (fun _ _ h => ?_) | with_reducible refine q1_ol1 ?_ (fun _ _ h => ?_) | exact h
theorem pr_insert_L55 : ∀ (n : Nat) {v : SR} (h : gk v = c) (a0) (a1) (a2) (a3), q0 c (m_Ref_insert_L55 n v a0 a1 a2 a3) := by
  intro n
  induction n with
  | zero => intro v h a0 a1 a2 a3; exact q0_none
  | succ n ih =>
    intro v h a0 a1 a2 a3
    unfold m_Ref_insert_L55
    repeat' first | with_reducible exact pr_none | with_reducible exact q0_none | with_reducible exact q1_none | with_reducible refine pr_some ?_ | with_reducible refine q0_inr ?_ | with_reducible refine q1_inr ?_ | with_reducible refine q0_inl ?_ | with_reducible refine q1_inl ?_ | with_reducible refine pr_at ?_ _ _ | with_reducible refine pr_firm ?_ _ _ | with_reducible refine ih ?_ _ _ _ _ | with_reducible apply pr_ite | with_reducible apply q0_ite | with_reducible apply q1_ite | with_reducible refine pr_ob ?_ (fun _ _ h => ?_) | with_reducible refine q0_ob ?_ (fun _ _ h => ?_) | with_reducible refine q1_ob ?_ (fun _ _ h => ?_) | with_reducible refine pr_ol0 ?_ (fun _ h => ?_) | with_reducible refine pr_ol1 ?_ (fun _ _ h => ?_) | with_reducible refine q0_ol1 ?_ (fun _ _ h => ?_) | with_reducible refine q1_ol1 ?_ (fun _ _ h => ?_) | exact h
theorem pr_insert_L13 : ∀ (n : Nat) {v : SR} (h : gk v = c) (a0) (a1) (a2) (a3) (a4), q1 c (m_Ref_insert_L13 n v a0 a1 a2 a3 a4) := by
  intro n
  induction n with
  | zero => intro v h a0 a1 a2 a3 a4; exact q1_none
  | succ n ih =>
    intro v h a0 a1 a2 a3 a4
    unfold m_Ref_insert_L13
    repeat' first | with_reducible exact pr_none | with_reducible exact q0_none | with_reducible exact q1_none | with_reducible refine pr_some ?_ | with_reducible refine q0_inr ?_ | with_reducible refine q1_inr ?_ | with_reducible refine q0_inl ?_ | with_reducible refine q1_inl ?_ | with_reducible refine pr_keyAt ?_ _ _ | with_reducible refine pr_keyOf ?_ _ | with_reducible refine ih ?_ _ _ _ _ _ | with_reducible apply pr_ite | with_reducible apply q0_ite | with_reducible apply q1_ite | with_reducible refine pr_ob ?_ (fun _ _ h => ?_) | with_reducible refine q0_ob ?_ (fun _ _ h => ?_) | with_reducible refine q1_ob ?_ (fun _ _ h => ?_) | with_reducible refine pr_ol0 ?_ (fun _ h => ?_) | with_reducible refine pr_ol1 ?_ (fun _ _ h => ?_) | with_reducible refine q0_ol1 ?_ (fun _ _ h => ?_) | with_reducible refine q1_ol1 ?_ (fun _ _ h => ?_) | exact h
theorem pr_insert {v : SR} (h : gk v = c) : ∀ a0 a1, pr c (m_Ref_insert v a0 a1) := by
  intro a0 a1
  unfold m_Ref_insert
  repeat' first | with_reducible exact pr_none | with_reducible exact q0_none | with_reducible exact q1_none | with_reducible refine pr_some ?_ | with_reducible refine q0_inr ?_ | with_reducible refine q1_inr ?_ | with_reducible refine q0_inl ?_ | with_reducible refine q1_inl ?_ | with_reducible refine pr_length ?_ _ | with_reducible refine pr_insert_L13 _ ?_ _ _ _ _ _ | with_reducible refine pr_insert_L55 _ ?_ _ _ _ _ | with_reducible refine pr_firm ?_ _ _ | with_reducible apply pr_ite | with_reducible apply q0_ite | with_reducible apply q1_ite | with_reducible refine pr_ob ?_ (fun _ _ h => ?_) | with_reducible refine q0_ob ?_ (fun _ _ h => ?_) | with_reducible refine q1_ob ?_ (fun _ _ h => ?_) | with_reducible refine pr_ol0 ?_ (fun _ h => ?_) | with_reducible refine pr_ol1 ?_ (fun _ _ h => ?_) | with_reducible refine q0_ol1 ?_ (fun _ _ h => ?_) | with_reducible refine q1_ol1 ?_ (fun _ _ h => ?_) | exact h
theorem pr_drop_L5 : ∀ (n : Nat) {v : SR} (h : gk v = c) (a0) (a1) (a2), q0 c (m_Ref_drop_L5 n v a0 a1 a2) := by
  intro n
  induction n with
  | zero => intro v h a0 a1 a2; exact q0_none
  | succ n ih =>
    intro v h a0 a1 a2
    unfold m_Ref_drop_L5
    repeat' first | with_reducible exact pr_none | with_reducible exact q0_none | with_reducible exact q1_none | with_reducible refine pr_some ?_ | with_reducible refine q0_inr ?_ | with_reducible refine q1_inr ?_ | with_reducible refine q0_inl ?_ | with_reducible refine q1_inl ?_ | with_reducible refine pr_at ?_ _ _ | with_reducible refine pr_firm ?_ _ _ | with_reducible refine ih ?_ _ _ _ | with_reducible apply pr_ite | with_reducible apply q0_ite | with_reducible apply q1_ite | with_reducible refine pr_ob ?_ (fun _ _ h => ?_) | with_reducible refine q0_ob ?_ (fun _ _ h => ?_) | with_reducible refine q1_ob ?_ (fun _ _ h => ?_) | with_reducible refine pr_ol0 ?_ (fun _ h => ?_) | with_reducible refine pr_ol1 ?_ (fun _ _ h => ?_) | with_reducible refine q0_ol1 ?_ (fun _ _ h => ?_) | with_reducible refine q1_ol1 ?_ (fun _ _ h => ?_) | exact h
theorem pr_drop {v : SR} (h : gk v = c) : ∀ a0 a1, pr c (m_Ref_drop v a0 a1) := by
  intro a0 a1
  unfold m_Ref_drop
  repeat' first | with_reducible exact pr_none | with_reducible exact q0_none | with_reducible exact q1_none | with_reducible refine pr_some ?_ | with_reducible refine q0_inr ?_ | with_reducible refine q1_inr ?_ | with_reducible refine q0_inl ?_ | with_reducible refine q1_inl ?_ | with_reducible refine pr_drop_L5 _ ?_ _ _ _ | with_reducible apply pr_ite | with_reducible apply q0_ite | with_reducible apply q1_ite | with_reducible refine pr_ob ?_ (fun _ _ h => ?_) | with_reducible refine q0_ob ?_ (fun _ _ h => ?_) | with_reducible refine q1_ob ?_ (fun _ _ h => ?_) | with_reducible refine pr_ol0 ?_ (fun _ h => ?_) | with_reducible refine pr_ol1 ?_ (fun _ _ h => ?_) | with_reducible refine q0_ol1 ?_ (fun _ _ h => ?_) | with_reducible refine q1_ol1 ?_ (fun _ _ h => ?_) | exact h
theorem pr_split_L56 : ∀ (n : Nat) {v : SR} (h : gk v = c) (a0) (a1) (a2), q0 c (m_Ref_split_L56 n v a0 a1 a2) := by
  intro n
  induction n with
  | zero => intro v h a0 a1 a2; exact q0_none
  | succ n ih =>
    intro v h a0 a1 a2
    unfold m_Ref_split_L56
    repeat' first | with_reducible exact pr_none | with_reducible exact q0_none | with_reducible exact q1_none | with_reducible refine pr_some ?_ | with_reducible refine q0_inr ?_ | with_reducible refine q1_inr ?_ | with_reducible refine q0_inl ?_ | with_reducible refine q1_inl ?_ | with_reducible refine pr_store ?_ _ _ | with_reducible refine ih ?_ _ _ _ | with_reducible apply pr_ite | with_reducible apply q0_ite | with_reducible apply q1_ite | with_reducible refine pr_ob ?_ (fun _ _ h => ?_) | with_reducible refine q0_ob ?_ (fun _ _ h => ?_) | with_reducible refine q1_ob ?_ (fun _ _ h => ?_) | with_reducible refine pr_ol0 ?_ (fun _ h => ?_) | with_reducible refine pr_ol1 ?_ (fun _ _ h => ?_) | with_reducible refine q0_ol1 ?_ (fun _ _ h => ?_) | with_reducible refine q1_ol1 ?_ (fun _ _ h => ?_) | exact h
theorem pr_split {v : SR} (h : gk v = c) : ∀ a0, pr c (m_Ref_split v a0) := by
  intro a0
  unfold m_Ref_split
  repeat' first | with_reducible exact pr_none | with_reducible exact q0_none | with_reducible exact q1_none | with_reducible refine pr_some ?_ | with_reducible refine q0_inr ?_ | with_reducible refine q1_inr ?_ | with_reducible refine q0_inl ?_ | with_reducible refine q1_inl ?_ | with_reducible refine pr_keyAt ?_ _ _ | with_reducible refine pr_level ?_ _ | with_reducible refine pr_next ?_ _ | with_reducible refine pr_at ?_ _ _ | with_reducible refine pr_make ?_ _ _ _ _ _ _ | with_reducible refine pr_firm ?_ _ _ | with_reducible refine pr_split_L56 _ ?_ _ _ _ | with_reducible refine pr_fence ?_ | with_reducible apply pr_ite | with_reducible apply q0_ite | with_reducible apply q1_ite | with_reducible refine pr_ob ?_ (fun _ _ h => ?_) | with_reducible refine q0_ob ?_ (fun _ _ h => ?_) | with_reducible refine q1_ob ?_ (fun _ _ h => ?_) | with_reducible refine pr_ol0 ?_ (fun _ h => ?_) | with_reducible refine pr_ol1 ?_ (fun _ _ h => ?_) | with_reducible refine q0_ol1 ?_ (fun _ _ h => ?_) | with_reducible refine q1_ol1 ?_ (fun _ _ h => ?_) | exact h
end Pr
