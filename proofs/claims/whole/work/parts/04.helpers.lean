/-! MODEL HELPERS: binding, guards, loops as functions -/
def fz : Nat := 4000
def inb (i : Int32) (n : Nat) : Bool := decide (0 ≤ i.toInt ∧ i.toInt < n)
theorem inb_in {i : Int32} {n : Nat} (h : inb i n = true) : vp_in i n := vp_in_iff.mpr (of_decide_eq_true h)
theorem gd {α : Type} {b : Bool} {X : Option α} {o : α} (h : (if b = true then X else none) = some o) : b = true ∧ X = some o := by
  by_cases hb : b = true
  · rw [if_pos hb] at h; exact ⟨hb, h⟩
  · rw [if_neg hb] at h; cases h
def ob {α σ β : Type} (x : Option (α × σ)) (f : α → σ → Option β) : Option β := match x with
  | none => none
  | some q => f q.1 q.2
theorem ob_some {α σ β : Type} {x : Option (α × σ)} {f : α → σ → Option β} {o : β} (h : ob x f = some o) : ∃ r u, x = some (r, u) ∧ f r u = some o := by
  cases x with
  | none => cases h
  | some q => exact ⟨q.1, q.2, rfl, h⟩
def zb (v : Int32) : Bool := decide (v = 0 ∨ v = 1)
def zLushr (x : Int64) (y : Int32) : Int64 := (x.toUInt64 >>> (y.toInt64.toUInt64 &&& Int64.toUInt64 63)).toInt64
def zLshl (x : Int64) (y : Int32) : Int64 := x <<< (y.toInt64 &&& 63)
def zIushr (x y : Int32) : Int32 := (x.toUInt32 >>> (y.toUInt32 &&& Int32.toUInt32 31)).toInt32
def ol0 {ρ  σ γ : Type} (x : Option (ρ ⊕ (σ))) (g : ρ → γ) (f : σ → Option γ) : Option γ := match x with
  | none => none
  | some (.inl z) => some (g z)
  | some (.inr y) => f y
theorem ol0_some {ρ  σ γ : Type} {x : Option (ρ ⊕ (σ))} {g : ρ → γ} {f : σ → Option γ} {o : γ} (h : ol0 x g f = some o) : ∃ q, x = some q ∧ (∀ z, q = .inl z → g z = o) ∧ (∀ u, q = .inr u → f u = some o) := by
  cases x with
  | none => cases h
  | some q =>
    refine ⟨q, rfl, ?_, ?_⟩
    · intro z hz; subst hz; exact Option.some.inj h
    · intro u hz; subst hz; exact h
def ol1 {ρ A0 σ γ : Type} (x : Option (ρ ⊕ (A0 × σ))) (g : ρ → γ) (f : A0 → σ → Option γ) : Option γ := match x with
  | none => none
  | some (.inl z) => some (g z)
  | some (.inr y) => f y.1 y.2
theorem ol1_some {ρ A0 σ γ : Type} {x : Option (ρ ⊕ (A0 × σ))} {g : ρ → γ} {f : A0 → σ → Option γ} {o : γ} (h : ol1 x g f = some o) : ∃ q, x = some q ∧ (∀ z, q = .inl z → g z = o) ∧ (∀ a0 u, q = .inr (a0, u) → f a0 u = some o) := by
  cases x with
  | none => cases h
  | some q =>
    refine ⟨q, rfl, ?_, ?_⟩
    · intro z hz; subst hz; exact Option.some.inj h
    · intro a0 u hz; subst hz; exact h
def ol2 {ρ A0 A1 σ γ : Type} (x : Option (ρ ⊕ (A0 × A1 × σ))) (g : ρ → γ) (f : A0 → A1 → σ → Option γ) : Option γ := match x with
  | none => none
  | some (.inl z) => some (g z)
  | some (.inr y) => f y.1 y.2.1 y.2.2
theorem ol2_some {ρ A0 A1 σ γ : Type} {x : Option (ρ ⊕ (A0 × A1 × σ))} {g : ρ → γ} {f : A0 → A1 → σ → Option γ} {o : γ} (h : ol2 x g f = some o) : ∃ q, x = some q ∧ (∀ z, q = .inl z → g z = o) ∧ (∀ a0 a1 u, q = .inr (a0, a1, u) → f a0 a1 u = some o) := by
  cases x with
  | none => cases h
  | some q =>
    refine ⟨q, rfl, ?_, ?_⟩
    · intro z hz; subst hz; exact Option.some.inj h
    · intro a0 a1 u hz; subst hz; exact h
def ol3 {ρ A0 A1 A2 σ γ : Type} (x : Option (ρ ⊕ (A0 × A1 × A2 × σ))) (g : ρ → γ) (f : A0 → A1 → A2 → σ → Option γ) : Option γ := match x with
  | none => none
  | some (.inl z) => some (g z)
  | some (.inr y) => f y.1 y.2.1 y.2.2.1 y.2.2.2
theorem ol3_some {ρ A0 A1 A2 σ γ : Type} {x : Option (ρ ⊕ (A0 × A1 × A2 × σ))} {g : ρ → γ} {f : A0 → A1 → A2 → σ → Option γ} {o : γ} (h : ol3 x g f = some o) : ∃ q, x = some q ∧ (∀ z, q = .inl z → g z = o) ∧ (∀ a0 a1 a2 u, q = .inr (a0, a1, a2, u) → f a0 a1 a2 u = some o) := by
  cases x with
  | none => cases h
  | some q =>
    refine ⟨q, rfl, ?_, ?_⟩
    · intro z hz; subst hz; exact Option.some.inj h
    · intro a0 a1 a2 u hz; subst hz; exact h
def ol4 {ρ A0 A1 A2 A3 σ γ : Type} (x : Option (ρ ⊕ (A0 × A1 × A2 × A3 × σ))) (g : ρ → γ) (f : A0 → A1 → A2 → A3 → σ → Option γ) : Option γ := match x with
  | none => none
  | some (.inl z) => some (g z)
  | some (.inr y) => f y.1 y.2.1 y.2.2.1 y.2.2.2.1 y.2.2.2.2
theorem ol4_some {ρ A0 A1 A2 A3 σ γ : Type} {x : Option (ρ ⊕ (A0 × A1 × A2 × A3 × σ))} {g : ρ → γ} {f : A0 → A1 → A2 → A3 → σ → Option γ} {o : γ} (h : ol4 x g f = some o) : ∃ q, x = some q ∧ (∀ z, q = .inl z → g z = o) ∧ (∀ a0 a1 a2 a3 u, q = .inr (a0, a1, a2, a3, u) → f a0 a1 a2 a3 u = some o) := by
  cases x with
  | none => cases h
  | some q =>
    refine ⟨q, rfl, ?_, ?_⟩
    · intro z hz; subst hz; exact Option.some.inj h
    · intro a0 a1 a2 a3 u hz; subst hz; exact h
def ol5 {ρ A0 A1 A2 A3 A4 σ γ : Type} (x : Option (ρ ⊕ (A0 × A1 × A2 × A3 × A4 × σ))) (g : ρ → γ) (f : A0 → A1 → A2 → A3 → A4 → σ → Option γ) : Option γ := match x with
  | none => none
  | some (.inl z) => some (g z)
  | some (.inr y) => f y.1 y.2.1 y.2.2.1 y.2.2.2.1 y.2.2.2.2.1 y.2.2.2.2.2
theorem ol5_some {ρ A0 A1 A2 A3 A4 σ γ : Type} {x : Option (ρ ⊕ (A0 × A1 × A2 × A3 × A4 × σ))} {g : ρ → γ} {f : A0 → A1 → A2 → A3 → A4 → σ → Option γ} {o : γ} (h : ol5 x g f = some o) : ∃ q, x = some q ∧ (∀ z, q = .inl z → g z = o) ∧ (∀ a0 a1 a2 a3 a4 u, q = .inr (a0, a1, a2, a3, a4, u) → f a0 a1 a2 a3 a4 u = some o) := by
  cases x with
  | none => cases h
  | some q =>
    refine ⟨q, rfl, ?_, ?_⟩
    · intro z hz; subst hz; exact Option.some.inj h
    · intro a0 a1 a2 a3 a4 u hz; subst hz; exact h
def ol6 {ρ A0 A1 A2 A3 A4 A5 σ γ : Type} (x : Option (ρ ⊕ (A0 × A1 × A2 × A3 × A4 × A5 × σ))) (g : ρ → γ) (f : A0 → A1 → A2 → A3 → A4 → A5 → σ → Option γ) : Option γ := match x with
  | none => none
  | some (.inl z) => some (g z)
  | some (.inr y) => f y.1 y.2.1 y.2.2.1 y.2.2.2.1 y.2.2.2.2.1 y.2.2.2.2.2.1 y.2.2.2.2.2.2
theorem ol6_some {ρ A0 A1 A2 A3 A4 A5 σ γ : Type} {x : Option (ρ ⊕ (A0 × A1 × A2 × A3 × A4 × A5 × σ))} {g : ρ → γ} {f : A0 → A1 → A2 → A3 → A4 → A5 → σ → Option γ} {o : γ} (h : ol6 x g f = some o) : ∃ q, x = some q ∧ (∀ z, q = .inl z → g z = o) ∧ (∀ a0 a1 a2 a3 a4 a5 u, q = .inr (a0, a1, a2, a3, a4, a5, u) → f a0 a1 a2 a3 a4 a5 u = some o) := by
  cases x with
  | none => cases h
  | some q =>
    refine ⟨q, rfl, ?_, ?_⟩
    · intro z hz; subst hz; exact Option.some.inj h
    · intro a0 a1 a2 a3 a4 a5 u hz; subst hz; exact h
