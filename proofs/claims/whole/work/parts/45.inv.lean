/-! PURE: the invariant between calls -/
def nxN (w : Mem) (b : Nat) : Nat := (w (9 * b + 1)).toInt32.toNatClampNeg
/-- keys of block b's own lie below this -/
def ubd (w : Mem) (b : Nat) : Nat := if nxN w b = 0 then 1000 else lo w (nxN w b)
/-- the keys that count: in the row, below the bound -/
def ksB (w : Mem) (b k : Nat) : Bool := decide (k < ubd w b) && (List.range (rl w b)).any (fun p => decide (kp w b p = k))
theorem ksB_iff {w : Mem} {b k : Nat} : ksB w b k = true ↔ k < ubd w b ∧ ∃ p, p < rl w b ∧ kp w b p = k := by
  unfold ksB
  rw [Bool.and_eq_true, decide_eq_true_eq, List.any_eq_true]
  constructor
  · rintro ⟨h1, p, h2, h3⟩
    exact ⟨h1, p, List.mem_range.mp h2, by simpa using h3⟩
  · rintro ⟨h1, p, h2, h3⟩
    exact ⟨h1, p, List.mem_range.mpr h2, by simpa using h3⟩
def kc (w : Mem) (b : Nat) : Nat := cnt (ksB w b) 1000
/-- the key with just j below it -/
def kth (f : Nat → Bool) (j : Nat) : Nat → Nat
  | 0 => 0
  | n + 1 => if cnt f n = j ∧ f n = true then n else kth f j n
def need (w : Mem) (cs : List (List Nat)) : Nat → Nat → Nat → Nat
  | 0, _, _ => 0
  | n + 1, L, k => if cs.length ≤ L then 1 else if kc w (fk w cs L k) < 6 then 0 else 1 + need w cs n (L + 1) (kth (ksB w (fk w cs L k)) 3 1000)
def stray (w : Mem) (cs : List (List Nat)) (L y : Nat) : Prop := y ∈ lvc cs L ∧ lo w y ≠ 0 ∧ ∀ b ∈ lvc cs (L + 1), ksB w b (lo w y) = false
/-- every level below the top has two blocks at least -/
def T2 (cs : List (List Nat)) : Prop := ∀ L, L + 1 < cs.length → 2 ≤ (lvc cs L).length
def clean (w : Mem) (b : Nat) : Prop := (∀ p, p + 1 < rl w b → kp w b p < kp w b (p + 1)) ∧ (∀ p, p < rl w b → kp w b p < ubd w b) ∧ ∀ p, rl w b ≤ p → p < 6 → w (9 * b + 3 + p) = 0
def DI (w : Mem) (cs : List (List Nat)) (fr : Nat) : Prop := (∀ L y z, stray w cs L y → stray w cs L z → y = z) ∧ (∀ L y, stray w cs L y → need w cs 40 (L + 1) (lo w y) = 0 ∨ ((∀ L' z, L < L' → ¬ stray w cs L' z) ∧ need w cs 40 (L + 1) (lo w y) ≤ fr))
def allClean (w : Mem) (cs : List (List Nat)) : Prop := ∀ L b, b ∈ lvc cs L → clean w b
theorem fnd_congr {w w' : Mem} {k : Nat} : ∀ (r : List Nat) (b : Nat), (∀ x ∈ r, lo w' x = lo w x) → fnd w' k b r = fnd w k b r := by
  intro r
  induction r with
  | nil => intro b _; rfl
  | cons c r ih =>
    intro b h
    unfold fnd
    rw [h c List.mem_cons_self, ih c (fun x hx => h x (List.mem_cons_of_mem _ hx))]
theorem fk_congr {w w' : Mem} {cs : List (List Nat)} {L k : Nat} (h : ∀ x ∈ lvc cs L, lo w' x = lo w x) : fk w' cs L k = fk w cs L k := by
  unfold fk
  cases e : lvc cs L with
  | nil => rfl
  | cons b r =>
    rw [e] at h
    exact fnd_congr r b (fun x hx => h x (List.mem_cons_of_mem _ hx))
/-- same lows, same counted keys in inner blocks: same needs, strays, invariant -/
def alk (w w' : Mem) (cs : List (List Nat)) : Prop := (∀ b ∈ cs.flatten, lo w' b = lo w b) ∧ ∀ L, 0 < L → ∀ b ∈ lvc cs L, ksB w' b = ksB w b
theorem need_congr {w w' : Mem} {cs : List (List Nat)} (T : TS w cs) (h : alk w w' cs) : ∀ (n L k : Nat), 0 < L → need w' cs n L k = need w cs n L k := by
  intro n
  induction n with
  | zero => intro L k _; rfl
  | succ n ih =>
    intro L k hL
    unfold need
    by_cases e : cs.length ≤ L
    · rw [if_pos e, if_pos e]
    · rw [if_neg e, if_neg e]
      have hf : fk w' cs L k = fk w cs L k := fk_congr (fun x hx => h.1 x (lvc_flat hx))
      have hm := fk_mem T k (show L < cs.length by omega)
      have hk : ksB w' (fk w cs L k) = ksB w (fk w cs L k) := h.2 L hL _ hm
      rw [hf]
      unfold kc
      rw [hk, ih (L + 1) _ (by omega)]
theorem stray_congr {w w' : Mem} {cs : List (List Nat)} (h : alk w w' cs) {L y : Nat} : stray w' cs L y ↔ stray w cs L y := by
  constructor
  · rintro ⟨h1, h2, h3⟩
    have e := h.1 y (lvc_flat h1)
    refine ⟨h1, by rw [← e]; exact h2, fun b hb => ?_⟩
    rw [← h.2 (L + 1) (by omega) b hb, ← e]; exact h3 b hb
  · rintro ⟨h1, h2, h3⟩
    have e := h.1 y (lvc_flat h1)
    refine ⟨h1, by rw [e]; exact h2, fun b hb => ?_⟩
    rw [h.2 (L + 1) (by omega) b hb, e]; exact h3 b hb
theorem DI.congr {w w' : Mem} {cs : List (List Nat)} {fr fr' : Nat} (T : TS w cs) (h : alk w w' cs) (hf : fr ≤ fr') (D : DI w cs fr) : DI w' cs fr' := by
  refine ⟨fun L y z hy hz => D.1 L y z ((stray_congr h).mp hy) ((stray_congr h).mp hz), fun L y hy => ?_⟩
  have hy' := (stray_congr h).mp hy
  rw [h.1 y (lvc_flat hy.1), need_congr T h 40 (L + 1) _ (by omega)]
  rcases D.2 L y hy' with q | ⟨q1, q2⟩
  · exact Or.inl q
  · exact Or.inr ⟨fun L' z hL hz => q1 L' z hL ((stray_congr h).mp hz), by omega⟩
/-! clean rows: as many keys as places; key j at place j -/
theorem clean.mono {w : Mem} {b : Nat} (h : clean w b) : ∀ (d p : Nat), p + d < rl w b → kp w b p + d ≤ kp w b (p + d) := by
  intro d
  induction d with
  | zero => intro p _; exact Nat.le_refl _
  | succ d ih =>
    intro p hp
    have h1 := ih p (by omega)
    have h2 := h.1 (p + d) (by omega)
    show kp w b p + (d + 1) ≤ kp w b (p + d + 1)
    omega
theorem clean.inj {w : Mem} {b p q : Nat} (h : clean w b) (hp : p < rl w b) (hq : q < rl w b) (e : kp w b p = kp w b q) : p = q := by
  rcases Nat.lt_trichotomy p q with z | z | z
  · have := h.mono (q - p) p (by omega)
    rw [show p + (q - p) = q by omega] at this; omega
  · exact z
  · have := h.mono (p - q) q (by omega)
    rw [show q + (p - q) = p by omega] at this; omega
theorem clean.wst {w : Mem} {b : Nat} (h : clean w b) : wst w b := fun p hp => Nat.le_of_lt (h.1 p hp)
theorem cnt_none {f : Nat → Bool} (a : Nat) : ∀ n, (∀ k, a ≤ k → k < a + n → f k = false) → cnt f (a + n) = cnt f a := by
  intro n
  induction n with
  | zero => intro _; rfl
  | succ n ih =>
    intro h
    show cnt f (a + n + 1) = _
    rw [cnt, ih (fun k h1 h2 => h k h1 (by omega)), h (a + n) (by omega) (by omega)]
    rfl
theorem clean.cn {w : Mem} {b : Nat} (h : clean w b) : ∀ p, p < rl w b → cnt (ksB w b) (kp w b p) = p := by
  intro p
  induction p with
  | zero =>
    intro hp
    have := cnt_none (f := ksB w b) 0 (kp w b 0) (fun k _ hk => by
      cases e : ksB w b k with
      | false => rfl
      | true =>
        obtain ⟨-, q, hq, e2⟩ := ksB_iff.mp e
        have := h.mono q 0 (by omega)
        rw [Nat.zero_add] at this
        omega)
    rw [Nat.zero_add] at this
    exact this
  | succ p ih =>
    intro hp
    have h1 := ih (by omega)
    have h2 := h.1 p hp
    have h3 : ksB w b (kp w b p) = true := ksB_iff.mpr ⟨h.2.1 p (by omega), p, by omega, rfl⟩
    have := cnt_none (f := ksB w b) (kp w b p + 1) (kp w b (p + 1) - (kp w b p + 1)) (fun k hk1 hk2 => by
      cases e : ksB w b k with
      | false => rfl
      | true =>
        obtain ⟨-, q, hq, e2⟩ := ksB_iff.mp e
        exfalso
        rcases Nat.lt_or_ge p q with z | z
        · have := h.mono (q - (p + 1)) (p + 1) (by omega)
          rw [show p + 1 + (q - (p + 1)) = q by omega] at this
          omega
        · have := h.mono (p - q) q (by omega)
          rw [show q + (p - q) = p by omega] at this
          omega)
    rw [show kp w b p + 1 + (kp w b (p + 1) - (kp w b p + 1)) = kp w b (p + 1) by omega, cnt, h1, h3] at this
    simpa using this
theorem ubd_le {w : Mem} {b : Nat} (h : nxN w b = 0 ∨ lo w (nxN w b) ≤ 1000) : ubd w b ≤ 1000 := by
  unfold ubd
  by_cases e : nxN w b = 0
  · rw [if_pos e]; exact Nat.le_refl _
  · rw [if_neg e]; rcases h with q | q
    · exact absurd q e
    · exact q
theorem clean.kcE {w : Mem} {b : Nat} (h : clean w b) (hu : ubd w b ≤ 1000) : kc w b = rl w b := by
  show cnt (ksB w b) 1000 = rl w b
  by_cases e : rl w b = 0
  · have := cnt_none (f := ksB w b) 0 1000 (fun k _ _ => by
      cases e2 : ksB w b k with
      | false => rfl
      | true => obtain ⟨-, q, hq, -⟩ := ksB_iff.mp e2; omega)
    rw [Nat.zero_add] at this
    rw [this, e]; rfl
  · have h1 := h.cn (rl w b - 1) (by omega)
    have h2 := h.2.1 (rl w b - 1) (by omega)
    have h3 : ksB w b (kp w b (rl w b - 1)) = true := ksB_iff.mpr ⟨h2, _, by omega, rfl⟩
    have := cnt_none (f := ksB w b) (kp w b (rl w b - 1) + 1) (1000 - (kp w b (rl w b - 1) + 1)) (fun k hk1 hk2 => by
      cases e2 : ksB w b k with
      | false => rfl
      | true =>
        obtain ⟨-, q, hq, e3⟩ := ksB_iff.mp e2
        exfalso
        have := h.mono (rl w b - 1 - q) q (by omega)
        rw [show q + (rl w b - 1 - q) = rl w b - 1 by omega] at this
        omega)
    have e4 : cnt (ksB w b) (kp w b (rl w b - 1) + 1) = cnt (ksB w b) (kp w b (rl w b - 1)) + 1 := by rw [cnt, h3]; rfl
    rw [show kp w b (rl w b - 1) + 1 + (1000 - (kp w b (rl w b - 1) + 1)) = 1000 by omega, e4, h1] at this
    omega
theorem kth_eq {f : Nat → Bool} {j k : Nat} (h1 : cnt f k = j) (h2 : f k = true) : ∀ n, k < n → kth f j n = k := by
  have mono : ∀ a d, cnt f a ≤ cnt f (a + d) := by
    intro a d
    induction d with
    | zero => exact Nat.le_refl _
    | succ d ih => show cnt f a ≤ cnt f (a + d + 1); rw [cnt]; omega
  intro n
  induction n with
  | zero => intro h; omega
  | succ n ih =>
    intro hn
    unfold kth
    by_cases e : k = n
    · subst e; rw [if_pos ⟨h1, h2⟩]
    · have : cnt f n ≠ j := by
        have h3 := mono (k + 1) (n - (k + 1))
        rw [show k + 1 + (n - (k + 1)) = n by omega, cnt, h1, h2] at h3
        simp at h3
        omega
      rw [if_neg (fun q => this q.1)]
      exact ih (by omega)
theorem clean.kthE {w : Mem} {b p : Nat} (h : clean w b) (hu : ubd w b ≤ 1000) (hp : p < rl w b) : kth (ksB w b) p 1000 = kp w b p :=
  kth_eq (h.cn p hp) (ksB_iff.mpr ⟨h.2.1 p hp, p, hp, rfl⟩) 1000 (by have := h.2.1 p hp; omega)
