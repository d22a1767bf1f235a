/-! PURE: rows as functions of the place; what insert and drop make of them, step by step -/
def pf (w : Mem) (b : Nat) : Nat → Int64 := fun p => w (9 * b + 3 + p)
def rF (f : Nat → Int64) : Nat := rlF f 6 0
theorem rl_pf (w : Mem) (b : Nat) : rl w b = rF (pf w b) := rfl
theorem kp_pf (w : Mem) (b p : Nat) : kp w b p = kN (pf w b p) := rfl
theorem rF_le (f : Nat → Int64) : rF f ≤ 6 := by have := rlF_le f 6 0; unfold rF; omega
theorem rF_nz {f : Nat → Int64} {q : Nat} (h : q < rF f) : f q ≠ 0 := rlF_nz f 6 0 q (Nat.zero_le _) h
theorem rF_z {f : Nat → Int64} (h : rF f < 6) : f (rF f) = 0 := rlF_z f 6 0 (by unfold rF at h; omega)
theorem rF_eq {f : Nat → Int64} {n : Nat} (hn : n ≤ 6) (h1 : ∀ q, q < n → f q ≠ 0) (h2 : n < 6 → f n = 0) : rF f = n := by
  rcases Nat.lt_trichotomy (rF f) n with h | h | h
  · exact absurd (rF_z (by omega)) (h1 _ h)
  · exact h
  · exact absurd (h2 (by have := rF_le f; omega)) (rF_nz h)
def wF (f : Nat → Int64) : Prop := ∀ p, p + 1 < rF f → kN (f p) ≤ kN (f (p + 1))
def kF (f : Nat → Int64) (k : Nat) : Prop := ∃ p, p < rF f ∧ kN (f p) = k
/-- strictly rising, nothing behind the row -/
def sF (f : Nat → Int64) : Prop := (∀ p, p + 1 < rF f → kN (f p) < kN (f (p + 1))) ∧ ∀ p, rF f ≤ p → p < 6 → f p = 0
theorem sF.wF {f : Nat → Int64} (h : sF f) : wF f := fun p hp => Nat.le_of_lt (h.1 p hp)
/-- on the way of an insert: places above m, up to n, have what stood one below -/
def insP (f : Nat → Int64) (n m : Nat) : Nat → Int64 := fun q => if m < q ∧ q ≤ n then f (q - 1) else f q
theorem insP_rF {f : Nat → Int64} {m : Nat} (hz : ∀ p, rF f ≤ p → p < 6 → f p = 0) (hn : rF f < 6) (hm : m < rF f) : rF (insP f (rF f) m) = rF f + 1 := by
  apply rF_eq (by omega)
  · intro q hq
    unfold insP
    by_cases e : m < q ∧ q ≤ rF f
    · rw [if_pos e]; exact rF_nz (by omega)
    · rw [if_neg e]; exact rF_nz (by omega)
  · intro h6
    unfold insP
    rw [if_neg (by omega)]
    exact hz _ (by omega) h6
theorem insP_wF {f : Nat → Int64} {m : Nat} (h : sF f) (hn : rF f < 6) (hm : m < rF f) : wF (insP f (rF f) m) := by
  intro p hp
  rw [insP_rF h.2 hn hm] at hp
  unfold insP
  by_cases e1 : m < p ∧ p ≤ rF f
  · rw [if_pos e1, if_pos (by omega)]
    have := h.1 (p - 1) (by omega)
    rw [show p - 1 + 1 = p by omega] at this
    rw [show p + 1 - 1 = p by omega]
    omega
  · rw [if_neg e1]
    by_cases e2 : m < p + 1 ∧ p + 1 ≤ rF f
    · rw [if_pos e2, show p + 1 - 1 = p by omega]; exact Nat.le_refl _
    · rw [if_neg e2]; exact Nat.le_of_lt (h.1 p (by omega))
theorem insP_kF {f : Nat → Int64} {m k : Nat} (h : sF f) (hn : rF f < 6) (hm : m < rF f) : kF (insP f (rF f) m) k ↔ kF f k := by
  have hr := insP_rF h.2 hn hm
  constructor
  · rintro ⟨p, hp, e⟩
    rw [hr] at hp
    unfold insP at e
    by_cases c : m < p ∧ p ≤ rF f
    · rw [if_pos c] at e; exact ⟨p - 1, by omega, e⟩
    · rw [if_neg c] at e; exact ⟨p, by omega, e⟩
  · rintro ⟨p, hp, e⟩
    by_cases c : p ≤ m
    · exact ⟨p, by rw [hr]; omega, by unfold insP; rw [if_neg (by omega)]; exact e⟩
    · exact ⟨p + 1, by rw [hr]; omega, by unfold insP; rw [if_pos (by omega), show p + 1 - 1 = p by omega]; exact e⟩
theorem insP_end (f : Nat → Int64) (n : Nat) : insP f n n = f := by
  funext q
  unfold insP
  rw [if_neg (by omega)]
/-- behind an insert at place c -/
def insN (f : Nat → Int64) (n c : Nat) (e : Int64) : Nat → Int64 := fun q => if q = c then e else if c < q ∧ q ≤ n then f (q - 1) else f q
theorem insN_rF {f : Nat → Int64} {c : Nat} {e : Int64} (hz : ∀ p, rF f ≤ p → p < 6 → f p = 0) (hn : rF f < 6) (hc : c ≤ rF f) (he : e ≠ 0) : rF (insN f (rF f) c e) = rF f + 1 := by
  apply rF_eq (by omega)
  · intro q hq
    unfold insN
    by_cases e1 : q = c
    · rw [if_pos e1]; exact he
    · rw [if_neg e1]
      by_cases e2 : c < q ∧ q ≤ rF f
      · rw [if_pos e2]; exact rF_nz (by omega)
      · rw [if_neg e2]; exact rF_nz (by omega)
  · intro h6
    unfold insN
    rw [if_neg (by omega), if_neg (by omega)]
    exact hz _ (by omega) h6
theorem insN_sF {f : Nat → Int64} {c k : Nat} {e : Int64} (h : sF f) (hn : rF f < 6) (hc : c ≤ rF f) (he : e ≠ 0) (hk : kN e = k) (h1 : ∀ p, p < c → kN (f p) < k) (h2 : ∀ p, c ≤ p → p < rF f → k < kN (f p)) : sF (insN f (rF f) c e) := by
  have hr := insN_rF h.2 hn hc he
  refine ⟨?_, ?_⟩
  · intro p hp
    rw [hr] at hp
    unfold insN
    by_cases e1 : p = c
    · rw [if_pos e1, if_neg (by omega), if_pos (by omega), hk, show p + 1 - 1 = p by omega]
      exact h2 p (by omega) (by omega)
    · rw [if_neg e1]
      by_cases e2 : c < p ∧ p ≤ rF f
      · rw [if_pos e2, if_neg (by omega), if_pos (by omega), show p + 1 - 1 = p by omega]
        have := h.1 (p - 1) (by omega)
        rw [show p - 1 + 1 = p by omega] at this
        exact this
      · rw [if_neg e2]
        by_cases e3 : p + 1 = c
        · rw [if_pos e3, hk]; exact h1 p (by omega)
        · rw [if_neg e3, if_neg (by omega)]; exact h.1 p (by omega)
  · intro p h3 h4
    rw [hr] at h3
    unfold insN
    rw [if_neg (by omega), if_neg (by omega)]
    exact h.2 p (by omega) h4
theorem insN_kF {f : Nat → Int64} {c j : Nat} {e : Int64} (h : sF f) (hn : rF f < 6) (hc : c ≤ rF f) (he : e ≠ 0) : kF (insN f (rF f) c e) j ↔ kF f j ∨ j = kN e := by
  have hr := insN_rF h.2 hn hc he
  constructor
  · rintro ⟨p, hp, q⟩
    rw [hr] at hp
    unfold insN at q
    by_cases e1 : p = c
    · rw [if_pos e1] at q; exact Or.inr q.symm
    · rw [if_neg e1] at q
      by_cases e2 : c < p ∧ p ≤ rF f
      · rw [if_pos e2] at q; exact Or.inl ⟨p - 1, by omega, q⟩
      · rw [if_neg e2] at q; exact Or.inl ⟨p, by omega, q⟩
  · rintro (⟨p, hp, q⟩ | q)
    · by_cases e1 : p < c
      · exact ⟨p, by rw [hr]; omega, by unfold insN; rw [if_neg (by omega), if_neg (by omega)]; exact q⟩
      · exact ⟨p + 1, by rw [hr]; omega, by unfold insN; rw [if_neg (by omega), if_pos (by omega), show p + 1 - 1 = p by omega]; exact q⟩
    · exact ⟨c, by rw [hr]; omega, by unfold insN; rw [if_pos rfl]; exact q.symm⟩
/-- every place of the new row is 0, or e, or one of the old -/
theorem insN_mem {f : Nat → Int64} {n c q : Nat} {e : Int64} : insN f n c e q = e ∨ insN f n c e q = f q ∨ (c < q ∧ insN f n c e q = f (q - 1)) := by
  unfold insN
  by_cases e1 : q = c
  · rw [if_pos e1]; exact Or.inl rfl
  · rw [if_neg e1]
    by_cases e2 : c < q ∧ q ≤ n
    · rw [if_pos e2]; exact Or.inr (Or.inr ⟨e2.1, rfl⟩)
    · rw [if_neg e2]; exact Or.inr (Or.inl rfl)
/-- on the way of a drop of place c: places c .. i - 1 have what stood one above -/
def drP (f : Nat → Int64) (c i : Nat) : Nat → Int64 := fun q => if c ≤ q ∧ q < i then (if q + 1 < 6 then f (q + 1) else 0) else f q
theorem shl_img {w : Mem} {b p : Nat} : ∀ (d t : Nat) (w' : Mem), t ≤ d → ∀ a, apl ((shl w b p d).take t) w' a = if 9 * b + 3 + (p + d - t) < a ∧ a ≤ 9 * b + 3 + (p + d) then w (a - 1) else w' a := by
  intro d
  induction d with
  | zero =>
    intro t w' ht a
    rw [show t = 0 by omega]
    show w' a = _
    rw [if_neg (by omega)]
  | succ d ih =>
    intro t w' ht a
    cases t with
    | zero => show w' a = _; rw [if_neg (by omega)]
    | succ t =>
      show apl ((shl w b p d).take t) (vp_updL w' (9 * b + 3 + (p + (d + 1))) (w (9 * b + 3 + (p + d)))) a = _
      rw [ih t _ (by omega) a]
      by_cases e1 : 9 * b + 3 + (p + d - t) < a ∧ a ≤ 9 * b + 3 + (p + d)
      · rw [if_pos e1, if_pos (by omega)]
      · rw [if_neg e1]
        unfold vp_updL
        by_cases e2 : a = 9 * b + 3 + (p + (d + 1))
        · rw [if_pos e2, if_pos (by omega), e2]; rfl
        · rw [if_neg e2, if_neg (by omega)]
theorem shl_len (w : Mem) (b p : Nat) : ∀ d, (shl w b p d).length = d := by
  intro d
  induction d with
  | zero => rfl
  | succ d ih => show (shl w b p d).length + 1 = _; rw [ih]
/-- what insert leaves, cut or not, in words of the row -/
theorem ins_img {w : Mem} {b c n : Nat} {e : Int64} (hc : c ≤ n) (t : Nat) (ht : t ≤ n - c) : (∀ a, (a < 9 * b + 3 ∨ 9 * b + 9 ≤ a) → n < 6 → apl ((insL w b c n e).take t) w a = w a) ∧ pf (apl ((insL w b c n e).take t) w) b = insP (pf w b) n (n - t) := by
  have e1 : (insL w b c n e).take t = (shl w b c (n - c)).take t := by
    unfold insL
    rw [List.take_append_of_le_length (by rw [shl_len]; exact ht)]
  rw [e1]
  refine ⟨fun a ha hn => ?_, ?_⟩
  · rw [shl_img _ _ _ ht, if_neg (by omega)]
  · funext q
    show apl _ w (9 * b + 3 + q) = _
    rw [shl_img _ _ _ ht]
    unfold insP pf
    by_cases c1 : n - t < q ∧ q ≤ n
    · rw [if_pos c1, if_pos (by omega), show 9 * b + 3 + q - 1 = 9 * b + 3 + (q - 1) by omega]
    · rw [if_neg c1, if_neg (by omega)]
theorem ins_full {w : Mem} {b c n : Nat} {e : Int64} (hc : c ≤ n) : (∀ a, (a < 9 * b + 3 ∨ 9 * b + 9 ≤ a) → n < 6 → apl (insL w b c n e) w a = w a) ∧ pf (apl (insL w b c n e) w) b = insN (pf w b) n c e := by
  have e1 : ∀ a, apl (insL w b c n e) w a = vp_updL (apl ((shl w b c (n - c)).take (n - c)) w) (9 * b + 3 + c) e a := by
    intro a
    unfold insL
    rw [apl_app, List.take_of_length_le (by rw [shl_len]; exact Nat.le_refl _)]
    rfl
  refine ⟨fun a ha hn => ?_, ?_⟩
  · rw [e1]
    unfold vp_updL
    rw [if_neg (by omega), shl_img _ _ _ (Nat.le_refl _), if_neg (by omega)]
  · funext q
    show apl (insL w b c n e) w (9 * b + 3 + q) = _
    rw [e1]
    unfold vp_updL insN pf
    by_cases c0 : q = c
    · rw [if_pos (by omega), if_pos c0]
    · rw [if_neg (by omega), if_neg c0, shl_img _ _ _ (Nat.le_refl _)]
      by_cases c1 : c < q ∧ q ≤ n
      · rw [if_pos c1, if_pos (by omega), show 9 * b + 3 + q - 1 = 9 * b + 3 + (q - 1) by omega]
      · rw [if_neg c1, if_neg (by omega)]
