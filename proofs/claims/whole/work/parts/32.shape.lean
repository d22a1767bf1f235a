/-! PURE: chains, shape of the memory, finding -/
def kN (x : Int64) : Nat := (kyI x).toNatClampNeg
def isE (x : Int64) : Prop := ∃ (k : Nat) (v : Int32), k < 1000 ∧ x = ent k v
theorem kN_ent {k : Nat} (v : Int32) (hk : k < 1000000) : kN (ent k v) = k := by
  unfold kN; rw [ky_ent v hk]; exact nI_clamp (by omega)
theorem isE.ky {x : Int64} (h : isE x) : kyI x = nI (kN x) ∧ kN x < 1000 ∧ x ≠ 0 := by
  obtain ⟨k, v, hk, rfl⟩ := h
  rw [kN_ent v (by omega)]
  exact ⟨ky_ent v (by omega), hk, ent_ne v (by omega)⟩
/-- the low of a block -/
def lo (w : Mem) (b : Nat) : Nat := (w (9 * b + 2)).toInt32.toNatClampNeg
/-- a chain of blocks of the tree -/
def tch (w : Mem) (L : Nat) : List Nat → Prop
  | [] => True
  | b :: r => (1 ≤ b ∧ b ≤ 30) ∧ w (9 * b) = lN L ∧ w (9 * b + 1) = lN (r.headD 0) ∧ (w (9 * b + 2) = lN (lo w b) ∧ lo w b < 1000) ∧ (∀ c ∈ r, lo w b < lo w c) ∧ tch w L r
theorem tch.mem {w : Mem} {L : Nat} : ∀ {c : List Nat}, tch w L c → ∀ b ∈ c, (1 ≤ b ∧ b ≤ 30) ∧ w (9 * b) = lN L ∧ (w (9 * b + 2) = lN (lo w b) ∧ lo w b < 1000) := by
  intro c
  induction c with
  | nil => intro _ b hb; cases hb
  | cons a r ih =>
    intro h b hb
    rcases List.mem_cons.mp hb with rfl | hb
    · exact ⟨h.1, h.2.1, h.2.2.2.1⟩
    · exact ih h.2.2.2.2.2 b hb
theorem tch.suffix {w : Mem} {L : Nat} : ∀ (p : List Nat) {c : List Nat}, tch w L (p ++ c) → tch w L c := by
  intro p
  induction p with
  | nil => intro c h; exact h
  | cons a r ih => intro c h; exact ih h.2.2.2.2.2
/-- the last block of b :: r with a low not above k (b's own is not) -/
def fnd (w : Mem) (k : Nat) : Nat → List Nat → Nat
  | b, [] => b
  | b, c :: r => if lo w c ≤ k then fnd w k c r else b
theorem fnd_mem (w : Mem) (k : Nat) : ∀ (r : List Nat) (b : Nat), fnd w k b r ∈ b :: r := by
  intro r
  induction r with
  | nil => intro b; exact List.mem_cons_self
  | cons c r ih =>
    intro b
    unfold fnd
    by_cases h : lo w c ≤ k
    · rw [if_pos h]; exact List.mem_cons_of_mem _ (ih c)
    · rw [if_neg h]; exact List.mem_cons_self
theorem fnd_lo (w : Mem) (k : Nat) : ∀ (r : List Nat) (b : Nat), lo w b ≤ k → lo w (fnd w k b r) ≤ k := by
  intro r
  induction r with
  | nil => intro b h; exact h
  | cons c r ih =>
    intro b h
    unfold fnd
    by_cases h1 : lo w c ≤ k
    · rw [if_pos h1]; exact ih c h1
    · rw [if_neg h1]; exact h
theorem fnd_suffix {w : Mem} {k L : Nat} : ∀ (p : List Nat) (b x : Nat) (r : List Nat), tch w L (b :: (p ++ x :: r)) → lo w x ≤ k → fnd w k b (p ++ x :: r) = fnd w k x r := by
  intro p
  induction p with
  | nil =>
    intro b x r _ hx
    show fnd w k b (x :: r) = _
    rw [fnd, if_pos hx]
  | cons a p ih =>
    intro b x r h hx
    have h2 : tch w L (a :: (p ++ x :: r)) := h.2.2.2.2.2
    have hax : lo w a ≤ k := by
      have := h2.2.2.2.2.1 x (List.mem_append_right _ List.mem_cons_self)
      omega
    show fnd w k b (a :: (p ++ x :: r)) = _
    rw [fnd, if_pos hax]
    exact ih a x r h2 hx
/-- the last of n places with a key not above k -/
def llF (f : Nat → Nat) (k : Nat) : Nat → Nat
  | 0 => 0
  | n + 1 => if f n ≤ k then n else llF f k n
theorem llF_spec (f : Nat → Nat) (k : Nat) (h0 : f 0 ≤ k) : ∀ n, 0 < n → llF f k n < n ∧ f (llF f k n) ≤ k := by
  intro n
  induction n with
  | zero => intro h; omega
  | succ n ih =>
    intro _
    unfold llF
    by_cases h : f n ≤ k
    · rw [if_pos h]; exact ⟨by omega, h⟩
    · rw [if_neg h]
      have : 0 < n := by
        rcases Nat.eq_zero_or_pos n with e | e
        · subst e; exact absurd h0 h
        · exact e
      have := ih this
      exact ⟨by omega, this.2⟩
def kp (w : Mem) (b p : Nat) : Nat := kN (w (9 * b + 3 + p))
def llp (w : Mem) (b k : Nat) : Nat := llF (kp w b) k (rl w b)
/-- every place in the row is an entry -/
def rowE (w : Mem) (b : Nat) : Prop := ∀ p, p < 6 → w (9 * b + 3 + p) = 0 ∨ isE (w (9 * b + 3 + p))
theorem rowE.key {w : Mem} {b p : Nat} (h : rowE w b) (hp : p < rl w b) : kyI (w (9 * b + 3 + p)) = nI (kp w b p) ∧ kp w b p < 1000 := by
  have h1 := rl_le w b
  rcases h p (by omega) with h2 | h2
  · exact absurd h2 (rl_nz hp)
  · exact ⟨h2.ky.1, h2.ky.2.1⟩
theorem lo_i {w : Mem} {b : Nat} (h : w (9 * b + 2) = lN (lo w b)) : (w (9 * b + 2)).toInt32 = nI (lo w b) := by rw [h, lN_i]
section ChildFor
variable {u : SM} {v : SR} {w : Mem} {b k : Nat}
theorem c_childFor_L (h : CW u w) (hb : b ≤ 30) (hE : rowE w b) (hk : k < 1000) (h0 : kp w b 0 ≤ k) : ∀ (q n : Nat), q < n → 0 < q → q ≤ rl w b → m_Tree_childFor_L14 n u (nI q - 1) (nI b) (nI k) = some (.inl (blkOf ((w (9 * b + 3 + llF (kp w b) k q)).toInt32.toInt64), u)) := by
  intro q
  induction q with
  | zero => intro n _ h; omega
  | succ q ih =>
    intro n hn _ hq
    have h6 := rl_le w b
    obtain ⟨n, rfl⟩ : ∃ m, n = m + 1 := ⟨n - 1, by omega⟩
    rw [nI_pred, m_Tree_childFor_L14, if_neg (nI_pos (by omega)), c_key h hb (by omega), obS, (hE.key (p := q) (by omega)).1]
    have hkq := (hE.key (p := q) (by omega)).2
    unfold llF
    by_cases e : kp w b q ≤ k
    · rw [if_neg (nI_nlt e (by omega)), if_pos e, c_child h hb (by omega)]; rfl
    · rw [if_pos (nI_lt (by omega) (by omega)), if_neg e]
      have hq0 : 0 < q := by
        rcases Nat.eq_zero_or_pos q with z | z
        · subst z; exact absurd h0 e
        · exact z
      have := ih n (by omega) hq0 (by omega)
      rw [show nI q + (-1 : Int32) = nI q - 1 from by rw [Int32.sub_eq_add_neg]]
      exact this
theorem c_childFor (h : CW u w) (hb : b ≤ 30) (hE : rowE w b) (hk : k < 1000) (h1 : 0 < rl w b) (h0 : kp w b 0 ≤ k) : m_Tree_childFor u (nI b) (nI k) = some (blkOf ((w (9 * b + 3 + llp w b k)).toInt32.toInt64), u) := by
  unfold m_Tree_childFor
  rw [c_rl h hb, obS, c_childFor_L h hb hE hk h0 (rl w b) fz (by have := rl_le w b; unfold fz; omega) h1 (Nat.le_refl _)]
  rfl
theorem r_below_L (h : RW v w) (hb : b ≤ 30) (hE : rowE w b) (hk : k < 1000) : ∀ (d q n : Nat), d + q = rl w b → d < n → m_Ref_below_L10 n v ((w (9 * b + 3 + llF (kp w b) k q)).toInt32) (nI q) (nI b) (nI k) = some (.inr ((w (9 * b + 3 + llp w b k)).toInt32, v)) := by
  intro d
  induction d with
  | zero =>
    intro q n hd hn
    have h6 := rl_le w b
    obtain ⟨n, rfl⟩ : ∃ m, n = m + 1 := ⟨n - 1, by omega⟩
    rw [m_Ref_below_L10, r_rl h hb, obS, if_pos (nI_le (by omega) (by omega)), show q = rl w b by omega]
    rfl
  | succ d ih =>
    intro q n hd hn
    have h6 := rl_le w b
    obtain ⟨n, rfl⟩ : ∃ m, n = m + 1 := ⟨n - 1, by omega⟩
    rw [m_Ref_below_L10, r_rl h hb, obS, if_neg (nI_ge (by omega) (by omega)), r_key h hb (by omega), obS, (hE.key (p := q) (by omega)).1]
    have hkq := (hE.key (p := q) (by omega)).2
    have ih' := ih (q + 1) n (by omega) (by omega)
    unfold llF at ih'
    by_cases e : kp w b q ≤ k
    · rw [if_pos e] at ih'
      rw [if_neg (nI_nlt e (by omega)), r_block h hb (by omega), obS, a1]
      exact ih'
    · rw [if_neg e] at ih'
      rw [if_pos (nI_lt (by omega) (by omega)), a1]
      exact ih'
theorem r_below (h : RW v w) (hb : b ≤ 30) (hE : rowE w b) (hk : k < 1000) : m_Ref_below v (nI b) (nI k) = some ((w (9 * b + 3 + llp w b k)).toInt32, v) := by
  unfold m_Ref_below
  have := r_below_L h hb hE hk (rl w b) 0 fz (by omega) (by have := rl_le w b; unfold fz; omega)
  rw [nI_lit0, r_block h hb (by omega), obS]
  unfold llF at this
  rw [this]; rfl
end ChildFor
