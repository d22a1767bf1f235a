/-! PURE: what reads answer, class (over CW) and reference (over RW) -/
theorem obS {α σ β : Type} (r : α) (u : σ) (f : α → σ → Option β) : ob (some (r, u)) f = f r u := rfl
theorem ol0R {ρ  σ γ : Type} (g : ρ → γ) (f : σ → Option γ)  (u : σ) : ol0 (some (.inr u) : Option (ρ ⊕ (σ))) g f = f u := rfl
theorem ol0I {ρ  σ γ : Type} (g : ρ → γ) (f : σ → Option γ) (z : ρ) : ol0 (some (.inl z) : Option (ρ ⊕ (σ))) g f = some (g z) := rfl
theorem ol1R {ρ A0 σ γ : Type} (g : ρ → γ) (f : A0 → σ → Option γ) (a0 : A0) (u : σ) : ol1 (some (.inr (a0, u)) : Option (ρ ⊕ (A0 × σ))) g f = f a0 u := rfl
theorem ol1I {ρ A0 σ γ : Type} (g : ρ → γ) (f : A0 → σ → Option γ) (z : ρ) : ol1 (some (.inl z) : Option (ρ ⊕ (A0 × σ))) g f = some (g z) := rfl
theorem ol2R {ρ A0 A1 σ γ : Type} (g : ρ → γ) (f : A0 → A1 → σ → Option γ) (a0 : A0) (a1 : A1) (u : σ) : ol2 (some (.inr (a0, a1, u)) : Option (ρ ⊕ (A0 × A1 × σ))) g f = f a0 a1 u := rfl
theorem ol2I {ρ A0 A1 σ γ : Type} (g : ρ → γ) (f : A0 → A1 → σ → Option γ) (z : ρ) : ol2 (some (.inl z) : Option (ρ ⊕ (A0 × A1 × σ))) g f = some (g z) := rfl
theorem ol3R {ρ A0 A1 A2 σ γ : Type} (g : ρ → γ) (f : A0 → A1 → A2 → σ → Option γ) (a0 : A0) (a1 : A1) (a2 : A2) (u : σ) : ol3 (some (.inr (a0, a1, a2, u)) : Option (ρ ⊕ (A0 × A1 × A2 × σ))) g f = f a0 a1 a2 u := rfl
theorem ol3I {ρ A0 A1 A2 σ γ : Type} (g : ρ → γ) (f : A0 → A1 → A2 → σ → Option γ) (z : ρ) : ol3 (some (.inl z) : Option (ρ ⊕ (A0 × A1 × A2 × σ))) g f = some (g z) := rfl
theorem ol4R {ρ A0 A1 A2 A3 σ γ : Type} (g : ρ → γ) (f : A0 → A1 → A2 → A3 → σ → Option γ) (a0 : A0) (a1 : A1) (a2 : A2) (a3 : A3) (u : σ) : ol4 (some (.inr (a0, a1, a2, a3, u)) : Option (ρ ⊕ (A0 × A1 × A2 × A3 × σ))) g f = f a0 a1 a2 a3 u := rfl
theorem ol4I {ρ A0 A1 A2 A3 σ γ : Type} (g : ρ → γ) (f : A0 → A1 → A2 → A3 → σ → Option γ) (z : ρ) : ol4 (some (.inl z) : Option (ρ ⊕ (A0 × A1 × A2 × A3 × σ))) g f = some (g z) := rfl
theorem ol5R {ρ A0 A1 A2 A3 A4 σ γ : Type} (g : ρ → γ) (f : A0 → A1 → A2 → A3 → A4 → σ → Option γ) (a0 : A0) (a1 : A1) (a2 : A2) (a3 : A3) (a4 : A4) (u : σ) : ol5 (some (.inr (a0, a1, a2, a3, a4, u)) : Option (ρ ⊕ (A0 × A1 × A2 × A3 × A4 × σ))) g f = f a0 a1 a2 a3 a4 u := rfl
theorem ol5I {ρ A0 A1 A2 A3 A4 σ γ : Type} (g : ρ → γ) (f : A0 → A1 → A2 → A3 → A4 → σ → Option γ) (z : ρ) : ol5 (some (.inl z) : Option (ρ ⊕ (A0 × A1 × A2 × A3 × A4 × σ))) g f = some (g z) := rfl
theorem ol6R {ρ A0 A1 A2 A3 A4 A5 σ γ : Type} (g : ρ → γ) (f : A0 → A1 → A2 → A3 → A4 → A5 → σ → Option γ) (a0 : A0) (a1 : A1) (a2 : A2) (a3 : A3) (a4 : A4) (a5 : A5) (u : σ) : ol6 (some (.inr (a0, a1, a2, a3, a4, a5, u)) : Option (ρ ⊕ (A0 × A1 × A2 × A3 × A4 × A5 × σ))) g f = f a0 a1 a2 a3 a4 a5 u := rfl
theorem ol6I {ρ A0 A1 A2 A3 A4 A5 σ γ : Type} (g : ρ → γ) (f : A0 → A1 → A2 → A3 → A4 → A5 → σ → Option γ) (z : ρ) : ol6 (some (.inl z) : Option (ρ ⊕ (A0 × A1 × A2 × A3 × A4 × A5 × σ))) g f = some (g z) := rfl
abbrev Mem : Type := Nat → Int64
def CW (u : SM) (w : Mem) : Prop := ∀ a, a < 279 → cg_w u a = w a
def RW (v : SR) (w : Mem) : Prop := ∀ a, a < 279 → rg_mem v a = w a
section Rd
variable {u : SM} {v : SR} {w : Mem} {b p : Nat}
theorem c_word (h : CW u w) {a : Nat} (ha : a < 279) : m_Memory_wordAt u (nI a) = some (w a, u) := by
  unfold m_Memory_wordAt
  rw [if_neg (nI_pos (by omega)), if_neg (by rw [show (279 : Int32) = nI 279 from rfl]; exact nI_ge ha (by omega)), if_pos (inb_n ha (by omega)), nI_clamp (by omega), h a ha]
theorem c_level (h : CW u w) (hb : b ≤ 30) : m_Blocks_levelOf u (nI b) = some ((w (9 * b)).toInt32, u) := by
  unfold m_Blocks_levelOf
  rw [n9, c_word h (by omega)]; rfl
theorem c_low (h : CW u w) (hb : b ≤ 30) : m_Blocks_lowOf u (nI b) = some ((w (9 * b + 2)).toInt32, u) := by
  unfold m_Blocks_lowOf
  rw [n9, a2, c_word h (by omega)]; rfl
/-- a word as a block: 0 unless 1 .. 30 -/
def blkOf (x : Int64) : Int32 := if x ≤ 0 then 0 else if (30 : Int64) < x then 0 else x.toInt32
theorem c_blockOf (x : Int64) : m_Blocks_blockOf u x = some (blkOf x, u) := by
  unfold m_Blocks_blockOf blkOf
  by_cases h1 : x ≤ 0
  · rw [if_pos ((lg_cmp_le x 0).mpr h1), if_pos h1]
  · rw [if_neg (fun q => h1 ((lg_cmp_le x 0).mp q)), if_neg h1]
    by_cases h2 : (30 : Int64) < x
    · rw [if_pos ((lg_cmp_gt x 30).mpr h2), if_pos h2]
    · rw [if_neg (fun q => h2 ((lg_cmp_gt x 30).mp q)), if_neg h2]
theorem blk_lN {c : Nat} (hc : c ≤ 30) : blkOf (lN c) = nI c := by
  unfold blkOf
  by_cases h0 : c = 0
  · subst h0; rfl
  · rw [if_neg (by rw [show (0 : Int64) = lN 0 from rfl, lN_le (by omega) (by omega)]; omega), if_neg (by rw [show (30 : Int64) = lN 30 from rfl, lN_lt (by omega) (by omega)]; omega), lN_i]
theorem blk_nI {c : Nat} (hc : c ≤ 30) : blkOf ((nI c).toInt64) = nI c := by
  rw [nI_l (by omega), blk_lN hc]
theorem c_blockIn (h : CW u w) {a : Nat} (ha : a < 279) : m_Blocks_blockIn u (nI a) = some (blkOf (w a), u) := by
  unfold m_Blocks_blockIn
  rw [c_word h ha, obS, c_blockOf]; rfl
theorem c_next (h : CW u w) (hb : b ≤ 30) : m_Blocks_nextOf u (nI b) = some (blkOf (w (9 * b + 1)), u) := by
  unfold m_Blocks_nextOf
  rw [n9, a1, c_word h (by omega), obS, c_blockOf]; rfl
theorem pl_addr (b p : Nat) : nI b * (9 : Int32) + (3 : Int32) + nI p = nI (9 * b + 3 + p) := by
  rw [n9, a3, nAdd]
theorem c_place : m_Blocks_addressOfPlace u (nI b) (nI p) = some (nI (9 * b + 3 + p), u) := by
  unfold m_Blocks_addressOfPlace
  rw [pl_addr]
theorem c_entry (h : CW u w) (hb : b ≤ 30) (hp : p < 6) : m_Blocks_entryAt u (nI b) (nI p) = some (w (9 * b + 3 + p), u) := by
  unfold m_Blocks_entryAt
  rw [pl_addr, c_word h (by omega)]; rfl
theorem c_child (h : CW u w) (hb : b ≤ 30) (hp : p < 6) : m_Blocks_childAt u (nI b) (nI p) = some (blkOf ((w (9 * b + 3 + p)).toInt32.toInt64), u) := by
  unfold m_Blocks_childAt
  rw [pl_addr, c_word h (by omega), obS]
  unfold m_Firm_valueOf
  rw [obS, c_blockOf]; rfl
/-- the key of a word: -1 for 0 -/
def kyI (x : Int64) : Int32 := (zLushr x (32 : Int32)).toInt32 - (1 : Int32)
theorem ky_ent {k : Nat} (v : Int32) (hk : k < 1000000) : kyI (ent k v) = nI k := key_ent v hk
theorem ky_0 : kyI 0 = -1 := key_zero
theorem c_key (h : CW u w) (hb : b ≤ 30) (hp : p < 6) : m_Tree_keyAt u (nI b) (nI p) = some (kyI (w (9 * b + 3 + p)), u) := by
  unfold m_Tree_keyAt
  rw [c_entry h hb hp]; rfl
theorem c_entryOf {k : Nat} (x : Int32) (hk : k < 1000000) : m_Firm_entryOf u (nI k) x = some (ent k x, u) := by
  unfold m_Firm_entryOf
  rw [entC x hk]
-- reference
theorem r_level (h : RW v w) (hb : b ≤ 30) : m_Ref_level v (nI b) = some ((w (9 * b)).toInt32, v) := by
  unfold m_Ref_level
  rw [n9', if_pos (inb_n (by omega) (by omega)), nI_clamp (by omega), h _ (by omega)]
theorem r_next (h : RW v w) (hb : b ≤ 30) : m_Ref_next v (nI b) = some ((w (9 * b + 1)).toInt32, v) := by
  unfold m_Ref_next
  rw [n9', a1, if_pos (inb_n (by omega) (by omega)), nI_clamp (by omega), h _ (by omega)]
theorem r_low (h : RW v w) (hb : b ≤ 30) : m_Ref_low v (nI b) = some ((w (9 * b + 2)).toInt32, v) := by
  unfold m_Ref_low
  rw [n9', a2, if_pos (inb_n (by omega) (by omega)), nI_clamp (by omega), h _ (by omega)]
theorem r_root (h : RW v w) : m_Ref_root v = some ((w 0).toInt32, v) := by
  unfold m_Ref_root
  rw [nI_lit0, if_pos (inb_n (by omega) (by omega)), nI_clamp (by omega), h _ (by omega)]
theorem pl_addr' (b p : Nat) : (9 : Int32) * nI b + (3 : Int32) + nI p = nI (9 * b + 3 + p) := by
  rw [n9', a3, nAdd]
theorem r_at (h : RW v w) (hb : b ≤ 30) (hp : p < 6) : m_Ref_at v (nI b) (nI p) = some (w (9 * b + 3 + p), v) := by
  unfold m_Ref_at
  rw [if_pos (by rw [show (5 : Int32) = nI 5 from rfl]; exact nI_le (by omega) (by omega)), pl_addr', if_pos (inb_n (by omega) (by omega)), nI_clamp (by omega), h _ (by omega)]
theorem r_at6 (hp : 6 ≤ p) (hp2 : p < 1000) : m_Ref_at v (nI b) (nI p) = some (0, v) := by
  unfold m_Ref_at
  rw [if_neg (by rw [show (5 : Int32) = nI 5 from rfl]; exact nI_ge (by omega) (by omega))]
theorem r_key (h : RW v w) (hb : b ≤ 30) (hp : p < 6) : m_Ref_keyAt v (nI b) (nI p) = some (kyI (w (9 * b + 3 + p)), v) := by
  unfold m_Ref_keyAt
  rw [r_at h hb hp]; rfl
theorem r_block (h : RW v w) (hb : b ≤ 30) (hp : p < 6) : m_Ref_blockAt v (nI b) (nI p) = some ((w (9 * b + 3 + p)).toInt32, v) := by
  unfold m_Ref_blockAt
  rw [r_at h hb hp]; rfl
theorem r_entry {k : Nat} (x : Int32) (hk : k < 1000000) : m_Ref_entry v (nI k) x = some (ent k x, v) := by
  unfold m_Ref_entry
  rw [entR x hk]
end Rd
/-! the row's length -/
def rlF (f : Nat → Int64) : Nat → Nat → Nat
  | 0, p => p
  | n + 1, p => if f p = 0 then p else rlF f n (p + 1)
def rl (w : Mem) (b : Nat) : Nat := rlF (fun p => w (9 * b + 3 + p)) 6 0
theorem rlF_le (f : Nat → Int64) : ∀ n p, p ≤ rlF f n p ∧ rlF f n p ≤ p + n := by
  intro n
  induction n with
  | zero => intro p; exact ⟨Nat.le_refl _, Nat.le_refl _⟩
  | succ n ih =>
    intro p
    unfold rlF
    by_cases h : f p = 0
    · rw [if_pos h]; omega
    · rw [if_neg h]; have := ih (p + 1); omega
theorem rlF_nz (f : Nat → Int64) : ∀ n p q, p ≤ q → q < rlF f n p → f q ≠ 0 := by
  intro n
  induction n with
  | zero => intro p q h1 h2; unfold rlF at h2; omega
  | succ n ih =>
    intro p q h1 h2
    unfold rlF at h2
    by_cases h : f p = 0
    · rw [if_pos h] at h2; omega
    · rw [if_neg h] at h2
      by_cases e : p = q
      · subst e; exact h
      · exact ih (p + 1) q (by omega) h2
theorem rlF_z (f : Nat → Int64) : ∀ n p, rlF f n p < p + n → f (rlF f n p) = 0 := by
  intro n
  induction n with
  | zero => intro p h; unfold rlF at h; omega
  | succ n ih =>
    intro p h
    unfold rlF at h ⊢
    by_cases h0 : f p = 0
    · rw [if_pos h0]; exact h0
    · rw [if_neg h0] at h ⊢; exact ih (p + 1) (by omega)
theorem rl_le (w : Mem) (b : Nat) : rl w b ≤ 6 := by have := rlF_le (fun p => w (9 * b + 3 + p)) 6 0; unfold rl; omega
theorem rl_nz {w : Mem} {b q : Nat} (h : q < rl w b) : w (9 * b + 3 + q) ≠ 0 := rlF_nz _ 6 0 q (Nat.zero_le _) h
theorem rl_z {w : Mem} {b : Nat} (h : rl w b < 6) : w (9 * b + 3 + rl w b) = 0 := rlF_z (fun p => w (9 * b + 3 + p)) 6 0 (by unfold rl at h; omega)
theorem rl_eq {w : Mem} {b n : Nat} (hn : n ≤ 6) (h1 : ∀ q, q < n → w (9 * b + 3 + q) ≠ 0) (h2 : n < 6 → w (9 * b + 3 + n) = 0) : rl w b = n := by
  rcases Nat.lt_trichotomy (rl w b) n with h | h | h
  · exact absurd (rl_z (by omega)) (h1 _ h)
  · exact h
  · exact absurd (h2 (by have := rl_le w b; omega)) (rl_nz h)
theorem rl_congr {w w' : Mem} {b : Nat} (h : ∀ p, p < 6 → w' (9 * b + 3 + p) = w (9 * b + 3 + p)) : rl w' b = rl w b := by
  apply rl_eq (rl_le w b)
  · intro q hq; rw [h q (by have := rl_le w b; omega)]; exact rl_nz hq
  · intro hn; rw [h _ hn]; exact rl_z hn
section Rl
variable {u : SM} {v : SR} {w : Mem} {b : Nat}
theorem c_rl_L (h : CW u w) (hb : b ≤ 30) : ∀ (k p n : Nat), p + k = 6 → k < n → p ≤ rl w b → m_Blocks_rowLength_L2 n u (nI p) (nI b) = if rl w b = 6 then some (.inr u) else some (.inl (nI (rl w b), u)) := by
  intro k
  induction k with
  | zero =>
    intro p n hp hn hr
    obtain ⟨n, rfl⟩ : ∃ m, n = m + 1 := ⟨n - 1, by omega⟩
    have := rl_le w b
    rw [m_Blocks_rowLength_L2, if_pos (by rw [show (6 : Int32) = nI 6 from rfl]; exact nI_le (by omega) (by omega)), if_pos (by omega)]
  | succ k ih =>
    intro p n hp hn hr
    obtain ⟨n, rfl⟩ : ∃ m, n = m + 1 := ⟨n - 1, by omega⟩
    rw [m_Blocks_rowLength_L2, if_neg (by rw [show (6 : Int32) = nI 6 from rfl]; exact nI_ge (by omega) (by omega)), pl_addr, c_word h (by omega)]
    show (if lg_cmp (w (9 * b + 3 + p)) 0 = 0 then _ else _) = _
    by_cases e : p = rl w b
    · rw [if_pos (cmp_eq.mpr (by rw [e]; exact rl_z (by omega))), if_neg (by omega), e]
    · rw [if_neg (fun q => rl_nz (w := w) (b := b) (q := p) (by omega) (cmp_eq.mp q)), a1]
      exact ih (p + 1) n (by omega) (by omega) (by omega)
theorem c_rl (h : CW u w) (hb : b ≤ 30) : m_Blocks_rowLength u (nI b) = some (nI (rl w b), u) := by
  unfold m_Blocks_rowLength
  rw [nI_lit0, c_rl_L h hb 6 0 fz (by omega) (by unfold fz; omega) (by omega)]
  by_cases e : rl w b = 6
  · rw [if_pos e, e]; rfl
  · rw [if_neg e]; rfl
theorem r_rl_L (h : RW v w) (hb : b ≤ 30) : ∀ (k p n : Nat), p + k = 6 → k < n → p ≤ rl w b → m_Ref_length_L2 n v (nI p) (nI b) = some (.inr (nI (rl w b), v)) := by
  intro k
  induction k with
  | zero =>
    intro p n hp hn hr
    obtain ⟨n, rfl⟩ : ∃ m, n = m + 1 := ⟨n - 1, by omega⟩
    have := rl_le w b
    rw [m_Ref_length_L2, if_pos (by rw [show (6 : Int32) = nI 6 from rfl]; exact nI_le (by omega) (by omega)), show rl w b = p by omega]
  | succ k ih =>
    intro p n hp hn hr
    obtain ⟨n, rfl⟩ : ∃ m, n = m + 1 := ⟨n - 1, by omega⟩
    rw [m_Ref_length_L2, if_neg (by rw [show (6 : Int32) = nI 6 from rfl]; exact nI_ge (by omega) (by omega)), r_at h hb (by omega)]
    show (if lg_cmp (w (9 * b + 3 + p)) 0 = 0 then _ else _) = _
    by_cases e : p = rl w b
    · rw [if_pos (cmp_eq.mpr (by rw [e]; exact rl_z (by omega))), e]
    · rw [if_neg (fun q => rl_nz (w := w) (b := b) (q := p) (by omega) (cmp_eq.mp q)), a1]
      exact ih (p + 1) n (by omega) (by omega) (by omega)
theorem r_rl (h : RW v w) (hb : b ≤ 30) : m_Ref_length v (nI b) = some (nI (rl w b), v) := by
  unfold m_Ref_length
  rw [nI_lit0, r_rl_L h hb 6 0 fz (by omega) (by unfold fz; omega) (by omega)]; rfl
end Rl
