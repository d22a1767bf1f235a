/-! PURE: the free blocks -/
def GB (w : Mem) (B : List Nat) : Prop :=
  (∀ b ∈ B, 1 ≤ b ∧ b ≤ 30) ∧
  (∀ a, a < 9 → ∃ c, w a = lN c ∧ (c = 0 ∨ c ∈ B)) ∧
  (∀ b ∈ B, (∃ c, w (9 * b + 1) = lN c ∧ (c = 0 ∨ c ∈ B)) ∧ (0 < (w (9 * b)).toInt32 → ∀ p, p < rl w b → ∃ c, (w (9 * b + 3 + p)).toInt32 = nI c ∧ c ∈ B)) ∧
  (∀ S : Nat → Prop, (∀ a c, a < 9 → w a = lN c → c ≠ 0 → c ∈ B → S c) → (∀ b ∈ B, S b → (∀ c, w (9 * b + 1) = lN c → c ≠ 0 → c ∈ B → S c) ∧ (0 < (w (9 * b)).toInt32 → ∀ p c, p < rl w b → (w (9 * b + 3 + p)).toInt32 = nI c → c ∈ B → S c)) → ∀ b ∈ B, S b)
theorem b_bit {c i : Nat} (hc : c < 32) (hi : i < 32) : bt ((1 : Int32) <<< (nI c &&& 31)) i = decide (i = c) := by
  rw [b_shl c hc 1 hi]
  by_cases h : c ≤ i
  · rw [b_one (i - c) (by omega)]
    by_cases e : i = c
    · subst e; simp
    · have : ¬ i - c = 0 := by omega
      simp [h, e, this]
  · have : ¬ i = c := by omega
    simp [h, this]
theorem b_all : ∀ i, i < 32 → bt 2147483646 i = decide (1 ≤ i ∧ i ≤ 30) := by decide +kernel
theorem b_orT {x y : Int32} {i : Nat} : bt (x ||| y) i = true ↔ bt x i = true ∨ bt y i = true := by rw [b_or]; simp
theorem b_andT {x y : Int32} {i : Nat} : bt (x &&& y) i = true ↔ bt x i = true ∧ bt y i = true := by rw [b_and]; simp
theorem b_notT {x : Int32} {i : Nat} (hi : i < 32) : bt (x ^^^ (-1 : Int32)) i = true ↔ bt x i = false := by rw [b_xor, b_m1 i hi]; simp
theorem b_bitT {c i : Nat} (hc : c < 32) (hi : i < 32) : bt ((1 : Int32) <<< (nI c &&& 31)) i = true ↔ i = c := by rw [b_bit hc hi]; simp
theorem b_allT {i : Nat} (hi : i < 32) : bt 2147483646 i = true ↔ 1 ≤ i ∧ i ≤ 30 := by rw [b_all i hi]; simp
theorem bF {x : Int32} {i : Nat} : bt x i = false ↔ ¬ bt x i = true := by simp
theorem lN_inj {a b : Nat} (ha : a < 2 ^ 31) (hb : b < 2 ^ 31) (h : lN a = lN b) : a = b := (lN_eq ha hb).mp h
section Fs
variable {u : SM} {w : Mem} {B : List Nat}
theorem GB.rg (hG : GB w B) {c : Nat} (h : c = 0 ∨ c ∈ B) : c ≤ 30 := by
  rcases h with h | h
  · omega
  · exact (hG.1 c h).2
theorem c_fs_L4 (hG : GB w B) (h : CW u w) : ∀ (d a n : Nat) (x : Int32), a + d = 9 → d < n → (∀ i, i < 32 → (bt x i = true ↔ ∃ a', a' < a ∧ w a' = lN i)) →
    ∃ y, m_Blocks_freeSet_L4 n u x (nI a) = some (.inr (y, u)) ∧ ∀ i, i < 32 → (bt y i = true ↔ ∃ a', a' < 9 ∧ w a' = lN i) := by
  intro d
  induction d with
  | zero =>
    intro a n x ha hn hx
    obtain ⟨n, rfl⟩ : ∃ m, n = m + 1 := ⟨n - 1, by omega⟩
    refine ⟨x, ?_, ?_⟩
    · rw [m_Blocks_freeSet_L4, if_pos (by rw [show (9 : Int32) = nI 9 from rfl]; exact nI_le (by omega) (by omega))]
    · intro i hi; rw [hx i hi, show a = 9 by omega]
  | succ d ih =>
    intro a n x ha hn hx
    obtain ⟨n, rfl⟩ : ∃ m, n = m + 1 := ⟨n - 1, by omega⟩
    obtain ⟨c, hc, hcB⟩ := hG.2.1 a (by omega)
    have hc30 := hG.rg hcB
    rw [m_Blocks_freeSet_L4, if_neg (by rw [show (9 : Int32) = nI 9 from rfl]; exact nI_ge (by omega) (by omega)), c_blockIn h (by omega), obS, hc, blk_lN hc30, a1]
    apply ih (a + 1) n _ (by omega) (by omega)
    intro i hi
    rw [b_orT, hx i hi, b_bitT (by omega) hi]
    constructor
    · rintro (⟨a', h1, h2⟩ | e)
      · exact ⟨a', by omega, h2⟩
      · exact ⟨a, by omega, by rw [hc, e]⟩
    · rintro ⟨a', h1, h2⟩
      by_cases e : a' = a
      · subst e; right
        rw [hc] at h2
        exact (lN_inj (by omega) (by omega) h2).symm
      · left; exact ⟨a', by omega, h2⟩
theorem c_fs_L83 (hG : GB w B) (h : CW u w) {k q : Nat} (hk : k ≤ 30) (hq : q ≤ 6) (hch : ∀ p, p < q → ∃ c, (w (9 * k + 3 + p)).toInt32 = nI c ∧ c ∈ B) (x1 x2 x3 : Int32) : ∀ (d p n : Nat) (x : Int32), p + d = q → d < n →
    ∃ y, m_Blocks_freeSet_L83 n u x (nI p) x1 x2 x3 (nI k) (nI q) = some (.inr (y, u)) ∧ ∀ i, i < 32 → (bt y i = true ↔ bt x i = true ∨ ∃ p', p ≤ p' ∧ p' < q ∧ (w (9 * k + 3 + p')).toInt32 = nI i) := by
  intro d
  induction d with
  | zero =>
    intro p n x hp hn
    obtain ⟨n, rfl⟩ : ∃ m, n = m + 1 := ⟨n - 1, by omega⟩
    refine ⟨x, ?_, ?_⟩
    · rw [m_Blocks_freeSet_L83, if_pos (nI_le (by omega) (by omega))]
    · intro i hi
      constructor
      · intro h; exact Or.inl h
      · rintro (h | ⟨p', h1, h2, h3⟩)
        · exact h
        · omega
  | succ d ih =>
    intro p n x hp hn
    obtain ⟨n, rfl⟩ : ∃ m, n = m + 1 := ⟨n - 1, by omega⟩
    obtain ⟨c, hc, hcB⟩ := hch p (by omega)
    have hc30 := (hG.1 c hcB).2
    rw [m_Blocks_freeSet_L83, if_neg (nI_ge (by omega) (by omega)), c_child h hk (by omega), obS, hc, blk_nI hc30, a1]
    obtain ⟨y, h1, h2⟩ := ih (p + 1) n (x ||| ((1 : Int32) <<< (nI c &&& 31))) (by omega) (by omega)
    refine ⟨y, h1, ?_⟩
    intro i hi
    rw [h2 i hi, b_orT, b_bitT (by omega) hi]
    constructor
    · rintro ((h | e) | ⟨p', h3, h4, h5⟩)
      · exact Or.inl h
      · exact Or.inr ⟨p, Nat.le_refl _, by omega, by rw [hc, e]⟩
      · exact Or.inr ⟨p', by omega, h4, h5⟩
    · rintro (h | ⟨p', h3, h4, h5⟩)
      · exact Or.inl (Or.inl h)
      · by_cases e : p' = p
        · subst e
          rw [hc] at h5
          exact Or.inl (Or.inr ((nI_eq (by omega) (by omega)).mp h5).symm)
        · exact Or.inr ⟨p', by omega, h4, h5⟩
/-- what block b links to -/
def lnk (w : Mem) (b c : Nat) : Prop := w (9 * b + 1) = lN c ∨ (0 < (w (9 * b)).toInt32 ∧ ∃ p, p < rl w b ∧ (w (9 * b + 3 + p)).toInt32 = nI c)
theorem GB.lnk (hG : GB w B) {b c : Nat} (hb : b ∈ B) (hc : c < 2 ^ 31) (h : lnk w b c) : c = 0 ∨ c ∈ B := by
  rcases h with h | ⟨h0, p, hp, h⟩
  · obtain ⟨c', h1, h2⟩ := (hG.2.2.1 b hb).1
    rw [h1] at h
    have := hG.rg h2
    have e := lN_inj (by omega) hc h
    subst e; exact h2
  · obtain ⟨c', h1, h2⟩ := (hG.2.2.1 b hb).2 h0 p hp
    rw [h1] at h
    have := (hG.1 c' h2).2
    have e := (nI_eq (by omega) hc).mp h
    subst e; exact Or.inr h2
theorem c_links (hG : GB w B) (h : CW u w) {k : Nat} (hk : k ∈ B) (x1 x2 x3 : Int32) (F : Int32 → SM → Option ((Int32 × SM) ⊕ (Int32 × SM))) :
    ∃ y, (ob (m_Blocks_nextOf u (nI k)) (fun r13 u14 => ob (m_Blocks_levelOf u14 (nI k)) (fun r17 u18 => if r17 ≤ 0 then (ol1 (m_Blocks_freeSet_L83 fz u18 ((1 : Int32) <<< (r13 &&& 31)) (0 : Int32) x1 x2 x3 (nI k) (0 : Int32)) Sum.inl F) else (ob (m_Blocks_rowLength u18 (nI k)) (fun r23 u24 => ol1 (m_Blocks_freeSet_L83 fz u24 ((1 : Int32) <<< (r13 &&& 31)) (0 : Int32) x1 x2 x3 (nI k) r23) Sum.inl F))))) = F y u ∧ ∀ i, i < 32 → (bt y i = true ↔ lnk w k i) := by
  have hk30 := (hG.1 k hk).2
  obtain ⟨c, hc, hcB⟩ := (hG.2.2.1 k hk).1
  have hc30 := hG.rg hcB
  have h6 := rl_le w k
  rw [c_next h hk30, obS, c_level h hk30, obS, hc, blk_lN hc30]
  by_cases e : (w (9 * k)).toInt32 ≤ 0
  · rw [if_pos e]
    obtain ⟨y, h1, h2⟩ := c_fs_L83 hG h (k := k) (q := 0) hk30 (by omega) (fun p hp => absurd hp (Nat.not_lt_zero p)) x1 x2 x3 0 0 fz ((1 : Int32) <<< (nI c &&& 31)) rfl (by unfold fz; omega)
    refine ⟨y, ?_, ?_⟩
    · rw [nI_lit0, h1, ol1R]
    · intro i hi
      rw [h2 i hi, b_bitT (by omega) hi]
      constructor
      · rintro (q | ⟨p', -, q, -⟩)
        · subst q; exact Or.inl hc
        · omega
      · rintro (q | ⟨q, -⟩)
        · left; rw [hc] at q; exact (lN_inj (by omega) (by omega) q).symm
        · exact absurd e (Int32.not_le.mpr q)
  · rw [if_neg e, c_rl h hk30, obS]
    have e' : 0 < (w (9 * k)).toInt32 := Int32.not_le.mp e
    obtain ⟨y, h1, h2⟩ := c_fs_L83 hG h (k := k) (q := rl w k) hk30 h6 (fun p hp => (hG.2.2.1 k hk).2 e' p hp) x1 x2 x3 (rl w k) 0 fz ((1 : Int32) <<< (nI c &&& 31)) (by omega) (by unfold fz; omega)
    refine ⟨y, ?_, ?_⟩
    · rw [nI_lit0, h1, ol1R]
    · intro i hi
      rw [h2 i hi, b_bitT (by omega) hi]
      constructor
      · rintro (q | ⟨p', -, q, z⟩)
        · subst q; exact Or.inl hc
        · exact Or.inr ⟨e', p', q, z⟩
      · rintro (q | ⟨-, p', q, z⟩)
        · left; rw [hc] at q; exact (lN_inj (by omega) (by omega) q).symm
        · exact Or.inr ⟨p', Nat.zero_le _, q, z⟩
def fsI (w : Mem) (B : List Nat) (x1 x2 : Int32) (cn : Nat) : Prop :=
  (∀ i, i < 32 → bt x2 i = true → bt x1 i = true ∧ i ∈ B) ∧ (∀ i, 1 ≤ i → i < 32 → bt x1 i = true → i ∈ B) ∧
  (∀ a c, a < 9 → w a = lN c → c ≠ 0 → c ∈ B → bt x1 c = true) ∧
  (∀ b ∈ B, bt x1 b = true → bt x2 b = false → ∀ c, c ∈ B → lnk w b c → bt x1 c = true) ∧
  ∃ P : List Nat, P.Nodup ∧ P.length = cn ∧ ∀ b ∈ P, b ∈ B ∧ bt x1 b = true ∧ bt x2 b = false
theorem fs_done (hG : GB w B) {x1 x2 : Int32} {cn : Nat} (I : fsI w B x1 x2 cn) (h0 : ∀ i, i < 32 → bt x2 i = false) : ∀ i, 1 ≤ i → i < 32 → (bt x1 i = true ↔ i ∈ B) := by
  intro i h1 hi
  refine ⟨I.2.1 i h1 hi, ?_⟩
  intro hB
  refine hG.2.2.2 (fun c => bt x1 c = true) (fun a c ha hc hc0 hcB => I.2.2.1 a c ha hc hc0 hcB) ?_ i hB
  intro b hb hS
  have hb32 := hG.1 b hb
  refine ⟨fun c hc hc0 hcB => I.2.2.2.1 b hb hS (h0 b (by omega)) c hcB (Or.inl hc), fun hl p c hp hc hcB => I.2.2.2.1 b hb hS (h0 b (by omega)) c hcB (Or.inr ⟨hl, p, hp, hc⟩)⟩
theorem c_fs_L33 (hG : GB w B) (h : CW u w) : ∀ (n cn : Nat) (x1 x2 : Int32), fsI w B x1 x2 cn → 31 ≤ n + cn → cn ≤ 30 →
    ∃ x, m_Blocks_freeSet_L33 n u x1 x2 (nI cn) = some (.inr (x, u)) ∧ ∀ i, 1 ≤ i → i < 32 → (bt x i = true ↔ i ∈ B) := by
  intro n
  induction n with
  | zero => intro cn x1 x2 I h1 h2; omega
  | succ n ih =>
    intro cn x1 x2 I h1 h2
    rw [m_Blocks_freeSet_L33]
    by_cases e30 : cn = 30
    · subst e30
      rw [if_pos (by rw [show (30 : Int32) = nI 30 from rfl]; exact nI_le (by omega) (by omega))]
      refine ⟨x1, rfl, fs_done hG I ?_⟩
      intro i hi
      rw [bF]
      intro hb
      obtain ⟨P, hP1, hP2, hP3⟩ := I.2.2.2.2
      have hiB := (I.1 i hi hb).2
      have hnp : i ∉ P := fun q => by have := (hP3 i q).2.2; rw [hb] at this; cases this
      have := nd_le 30 (i :: P) (List.nodup_cons.mpr ⟨hnp, hP1⟩) (fun x hx => by
        rcases List.mem_cons.mp hx with rfl | hx
        · exact hG.1 _ hiB
        · exact hG.1 _ (hP3 x hx).1)
      simp only [List.length_cons] at this
      omega
    · rw [if_neg (by rw [show (30 : Int32) = nI 30 from rfl]; exact nI_ge (by omega) (by omega))]
      by_cases e0 : x2 = 0
      · rw [if_pos e0]
        exact ⟨x1, rfl, fs_done hG I (fun i _ => by rw [e0]; exact b_0 i)⟩
      · rw [if_neg e0]
        obtain ⟨k, hk32, hk1, hk2⟩ := bt_ne e0
        obtain ⟨hk3, hkB⟩ := I.1 k hk32 hk1
        have hkr := hG.1 k hkB
        rw [ntz_ok u hkr.2 hk1 hk2, obS]
        obtain ⟨y, hy1, hy2⟩ := c_links hG h hkB x1 x2 (nI cn) (fun x21 u22 => m_Blocks_freeSet_L33 n u22 (x1 ||| ((x21 &&& (2147483646 : Int32)) &&& (x1 ^^^ (-1 : Int32)))) ((x2 &&& (((1 : Int32) <<< (nI k &&& 31)) ^^^ (-1 : Int32))) ||| ((x21 &&& (2147483646 : Int32)) &&& (x1 ^^^ (-1 : Int32)))) (nI cn + (1 : Int32)))
        rw [hy1, a1]
        have fr : ∀ i, i < 32 → (bt ((y &&& (2147483646 : Int32)) &&& (x1 ^^^ (-1 : Int32))) i = true ↔ lnk w k i ∧ (1 ≤ i ∧ i ≤ 30) ∧ bt x1 i = false) := by
          intro i hi
          rw [b_andT, b_andT, b_notT hi, b_allT hi, hy2 i hi, and_assoc]
        have o1 : ∀ i, i < 32 → (bt (x1 ||| ((y &&& (2147483646 : Int32)) &&& (x1 ^^^ (-1 : Int32)))) i = true ↔ bt x1 i = true ∨ (lnk w k i ∧ (1 ≤ i ∧ i ≤ 30) ∧ bt x1 i = false)) := by
          intro i hi; rw [b_orT, fr i hi]
        have o2 : ∀ i, i < 32 → (bt ((x2 &&& (((1 : Int32) <<< (nI k &&& 31)) ^^^ (-1 : Int32))) ||| ((y &&& (2147483646 : Int32)) &&& (x1 ^^^ (-1 : Int32)))) i = true ↔ (bt x2 i = true ∧ i ≠ k) ∨ (lnk w k i ∧ (1 ≤ i ∧ i ≤ 30) ∧ bt x1 i = false)) := by
          intro i hi
          rw [b_orT, fr i hi, b_andT, b_notT hi, bF, b_bitT (by omega) hi]
        apply ih (cn + 1) _ _ _ (by omega) (by omega)
        refine ⟨?_, ?_, ?_, ?_, ?_⟩
        · intro i hi hb
          rw [o1 i hi]
          rcases (o2 i hi).mp hb with ⟨q, -⟩ | q
          · exact ⟨Or.inl (I.1 i hi q).1, (I.1 i hi q).2⟩
          · refine ⟨Or.inr q, ?_⟩
            rcases hG.lnk hkB (by omega) q.1 with z | z
            · omega
            · exact z
        · intro i h1 hi hb
          rcases (o1 i hi).mp hb with q | q
          · exact I.2.1 i h1 hi q
          · rcases hG.lnk hkB (by omega) q.1 with z | z
            · omega
            · exact z
        · intro a c ha hc hc0 hcB
          have := hG.1 c hcB
          rw [o1 c (by omega)]
          exact Or.inl (I.2.2.1 a c ha hc hc0 hcB)
        · intro b hb hb1 hb2 c hcB hl
          have hbr := hG.1 b hb
          have hcr := hG.1 c hcB
          rw [o1 c (by omega)]
          have nb2 : ¬ ((bt x2 b = true ∧ b ≠ k) ∨ (lnk w k b ∧ (1 ≤ b ∧ b ≤ 30) ∧ bt x1 b = false)) := fun q => by
            rw [bF] at hb2; exact hb2 ((o2 b (by omega)).mpr q)
          by_cases ebk : b = k
          · subst ebk
            cases ec : bt x1 c with
            | true => exact Or.inl rfl
            | false => exact Or.inr ⟨hl, hcr, rfl⟩
          · left
            have hx1 : bt x1 b = true := by
              rcases (o1 b (by omega)).mp hb1 with q | q
              · exact q
              · exact absurd (Or.inr q) nb2
            have hx2 : bt x2 b = false := by
              rw [bF]; intro q; exact nb2 (Or.inl ⟨q, ebk⟩)
            exact I.2.2.2.1 b hb hx1 hx2 c hcB hl
        · obtain ⟨P, hP1, hP2, hP3⟩ := I.2.2.2.2
          refine ⟨k :: P, List.nodup_cons.mpr ⟨(fun q => by have := (hP3 k q).2.2; rw [hk1] at this; cases this), hP1⟩, by simp [hP2], ?_⟩
          intro b hb
          rcases List.mem_cons.mp hb with rfl | hb
          · refine ⟨hkB, (o1 _ hk32).mpr (Or.inl hk3), ?_⟩
            rw [bF, o2 _ hk32]
            rintro (⟨-, q⟩ | ⟨-, -, q⟩)
            · exact q rfl
            · rw [hk3] at q; cases q
          · obtain ⟨q1, q2, q3⟩ := hP3 b hb
            have := hG.1 b q1
            refine ⟨q1, (o1 b (by omega)).mpr (Or.inl q2), ?_⟩
            rw [bF, o2 b (by omega)]
            rintro (⟨q, -⟩ | ⟨-, -, q⟩)
            · rw [q3] at q; cases q
            · rw [q2] at q; cases q
theorem c_freeSet (hG : GB w B) (h : CW u w) : ∃ x, m_Blocks_freeSet u = some (x, u) ∧ ∀ i, i < 32 → (bt x i = true ↔ (1 ≤ i ∧ i ≤ 30) ∧ i ∉ B) := by
  obtain ⟨y, h1, h2⟩ := c_fs_L4 hG h 9 0 fz 0 (by omega) (by unfold fz; omega) (fun i hi => by
    rw [b_0]
    constructor
    · intro q; cases q
    · rintro ⟨a', q, -⟩; omega)
  have I0 : fsI w B y (y &&& (2147483646 : Int32)) 0 := by
    have key : ∀ i, 1 ≤ i → i < 32 → bt y i = true → i ∈ B := by
      intro i h1 hi hb
      obtain ⟨a, ha, hw⟩ := (h2 i hi).mp hb
      obtain ⟨c, hc, hcB⟩ := hG.2.1 a ha
      rw [hc] at hw
      have := hG.rg hcB
      have e := lN_inj (by omega) (by omega) hw
      subst e
      rcases hcB with z | z
      · omega
      · exact z
    refine ⟨?_, key, ?_, ?_, ?_⟩
    · intro i hi hb
      rw [b_andT, b_allT hi] at hb
      exact ⟨hb.1, key i hb.2.1 hi hb.1⟩
    · intro a c ha hc hc0 hcB
      have := hG.1 c hcB
      exact (h2 c (by omega)).mpr ⟨a, ha, hc⟩
    · intro b hb hb1 hb2 c hcB hl
      have hbr := hG.1 b hb
      rw [bF, b_andT, b_allT (by omega)] at hb2
      exact absurd ⟨hb1, hbr⟩ hb2
    · exact ⟨[], List.nodup_nil, rfl, fun b hb => by cases hb⟩
  obtain ⟨x, h3, h4⟩ := c_fs_L33 hG h fz 0 y (y &&& (2147483646 : Int32)) I0 (by unfold fz; omega) (by omega)
  refine ⟨((2147483646 : Int32) &&& (x ^^^ (-1 : Int32))), ?_, ?_⟩
  · have h1' : m_Blocks_freeSet_L4 fz u (nI 0) (nI 0) = some (Sum.inr (y, u)) := h1
    unfold m_Blocks_freeSet
    rw [nI_lit0, h1', ol1R, h3, ol1R]
  · intro i hi
    rw [b_andT, b_notT hi, b_allT hi, bF]
    constructor
    · rintro ⟨q1, q2⟩
      exact ⟨q1, fun z => q2 ((h4 i q1.1 hi).mpr z)⟩
    · rintro ⟨q1, q2⟩
      exact ⟨q1, fun z => q2 ((h4 i q1.1 hi).mp z)⟩
end Fs
