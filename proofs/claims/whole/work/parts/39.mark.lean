/-! PURE: the reference's marks -/
theorem nar1 : vp_nar .boolean (1 : Int32) = 1 := by decide
theorem nar0 : vp_nar .boolean (0 : Int32) = 0 := by decide
def mor (r x : Int32) : Int32 := if r = 0 then (if x = 0 then 0 else 1) else 1
def RSf (B : List Nat) (f : Nat → Int32) : Prop := ∀ b, 1 ≤ b → b ≤ 30 → f b ≠ 0 → b ∈ B
def Qf (B : List Nat) (f0 : Nat → Int32) (x : Int32) (f : Nat → Int32) : Prop :=
  RSf B f ∧ (∀ b, f0 b ≠ 0 → f b ≠ 0) ∧ (x = 0 → ∀ b, 1 ≤ b → b ≤ 30 → f b ≠ 0 → f0 b ≠ 0) ∧ (x ≠ 0 → ∃ b, 1 ≤ b ∧ b ≤ 30 ∧ f0 b = 0 ∧ f b ≠ 0)
section Mk
variable {v : SR} {w : Mem} {B : List Nat}
theorem r_reach (f : Nat → Int32) {c : Nat} (hc : c ≤ 30) : m_Ref_reach (rs_rea v f) (nI c) = some (if c = 0 ∨ f c ≠ 0 then 0 else 1, rs_rea v (upd f c 1)) := by
  unfold m_Ref_reach m_Ref_reach_J17
  have hi : inb (nI c) 31 = true := inb_n (show c < 31 by omega) (by omega)
  rw [hi, nI_clamp (by omega), nar1]
  repeat rw [if_pos (rfl : true = true)]
  by_cases e : c = 0
  · subst e
    rw [if_pos (show nI 0 = 0 from rfl), if_pos (Or.inl rfl)]; rfl
  · rw [if_neg (by rw [nI_lit0, nI_eq (by omega) (by omega)]; exact e)]
    by_cases e2 : f c = 0
    · rw [if_pos (show rg_rea (rs_rea v f) c = 0 from e2), if_neg (by rintro (q | q); exact e q; exact q e2)]; rfl
    · rw [if_neg (show ¬ rg_rea (rs_rea v f) c = 0 from e2), if_pos (Or.inr e2)]; rfl
theorem upd_at (f : Nat → Int32) (k : Nat) (x : Int32) : upd f k x k = x := pk_us
theorem upd_ne (f : Nat → Int32) {k j : Nat} (x : Int32) (h : j ≠ k) : upd f k x j = f j := pk_un h
theorem Qf.step {f0 f : Nat → Int32} {x : Int32} (h : Qf B f0 x f) {c : Nat} (hc : c = 0 ∨ c ∈ B) (hB : ∀ b ∈ B, 1 ≤ b ∧ b ≤ 30) : Qf B f0 (mor (if c = 0 ∨ f c ≠ 0 then 0 else 1) x) (upd f c 1) := by
  obtain ⟨h1, h2, h3, h4⟩ := h
  have k1 : RSf B (upd f c 1) := by
    intro b hb1 hb2 hb
    by_cases e : b = c
    · subst e
      rcases hc with q | q
      · omega
      · exact q
    · rw [upd_ne f 1 e] at hb; exact h1 b hb1 hb2 hb
  have k2 : ∀ b, f b ≠ 0 → upd f c 1 b ≠ 0 := by
    intro b hb
    by_cases e : b = c
    · subst e; rw [upd_at]; decide
    · rw [upd_ne f 1 e]; exact hb
  refine ⟨k1, fun b hb => k2 b (h2 b hb), ?_, ?_⟩
  · intro hx b hb1 hb2 hb
    unfold mor at hx
    by_cases e : c = 0 ∨ f c ≠ 0
    · rw [if_pos e, if_pos rfl] at hx
      have x0 : x = 0 := by
        by_cases q : x = 0
        · exact q
        · rw [if_neg q] at hx; exact absurd hx (by decide)
      by_cases eb : b = c
      · subst eb
        rcases e with q | q
        · omega
        · exact h3 x0 b hb1 hb2 q
      · rw [upd_ne f 1 eb] at hb; exact h3 x0 b hb1 hb2 hb
    · rw [if_neg e, if_neg (by decide)] at hx; exact absurd hx (by decide)
  · intro hx
    by_cases e : c = 0 ∨ f c ≠ 0
    · unfold mor at hx
      rw [if_pos e, if_pos rfl] at hx
      have x0 : x ≠ 0 := fun q => by rw [if_pos q] at hx; exact hx rfl
      obtain ⟨b, b1, b2, b3, b4⟩ := h4 x0
      exact ⟨b, b1, b2, b3, k2 b b4⟩
    · have hc0 : c ≠ 0 := fun q => e (Or.inl q)
      have hfc : f c = 0 := by
        by_cases q : f c = 0
        · exact q
        · exact absurd (Or.inr q) e
      have hcB : c ∈ B := by
        rcases hc with q | q
        · exact absurd q hc0
        · exact q
      have := hB c hcB
      refine ⟨c, this.1, this.2, ?_, by rw [upd_at]; decide⟩
      by_cases q : f0 c = 0
      · exact q
      · exact absurd hfc (h2 c q)
theorem r_mk_L134 (hG : GB w B) (h : RW v w) {k q : Nat} (hk : k ≤ 30) (hq : q ≤ 6) (hch : ∀ p, p < q → ∃ c, (w (9 * k + 3 + p)).toInt32 = nI c ∧ c ∈ B) (f0 : Nat → Int32) : ∀ (d p n : Nat) (x : Int32) (f : Nat → Int32), p + d = q → d < n → Qf B f0 x f →
    ∃ x' f', m_Ref_mark_L134 n (rs_rea v f) x (nI p) (nI k) (nI q) = some (.inr (x', rs_rea v f')) ∧ Qf B f0 x' f' ∧ (∀ b, f b ≠ 0 → f' b ≠ 0) ∧ ∀ p' c, p ≤ p' → p' < q → (w (9 * k + 3 + p')).toInt32 = nI c → c ∈ B → f' c ≠ 0 := by
  intro d
  induction d with
  | zero =>
    intro p n x f hp hn hQ
    obtain ⟨n, rfl⟩ : ∃ m, n = m + 1 := ⟨n - 1, by omega⟩
    refine ⟨x, f, ?_, hQ, fun _ q => q, fun p' c h1 h2 => by omega⟩
    rw [m_Ref_mark_L134, if_pos (nI_le (by omega) (by omega))]
  | succ d ih =>
    intro p n x f hp hn hQ
    obtain ⟨n, rfl⟩ : ∃ m, n = m + 1 := ⟨n - 1, by omega⟩
    obtain ⟨c, hc, hcB⟩ := hch p (by omega)
    have hc30 := (hG.1 c hcB).2
    have hrw : RW (rs_rea v f) w := h
    have e : m_Ref_mark_L134 (n + 1) (rs_rea v f) x (nI p) (nI k) (nI q) = m_Ref_mark_L134 n (rs_rea v (upd f c 1)) (mor (if c = 0 ∨ f c ≠ 0 then 0 else 1) x) (nI (p + 1)) (nI k) (nI q) := by
      rw [m_Ref_mark_L134, if_neg (nI_ge (by omega) (by omega)), r_block hrw hk (by omega), obS, hc, r_reach f hc30, obS, a1]
      unfold mor
      by_cases e1 : (if c = 0 ∨ f c ≠ 0 then (0 : Int32) else 1) = 0
      · rw [if_pos e1, if_pos e1]
        by_cases e2 : x = 0
        · rw [if_pos e2, if_pos e2]
        · rw [if_neg e2, if_neg e2]
      · rw [if_neg e1, if_neg e1]
    obtain ⟨x', f', h1, h2, h3, h4⟩ := ih (p + 1) n _ (upd f c 1) (by omega) (by omega) (hQ.step (Or.inr hcB) hG.1)
    refine ⟨x', f', by rw [e]; exact h1, h2, ?_, ?_⟩
    · intro b hb
      apply h3
      by_cases eb : b = c
      · subst eb; rw [upd_at]; decide
      · rw [upd_ne f 1 eb]; exact hb
    · intro p' c' g1 g2 g3 g4
      by_cases ep : p' = p
      · subst ep
        rw [hc] at g3
        have := (hG.1 c' g4).2
        have ec := (nI_eq (by omega) (by omega)).mp g3
        subst ec
        apply h3; rw [upd_at]; decide
      · exact h4 p' c' (by omega) g2 g3 g4
/-- closed under links, as far as block k -/
def clo (w : Mem) (B : List Nat) (f : Nat → Int32) (k : Nat) : Prop := ∀ b ∈ B, b < k → f b ≠ 0 → ∀ c, c ∈ B → lnk w b c → f c ≠ 0
theorem r_mk_one (hG : GB w B) (h : RW v w) {k : Nat} (hk : k ∈ B) (f0 f : Nat → Int32) (x : Int32) (hQ : Qf B f0 x f) (n : Nat) (hfk : f k ≠ 0) :
    ∃ x' f', m_Ref_mark_L76 (n + 1) (rs_rea v f) x (nI k) = m_Ref_mark_L76 n (rs_rea v f') x' (nI (k + 1)) ∧ Qf B f0 x' f' ∧ (∀ b, f b ≠ 0 → f' b ≠ 0) ∧ ∀ c, c ∈ B → lnk w k c → f' c ≠ 0 := by
  have hk30 := hG.1 k hk
  obtain ⟨c, hc, hcB⟩ := (hG.2.2.1 k hk).1
  have hc30 := hG.rg hcB
  have h6 := rl_le w k
  have hrw : RW (rs_rea v f) w := h
  have hrw2 : RW (rs_rea v (upd f c 1)) w := h
  have Q2 := hQ.step hcB hG.1
  have keep : ∀ b, f b ≠ 0 → upd f c 1 b ≠ 0 := by
    intro b hb
    by_cases eb : b = c
    · subst eb; rw [upd_at]; decide
    · rw [upd_ne f 1 eb]; exact hb
  have e : m_Ref_mark_L76 (n + 1) (rs_rea v f) x (nI k) = ob (m_Ref_level (rs_rea v (upd f c 1)) (nI k)) (fun r33 u34 => if r33 ≤ 0 then (ol1 (m_Ref_mark_L134 fz u34 (mor (if c = 0 ∨ f c ≠ 0 then 0 else 1) x) (0 : Int32) (nI k) (0 : Int32)) Sum.inl (fun x37 u38 => m_Ref_mark_L76 n u38 x37 (nI k + (1 : Int32)))) else (ob (m_Ref_length u34 (nI k)) (fun r39 u40 => ol1 (m_Ref_mark_L134 fz u40 (mor (if c = 0 ∨ f c ≠ 0 then 0 else 1) x) (0 : Int32) (nI k) r39) Sum.inl (fun x43 u44 => m_Ref_mark_L76 n u44 x43 (nI k + (1 : Int32)))))) := by
    rw [m_Ref_mark_L76, if_neg (by rw [show (30 : Int32) = nI 30 from rfl]; exact nI_nlt hk30.2 (by omega)), if_pos (inb_n (by omega) (by omega)), nI_clamp (by omega), if_neg (show ¬ rg_rea (rs_rea v f) k = 0 from hfk), r_next hrw hk30.2, obS, hc, lN_i, r_reach f hc30, obS]
    unfold mor
    by_cases e1 : (if c = 0 ∨ f c ≠ 0 then (0 : Int32) else 1) = 0
    · rw [if_pos e1, if_pos e1]
      by_cases e2 : x = 0
      · rw [if_pos e2, if_pos e2]
      · rw [if_neg e2, if_neg e2]
    · rw [if_neg e1, if_neg e1]
  rw [r_level hrw2 hk30.2, obS] at e
  by_cases el : (w (9 * k)).toInt32 ≤ 0
  · rw [if_pos el] at e
    obtain ⟨x', f', h1, h2, h3, h4⟩ := r_mk_L134 hG h (k := k) (q := 0) hk30.2 (by omega) (fun p hp => absurd hp (Nat.not_lt_zero p)) f0 0 0 fz _ (upd f c 1) rfl (by unfold fz; omega) Q2
    have h1' : m_Ref_mark_L134 fz (rs_rea v (upd f c 1)) (mor (if c = 0 ∨ f c ≠ 0 then 0 else 1) x) (0 : Int32) (nI k) (0 : Int32) = some (Sum.inr (x', rs_rea v f')) := h1
    rw [h1', ol1R, a1] at e
    refine ⟨x', f', e, h2, fun b hb => h3 b (keep b hb), ?_⟩
    intro c' hc' hl
    have := hG.1 c' hc'
    rcases hl with q | ⟨q, -⟩
    · rw [hc] at q
      have ec := lN_inj (by omega) (by omega) q
      subst ec
      apply h3; rw [upd_at]; decide
    · exact absurd el (Int32.not_le.mpr q)
  · rw [if_neg el, r_rl hrw2 hk30.2, obS] at e
    have el' : 0 < (w (9 * k)).toInt32 := Int32.not_le.mp el
    obtain ⟨x', f', h1, h2, h3, h4⟩ := r_mk_L134 hG h (k := k) (q := rl w k) hk30.2 h6 (fun p hp => (hG.2.2.1 k hk).2 el' p hp) f0 (rl w k) 0 fz _ (upd f c 1) (by omega) (by unfold fz; omega) Q2
    have h1' : m_Ref_mark_L134 fz (rs_rea v (upd f c 1)) (mor (if c = 0 ∨ f c ≠ 0 then 0 else 1) x) (0 : Int32) (nI k) (nI (rl w k)) = some (Sum.inr (x', rs_rea v f')) := h1
    rw [h1', ol1R, a1] at e
    refine ⟨x', f', e, h2, fun b hb => h3 b (keep b hb), ?_⟩
    intro c' hc' hl
    have := hG.1 c' hc'
    rcases hl with q | ⟨-, p', g1, g2⟩
    · rw [hc] at q
      have ec := lN_inj (by omega) (by omega) q
      subst ec
      apply h3; rw [upd_at]; decide
    · exact h4 p' c' (Nat.zero_le _) g1 g2 hc'
theorem r_mk_L76 (hG : GB w B) (h : RW v w) (f0 : Nat → Int32) : ∀ (d k n : Nat) (x : Int32) (f : Nat → Int32), k + d = 31 → d < n → 1 ≤ k → Qf B f0 x f → (x = 0 → clo w B f k) →
    ∃ x' f', m_Ref_mark_L76 n (rs_rea v f) x (nI k) = some (.inr (x', rs_rea v f')) ∧ Qf B f0 x' f' ∧ (x' = 0 → clo w B f' 31) := by
  intro d
  induction d with
  | zero =>
    intro k n x f hk hn h1 hQ hc
    obtain ⟨n, rfl⟩ : ∃ m, n = m + 1 := ⟨n - 1, by omega⟩
    refine ⟨x, f, ?_, hQ, fun q => by rw [show 31 = k by omega]; exact hc q⟩
    rw [m_Ref_mark_L76, if_pos (by rw [show (30 : Int32) = nI 30 from rfl]; exact nI_lt (by omega) (by omega))]
  | succ d ih =>
    intro k n x f hk hn h1 hQ hc
    obtain ⟨n, rfl⟩ : ∃ m, n = m + 1 := ⟨n - 1, by omega⟩
    by_cases e0 : f k = 0
    · have e : m_Ref_mark_L76 (n + 1) (rs_rea v f) x (nI k) = m_Ref_mark_L76 n (rs_rea v f) x (nI (k + 1)) := by
        rw [m_Ref_mark_L76, if_neg (by rw [show (30 : Int32) = nI 30 from rfl]; exact nI_nlt (by omega) (by omega)), if_pos (inb_n (by omega) (by omega)), nI_clamp (by omega), if_pos (show rg_rea (rs_rea v f) k = 0 from e0), a1]
      rw [e]
      apply ih (k + 1) n x f (by omega) (by omega) (by omega) hQ
      intro q b hb hbk hfb c hcB hl
      by_cases eb : b = k
      · subst eb; exact absurd e0 hfb
      · exact hc q b hb (by omega) hfb c hcB hl
    · have hkB : k ∈ B := hQ.1 k h1 (by omega) e0
      obtain ⟨x', f', g1, g2, g3, g4⟩ := r_mk_one hG h hkB f0 f x hQ n e0
      rw [g1]
      apply ih (k + 1) n x' f' (by omega) (by omega) (by omega) g2
      intro q b hb hbk hfb c hcB hl
      by_cases eb : b = k
      · subst eb; exact g4 c hcB hl
      · -- nothing has grown in this pass
        have hbr := hG.1 b hb
        have h00 : f0 b ≠ 0 := g2.2.2.1 q b hbr.1 hbr.2 hfb
        have hfb0 : f b ≠ 0 := hQ.2.1 b h00
        have hx0 : x = 0 ∨ x ≠ 0 := Classical.em _
        rcases hx0 with hx | hx
        · exact g3 c (hc hx b hb (by omega) hfb0 c hcB hl)
        · obtain ⟨z, z1, z2, z3, z4⟩ := hQ.2.2.2 hx
          exact absurd z3 (g2.2.2.1 q z z1 z2 (g3 z z4))
def unr (f : Nat → Int32) : Nat := cnt (fun i => decide (f (i + 1) = 0)) 30
theorem cnt_mono {f g : Nat → Bool} : ∀ n, (∀ i, i < n → f i = true → g i = true) → cnt f n ≤ cnt g n := by
  intro n
  induction n with
  | zero => intro _; exact Nat.le_refl _
  | succ n ih =>
    intro h
    unfold cnt
    have h1 := ih (fun i hi => h i (by omega))
    by_cases e : f n = true
    · rw [if_pos e, if_pos (h n (by omega) e)]; omega
    · rw [if_neg e]; omega
theorem cnt_lt {f g : Nat → Bool} : ∀ n, (∀ i, i < n → f i = true → g i = true) → (∃ i, i < n ∧ f i = false ∧ g i = true) → cnt f n < cnt g n := by
  intro n
  induction n with
  | zero => rintro _ ⟨i, hi, -⟩; omega
  | succ n ih =>
    rintro h ⟨i, hi, h1, h2⟩
    unfold cnt
    by_cases e : i = n
    · subst e
      rw [h1, h2]
      have := cnt_mono (f := f) (g := g) i (fun j hj => h j (by omega))
      simp; omega
    · have h3 := ih (fun j hj => h j (by omega)) ⟨i, by omega, h1, h2⟩
      by_cases e2 : f n = true
      · rw [if_pos e2, if_pos (h n (by omega) e2)]; omega
      · rw [if_neg e2]; omega
theorem r_mk_L68 (hG : GB w B) (h : RW v w) : ∀ (n : Nat) (x : Int32) (f : Nat → Int32), unr f + 2 ≤ n → RSf B f → (∀ a c, a < 9 → w a = lN c → c ≠ 0 → c ∈ B → f c ≠ 0) → (x = 0 → clo w B f 31) →
    ∃ f', m_Ref_mark_L68 n (rs_rea v f) x = some (.inr (rs_rea v f')) ∧ ∀ b, 1 ≤ b → b ≤ 30 → (f' b ≠ 0 ↔ b ∈ B) := by
  intro n
  induction n with
  | zero => intro x f hn; omega
  | succ n ih =>
    intro x f hn hR hr hc
    rw [m_Ref_mark_L68]
    by_cases e : x = 0
    · rw [if_pos e]
      refine ⟨f, rfl, fun b hb1 hb2 => ⟨hR b hb1 hb2, ?_⟩⟩
      intro hB
      refine hG.2.2.2 (fun c => f c ≠ 0) hr ?_ b hB
      intro b' hb' hS
      have hbr := hG.1 b' hb'
      exact ⟨fun c hc' hc0 hcB => hc e b' hb' (by omega) hS c hcB (Or.inl hc'), fun hl p c hp hcc hcB => hc e b' hb' (by omega) hS c hcB (Or.inr ⟨hl, p, hp, hcc⟩)⟩
    · rw [if_neg e]
      have Q0 : Qf B f 0 f := ⟨hR, fun _ q => q, fun _ _ _ _ q => q, fun q => absurd rfl q⟩
      obtain ⟨x', f', h1, h2, h3⟩ := r_mk_L76 hG h f 30 1 fz 0 f (by omega) (by unfold fz; omega) (by omega) Q0 (fun _ b hb hb1 => by have := hG.1 b hb; omega)
      have h1' : m_Ref_mark_L76 fz (rs_rea v f) (0 : Int32) (1 : Int32) = some (.inr (x', rs_rea v f')) := h1
      rw [h1', ol1R]
      by_cases e' : x' = 0
      · -- one more turn, which ends at once
        cases n with
        | zero =>
          exfalso
          omega
        | succ n =>
          rw [m_Ref_mark_L68, if_pos e']
          refine ⟨f', rfl, fun b hb1 hb2 => ⟨h2.1 b hb1 hb2, ?_⟩⟩
          intro hB
          refine hG.2.2.2 (fun c => f' c ≠ 0) (fun a c ha hc' hc0 hcB => h2.2.1 c (hr a c ha hc' hc0 hcB)) ?_ b hB
          intro b' hb' hS
          have hbr := hG.1 b' hb'
          exact ⟨fun c hc' hc0 hcB => h3 e' b' hb' (by omega) hS c hcB (Or.inl hc'), fun hl p c hp hcc hcB => h3 e' b' hb' (by omega) hS c hcB (Or.inr ⟨hl, p, hp, hcc⟩)⟩
      · apply ih x' f' ?_ h2.1 (fun a c ha hc' hc0 hcB => h2.2.1 c (hr a c ha hc' hc0 hcB)) h3
        have : unr f' < unr f := by
          obtain ⟨b, b1, b2, b3, b4⟩ := h2.2.2.2 e'
          apply cnt_lt
          · intro i hi hf
            simp only [decide_eq_true_eq] at hf ⊢
            by_cases q : f (i + 1) = 0
            · exact q
            · exact absurd hf (h2.2.1 _ q)
          · exact ⟨b - 1, by omega, by simp only [decide_eq_false_iff_not]; rw [show b - 1 + 1 = b by omega]; exact b4, by simp only [decide_eq_true_eq]; rw [show b - 1 + 1 = b by omega]; exact b3⟩
        omega
theorem r_mk_L2 : ∀ (d k n : Nat) (f : Nat → Int32), k + d = 31 → d < n → (∀ b, b < k → f b = 0) → ∃ f', m_Ref_mark_L2 n (rs_rea v f) (nI k) = some (.inr (rs_rea v f')) ∧ ∀ b, b ≤ 30 → f' b = 0 := by
  intro d
  induction d with
  | zero =>
    intro k n f hk hn hf
    obtain ⟨n, rfl⟩ : ∃ m, n = m + 1 := ⟨n - 1, by omega⟩
    refine ⟨f, ?_, fun b hb => hf b (by omega)⟩
    rw [m_Ref_mark_L2, if_pos (by rw [show (30 : Int32) = nI 30 from rfl]; exact nI_lt (by omega) (by omega))]
  | succ d ih =>
    intro k n f hk hn hf
    obtain ⟨n, rfl⟩ : ∃ m, n = m + 1 := ⟨n - 1, by omega⟩
    rw [m_Ref_mark_L2, if_neg (by rw [show (30 : Int32) = nI 30 from rfl]; exact nI_nlt (by omega) (by omega)), if_pos (inb_n (by omega) (by omega)), nI_clamp (by omega), nar0, a1]
    have := ih (k + 1) n (upd f k 0) (by omega) (by omega) (fun b hb => by
      by_cases e : b = k
      · subst e; exact upd_at f b 0
      · rw [upd_ne f 0 e]; exact hf b (by omega))
    exact this
theorem r_mk_L32 (hG : GB w B) (h : RW v w) (f0 : Nat → Int32) : ∀ (d k n : Nat) (x : Int32) (f : Nat → Int32), k + d = 9 → d < n → Qf B f0 x f → (∀ a c, a < k → w a = lN c → c ≠ 0 → c ∈ B → f c ≠ 0) →
    ∃ x' f', m_Ref_mark_L32 n (rs_rea v f) x (nI k) = some (.inr (x', rs_rea v f')) ∧ Qf B f0 x' f' ∧ (∀ a c, a < 9 → w a = lN c → c ≠ 0 → c ∈ B → f' c ≠ 0) := by
  intro d
  induction d with
  | zero =>
    intro k n x f hk hn hQ hr
    obtain ⟨n, rfl⟩ : ∃ m, n = m + 1 := ⟨n - 1, by omega⟩
    refine ⟨x, f, ?_, hQ, fun a c ha => hr a c (by omega)⟩
    rw [m_Ref_mark_L32, if_pos (by rw [show (8 : Int32) = nI 8 from rfl]; exact nI_lt (by omega) (by omega))]
  | succ d ih =>
    intro k n x f hk hn hQ hr
    obtain ⟨n, rfl⟩ : ∃ m, n = m + 1 := ⟨n - 1, by omega⟩
    obtain ⟨c, hc, hcB⟩ := hG.2.1 k (by omega)
    have hc30 := hG.rg hcB
    have e : m_Ref_mark_L32 (n + 1) (rs_rea v f) x (nI k) = m_Ref_mark_L32 n (rs_rea v (upd f c 1)) (mor (if c = 0 ∨ f c ≠ 0 then 0 else 1) x) (nI (k + 1)) := by
      rw [m_Ref_mark_L32, if_neg (by rw [show (8 : Int32) = nI 8 from rfl]; exact nI_nlt (by omega) (by omega)), if_pos (inb_n (by omega) (by omega)), nI_clamp (by omega), show rg_mem (rs_rea v f) k = w k from h k (by omega), hc, lN_i, r_reach f hc30, obS, a1]
      unfold mor
      by_cases e1 : (if c = 0 ∨ f c ≠ 0 then (0 : Int32) else 1) = 0
      · rw [if_pos e1, if_pos e1]
        by_cases e2 : x = 0
        · rw [if_pos e2, if_pos e2]
        · rw [if_neg e2, if_neg e2]
      · rw [if_neg e1, if_neg e1]
    rw [e]
    apply ih (k + 1) n _ _ (by omega) (by omega) (hQ.step hcB hG.1)
    intro a c' ha hw hc0 hc'B
    have := hG.1 c' hc'B
    by_cases ea : a = k
    · subst ea
      rw [hc] at hw
      have ec := lN_inj (by omega) (by omega) hw
      subst ec; rw [upd_at]; decide
    · have hf := hr a c' (by omega) hw hc0 hc'B
      by_cases ec : c' = c
      · subst ec; rw [upd_at]; decide
      · rw [upd_ne f 1 ec]; exact hf
theorem r_mark (hG : GB w B) (h : RW v w) : ∃ f, m_Ref_mark v = some ((), rs_rea v f) ∧ ∀ b, 1 ≤ b → b ≤ 30 → (f b ≠ 0 ↔ b ∈ B) := by
  obtain ⟨f1, h1, h1z⟩ := r_mk_L2 (v := v) 31 0 fz (rg_rea v) (by omega) (by unfold fz; omega) (fun b hb => by omega)
  have h1' : m_Ref_mark_L2 fz v (0 : Int32) = some (.inr (rs_rea v f1)) := h1
  obtain ⟨c, hc, hcB⟩ := hG.2.1 0 (by omega)
  have hc30 := hG.rg hcB
  have Q0 : Qf B f1 0 f1 := ⟨fun b hb1 hb2 hb => absurd (h1z b hb2) hb, fun _ q => q, fun _ _ _ _ q => q, fun q => absurd rfl q⟩
  have Q1 := Q0.step hcB hG.1
  have hmor : mor (if c = 0 ∨ f1 c ≠ 0 then 0 else 1) 0 = (if c = 0 ∨ f1 c ≠ 0 then 0 else 1) := by
    unfold mor
    by_cases e : c = 0 ∨ f1 c ≠ 0
    · rw [if_pos e]; rfl
    · rw [if_neg e]; rfl
  rw [hmor] at Q1
  obtain ⟨x2, f2, h2, Q2, r2⟩ := r_mk_L32 hG h f1 8 1 fz _ (upd f1 c 1) (by omega) (by unfold fz; omega) Q1 (fun a c' ha hw hc0 hc'B => by
    have ea : a = 0 := by omega
    subst ea
    have := hG.1 c' hc'B
    rw [hc] at hw
    have ec := lN_inj (by omega) (by omega) hw
    subst ec; rw [upd_at]; decide)
  obtain ⟨f3, h3, h3b⟩ := r_mk_L68 hG h fz x2 f2 (by have := cnt_le (fun i => decide (f2 (i + 1) = 0)) 30; unfold unr fz; omega) Q2.1 r2 (fun q b hb hb31 hfb => by
    have hbr := hG.1 b hb
    exact absurd (h1z b hbr.2) (Q2.2.2.1 q b hbr.1 hbr.2 hfb))
  refine ⟨f3, ?_, h3b⟩
  have hrw1 : RW (rs_rea v f1) w := h
  have h2' : m_Ref_mark_L32 fz (rs_rea v (upd f1 c 1)) (if c = 0 ∨ f1 c ≠ 0 then 0 else 1) (1 : Int32) = some (.inr (x2, rs_rea v f2)) := h2
  unfold m_Ref_mark
  rw [h1', ol0R, r_root hrw1, obS, hc, lN_i, r_reach f1 hc30, obS, h2', ol1R, h3, ol0R]
end Mk
