/-! PURE: size -/
def smN (f : Nat → Nat) : Nat → Nat
  | 0 => 0
  | n + 1 => smN f n + f n
theorem smN_congr {f g : Nat → Nat} : ∀ n, (∀ i, i < n → f i = g i) → smN f n = smN g n := by
  intro n
  induction n with
  | zero => intro _; rfl
  | succ n ih => intro h; show smN f n + f n = smN g n + g n; rw [ih (fun i hi => h i (by omega)), h n (by omega)]
theorem smN_one {f g : Nat → Nat} {k c : Nat} : ∀ n, k < n → (∀ i, i < n → i ≠ k → f i = g i) → f k = g k + c → smN f n = smN g n + c := by
  intro n
  induction n with
  | zero => intro h; omega
  | succ n ih =>
    intro hk h1 h2
    show smN f n + f n = smN g n + g n + c
    by_cases e : k = n
    · subst e
      rw [h2, smN_congr k (fun i hi => h1 i (by omega) (by omega))]; omega
    · rw [ih (by omega) (fun i hi hne => h1 i (by omega) hne) h2, h1 n (by omega) (fun q => e q.symm)]; omega
def lsm (g : Nat → Nat) : List Nat → Nat
  | [] => 0
  | b :: r => g b + lsm g r
theorem smN_zero : ∀ n, smN (fun _ => 0) n = 0 := by
  intro n
  induction n with
  | zero => rfl
  | succ n ih => show smN (fun _ => 0) n + 0 = 0; rw [ih]
theorem smN_list (g : Nat → Nat) : ∀ (l : List Nat), l.Nodup → (∀ b ∈ l, 1 ≤ b ∧ b ≤ 30) → smN (fun i => if i + 1 ∈ l then g (i + 1) else 0) 30 = lsm g l := by
  intro l
  induction l with
  | nil => intro _ _; exact smN_zero 30
  | cons b r ih =>
    intro hn hr
    have hb := hr b List.mem_cons_self
    have hn' := List.nodup_cons.mp hn
    rw [smN_one (g := fun i => if i + 1 ∈ r then g (i + 1) else 0) (k := b - 1) (c := g b) 30 (by omega), ih hn'.2 (fun x hx => hr x (List.mem_cons_of_mem _ hx))]
    · show _ = g b + lsm g r; omega
    · intro i hi hne
      show (if i + 1 ∈ b :: r then g (i + 1) else 0) = (if i + 1 ∈ r then g (i + 1) else 0)
      by_cases e : i + 1 ∈ r
      · rw [if_pos e, if_pos (List.mem_cons_of_mem _ e)]
      · rw [if_neg e, if_neg (fun q => by
          rcases List.mem_cons.mp q with z | z
          · omega
          · exact e z)]
    · show (if b - 1 + 1 ∈ b :: r then g (b - 1 + 1) else 0) = (if b - 1 + 1 ∈ r then g (b - 1 + 1) else 0) + g b
      rw [show b - 1 + 1 = b by omega, if_pos List.mem_cons_self, if_neg hn'.1]; omega
theorem lsm_app (g : Nat → Nat) : ∀ (a b : List Nat), lsm g (a ++ b) = lsm g a + lsm g b := by
  intro a b
  induction a with
  | nil => show lsm g b = 0 + lsm g b; omega
  | cons x a ih => show g x + lsm g (a ++ b) = g x + lsm g a + lsm g b; rw [ih]; omega
theorem lsm_le (g : Nat → Nat) (hg : ∀ b, g b ≤ 6) : ∀ (l : List Nat), lsm g l ≤ 6 * l.length := by
  intro l
  induction l with
  | nil => exact Nat.le_refl _
  | cons b r ih => have := hg b; show g b + lsm g r ≤ 6 * (r.length + 1); omega
theorem cnt_succ (f : Nat → Bool) (n : Nat) : cnt f (n + 1) = cnt f n + (if f n = true then 1 else 0) := by
  rw [cnt]
section Sz
variable {u : SM} {v : SR} {M : MM} {cs : List (List Nat)} {hs : Nat → List Nat} {t : Int32}
theorem r_size_in (Bs : Base M.1 cs hs) (h : RW v M.1) (ht : t = 0 ∨ t = 1) {b x : Nat} (hb : b ≤ 30) (hf : rg_rea v b ≠ 0) (hl : (M.1 (9 * b)).toInt32 = -t) : ∀ (d p n : Nat), p + d = 6 → d < n → m_Ref_size_L33 n v (nI (x + cnt (fun p => rdB hs cs M.1 t (9 * b + 3 + p)) p)) (nI p) t (nI b) = some (.inr (nI (x + cnt (fun p => rdB hs cs M.1 t (9 * b + 3 + p)) 6), v)) := by
  intro d
  induction d with
  | zero =>
    intro p n hp hn
    obtain ⟨n, rfl⟩ : ∃ e, n = e + 1 := ⟨n - 1, by omega⟩
    have : p = 6 := by omega
    subst this
    rw [m_Ref_size_L33, if_pos (by rw [show (6 : Int32) = nI 6 from rfl]; exact nI_le (by omega) (by omega))]
  | succ d ih =>
    intro p n hp hn
    obtain ⟨n, rfl⟩ : ∃ e, n = e + 1 := ⟨n - 1, by omega⟩
    rw [m_Ref_size_L33, if_neg (by rw [show (6 : Int32) = nI 6 from rfl]; exact nI_ge (by omega) (by omega)), if_pos (inb_n (by omega) (by omega)), nI_clamp (by omega), if_neg hf, r_level h hb, obS, if_pos hl, pl_addr', r_isRead Bs h ht (by omega), obS, a1, a1]
    have hcs := cnt_succ (fun p => rdB hs cs M.1 t (9 * b + 3 + p)) p
    by_cases e : rdB hs cs M.1 t (9 * b + 3 + p) = true
    · rw [if_pos e, if_neg (by decide)]
      rw [if_pos e] at hcs
      have := ih (p + 1) n (by omega) (by omega)
      rw [hcs] at this
      exact this
    · rw [if_neg e, if_pos rfl]
      rw [if_neg e] at hcs
      have := ih (p + 1) n (by omega) (by omega)
      rw [hcs] at this
      exact this
theorem r_size_L (Bs : Base M.1 cs hs) (h : RW v M.1) (ht : t = 0 ∨ t = 1) {S : List Nat} (hS : ∀ b, 1 ≤ b → b ≤ 30 → (b ∈ S ↔ rg_rea v b ≠ 0 ∧ (M.1 (9 * b)).toInt32 = -t)) (F : Nat → Nat) (hF : ∀ b, b ∈ S → F b = cnt (fun p => rdB hs cs M.1 t (9 * b + 3 + p)) 6) : ∀ (d i n : Nat), i + d = 30 → d < n → m_Ref_size_L24 n v (nI (smN (fun i => if i + 1 ∈ S then F (i + 1) else 0) i)) (nI (i + 1)) t = some (.inr (nI (smN (fun i => if i + 1 ∈ S then F (i + 1) else 0) 30), v)) := by
  intro d
  induction d with
  | zero =>
    intro i n hp hn
    obtain ⟨n, rfl⟩ : ∃ e, n = e + 1 := ⟨n - 1, by omega⟩
    have : i = 30 := by omega
    subst this
    rw [m_Ref_size_L24, if_pos (by decide)]
  | succ d ih =>
    intro i n hp hn
    obtain ⟨n, rfl⟩ : ∃ e, n = e + 1 := ⟨n - 1, by omega⟩
    rw [m_Ref_size_L24, if_neg (by rw [show (30 : Int32) = nI 30 from rfl]; exact nI_nlt (by omega) (by omega))]
    have hin : m_Ref_size_L33 fz v (nI (smN (fun i => if i + 1 ∈ S then F (i + 1) else 0) i)) (0 : Int32) t (nI (i + 1)) = some (.inr (nI (smN (fun i => if i + 1 ∈ S then F (i + 1) else 0) (i + 1)), v)) := by
      rw [smN]
      by_cases e : i + 1 ∈ S
      · rw [if_pos e, hF _ e]
        have hh := (hS (i + 1) (by omega) (by omega)).mp e
        exact r_size_in Bs h ht (b := i + 1) (by omega) hh.1 hh.2 6 0 fz (by omega) (by unfold fz; omega)
      · rw [if_neg e, Nat.add_zero, show fz = 3999 + 1 from rfl, m_Ref_size_L33, if_neg (by decide), if_pos (inb_n (by omega) (by omega)), nI_clamp (by omega)]
        by_cases e1 : rg_rea v (i + 1) = 0
        · rw [if_pos e1]; rfl
        · rw [if_neg e1, r_level h (by omega), obS, if_neg (fun q => e ((hS (i + 1) (by omega) (by omega)).mpr ⟨e1, q⟩))]; rfl
    rw [hin, ol1R, a1]
    exact ih (i + 1) n (by omega) (by omega)
theorem r_size (Bs : Base M.1 cs hs) (h : inRa v M) (ht : t = 0 ∨ t = 1) {S : List Nat} (hn : S.Nodup) (hSr : ∀ b ∈ S, 1 ≤ b ∧ b ≤ 30) (hS : ∀ b, 1 ≤ b → b ≤ 30 → (b ∈ S ↔ b ∈ bls cs hs ∧ (M.1 (9 * b)).toInt32 = -t)) (F : Nat → Nat) (hF : ∀ b, b ∈ S → F b = cnt (fun p => rdB hs cs M.1 t (9 * b + 3 + p)) 6) : ∃ f, m_Ref_size v t = some (nI (lsm F S), rs_rea (rs_cd v 0) f) := by
  have hG := Bs.1.gb Bs.2.2.1
  obtain ⟨f, e1, hf⟩ := r_mark (v := rs_cd v 0) hG (h.cd 0).w
  refine ⟨f, ?_⟩
  have h1 : ¬ t < 0 := by rcases ht with z | z <;> (rw [z]; decide)
  have h2 : t ≤ (1 : Int32) := by rcases ht with z | z <;> (rw [z]; decide)
  rw [m_Ref_size, if_neg h1, if_pos h2, e1, obS]
  have := r_size_L (v := rs_rea (rs_cd v 0) f) Bs (h.cd 0).w ht (S := S) (fun b z1 z2 => by
    rw [hS b z1 z2, show rg_rea (rs_rea (rs_cd v 0) f) b = f b from rfl, hf b z1 z2]) F hF 30 0 fz (by omega) (by unfold fz; omega)
  rw [smN_list F S hn hSr] at this
  rw [show m_Ref_size_L24 fz (rs_rea (rs_cd v 0) f) (0 : Int32) (1 : Int32) t = some (.inr (nI (lsm F S), rs_rea (rs_cd v 0) f)) from this, ol1R]
def visB (w : Mem) (b p : Nat) : Bool := decide (p < rl w b ∧ kp w b p < ubd w b ∧ (p = 0 ∨ kp w b (p - 1) ≠ kp w b p))
theorem visB_iff {w : Mem} {b p : Nat} : visB w b p = true ↔ p < rl w b ∧ kp w b p < ubd w b ∧ (p = 0 ∨ kp w b (p - 1) ≠ kp w b p) := by unfold visB; exact decide_eq_true_iff
theorem vis_rd (Bs : Base M.1 cs hs) {b p : Nat} (hb : b ∈ lvc cs 0) (hp : p < 6) : rdB hs cs M.1 0 (9 * b + 3 + p) = visB M.1 b p := by
  have T := Bs.1
  have hL := lvc_in hb
  have hw := T.2.2.2.2.2 0 hL b hb
  have : rdB hs cs M.1 0 (9 * b + 3 + p) = true ↔ visB M.1 b p = true := by
    rw [rdB_iff Bs, visB_iff]
    constructor
    · rintro ⟨kk, h1, h2⟩
      obtain ⟨g1, g2, g3, g4, g5⟩ := rm_tree (by decide) h2
      have h6 := rl_le M.1 (fk M.1 cs 0 kk)
      have hbf : fk M.1 cs 0 kk = b := by omega
      have hub := fk_ub T hL h1
      have hhk := ((rd0_iff hL).mp h2).1
      rw [hbf] at g2 g3 hub hhk
      have hcl : cl M.1 b kk = p := by omega
      have hkk := (hasK_iff.mp hhk).2
      rw [hcl] at g2 hkk
      refine ⟨g2, by omega, ?_⟩
      rcases Nat.eq_zero_or_pos p with z | z
      · exact Or.inl z
      · right
        have := cl_lt (w := M.1) (b := b) (k := kk) (p := p - 1) (by omega)
        omega
    · rintro ⟨h1, h2, h3⟩
      have h4 := ((T.row hb).key h1).2
      refine ⟨kp M.1 b p, h4, (rd0_iff hL).mpr ?_⟩
      rw [fk_uniq T hb (leaf_lo T hb h1) h2]
      refine ⟨has_of hw h1 rfl, ?_⟩
      have hcl : cl M.1 b (kp M.1 b p) = p := by
        rcases Nat.lt_or_ge p (cl M.1 b (kp M.1 b p)) with y | y
        · have := cl_lt y; omega
        · rcases Nat.eq_or_lt_of_le y with z | z
          · exact z
          · exfalso
            have g1 := cl_ge (w := M.1) (b := b) (k := kp M.1 b p) (by omega)
            have g2 := hw.le (p - 1 - cl M.1 b (kp M.1 b p)) (cl M.1 b (kp M.1 b p)) (by omega)
            rw [show cl M.1 b (kp M.1 b p) + (p - 1 - cl M.1 b (kp M.1 b p)) = p - 1 by omega] at g2
            have g3 := hw (p - 1) (by omega)
            rw [show p - 1 + 1 = p by omega] at g3
            rcases h3 with q | q
            · omega
            · omega
      rw [hcl]
  cases e1 : rdB hs cs M.1 0 (9 * b + 3 + p) with
  | true => exact (this.mp e1).symm
  | false =>
    cases e2 : visB M.1 b p with
    | false => rfl
    | true => rw [this.mpr e2] at e1; cases e1
theorem c_ck_in (T : TS M.1 cs) (h : CW u M.1) {b x : Nat} (hb : b ∈ lvc cs 0) (x3 : Int32) : ∀ (d p n : Nat), p + d = rl M.1 b → d < n → m_Tree_countKeys_L43 n u (nI (x + cnt (visB M.1 b) p)) (if p = 0 then -1 else nI (kp M.1 b (p - 1))) (nI p) (nI b) x3 (nI (ubd M.1 b)) (nI (rl M.1 b)) = some (.inr (nI (x + cnt (visB M.1 b) 6), u)) := by
  have hL := lvc_in hb
  have hr := ((T.1 0 hL).1.mem b hb).1
  have hw := T.2.2.2.2.2 0 hL b hb
  have h6 := rl_le M.1 b
  obtain ⟨pre, rr, exx⟩ := List.append_of_mem hb
  have hub := (T.ub exx hL).2.2.1
  have tail : ∀ p, p ≤ 6 → (∀ q, p ≤ q → q < 6 → visB M.1 b q = false) → cnt (visB M.1 b) p = cnt (visB M.1 b) 6 := fun p hp g => by
    have := cnt_none (f := visB M.1 b) p (6 - p) (fun k h1 h2 => g k h1 (by omega))
    rw [show p + (6 - p) = 6 by omega] at this
    exact this.symm
  intro d
  induction d with
  | zero =>
    intro p n hp hn
    obtain ⟨n, rfl⟩ : ∃ e, n = e + 1 := ⟨n - 1, by omega⟩
    rw [m_Tree_countKeys_L43, if_pos (nI_le (by omega) (by omega)), tail p (by omega) (fun q h1 h2 => by
      cases e : visB M.1 b q with
      | false => rfl
      | true => have := (visB_iff.mp e).1; omega)]
  | succ d ih =>
    intro p n hp hn
    obtain ⟨n, rfl⟩ : ∃ e, n = e + 1 := ⟨n - 1, by omega⟩
    have hky := (T.row hb).key (p := p) (by omega)
    have hck : m_Tree_keyAt u (nI b) (nI p) = some (nI (kp M.1 b p), u) := by rw [c_key h hr.2 (by omega), hky.1]
    rw [m_Tree_countKeys_L43, if_neg (nI_ge (by omega) (by omega)), hck, obS]
    by_cases c1 : ubd M.1 b ≤ kp M.1 b p
    · rw [if_pos (nI_le c1 (by omega)), tail p (by omega) (fun q h1 h2 => by
        cases e : visB M.1 b q with
        | false => rfl
        | true =>
          obtain ⟨g1, g2, -⟩ := visB_iff.mp e
          have := hw.le (q - p) p (by omega)
          rw [show p + (q - p) = q by omega] at this
          omega)]
    · rw [if_neg (nI_ge (by omega) (by omega)), hck, obS]
      have hs := cnt_succ (visB M.1 b) p
      have nxt := ih (p + 1) n (by omega) (by omega)
      rw [if_neg (by omega), show p + 1 - 1 = p from rfl] at nxt
      by_cases c2 : nI (kp M.1 b p) = (if p = 0 then -1 else nI (kp M.1 b (p - 1)))
      · rw [if_pos c2, hck, obS, a1]
        have hv : ¬ visB M.1 b p = true := fun q => by
          obtain ⟨g1, g2, g3⟩ := visB_iff.mp q
          by_cases z : p = 0
          · rw [if_pos z] at c2
            have := nI_pos (n := kp M.1 b p) (by omega)
            rw [c2] at this
            exact this (by decide)
          · rw [if_neg z] at c2
            have hp1 := ((T.row hb).key (p := p - 1) (by omega)).2
            rw [nI_eq (by omega) (by omega)] at c2
            rcases g3 with y | y
            · exact z y
            · exact y c2.symm
        rw [if_neg hv] at hs
        rw [hs] at nxt
        rw [show (nI (x + cnt (visB M.1 b) p) + (0 : Int32)) = nI (x + (cnt (visB M.1 b) p + 0)) from nAdd _ 0]
        exact nxt
      · rw [if_neg c2, hck, obS, a1, a1]
        have hv : visB M.1 b p = true := visB_iff.mpr ⟨by omega, by omega, by
          by_cases z : p = 0
          · exact Or.inl z
          · right
            rw [if_neg z] at c2
            intro q
            exact c2 (by rw [q])⟩
        rw [if_pos hv] at hs
        rw [hs] at nxt
        exact nxt
theorem c_ck_L (T : TS M.1 cs) (h : CW u M.1) : ∀ (r pre : List Nat) (x cn n : Nat), lvc cs 0 = pre ++ r → cn + r.length ≤ 30 → 31 ≤ cn + n → m_Tree_countKeys_L10 n u (nI x) (nI (r.headD 0)) (nI cn) = some (.inr (nI (x + lsm (fun b => cnt (visB M.1 b) 6) r), u)) := by
  intro r
  induction r with
  | nil =>
    intro pre x cn n e hc hn
    obtain ⟨n, rfl⟩ : ∃ e, n = e + 1 := ⟨n - 1, by omega⟩
    rw [m_Tree_countKeys_L10]
    by_cases c : (30 : Int32) ≤ nI cn
    · rw [if_pos c]; rfl
    · rw [if_neg c, if_pos (show nI (([] : List Nat).headD 0) = 0 from rfl)]; rfl
  | cons b r ih =>
    intro pre x cn n e hc hn
    rw [List.length_cons] at hc
    obtain ⟨n, rfl⟩ : ∃ e, n = e + 1 := ⟨n - 1, by omega⟩
    have hb : b ∈ lvc cs 0 := by rw [e]; simp
    have hL := lvc_in hb
    have hr := ((T.1 0 hL).1.mem b hb).1
    have hnx := nx_tail T e
    rw [m_Tree_countKeys_L10, if_neg (by rw [show (30 : Int32) = nI 30 from rfl]; exact nI_ge (by omega) (by omega)), if_neg (show ¬ nI ((b :: r).headD 0) = 0 from nI_ne0 hr.1 (Nat.lt_of_le_of_lt hr.2 (by omega))), show m_Tree_endOf u (nI ((b :: r).headD 0)) = some (nI (ubd M.1 b), u) from c_endOf T h hb, obS, show m_Blocks_rowLength u (nI ((b :: r).headD 0)) = some (nI (rl M.1 b), u) from c_rl h hr.2, obS]
    have hin := c_ck_in (x := x) T h hb (nI cn) (rl M.1 b) 0 fz (by omega) (by have := rl_le M.1 b; unfold fz; omega)
    rw [if_pos rfl] at hin
    rw [show m_Tree_countKeys_L43 fz u (nI x) (-1 : Int32) (0 : Int32) (nI ((b :: r).headD 0)) (nI cn) (nI (ubd M.1 b)) (nI (rl M.1 b)) = some (.inr (nI (x + cnt (visB M.1 b) 6), u)) from hin, ol1R, show m_Blocks_nextOf u (nI ((b :: r).headD 0)) = some (nI (nxN M.1 b), u) from c_next' T h hb, obS, a1, hnx, ih (pre ++ [b]) _ (cn + 1) n (by rw [e]; simp) (by omega) (by omega)]
    rw [show x + cnt (visB M.1 b) 6 + lsm (fun b => cnt (visB M.1 b) 6) r = x + lsm (fun b => cnt (visB M.1 b) 6) (b :: r) by show _ = x + (cnt (visB M.1 b) 6 + lsm (fun b => cnt (visB M.1 b) 6) r); omega]
theorem c_countKeys (Bs : Base M.1 cs hs) (h : CW u M.1) : m_Tree_countKeys u = some (nI (lsm (fun b => cnt (visB M.1 b) 6) (lvc cs 0)), u) := by
  have T := Bs.1
  have hnd : (lvc cs 0).length ≤ 30 := nd_le 30 _ (nd_part T.2.2.2.1) (fun x hx => T.rng (lvc_flat hx))
  have hf : m_Tree_firstOf u (0 : Int32) = some (nI ((lvc cs 0).headD 0), u) := by
    by_cases e0 : cs.length = 0
    · have hc0 : cs = [] := List.length_eq_zero_iff.mp e0
      rw [c_firstOf_none h (by rw [T.2.2.2.2.1, hc0]; rfl), hc0]; rfl
    · exact c_firstOf (lev := 0) T h (by omega)
  have := c_ck_L T h (lvc cs 0) [] 0 0 fz rfl (by omega) (by unfold fz; omega)
  rw [Nat.zero_add] at this
  rw [m_Tree_countKeys, hf, obS, show m_Tree_countKeys_L10 fz u (0 : Int32) (nI ((lvc cs 0).headD 0)) (0 : Int32) = some (.inr (nI (lsm (fun b => cnt (visB M.1 b) 6) (lvc cs 0)), u)) from this, ol1R]
theorem r_size0 (Bs : Base M.1 cs hs) (h : inRa v M) : ∃ f, m_Ref_size v 0 = some (nI (lsm (fun b => cnt (visB M.1 b) 6) (lvc cs 0)), rs_rea (rs_cd v 0) f) := by
  have T := Bs.1
  refine r_size Bs h (Or.inl rfl) (nd_part T.2.2.2.1) (fun b hb => T.rng (lvc_flat hb)) (fun b h1 h2 => ?_) _ (fun b hb => cnt_congr 6 (fun p hp => (vis_rd Bs hb hp).symm))
  constructor
  · intro hb
    exact ⟨List.mem_append_left _ (lvc_flat hb), by rw [((T.1 0 (lvc_in hb)).1.mem b hb).2.1, lN_i]; decide⟩
  · rintro ⟨g1, g2⟩
    rcases List.mem_append.mp g1 with q | q
    · obtain ⟨L, hL, hb⟩ := flat_lvc q
      have h30 := T.hgt
      rw [((T.1 L hL).1.mem b hb).2.1, lN_i, show (-0 : Int32) = nI 0 by decide, nI_eq (by omega) (by omega)] at g2
      rw [← g2]; exact hb
    · obtain ⟨g, y1, y2, y3⟩ := hsA_mem.mp q
      rw [((Bs.2.2.1 g y1 y2).2.mem b y3).2, lNneg] at g2
      exact absurd g2 (by decide)
end Sz
