/-! PURE: what depends on which words; the blocks in use -/
/-- the nine words of block b are the same -/
def sb (w w' : Mem) (b : Nat) : Prop := ∀ i, i < 9 → w' (9 * b + i) = w (9 * b + i)
theorem sb.lo {w w' : Mem} {b : Nat} (h : sb w w' b) : lo w' b = lo w b := by
  show (w' (9 * b + 2)).toInt32.toNatClampNeg = (w (9 * b + 2)).toInt32.toNatClampNeg
  rw [h 2 (by omega)]
theorem sb.pl {w w' : Mem} {b p : Nat} (h : sb w w' b) (hp : p < 6) : w' (9 * b + 3 + p) = w (9 * b + 3 + p) := by
  have := h (3 + p) (by omega)
  rw [← Nat.add_assoc] at this; exact this
theorem sb.rl {w w' : Mem} {b : Nat} (h : sb w w' b) : rl w' b = rl w b := rl_congr (fun _ hp => h.pl hp)
theorem sb.kp {w w' : Mem} {b p : Nat} (h : sb w w' b) (hp : p < 6) : kp w' b p = kp w b p := by
  show kN (w' (9 * b + 3 + p)) = kN (w (9 * b + 3 + p))
  rw [h.pl hp]
theorem tch.congr {w w' : Mem} {L : Nat} : ∀ {c : List Nat}, (∀ b ∈ c, sb w w' b) → tch w L c → tch w' L c := by
  intro c
  induction c with
  | nil => intro _ _; trivial
  | cons a r ih =>
    intro h ht
    have ha := h a List.mem_cons_self
    refine ⟨ht.1, ?_, ?_, ?_, ?_, ih (fun b hb => h b (List.mem_cons_of_mem _ hb)) ht.2.2.2.2.2⟩
    · rw [← ht.2.1]; exact ha 0 (by omega)
    · rw [← ht.2.2.1]; exact ha 1 (by omega)
    · rw [ha.lo]; exact ⟨by rw [← ht.2.2.2.1.1]; exact ha 2 (by omega), ht.2.2.2.1.2⟩
    · intro c hc; rw [ha.lo, (h c (List.mem_cons_of_mem _ hc)).lo]; exact ht.2.2.2.2.1 c hc
theorem inn.congr {w w' : Mem} {c : List Nat} {b : Nat} (hc : ∀ x ∈ c, lo w' x = lo w x) (h : sb w w' b) (hi : inn w c b) : inn w' c b := by
  obtain ⟨h1, h2, h3⟩ := hi
  refine ⟨by rw [h.rl]; exact h1, by rw [h.kp (by omega), h.lo]; exact h2, fun p hp => ?_⟩
  rcases h3 p hp with q | ⟨x, hx, q1, q2⟩
  · left; rw [h.pl hp]; exact q
  · right; exact ⟨x, hx, by rw [h.pl hp, hc x hx]; exact q1, by rw [h.lo, hc x hx]; exact q2⟩
theorem leaf.congr {w w' : Mem} {b : Nat} (h : sb w w' b) (hl : leaf w b) : leaf w' b := fun p hp => by
  rcases hl p hp with q | ⟨k, v, q1, q2, q3⟩
  · left; rw [h.pl hp]; exact q
  · right; exact ⟨k, v, by rw [h.pl hp]; exact q1, by rw [h.lo]; exact q2, q3⟩
theorem wst.congr {w w' : Mem} {b : Nat} (h : sb w w' b) (hl : wst w b) : wst w' b := fun p hp => by
  rw [h.rl] at hp
  have := rl_le w b
  rw [h.kp (by omega), h.kp (by omega)]
  exact hl p hp
theorem TS.congr {w w' : Mem} {cs : List (List Nat)} (T : TS w cs) (h0 : w' 0 = w 0) (h : ∀ b ∈ cs.flatten, sb w w' b) : TS w' cs := by
  obtain ⟨t1, t2, t3, t4, t5, t6⟩ := T
  have hb : ∀ L b, b ∈ lvc cs L → sb w w' b := fun L b hb => h b (lvc_flat hb)
  refine ⟨fun L hL => ⟨(t1 L hL).1.congr (fun b q => hb L b q), ?_⟩, fun L hL b q => (t2 L hL b q).congr (fun x hx => (hb L x hx).lo) (hb (L + 1) b q), fun b q => (t3 b q).congr (hb 0 b q), t4, by rw [h0]; exact t5, fun L hL b q => (t6 L hL b q).congr (hb L b q)⟩
  obtain ⟨b, r, e, e0⟩ := (t1 L hL).2
  exact ⟨b, r, e, by rw [(hb L b (by rw [e]; exact List.mem_cons_self)).lo]; exact e0⟩
/-- a chain of the table -/
def cch (w : Mem) : List Nat → Prop
  | [] => True
  | b :: r => (1 ≤ b ∧ b ≤ 30) ∧ w (9 * b) = -1 ∧ w (9 * b + 1) = lN (r.headD 0) ∧ cch w r
theorem cch.mem {w : Mem} : ∀ {c : List Nat}, cch w c → ∀ b ∈ c, (1 ≤ b ∧ b ≤ 30) ∧ w (9 * b) = -1 := by
  intro c
  induction c with
  | nil => intro _ b hb; cases hb
  | cons a r ih =>
    intro h b hb
    rcases List.mem_cons.mp hb with rfl | hb
    · exact ⟨h.1, h.2.1⟩
    · exact ih h.2.2.2 b hb
theorem cch.congr {w w' : Mem} : ∀ {c : List Nat}, (∀ b ∈ c, sb w w' b) → cch w c → cch w' c := by
  intro c
  induction c with
  | nil => intro _ _; trivial
  | cons a r ih =>
    intro h ht
    have ha := h a List.mem_cons_self
    exact ⟨ht.1, by rw [← ht.2.1]; exact ha 0 (by omega), by rw [← ht.2.2.1]; exact ha 1 (by omega), ih (fun b hb => h b (List.mem_cons_of_mem _ hb)) ht.2.2.2⟩
def hsA (hs : Nat → List Nat) : List Nat := (List.range 8).flatMap (fun i => hs (i + 1))
theorem hsA_mem {hs : Nat → List Nat} {b : Nat} : b ∈ hsA hs ↔ ∃ h, 1 ≤ h ∧ h ≤ 8 ∧ b ∈ hs h := by
  unfold hsA
  rw [List.mem_flatMap]
  constructor
  · rintro ⟨i, hi, hb⟩
    exact ⟨i + 1, by omega, by have := List.mem_range.mp hi; omega, hb⟩
  · rintro ⟨h, h1, h2, hb⟩
    exact ⟨h - 1, List.mem_range.mpr (by omega), by rw [show h - 1 + 1 = h by omega]; exact hb⟩
/-- the table's chains stand in the heads -/
def HC (w : Mem) (hs : Nat → List Nat) : Prop := ∀ h, 1 ≤ h → h ≤ 8 → w h = lN ((hs h).headD 0) ∧ cch w (hs h)
def bls (cs : List (List Nat)) (hs : Nat → List Nat) : List Nat := cs.flatten ++ hsA hs
theorem HC.congr {w w' : Mem} {hs : Nat → List Nat} (H : HC w hs) (h0 : ∀ a, 1 ≤ a → a ≤ 8 → w' a = w a) (h : ∀ b ∈ hsA hs, sb w w' b) : HC w' hs := fun a h1 h2 =>
  ⟨by rw [h0 a h1 h2]; exact (H a h1 h2).1, (H a h1 h2).2.congr (fun b hb => h b (hsA_mem.mpr ⟨a, h1, h2, hb⟩))⟩
theorem headD_cases {c : List Nat} : (c = [] ∧ c.headD 0 = 0) ∨ ∃ b r, c = b :: r ∧ c.headD 0 = b := by
  cases c with
  | nil => exact Or.inl ⟨rfl, rfl⟩
  | cons b r => exact Or.inr ⟨b, r, rfl, rfl⟩
theorem tch.next {w : Mem} {L : Nat} : ∀ {c : List Nat}, tch w L c → ∀ b ∈ c, ∃ n, w (9 * b + 1) = lN n ∧ (n = 0 ∨ n ∈ c) := by
  intro c
  induction c with
  | nil => intro _ b hb; cases hb
  | cons a r ih =>
    intro h b hb
    rcases List.mem_cons.mp hb with rfl | hb
    · refine ⟨r.headD 0, h.2.2.1, ?_⟩
      rcases headD_cases (c := r) with ⟨-, q⟩ | ⟨x, y, e, q⟩
      · exact Or.inl q
      · right; rw [q, e]; exact List.mem_cons_of_mem _ List.mem_cons_self
    · obtain ⟨n, h1, h2⟩ := ih h.2.2.2.2.2 b hb
      exact ⟨n, h1, h2.imp id (fun q => List.mem_cons_of_mem _ q)⟩
theorem cch.next {w : Mem} : ∀ {c : List Nat}, cch w c → ∀ b ∈ c, ∃ n, w (9 * b + 1) = lN n ∧ (n = 0 ∨ n ∈ c) := by
  intro c
  induction c with
  | nil => intro _ b hb; cases hb
  | cons a r ih =>
    intro h b hb
    rcases List.mem_cons.mp hb with rfl | hb
    · refine ⟨r.headD 0, h.2.2.1, ?_⟩
      rcases headD_cases (c := r) with ⟨-, q⟩ | ⟨x, y, e, q⟩
      · exact Or.inl q
      · right; rw [q, e]; exact List.mem_cons_of_mem _ List.mem_cons_self
    · obtain ⟨n, h1, h2⟩ := ih h.2.2.2 b hb
      exact ⟨n, h1, h2.imp id (fun q => List.mem_cons_of_mem _ q)⟩
theorem tch.all {w : Mem} {L : Nat} {S : Nat → Prop} : ∀ {c : List Nat}, tch w L c → (∀ b ∈ c, S b → ∀ n, w (9 * b + 1) = lN n → n ≠ 0 → n ∈ c → S n) → (∀ b r, c = b :: r → S b) → ∀ b ∈ c, S b := by
  intro c
  induction c with
  | nil => intro _ _ _ b hb; cases hb
  | cons a r ih =>
    intro h hn h0 b hb
    have ha := h0 a r rfl
    rcases List.mem_cons.mp hb with rfl | hb
    · exact ha
    · refine ih h.2.2.2.2.2 (fun b q hS n h1 h2 h3 => hn b (List.mem_cons_of_mem _ q) hS n h1 h2 (List.mem_cons_of_mem _ h3)) ?_ b hb
      intro x y e
      subst e
      have := h.2.2.2.2.2.1.1
      exact hn a List.mem_cons_self ha x h.2.2.1 (by omega) (List.mem_cons_of_mem _ List.mem_cons_self)
theorem cch.all {w : Mem} {S : Nat → Prop} : ∀ {c : List Nat}, cch w c → (∀ b ∈ c, S b → ∀ n, w (9 * b + 1) = lN n → n ≠ 0 → n ∈ c → S n) → (∀ b r, c = b :: r → S b) → ∀ b ∈ c, S b := by
  intro c
  induction c with
  | nil => intro _ _ _ b hb; cases hb
  | cons a r ih =>
    intro h hn h0 b hb
    have ha := h0 a r rfl
    rcases List.mem_cons.mp hb with rfl | hb
    · exact ha
    · refine ih h.2.2.2 (fun b q hS n h1 h2 h3 => hn b (List.mem_cons_of_mem _ q) hS n h1 h2 (List.mem_cons_of_mem _ h3)) ?_ b hb
      intro x y e
      subst e
      have := h.2.2.2.1.1
      exact hn a List.mem_cons_self ha x h.2.2.1 (by omega) (List.mem_cons_of_mem _ List.mem_cons_self)
/-- the first entry of the first block of a level leads to the first block below -/
theorem TS.first {w : Mem} {cs : List (List Nat)} (T : TS w cs) {L b : Nat} {r : List Nat} (e : lvc cs (L + 1) = b :: r) (hL : L + 1 < cs.length) : ∃ x y, lvc cs L = x :: y ∧ w (9 * b + 3) = ent (lo w x) (nI x) ∧ lo w x = 0 := by
  have hb : b ∈ lvc cs (L + 1) := by rw [e]; exact List.mem_cons_self
  obtain ⟨h1, h2, h3⟩ := T.2.1 L hL b hb
  obtain ⟨b', r', e', e0⟩ := (T.1 (L + 1) hL).2
  rw [e] at e'
  cases e'
  obtain ⟨x, y, ex, ex0⟩ := (T.1 L (by omega)).2
  have ht := (T.1 L (by omega)).1
  refine ⟨x, y, ex, ?_, ex0⟩
  rcases h3 0 (by omega) with q | ⟨z, hz, q1, q2⟩
  · exact absurd q (rl_nz h1)
  · have hz0 : lo w z = 0 := by
      have := T.lo1000 hz
      unfold kp at h2
      rw [q1, kN_ent _ (by omega)] at h2
      omega
    have : z = x := by
      rw [ex] at hz ht
      rcases List.mem_cons.mp hz with q | q
      · exact q
      · have := ht.2.2.2.2.1 z q
        omega
    rw [this] at q1
    exact q1
theorem lNneg : (-1 : Int64).toInt32 = -1 := by decide
theorem TS.gb {w : Mem} {cs : List (List Nat)} {hs : Nat → List Nat} (T : TS w cs) (H : HC w hs) : GB w (bls cs hs) := by
  have inT : ∀ {b}, b ∈ cs.flatten → b ∈ bls cs hs := fun h => List.mem_append_left _ h
  have inH : ∀ {b}, b ∈ hsA hs → b ∈ bls cs hs := fun h => List.mem_append_right _ h
  have hcl := T.hgt
  refine ⟨?_, ?_, ?_, ?_⟩
  · intro b hb
    rcases List.mem_append.mp hb with q | q
    · exact T.rng q
    · obtain ⟨h, h1, h2, hb⟩ := hsA_mem.mp q
      exact ((H h h1 h2).2.mem b hb).1
  · intro a ha
    by_cases e : a = 0
    · subst e
      refine ⟨rootOf cs, T.2.2.2.2.1, ?_⟩
      by_cases hne : cs = []
      · left; rw [hne]; rfl
      · right
        obtain ⟨r, e, -⟩ := T.top hne
        exact inT (lvc_flat (L := cs.length - 1) (by rw [e]; exact List.mem_cons_self))
    · refine ⟨(hs a).headD 0, (H a (by omega) (by omega)).1, ?_⟩
      rcases headD_cases (c := hs a) with ⟨-, q⟩ | ⟨x, y, ex, q⟩
      · exact Or.inl q
      · right; rw [q]; exact inH (hsA_mem.mpr ⟨a, by omega, by omega, by rw [ex]; exact List.mem_cons_self⟩)
  · intro b hb
    rcases List.mem_append.mp hb with q | q
    · obtain ⟨L, hL, hbL⟩ := flat_lvc q
      refine ⟨?_, ?_⟩
      · obtain ⟨n, h1, h2⟩ := (T.1 L hL).1.next b hbL
        exact ⟨n, h1, h2.imp id (fun z => inT (lvc_flat z))⟩
      · intro hl p hp
        have hm := (T.1 L hL).1.mem b hbL
        rw [hm.2.1, lN_i] at hl
        have h6 := rl_le w b
        cases L with
        | zero => exact absurd hl (by decide)
        | succ L =>
          rcases (T.2.1 L hL b hbL).2.2 p (by omega) with z | ⟨x, hx, z1, -⟩
          · exact absurd z (rl_nz hp)
          · exact ⟨x, by rw [z1, ent_val _ (by have := T.lo1000 hx; omega)], inT (lvc_flat hx)⟩
    · obtain ⟨h, h1, h2, hbh⟩ := hsA_mem.mp q
      refine ⟨?_, ?_⟩
      · obtain ⟨n, g1, g2⟩ := (H h h1 h2).2.next b hbh
        exact ⟨n, g1, g2.imp id (fun z => inH (hsA_mem.mpr ⟨h, h1, h2, z⟩))⟩
      · intro hl
        rw [((H h h1 h2).2.mem b hbh).2, lNneg] at hl
        exact absurd hl (by decide)
  · intro S hr hc b hb
    rcases List.mem_append.mp hb with q | q
    · -- the tree, from the top level down
      have hne : cs ≠ [] := fun e => by rw [e] at q; cases q
      have h0 : 0 < cs.length := List.length_pos_iff.mpr hne
      have lev : ∀ d L, L + d = cs.length - 1 → ∀ b ∈ lvc cs L, S b := by
        intro d
        induction d with
        | zero =>
          intro L hL
          have hL' : L = cs.length - 1 := by omega
          subst hL'
          refine (T.1 _ (by omega)).1.all (fun b q hS n h1 h2 h3 => (hc b (inT (lvc_flat q)) hS).1 n h1 h2 (inT (lvc_flat h3))) ?_
          intro x y e
          obtain ⟨r, e', -, -, e1⟩ := T.top hne
          rw [e] at e'
          have ex : x = rootOf cs := (List.cons.inj e').1
          rw [ex]
          exact hr 0 (rootOf cs) (by omega) T.2.2.2.2.1 (by omega) (inT (lvc_flat (L := cs.length - 1) (by rw [e, ex]; exact List.mem_cons_self)))
        | succ d ih =>
          intro L hL
          refine (T.1 L (by omega)).1.all (fun b q hS n h1 h2 h3 => (hc b (inT (lvc_flat q)) hS).1 n h1 h2 (inT (lvc_flat h3))) ?_
          intro x y e
          obtain ⟨b', r', e', -⟩ := (T.1 (L + 1) (by omega)).2
          have hb' : b' ∈ lvc cs (L + 1) := by rw [e']; exact List.mem_cons_self
          obtain ⟨x', y', ex, hw, hx0⟩ := T.first e' (by omega)
          rw [e] at ex
          have exx : x = x' := (List.cons.inj ex).1
          subst exx
          have hS := ih (L + 1) (by omega) b' hb'
          have hi := T.2.1 L (by omega) b' hb'
          have hxL : x ∈ lvc cs L := by rw [e]; exact List.mem_cons_self
          refine (hc b' (inT (lvc_flat hb')) hS).2 ?_ 0 x hi.1 ?_ (inT (lvc_flat hxL))
          · rw [((T.1 (L + 1) (by omega)).1.mem b' hb').2.1, lN_i]
            exact nI_lt (a := 0) (by omega) (by omega)
          · rw [show 9 * b' + 3 + 0 = 9 * b' + 3 from rfl, hw, ent_val _ (by omega)]
      obtain ⟨L, hL, hbL⟩ := flat_lvc q
      exact lev (cs.length - 1 - L) L (by omega) b hbL
    · obtain ⟨h, h1, h2, hbh⟩ := hsA_mem.mp q
      have mm : ∀ {z}, z ∈ hs h → z ∈ bls cs hs := fun z => inH (hsA_mem.mpr ⟨h, h1, h2, z⟩)
      refine (H h h1 h2).2.all (fun b q hS n g1 g2 g3 => (hc b (mm q) hS).1 n g1 g2 (mm g3)) ?_ b hbh
      intro x y e
      have hx : x ∈ hs h := by rw [e]; exact List.mem_cons_self
      have := ((H h h1 h2).2.mem x hx).1
      exact hr h x (by omega) (by rw [(H h h1 h2).1, e]; rfl) (by omega) (mm hx)
