/-! PURE: the tree's shape; find -/
def lvc (cs : List (List Nat)) (L : Nat) : List Nat := cs.getD L []
/-- an inner block over the chain c -/
def inn (w : Mem) (c : List Nat) (b : Nat) : Prop := 0 < rl w b ∧ kp w b 0 = lo w b ∧ ∀ p, p < 6 → w (9 * b + 3 + p) = 0 ∨ ∃ x ∈ c, w (9 * b + 3 + p) = ent (lo w x) (nI x) ∧ lo w b ≤ lo w x
/-- a leaf -/
def leaf (w : Mem) (b : Nat) : Prop := ∀ p, p < 6 → w (9 * b + 3 + p) = 0 ∨ ∃ (k : Nat) (v : Int32), w (9 * b + 3 + p) = ent k v ∧ lo w b ≤ k ∧ k < 1000
def wst (w : Mem) (b : Nat) : Prop := ∀ p, p + 1 < rl w b → kp w b p ≤ kp w b (p + 1)
def rootOf (cs : List (List Nat)) : Nat := (lvc cs (cs.length - 1)).headD 0
def TS (w : Mem) (cs : List (List Nat)) : Prop :=
  (∀ L, L < cs.length → tch w L (lvc cs L) ∧ ∃ b r, lvc cs L = b :: r ∧ lo w b = 0) ∧
  (∀ L, L + 1 < cs.length → ∀ b ∈ lvc cs (L + 1), inn w (lvc cs L) b) ∧
  (∀ b ∈ lvc cs 0, leaf w b) ∧ cs.flatten.Nodup ∧ w 0 = lN (rootOf cs) ∧
  (∀ L, L < cs.length → ∀ b ∈ lvc cs L, wst w b)
theorem lvc_in {cs : List (List Nat)} {L b : Nat} (h : b ∈ lvc cs L) : L < cs.length := by
  rcases Nat.lt_or_ge L cs.length with h1 | h1
  · exact h1
  · unfold lvc at h
    rw [List.getD_eq_getElem?_getD, List.getElem?_eq_none h1] at h
    cases h
theorem lvc_flat {cs : List (List Nat)} {L b : Nat} (h : b ∈ lvc cs L) : b ∈ cs.flatten := by
  have hL := lvc_in h
  unfold lvc at h
  rw [List.getD_eq_getElem?_getD, List.getElem?_eq_getElem hL] at h
  exact List.mem_flatten.mpr ⟨cs[L], List.getElem_mem hL, h⟩
theorem flat_lvc {cs : List (List Nat)} {b : Nat} (h : b ∈ cs.flatten) : ∃ L, L < cs.length ∧ b ∈ lvc cs L := by
  obtain ⟨c, hc, hb⟩ := List.mem_flatten.mp h
  obtain ⟨L, hL, rfl⟩ := List.getElem_of_mem hc
  refine ⟨L, hL, ?_⟩
  unfold lvc
  rw [List.getD_eq_getElem?_getD, List.getElem?_eq_getElem hL]
  exact hb
theorem nd_filter {a : Nat} : ∀ {l : List Nat}, l.Nodup → l.length ≤ (l.filter (fun x => decide (x ≠ a))).length + 1 := by
  intro l
  induction l with
  | nil => intro _; simp
  | cons b r ih =>
    intro h
    have h1 := (List.nodup_cons.mp h)
    by_cases e : b = a
    · subst e
      have : r.filter (fun x => decide (x ≠ b)) = r := by
        apply List.filter_eq_self.mpr
        intro x hx
        simp only [decide_eq_true_eq]
        intro e; subst e; exact h1.1 hx
      rw [List.filter_cons_of_neg (by simp), this]
      simp
    · rw [List.filter_cons_of_pos (by simp [e])]
      have := ih h1.2
      simp only [List.length_cons]
      omega
theorem nd_le : ∀ (n : Nat) (l : List Nat), l.Nodup → (∀ x ∈ l, 1 ≤ x ∧ x ≤ n) → l.length ≤ n := by
  intro n
  induction n with
  | zero =>
    intro l _ h
    cases l with
    | nil => simp
    | cons a r => have := h a List.mem_cons_self; omega
  | succ n ih =>
    intro l hn h
    have h1 := nd_filter (a := n + 1) hn
    have h2 := ih (l.filter (fun x => decide (x ≠ n + 1))) (hn.filter _) (fun x hx => by
      have hx' := List.mem_filter.mp hx
      have h3 := h x hx'.1
      have h4 : x ≠ n + 1 := by simpa using hx'.2
      omega)
    omega
theorem TS.rng {w : Mem} {cs : List (List Nat)} (T : TS w cs) {b : Nat} (h : b ∈ cs.flatten) : 1 ≤ b ∧ b ≤ 30 := by
  obtain ⟨L, hL, hb⟩ := flat_lvc h
  exact ((T.1 L hL).1.mem b hb).1
theorem TS.len {w : Mem} {cs : List (List Nat)} (T : TS w cs) : cs.flatten.length ≤ 30 := nd_le 30 _ T.2.2.2.1 (fun _ hx => T.rng hx)
theorem ne_flat : ∀ (l : List (List Nat)), (∀ c ∈ l, c ≠ []) → l.length ≤ l.flatten.length := by
  intro l
  induction l with
  | nil => intro _; simp
  | cons a l ih =>
    intro hne
    have := ih (fun c hc => hne c (List.mem_cons_of_mem _ hc))
    have ha := hne a List.mem_cons_self
    have : 0 < a.length := List.length_pos_iff.mpr ha
    simp only [List.length_cons, List.flatten_cons, List.length_append]
    omega
theorem TS.hgt {w : Mem} {cs : List (List Nat)} (T : TS w cs) : cs.length ≤ 30 := by
  have h1 := TS.len T
  have h2 : cs.length ≤ cs.flatten.length := by
    apply ne_flat
    intro c hc
    obtain ⟨i, hi, rfl⟩ := List.getElem_of_mem hc
    obtain ⟨x, y, e2, -⟩ := (T.1 i hi).2
    unfold lvc at e2
    rw [List.getD_eq_getElem?_getD, List.getElem?_eq_getElem hi] at e2
    simp only [Option.getD_some] at e2
    rw [e2]; simp
  omega
def Sm (cs : List (List Nat)) (lev : Nat) : Nat → Nat
  | 0 => 0
  | L + 1 => if lev ≤ L then (lvc cs L).length + Sm cs lev L else 0
theorem Sm_le (cs : List (List Nat)) (lev : Nat) : ∀ L, L ≤ cs.length → Sm cs lev L ≤ (cs.take L).flatten.length := by
  intro L
  induction L with
  | zero => intro _; unfold Sm; exact Nat.zero_le _
  | succ L ih =>
    intro hL
    unfold Sm
    by_cases h : lev ≤ L
    · rw [if_pos h, List.take_succ_eq_append_getElem (by omega), List.flatten_append, List.length_append]
      have := ih (by omega)
      have e : (lvc cs L).length = ([cs[L]].flatten).length := by
        unfold lvc
        rw [List.getD_eq_getElem?_getD, List.getElem?_eq_getElem (by omega)]
        simp
      omega
    · rw [if_neg h]; exact Nat.zero_le _
theorem Sm_all (cs : List (List Nat)) (lev : Nat) {L : Nat} (hL : L < cs.length) : (lvc cs L).length + Sm cs lev L ≤ cs.flatten.length := by
  have h1 := Sm_le cs lev L (by omega)
  have h2 : (cs.take (L + 1)).flatten.length ≤ cs.flatten.length := by
    have e : cs.flatten = (cs.take (L + 1)).flatten ++ (cs.drop (L + 1)).flatten := by rw [← List.flatten_append, List.take_append_drop]
    rw [e, List.length_append]; omega
  rw [List.take_succ_eq_append_getElem hL, List.flatten_append, List.length_append] at h2
  have e : (lvc cs L).length = ([cs[L]].flatten).length := by
    unfold lvc
    rw [List.getD_eq_getElem?_getD, List.getElem?_eq_getElem hL]
    simp
  omega
/-- the block found for k at a level -/
def fk (w : Mem) (cs : List (List Nat)) (lev k : Nat) : Nat := match lvc cs lev with
  | [] => 0
  | b :: r => fnd w k b r
theorem fk_at {w : Mem} {cs : List (List Nat)} (T : TS w cs) {lev k : Nat} (hl : lev < cs.length) {pre r : List Nat} {b : Nat} (h : lvc cs lev = pre ++ b :: r) (hb : lo w b ≤ k) : fk w cs lev k = fnd w k b r := by
  unfold fk
  have ht := (T.1 lev hl).1
  cases pre with
  | nil => rw [h]; rfl
  | cons a p =>
    rw [h] at ht ⊢
    exact fnd_suffix p a b r ht hb
theorem fk_mem {w : Mem} {cs : List (List Nat)} (T : TS w cs) {lev : Nat} (k : Nat) (hl : lev < cs.length) : fk w cs lev k ∈ lvc cs lev := by
  obtain ⟨b, r, e, -⟩ := (T.1 lev hl).2
  unfold fk
  rw [e]
  exact fnd_mem w k r b
theorem fk_lo {w : Mem} {cs : List (List Nat)} (T : TS w cs) {lev : Nat} (k : Nat) (hl : lev < cs.length) : lo w (fk w cs lev k) ≤ k := by
  obtain ⟨b, r, e, e0⟩ := (T.1 lev hl).2
  unfold fk
  rw [e]
  exact fnd_lo w k r b (by omega)
theorem inn.rowE {w : Mem} {c : List Nat} {b : Nat} (hc : ∀ x ∈ c, lo w x < 1000) (h : inn w c b) : rowE w b := fun p hp => by
  rcases h.2.2 p hp with h1 | ⟨x, hx, h1, -⟩
  · exact Or.inl h1
  · exact Or.inr ⟨lo w x, nI x, hc x hx, h1⟩
theorem leaf.rowE {w : Mem} {b : Nat} (h : leaf w b) : rowE w b := fun p hp => by
  rcases h p hp with h1 | ⟨k, v, h1, -, h2⟩
  · exact Or.inl h1
  · exact Or.inr ⟨k, v, h2, h1⟩
theorem TS.lo1000 {w : Mem} {cs : List (List Nat)} (T : TS w cs) {L b : Nat} (h : b ∈ lvc cs L) : lo w b < 1000 := ((T.1 L (lvc_in h)).1.mem b h).2.2.2
theorem TS.row {w : Mem} {cs : List (List Nat)} (T : TS w cs) {L b : Nat} (h : b ∈ lvc cs L) : rowE w b := by
  cases L with
  | zero => exact (T.2.2.1 b h).rowE
  | succ L => exact (T.2.1 L (lvc_in h) b h).rowE (fun x hx => T.lo1000 hx)
/-- the child taken for k: it lies in the chain below, its low is not above k -/
theorem TS.child {w : Mem} {cs : List (List Nat)} (T : TS w cs) {L b k : Nat} (h : b ∈ lvc cs (L + 1)) (hk : lo w b ≤ k) : ∃ x ∈ lvc cs L, w (9 * b + 3 + llp w b k) = ent (lo w x) (nI x) ∧ lo w x ≤ k ∧ 0 < rl w b ∧ kp w b 0 ≤ k := by
  have hi := T.2.1 L (lvc_in h) b h
  have h0 : kp w b 0 ≤ k := by rw [hi.2.1]; exact hk
  have hs := llF_spec (kp w b) k h0 (rl w b) hi.1
  have h6 := rl_le w b
  have hp : llp w b k < 6 := by unfold llp; omega
  rcases hi.2.2 (llp w b k) hp with h1 | ⟨x, hx, h1, -⟩
  · exact absurd h1 (rl_nz hs.1)
  · refine ⟨x, hx, h1, ?_, hi.1, h0⟩
    have h2 := hs.2
    have h3 : kp w b (llp w b k) = lo w x := by
      unfold kp
      rw [h1, kN_ent _ (by have := T.lo1000 hx; omega)]
    unfold llp at h3
    omega
section Find
variable {u : SM} {v : SR} {w : Mem} {cs : List (List Nat)} {k lev : Nat}
theorem c_find_L (T : TS w cs) (h : CW u w) (hk : k < 1000) : ∀ (L : Nat), L < cs.length → lev ≤ L → ∀ (r pre : List Nat) (b : Nat), lvc cs L = pre ++ b :: r → lo w b ≤ k → ∀ (cnt n : Nat), cnt + (r.length + 1) + Sm cs lev L ≤ 30 → 31 ≤ cnt + n →
    m_Tree_find_L12 n u (nI b) (nI cnt) (nI k) (nI lev) = some (.inl (nI (fk w cs lev k), u)) := by
  intro L
  induction L with
  | zero =>
    intro hL hlev r
    induction r with
    | nil =>
      intro pre b hc hlo cnt n hcnt hn
      obtain ⟨n, rfl⟩ : ∃ m, n = m + 1 := ⟨n - 1, by omega⟩
      have ht := tch.suffix pre (hc ▸ (T.1 0 hL).1)
      rw [m_Tree_find_L12, if_neg (by rw [show (30 : Int32) = nI 30 from rfl]; exact nI_ge (by omega) (by omega)), if_neg (by rw [nI_lit0, nI_eq (by have := ht.1; omega) (by omega)]; have := ht.1; omega),
        c_next h ht.1.2, obS, ht.2.2.1, blk_lN (by decide), show nI (([] : List Nat).headD 0) = (0 : Int32) from rfl, if_pos rfl, c_level h ht.1.2, obS, ht.2.1, lN_i, if_neg (nI_nlt (by omega) (by omega)), fk_at T (by omega : lev < cs.length) (show lvc cs lev = pre ++ [b] by rw [show lev = 0 by omega]; exact hc) hlo]
      rfl
    | cons c r ih =>
      intro pre b hc hlo cnt n hcnt hn
      obtain ⟨n, rfl⟩ : ∃ m, n = m + 1 := ⟨n - 1, by omega⟩
      have ht := tch.suffix pre (hc ▸ (T.1 0 hL).1)
      have htc : tch w 0 (c :: r) := ht.2.2.2.2.2
      rw [m_Tree_find_L12, if_neg (by rw [show (30 : Int32) = nI 30 from rfl]; exact nI_ge (by simp only [List.length_cons] at hcnt; omega) (by omega)), if_neg (by rw [nI_lit0, nI_eq (by have := ht.1; omega) (by omega)]; have := ht.1; omega),
        c_next h ht.1.2, obS, ht.2.2.1, show (c :: r).headD 0 = c from rfl, blk_lN htc.1.2, if_neg (by rw [nI_lit0, nI_eq (by have := htc.1; omega) (by omega)]; have := htc.1; omega), c_low h htc.1.2, obS, lo_i htc.2.2.2.1.1]
      by_cases e : lo w c ≤ k
      · rw [if_neg (nI_nlt e (by omega)), a1]
        have := ih (pre ++ [b]) c (by rw [hc]; simp) e (cnt + 1) n (by simp only [List.length_cons] at hcnt; omega) (by omega)
        exact this
      · rw [if_pos (nI_lt (by omega) (by have := htc.2.2.2.1.2; omega)), c_level h ht.1.2, obS, ht.2.1, lN_i, if_neg (nI_nlt (by omega) (by omega)), fk_at T (by omega : lev < cs.length) (show lvc cs lev = pre ++ b :: c :: r by rw [show lev = 0 by omega]; exact hc) hlo, fnd, if_neg e]
  | succ L ihL =>
    intro hL hlev
    have step : ∀ (r pre : List Nat) (b : Nat), lvc cs (L + 1) = pre ++ b :: r → lo w b ≤ k → (fnd w k b r = b) → ∀ (cnt n : Nat), cnt + 1 + Sm cs lev (L + 1) ≤ 30 → 31 ≤ cnt + (n + 1) →
        ob (m_Blocks_levelOf u (nI b)) (fun r5 u6 => if (nI lev) < r5 then (ob (m_Tree_childFor u6 (nI b) (nI k)) (fun r9 u10 => m_Tree_find_L12 n u10 r9 (nI cnt + (1 : Int32)) (nI k) (nI lev))) else (some (.inl (nI b, u6)))) = some (.inl (nI (fk w cs lev k), u)) := by
      intro r pre b hc hlo hf cnt n hcnt hn
      have hb : b ∈ lvc cs (L + 1) := by rw [hc]; exact List.mem_append_right _ List.mem_cons_self
      have hm := (T.1 (L + 1) hL).1.mem b hb
      rw [c_level h hm.1.2, obS, hm.2.1, lN_i]
      by_cases e : lev = L + 1
      · rw [if_neg (nI_nlt (by omega) (by have := T.hgt; omega)), fk_at T (by omega : lev < cs.length) (show lvc cs lev = pre ++ b :: r by rw [e]; exact hc) hlo, hf]
      · have hcl := T.hgt
        rw [if_pos (nI_lt (by omega) (by omega))]
        obtain ⟨x, hx, hw, hxk, h1, h0⟩ := T.child hb hlo
        have hxr := ((T.1 L (by omega)).1.mem x hx).1
        rw [c_childFor h hm.1.2 (T.row hb) hk h1 h0, obS, hw, ent_val _ (by have := T.lo1000 hx; omega), blk_nI hxr.2, a1]
        obtain ⟨p2, r2, e2⟩ := List.append_of_mem hx
        have hSm : Sm cs lev (L + 1) = (lvc cs L).length + Sm cs lev L := by rw [Sm, if_pos (by omega)]
        have hlen : r2.length + 1 ≤ (lvc cs L).length := by rw [e2]; simp
        exact ihL (by omega) (by omega) r2 p2 x e2 hxk (cnt + 1) n (by omega) (by omega)
    intro r
    induction r with
    | nil =>
      intro pre b hc hlo cnt n hcnt hn
      obtain ⟨n, rfl⟩ : ∃ m, n = m + 1 := ⟨n - 1, by omega⟩
      have ht := tch.suffix pre (hc ▸ (T.1 (L + 1) hL).1)
      rw [m_Tree_find_L12, if_neg (by rw [show (30 : Int32) = nI 30 from rfl]; exact nI_ge (by simp only [List.length_nil] at hcnt; omega) (by omega)), if_neg (by rw [nI_lit0, nI_eq (by have := ht.1; omega) (by omega)]; have := ht.1; omega),
        c_next h ht.1.2, obS, ht.2.2.1, blk_lN (by decide), show nI (([] : List Nat).headD 0) = (0 : Int32) from rfl, if_pos rfl]
      exact step [] pre b hc hlo rfl cnt n (by simp only [List.length_nil] at hcnt; omega) hn
    | cons c r ih =>
      intro pre b hc hlo cnt n hcnt hn
      obtain ⟨n, rfl⟩ : ∃ m, n = m + 1 := ⟨n - 1, by omega⟩
      have ht := tch.suffix pre (hc ▸ (T.1 (L + 1) hL).1)
      have htc : tch w (L + 1) (c :: r) := ht.2.2.2.2.2
      rw [m_Tree_find_L12, if_neg (by rw [show (30 : Int32) = nI 30 from rfl]; exact nI_ge (by simp only [List.length_cons] at hcnt; omega) (by omega)), if_neg (by rw [nI_lit0, nI_eq (by have := ht.1; omega) (by omega)]; have := ht.1; omega),
        c_next h ht.1.2, obS, ht.2.2.1, show (c :: r).headD 0 = c from rfl, blk_lN htc.1.2, if_neg (by rw [nI_lit0, nI_eq (by have := htc.1; omega) (by omega)]; have := htc.1; omega), c_low h htc.1.2, obS, lo_i htc.2.2.2.1.1]
      by_cases e : lo w c ≤ k
      · rw [if_neg (nI_nlt e (by omega)), a1]
        exact ih (pre ++ [b]) c (by rw [hc]; simp) e (cnt + 1) n (by simp only [List.length_cons] at hcnt; omega) (by omega)
      · rw [if_pos (nI_lt (by omega) (by have := htc.2.2.2.1.2; omega))]
        exact step (c :: r) pre b hc hlo (by rw [fnd, if_neg e]) cnt n (by simp only [List.length_cons] at hcnt; omega) hn
theorem TS.top {w : Mem} {cs : List (List Nat)} (T : TS w cs) (hne : cs ≠ []) : ∃ r, lvc cs (cs.length - 1) = rootOf cs :: r ∧ lo w (rootOf cs) = 0 ∧ rootOf cs ≤ 30 ∧ 1 ≤ rootOf cs := by
  have h0 : 0 < cs.length := List.length_pos_iff.mpr hne
  obtain ⟨b, r, e, e0⟩ := (T.1 (cs.length - 1) (by omega)).2
  have hr : rootOf cs = b := by unfold rootOf; rw [e]; rfl
  have hb : b ∈ lvc cs (cs.length - 1) := by rw [e]; exact List.mem_cons_self
  have hm := ((T.1 (cs.length - 1) (by omega)).1.mem b hb).1
  rw [hr]
  exact ⟨r, e, e0, hm.2, hm.1⟩
theorem c_find (T : TS w cs) (h : CW u w) (hk : k < 1000) (hlev : lev < cs.length) : m_Tree_find u (nI k) (nI lev) = some (nI (fk w cs lev k), u) := by
  have hne : cs ≠ [] := fun e => by rw [e] at hlev; simp at hlev
  obtain ⟨r, e, e0, hr, hr1⟩ := T.top hne
  unfold m_Tree_find
  rw [nI_lit0, c_blockIn h (by omega), obS, T.2.2.2.2.1, blk_lN hr, c_find_L T h hk (cs.length - 1) (by omega) (by omega) r [] (rootOf cs) e (by omega) 0 fz ?_ (by unfold fz; omega)]
  · rfl
  · have h1 := Sm_all cs lev (L := cs.length - 1) (by omega)
    have h2 := T.len
    rw [e, List.length_cons] at h1
    omega
theorem r_find_L (T : TS w cs) (h : RW v w) (hk : k < 1000) : ∀ (L : Nat), L < cs.length → lev ≤ L → ∀ (r pre : List Nat) (b : Nat), lvc cs L = pre ++ b :: r → lo w b ≤ k → ∀ (cnt n : Nat), cnt + (r.length + 1) + Sm cs lev L ≤ 30 → 31 ≤ cnt + n →
    m_Ref_find_L8 n v (nI b) (nI cnt) (nI k) (nI lev) = some (.inl (nI (fk w cs lev k), v)) := by
  intro L
  have hcl := T.hgt
  induction L with
  | zero =>
    intro hL hlev r
    induction r with
    | nil =>
      intro pre b hc hlo cnt n hcnt hn
      obtain ⟨n, rfl⟩ : ∃ m, n = m + 1 := ⟨n - 1, by omega⟩
      have ht := tch.suffix pre (hc ▸ (T.1 0 hL).1)
      rw [m_Ref_find_L8, if_neg (by rw [show (100 : Int32) = nI 100 from rfl]; exact nI_ge (by omega) (by omega)),
        r_next h ht.1.2, obS, ht.2.2.1, lN_i, show nI (([] : List Nat).headD 0) = (0 : Int32) from rfl, if_pos rfl, r_level h ht.1.2, obS, ht.2.1, lN_i, if_pos (by rw [show lev = 0 by omega]), fk_at T (by omega : lev < cs.length) (show lvc cs lev = pre ++ [b] by rw [show lev = 0 by omega]; exact hc) hlo]
      rfl
    | cons c r ih =>
      intro pre b hc hlo cnt n hcnt hn
      obtain ⟨n, rfl⟩ : ∃ m, n = m + 1 := ⟨n - 1, by omega⟩
      have ht := tch.suffix pre (hc ▸ (T.1 0 hL).1)
      have htc : tch w 0 (c :: r) := ht.2.2.2.2.2
      rw [m_Ref_find_L8, if_neg (by rw [show (100 : Int32) = nI 100 from rfl]; exact nI_ge (by simp only [List.length_cons] at hcnt; omega) (by omega)),
        r_next h ht.1.2, obS, ht.2.2.1, show (c :: r).headD 0 = c from rfl, lN_i, if_neg (by rw [nI_lit0, nI_eq (by have := htc.1; omega) (by omega)]; have := htc.1; omega), r_low h htc.1.2, obS, lo_i htc.2.2.2.1.1]
      by_cases e : lo w c ≤ k
      · rw [if_neg (nI_nlt e (by omega)), a1]
        exact ih (pre ++ [b]) c (by rw [hc]; simp) e (cnt + 1) n (by simp only [List.length_cons] at hcnt; omega) (by omega)
      · rw [if_pos (nI_lt (by omega) (by have := htc.2.2.2.1.2; omega)), r_level h ht.1.2, obS, ht.2.1, lN_i, if_pos (by rw [show lev = 0 by omega]), fk_at T (by omega : lev < cs.length) (show lvc cs lev = pre ++ b :: c :: r by rw [show lev = 0 by omega]; exact hc) hlo, fnd, if_neg e]
  | succ L ihL =>
    intro hL hlev
    have step : ∀ (r pre : List Nat) (b : Nat), lvc cs (L + 1) = pre ++ b :: r → lo w b ≤ k → (fnd w k b r = b) → ∀ (cnt n : Nat), cnt + 1 + Sm cs lev (L + 1) ≤ 30 → 31 ≤ cnt + (n + 1) →
        ob (m_Ref_level v (nI b)) (fun r5 u6 => if r5 = (nI lev) then (some (.inl (nI b, u6))) else (ob (m_Ref_below u6 (nI b) (nI k)) (fun r9 u10 => m_Ref_find_L8 n u10 r9 (nI cnt + (1 : Int32)) (nI k) (nI lev)))) = some (.inl (nI (fk w cs lev k), v)) := by
      intro r pre b hc hlo hf cnt n hcnt hn
      have hb : b ∈ lvc cs (L + 1) := by rw [hc]; exact List.mem_append_right _ List.mem_cons_self
      have hm := (T.1 (L + 1) hL).1.mem b hb
      rw [r_level h hm.1.2, obS, hm.2.1, lN_i]
      by_cases e : lev = L + 1
      · rw [if_pos (by rw [e]), fk_at T (by omega : lev < cs.length) (show lvc cs lev = pre ++ b :: r by rw [e]; exact hc) hlo, hf]
      · rw [if_neg (by rw [nI_eq (by omega) (by omega)]; omega)]
        obtain ⟨x, hx, hw, hxk, h1, h0⟩ := T.child hb hlo
        have hxr := ((T.1 L (by omega)).1.mem x hx).1
        rw [r_below h hm.1.2 (T.row hb) hk, obS, hw, ent_val _ (by have := T.lo1000 hx; omega), a1]
        obtain ⟨p2, r2, e2⟩ := List.append_of_mem hx
        have hSm : Sm cs lev (L + 1) = (lvc cs L).length + Sm cs lev L := by rw [Sm, if_pos (by omega)]
        have hlen : r2.length + 1 ≤ (lvc cs L).length := by rw [e2]; simp
        exact ihL (by omega) (by omega) r2 p2 x e2 hxk (cnt + 1) n (by omega) (by omega)
    intro r
    induction r with
    | nil =>
      intro pre b hc hlo cnt n hcnt hn
      obtain ⟨n, rfl⟩ : ∃ m, n = m + 1 := ⟨n - 1, by omega⟩
      have ht := tch.suffix pre (hc ▸ (T.1 (L + 1) hL).1)
      rw [m_Ref_find_L8, if_neg (by rw [show (100 : Int32) = nI 100 from rfl]; exact nI_ge (by simp only [List.length_nil] at hcnt; omega) (by omega)),
        r_next h ht.1.2, obS, ht.2.2.1, lN_i, show nI (([] : List Nat).headD 0) = (0 : Int32) from rfl, if_pos rfl]
      exact step [] pre b hc hlo rfl cnt n (by simp only [List.length_nil] at hcnt; omega) hn
    | cons c r ih =>
      intro pre b hc hlo cnt n hcnt hn
      obtain ⟨n, rfl⟩ : ∃ m, n = m + 1 := ⟨n - 1, by omega⟩
      have ht := tch.suffix pre (hc ▸ (T.1 (L + 1) hL).1)
      have htc : tch w (L + 1) (c :: r) := ht.2.2.2.2.2
      rw [m_Ref_find_L8, if_neg (by rw [show (100 : Int32) = nI 100 from rfl]; exact nI_ge (by simp only [List.length_cons] at hcnt; omega) (by omega)),
        r_next h ht.1.2, obS, ht.2.2.1, show (c :: r).headD 0 = c from rfl, lN_i, if_neg (by rw [nI_lit0, nI_eq (by have := htc.1; omega) (by omega)]; have := htc.1; omega), r_low h htc.1.2, obS, lo_i htc.2.2.2.1.1]
      by_cases e : lo w c ≤ k
      · rw [if_neg (nI_nlt e (by omega)), a1]
        exact ih (pre ++ [b]) c (by rw [hc]; simp) e (cnt + 1) n (by simp only [List.length_cons] at hcnt; omega) (by omega)
      · rw [if_pos (nI_lt (by omega) (by have := htc.2.2.2.1.2; omega))]
        exact step (c :: r) pre b hc hlo (by rw [fnd, if_neg e]) cnt n (by simp only [List.length_cons] at hcnt; omega) hn
theorem r_find (T : TS w cs) (h : RW v w) (hk : k < 1000) (hlev : lev < cs.length) : m_Ref_find v (nI k) (nI lev) = some (nI (fk w cs lev k), v) := by
  have hne : cs ≠ [] := fun e => by rw [e] at hlev; simp at hlev
  obtain ⟨r, e, e0, hr, hr1⟩ := T.top hne
  unfold m_Ref_find
  rw [r_root h, obS, T.2.2.2.2.1, lN_i, nI_lit0, r_find_L T h hk (cs.length - 1) (by omega) (by omega) r [] (rootOf cs) e (by omega) 0 fz ?_ (by unfold fz; omega)]
  · rfl
  · have h1 := Sm_all cs lev (L := cs.length - 1) (by omega)
    have h2 := T.len
    rw [e, List.length_cons] at h1
    omega
end Find
