/-! PURE: seeking in the table's chains -/
def fp (f : Nat → Bool) : Nat → Nat → Option Nat
  | 0, _ => none
  | n + 1, p => if f p = true then some p else fp f n (p + 1)
theorem fp_some {f : Nat → Bool} : ∀ {n p q : Nat}, fp f n p = some q → p ≤ q ∧ q < p + n ∧ f q = true ∧ ∀ j, p ≤ j → j < q → f j = false := by
  intro n
  induction n with
  | zero => intro p q h; cases h
  | succ n ih =>
    intro p q h
    rw [fp] at h
    by_cases e : f p = true
    · rw [if_pos e] at h; cases h; exact ⟨Nat.le_refl _, by omega, e, fun j h1 h2 => by omega⟩
    · rw [if_neg e] at h
      obtain ⟨h1, h2, h3, h4⟩ := ih h
      refine ⟨by omega, by omega, h3, fun j z1 z2 => ?_⟩
      by_cases ej : j = p
      · rw [ej]; simpa using e
      · exact h4 j (by omega) z2
theorem fp_none {f : Nat → Bool} : ∀ {n p : Nat}, fp f n p = none → ∀ j, p ≤ j → j < p + n → f j = false := by
  intro n
  induction n with
  | zero => intro p _ j h1 h2; omega
  | succ n ih =>
    intro p h j h1 h2
    rw [fp] at h
    by_cases e : f p = true
    · rw [if_pos e] at h; cases h
    · rw [if_neg e] at h
      by_cases ej : j = p
      · rw [ej]; simpa using e
      · exact ih h j (by omega) (by omega)
def pky (w : Mem) (b : Nat) (x : Int32) (p : Nat) : Bool := decide (kyI (w (9 * b + 3 + p)) = x)
def tsk (w : Mem) (x : Int32) : List Nat → Option Nat
  | [] => none
  | b :: r => match fp (pky w b x) 6 0 with
    | some p => some (9 * b + 3 + p)
    | none => tsk w x r
theorem tsk_some {w : Mem} {x : Int32} : ∀ {c : List Nat} {a : Nat}, tsk w x c = some a → ∃ b p, b ∈ c ∧ p < 6 ∧ a = 9 * b + 3 + p ∧ kyI (w a) = x := by
  intro c
  induction c with
  | nil => intro a h; cases h
  | cons b r ih =>
    intro a h
    rw [tsk] at h
    cases e : fp (pky w b x) 6 0 with
    | some p =>
      rw [e] at h
      cases h
      obtain ⟨-, h2, h3, -⟩ := fp_some e
      exact ⟨b, p, List.mem_cons_self, by omega, rfl, of_decide_eq_true h3⟩
    | none =>
      rw [e] at h
      obtain ⟨b', p, h1, h2, h3, h4⟩ := ih h
      exact ⟨b', p, List.mem_cons_of_mem _ h1, h2, h3, h4⟩
theorem tsk_none {w : Mem} {x : Int32} : ∀ {c : List Nat}, tsk w x c = none → ∀ b ∈ c, ∀ p, p < 6 → kyI (w (9 * b + 3 + p)) ≠ x := by
  intro c
  induction c with
  | nil => intro _ b hb; cases hb
  | cons b r ih =>
    intro h b' hb' p hp
    rw [tsk] at h
    cases e : fp (pky w b x) 6 0 with
    | some q => rw [e] at h; cases h
    | none =>
      rw [e] at h
      rcases List.mem_cons.mp hb' with q | q
      · rw [q]; exact of_decide_eq_false (fp_none e p (by omega) (by omega))
      · exact ih h b' q p hp
def oA (d : Int32) : Option Nat → Int32
  | some a => nI a
  | none => d
section Ts
variable {u : SM} {v : SR} {w : Mem}
theorem c_keyOf (x : Int64) : m_Firm_keyOf u x = some (kyI x, u) := rfl
theorem c_sic_in (h : CW u w) {b : Nat} (hb : b ≤ 30) (x : Int32) (x4 : Int32) : ∀ (d p n : Nat), p + d = 6 → d < n → m_Table_seekInChain_L26 n u (nI p) x (nI b) x4 = match fp (pky w b x) d p with
    | some q => some (.inl (nI (9 * b + 3 + q), u))
    | none => some (.inr u) := by
  intro d
  induction d with
  | zero =>
    intro p n hp hn
    obtain ⟨n, rfl⟩ : ∃ e, n = e + 1 := ⟨n - 1, by omega⟩
    rw [m_Table_seekInChain_L26, if_pos (by rw [show (6 : Int32) = nI 6 from rfl]; exact nI_le (by omega) (by omega))]; rfl
  | succ d ih =>
    intro p n hp hn
    obtain ⟨n, rfl⟩ : ∃ e, n = e + 1 := ⟨n - 1, by omega⟩
    rw [m_Table_seekInChain_L26, if_neg (by rw [show (6 : Int32) = nI 6 from rfl]; exact nI_ge (by omega) (by omega)), c_entry h hb (by omega), obS, c_keyOf, obS, fp]
    by_cases e : kyI (w (9 * b + 3 + p)) = x
    · rw [if_pos e, if_pos (show pky w b x p = true from decide_eq_true e), c_place, obS]
    · rw [if_neg e, if_neg (by show ¬ decide (kyI (w (9 * b + 3 + p)) = x) = true; simpa using e), a1, ih (p + 1) n (by omega) (by omega)]
theorem c_sic_L (x : Int32) (h : CW u w) : ∀ (c : List Nat) (cn n : Nat), cch w c → cn + c.length ≤ 30 → 31 ≤ cn + n → m_Table_seekInChain_L12 n u (nI (c.headD 0)) (nI cn) x = match tsk w x c with
    | some a => some (.inl (nI a, u))
    | none => some (.inr u) := by
  intro c
  induction c with
  | nil =>
    intro cn n _ h1 h2
    rw [List.length_nil] at h1
    obtain ⟨n, rfl⟩ : ∃ e, n = e + 1 := ⟨n - 1, by omega⟩
    rw [m_Table_seekInChain_L12]
    by_cases e : (30 : Int32) ≤ nI cn
    · rw [if_pos e]; rfl
    · rw [if_neg e, if_pos (show nI (([] : List Nat).headD 0) = 0 from rfl)]; rfl
  | cons b r ih =>
    intro cn n hc h1 h2
    rw [List.length_cons] at h1
    obtain ⟨n, rfl⟩ : ∃ e, n = e + 1 := ⟨n - 1, by omega⟩
    obtain ⟨hb, hlv, hnx, hr⟩ := hc
    rw [m_Table_seekInChain_L12, if_neg (by rw [show (30 : Int32) = nI 30 from rfl]; exact nI_ge (by omega) (by omega)), if_neg (nI_ne0 (show 0 < (b :: r).headD 0 from hb.1) (show (b :: r).headD 0 < 2 ^ 31 from Nat.lt_of_le_of_lt hb.2 (by omega))), tsk]
    have hin := c_sic_in h hb.2 x (nI cn) 6 0 fz (by omega) (by unfold fz; omega)
    have hin' : m_Table_seekInChain_L26 fz u (0 : Int32) x (nI ((b :: r).headD 0)) (nI cn) = match fp (pky w b x) 6 0 with
      | some q => some (.inl (nI (9 * b + 3 + q), u))
      | none => some (.inr u) := hin
    rw [hin']
    cases e : fp (pky w b x) 6 0 with
    | some q => rfl
    | none =>
      have hn : m_Blocks_nextOf u (nI ((b :: r).headD 0)) = some (nI (r.headD 0), u) := by
        have := c_next h hb.2
        rw [hnx, blk_lN] at this
        · exact this
        · rcases headD_cases (c := r) with ⟨-, q⟩ | ⟨b2, r2, q1, q2⟩
          · omega
          · rw [q2]; exact (hr.mem b2 (by rw [q1]; exact List.mem_cons_self)).1.2
      simp only
      rw [ol0R, hn, obS, a1, ih (cn + 1) n hr (by omega) (by omega)]
theorem cch.hd {c : List Nat} (hc : cch w c) : c.headD 0 ≤ 30 := by
  rcases headD_cases (c := c) with ⟨-, q⟩ | ⟨b2, r2, q1, q2⟩
  · omega
  · rw [q2]; exact (hc.mem b2 (by rw [q1]; exact List.mem_cons_self)).1.2
theorem c_sic (h : CW u w) (x : Int32) {c : List Nat} {hd : Nat} (hh : hd < 279) (hw : w hd = lN (c.headD 0)) (hc : cch w c) (hl : c.length ≤ 30) : m_Table_seekInChain u (nI hd) x = some (oA 0 (tsk w x c), u) := by
  rw [m_Table_seekInChain, c_blockIn h hh, obS, hw, blk_lN hc.hd]
  have := c_sic_L x h c 0 fz hc (by omega) (by unfold fz; omega)
  have this' : m_Table_seekInChain_L12 fz u (nI (c.headD 0)) (0 : Int32) x = match tsk w x c with
    | some a => some (.inl (nI a, u))
    | none => some (.inr u) := this
  rw [this']
  cases tsk w x c with
  | some a => rfl
  | none => rfl
theorem r_pl_in (h : RW v w) {b k : Nat} (hb : b ≤ 30) (hk : k < 1000) : ∀ (d p n : Nat), p + d = 6 → d < n → m_Ref_placeOf_L19 n v (nI p) (nI k) (nI b) = match fp (pky w b (nI k)) d p with
    | some q => some (.inl (nI (9 * b + 3 + q), v))
    | none => some (.inr v) := by
  intro d
  induction d with
  | zero =>
    intro p n hp hn
    obtain ⟨n, rfl⟩ : ∃ e, n = e + 1 := ⟨n - 1, by omega⟩
    rw [m_Ref_placeOf_L19, if_pos (by rw [show (6 : Int32) = nI 6 from rfl]; exact nI_le (by omega) (by omega))]; rfl
  | succ d ih =>
    intro p n hp hn
    obtain ⟨n, rfl⟩ : ∃ e, n = e + 1 := ⟨n - 1, by omega⟩
    rw [m_Ref_placeOf_L19, if_neg (by rw [show (6 : Int32) = nI 6 from rfl]; exact nI_ge (by omega) (by omega)), r_at h hb (by omega), obS, fp]
    by_cases e0 : w (9 * b + 3 + p) = 0
    · rw [if_pos (by rw [e0]; decide), if_neg (by
        show ¬ decide (kyI (w (9 * b + 3 + p)) = nI k) = true
        rw [e0, ky_0]
        intro q
        have q2 := of_decide_eq_true q
        have := nI_pos (n := k) (by omega)
        rw [← q2] at this
        exact this (by decide)), a1, ih (p + 1) n (by omega) (by omega)]
    · rw [if_neg (by rw [cmp_eq]; exact e0), r_key h hb (by omega), obS]
      by_cases e : kyI (w (9 * b + 3 + p)) = nI k
      · rw [if_pos e, if_pos (show pky w b (nI k) p = true from decide_eq_true e), pl_addr']
      · rw [if_neg e, if_neg (by show ¬ decide (kyI (w (9 * b + 3 + p)) = nI k) = true; simpa using e), a1, ih (p + 1) n (by omega) (by omega)]
theorem r_next' (h : RW v w) {b : Nat} {r : List Nat} (hb : b ≤ 30) (hnx : w (9 * b + 1) = lN (r.headD 0)) : m_Ref_next v (nI b) = some (nI (r.headD 0), v) := by
  rw [r_next h hb, hnx, lN_i]
theorem r_pl_L (h : RW v w) {k : Nat} (hk : k < 1000) : ∀ (c : List Nat) (n : Nat), cch w c → c.length < n → m_Ref_placeOf_L13 n v (nI (c.headD 0)) (nI k) = match tsk w (nI k) c with
    | some a => some (.inl (nI a, v))
    | none => some (.inr v) := by
  intro c
  induction c with
  | nil =>
    intro n _ h1
    obtain ⟨n, rfl⟩ : ∃ e, n = e + 1 := ⟨n - 1, by omega⟩
    rw [m_Ref_placeOf_L13, if_pos (show nI (([] : List Nat).headD 0) = 0 from rfl)]; rfl
  | cons b r ih =>
    intro n hc h1
    rw [List.length_cons] at h1
    obtain ⟨n, rfl⟩ : ∃ e, n = e + 1 := ⟨n - 1, by omega⟩
    obtain ⟨hb, hlv, hnx, hr⟩ := hc
    rw [m_Ref_placeOf_L13, if_neg (nI_ne0 (show 0 < (b :: r).headD 0 from hb.1) (show (b :: r).headD 0 < 2 ^ 31 from Nat.lt_of_le_of_lt hb.2 (by omega))), tsk]
    have hin := r_pl_in h hb.2 hk 6 0 fz (by omega) (by unfold fz; omega)
    have hin' : m_Ref_placeOf_L19 fz v (0 : Int32) (nI k) (nI ((b :: r).headD 0)) = match fp (pky w b (nI k)) 6 0 with
      | some q => some (.inl (nI (9 * b + 3 + q), v))
      | none => some (.inr v) := hin
    rw [hin']
    cases e : fp (pky w b (nI k)) 6 0 with
    | some q => rfl
    | none =>
      simp only
      rw [ol0R, show m_Ref_next v (nI ((b :: r).headD 0)) = some (nI (r.headD 0), v) from r_next' h hb.2 hnx, obS, ih n hr (by omega)]
theorem hd_arith {k : Nat} (hk : k < 1000) : (1 : Int32) + (nI k - nI k / (8 : Int32) * (8 : Int32)) = nI (k % 8 + 1) := by
  rw [show (8 : Int32) = nI 8 from rfl, pk_rem (by omega) (by omega) (by omega), show (1 : Int32) = nI 1 from rfl, nAdd, Nat.add_comm]
theorem r_placeOf (h : RW v w) {k : Nat} (hk : k < 1000) {c : List Nat} (hw : w (k % 8 + 1) = lN (c.headD 0)) (hc : cch w c) (hl : c.length ≤ 30) : m_Ref_placeOf v (nI k) = some (oA (-1) (tsk w (nI k) c), v) := by
  rw [m_Ref_placeOf, hd_arith hk, if_pos (inb_n (by omega) (by omega)), nI_clamp (by omega), h _ (by omega), hw, lN_i, r_pl_L h hk c fz hc (by unfold fz; omega)]
  cases tsk w (nI k) c with
  | some a => rfl
  | none => rfl
theorem r_gp_in (h : RW v w) {b : Nat} (hb : b ≤ 30) (hE : rowE w b) : ∀ (d p n : Nat), p + d = 6 → d < n → m_Ref_gapOf_L19 n v (nI p) (nI b) = match fp (pky w b (-1)) d p with
    | some q => some (.inl (nI (9 * b + 3 + q), v))
    | none => some (.inr v) := by
  intro d
  induction d with
  | zero =>
    intro p n hp hn
    obtain ⟨n, rfl⟩ : ∃ e, n = e + 1 := ⟨n - 1, by omega⟩
    rw [m_Ref_gapOf_L19, if_pos (by rw [show (6 : Int32) = nI 6 from rfl]; exact nI_le (by omega) (by omega))]; rfl
  | succ d ih =>
    intro p n hp hn
    obtain ⟨n, rfl⟩ : ∃ e, n = e + 1 := ⟨n - 1, by omega⟩
    rw [m_Ref_gapOf_L19, if_neg (by rw [show (6 : Int32) = nI 6 from rfl]; exact nI_ge (by omega) (by omega)), r_at h hb (by omega), obS, fp]
    rcases hE p (by omega) with e0 | e0
    · rw [if_pos (by rw [e0]; decide), if_pos (by show decide (kyI (w (9 * b + 3 + p)) = -1) = true; rw [e0, ky_0]; decide), pl_addr']
    · have hk := e0.ky
      rw [if_neg (by rw [cmp_eq]; exact hk.2.2), if_neg (by
        show ¬ decide (kyI (w (9 * b + 3 + p)) = -1) = true
        rw [hk.1]
        intro q
        have q2 := of_decide_eq_true q
        have := nI_pos (n := kN (w (9 * b + 3 + p))) (by omega)
        rw [q2] at this
        exact this (by decide)), a1, ih (p + 1) n (by omega) (by omega)]
theorem r_gp_L (h : RW v w) : ∀ (c : List Nat) (n : Nat), cch w c → (∀ b ∈ c, rowE w b) → c.length < n → m_Ref_gapOf_L13 n v (nI (c.headD 0)) = match tsk w (-1) c with
    | some a => some (.inl (nI a, v))
    | none => some (.inr v) := by
  intro c
  induction c with
  | nil =>
    intro n _ _ h1
    obtain ⟨n, rfl⟩ : ∃ e, n = e + 1 := ⟨n - 1, by omega⟩
    rw [m_Ref_gapOf_L13, if_pos (show nI (([] : List Nat).headD 0) = 0 from rfl)]; rfl
  | cons b r ih =>
    intro n hc hE h1
    rw [List.length_cons] at h1
    obtain ⟨n, rfl⟩ : ∃ e, n = e + 1 := ⟨n - 1, by omega⟩
    obtain ⟨hb, hlv, hnx, hr⟩ := hc
    rw [m_Ref_gapOf_L13, if_neg (nI_ne0 (show 0 < (b :: r).headD 0 from hb.1) (show (b :: r).headD 0 < 2 ^ 31 from Nat.lt_of_le_of_lt hb.2 (by omega))), tsk]
    have hin := r_gp_in h hb.2 (hE b List.mem_cons_self) 6 0 fz (by omega) (by unfold fz; omega)
    have hin' : m_Ref_gapOf_L19 fz v (0 : Int32) (nI ((b :: r).headD 0)) = match fp (pky w b (-1)) 6 0 with
      | some q => some (.inl (nI (9 * b + 3 + q), v))
      | none => some (.inr v) := hin
    rw [hin']
    cases e : fp (pky w b (-1)) 6 0 with
    | some q => rfl
    | none =>
      simp only
      rw [ol0R, show m_Ref_next v (nI ((b :: r).headD 0)) = some (nI (r.headD 0), v) from r_next' h hb.2 hnx, obS, ih n hr (fun b' hb' => hE b' (List.mem_cons_of_mem _ hb')) (by omega)]
theorem r_gapOf (h : RW v w) {k : Nat} (hk : k < 1000) {c : List Nat} (hw : w (k % 8 + 1) = lN (c.headD 0)) (hc : cch w c) (hE : ∀ b ∈ c, rowE w b) (hl : c.length ≤ 30) : m_Ref_gapOf v (nI k) = some (oA (-1) (tsk w (-1) c), v) := by
  rw [m_Ref_gapOf, hd_arith hk, if_pos (inb_n (by omega) (by omega)), nI_clamp (by omega), h _ (by omega), hw, lN_i, r_gp_L h c fz hc hE (by unfold fz; omega)]
  cases tsk w (-1) c with
  | some a => rfl
  | none => rfl
end Ts
