/-! PURE: stores, fences, cuts; class and reference over one abstract memory -/
/-- words; loose stores (address, old word); cut after; mask; stores; down -/
abbrev MM : Type := Mem × List (Nat × Int64) × Int32 × Int32 × Int32 × Int32
def lsC (la : Nat → Int32) (fw : Nat → Int64) (ls : List (Nat × Int64)) : Prop := ∀ i (h : i < ls.length), la i = nI (ls[i].1) ∧ fw i = ls[i].2 ∧ ls[i].1 < 279
def inC (u : SM) (M : MM) : Prop := CW u M.1 ∧ cg_lc u = nI M.2.1.length ∧ M.2.1.length ≤ 9 ∧ lsC (cg_la u) (cg_fw u) M.2.1 ∧ cg_sb u = M.2.2.1 ∧ cg_cm u = M.2.2.2.1 ∧ cg_sc u = M.2.2.2.2.1 ∧ cg_dn u = M.2.2.2.2.2
def inR (v : SR) (M : MM) (br : Int32) : Prop := RW v M.1 ∧ rg_lo v = nI M.2.1.length ∧ M.2.1.length ≤ 9 ∧ lsC (rg_lat v) (rg_old v) M.2.1 ∧ rg_ca v = M.2.2.1 ∧ rg_cm v = M.2.2.2.1 ∧ rg_st v = M.2.2.2.2.1 ∧ rg_dn v = M.2.2.2.2.2 ∧ rg_br v = br
def cutw (cm : Int32) : Nat → List (Nat × Int64) → Mem → Mem
  | _, [], w => w
  | i, q :: r, w => cutw cm (i + 1) r (if bt cm i = false then vp_updL w q.1 q.2 else w)
def stM (M : MM) (a : Nat) (x : Int64) : MM := (vp_updL M.1 a x, M.2.1 ++ [(a, M.1 a)], if M.2.2.1 ≤ 0 then M.2.2.1 else M.2.2.1 - 1, M.2.2.2.1, M.2.2.2.2.1 + 1, M.2.2.2.2.2)
def ctM (M : MM) : MM := (cutw M.2.2.2.1 0 M.2.1 M.1, [], -1, M.2.2.2.1, M.2.2.2.2.1, 1)
def feM (M : MM) : MM := (M.1, [], M.2.2.1, M.2.2.2.1, M.2.2.2.2.1, M.2.2.2.2.2)
theorem CW.upd {u : SM} {w : Mem} (h : CW u w) {u' : SM} {a : Nat} {x : Int64} (e : cg_w u' = vp_updL (cg_w u) a x) : CW u' (vp_updL w a x) := by
  intro j hj
  rw [e]
  unfold vp_updL
  by_cases q : j = a
  · rw [if_pos q, if_pos q]
  · rw [if_neg q, if_neg q]; exact h j hj
theorem RW.upd {u : SR} {w : Mem} (h : RW u w) {u' : SR} {a : Nat} {x : Int64} (e : rg_mem u' = vp_updL (rg_mem u) a x) : RW u' (vp_updL w a x) := by
  intro j hj
  rw [e]
  unfold vp_updL
  by_cases q : j = a
  · rw [if_pos q, if_pos q]
  · rw [if_neg q, if_neg q]; exact h j hj
theorem lsC.push {la : Nat → Int32} {fw : Nat → Int64} {ls : List (Nat × Int64)} (h : lsC la fw ls) {a : Nat} (ha : a < 279) (x : Int64) : lsC (upd la ls.length (nI a)) (vp_updL fw ls.length x) (ls ++ [(a, x)]) := by
  intro i hi
  rw [List.length_append] at hi
  simp only [List.length_cons, List.length_nil] at hi
  by_cases e : i = ls.length
  · subst e
    unfold upd vp_updL
    rw [if_pos rfl, if_pos rfl]
    simp [ha]
  · have hi2 : i < ls.length := by omega
    unfold upd vp_updL
    rw [if_neg e, if_neg e, List.getElem_append_left hi2]
    exact h i hi2
section Cut
theorem c_cut_L : ∀ (r pre : List (Nat × Int64)) (u : SM) (w : Mem) (n : Nat), CW u w → lsC (cg_la u) (cg_fw u) (pre ++ r) → cg_lc u = nI (pre ++ r).length → (pre ++ r).length ≤ 9 → r.length < n →
    ∃ u1, m_Memory_cutPower_L2 n u (nI pre.length) = some (.inr u1) ∧ CW u1 (cutw (cg_cm u) pre.length r w) ∧ cg_cm u1 = cg_cm u ∧ cg_sc u1 = cg_sc u := by
  intro r
  induction r with
  | nil =>
    intro pre u w n hw hl hc h9 hn
    obtain ⟨n, rfl⟩ : ∃ m, n = m + 1 := ⟨n - 1, by omega⟩
    refine ⟨u, ?_, hw, rfl, rfl⟩
    rw [m_Memory_cutPower_L2, hc, if_pos]
    rw [List.append_nil]
    exact nI_le (Nat.le_refl _) (by rw [List.append_nil] at h9; omega)
  | cons q r ih =>
    intro pre u w n hw hl hc h9 hn
    obtain ⟨n, rfl⟩ : ∃ m, n = m + 1 := ⟨n - 1, by omega⟩
    have hlen : (pre ++ q :: r).length = pre.length + r.length + 1 := by simp; omega
    have hp : pre.length < (pre ++ q :: r).length := by omega
    have hq := hl pre.length hp
    have eq1 : (pre ++ q :: r)[pre.length] = q := by simp
    rw [eq1] at hq
    simp only [List.length_cons] at hn
    rw [m_Memory_cutPower_L2, hc, if_neg (nI_ge hp (by omega))]
    by_cases hb : bt (cg_cm u) pre.length = false
    · rw [if_pos ((bitU _ (by omega)).mpr hb), if_pos (inb_n (by omega) (by omega)), if_pos (inb_n (by omega) (by omega)), nI_clamp (by omega), hq.1, hq.2.1, if_pos (inb_n hq.2.2 (by omega)), nI_clamp (by have := hq.2.2; omega), a1]
      obtain ⟨u1, h1, h2, h3, h4⟩ := ih (pre ++ [q]) (cs_w u (vp_updL (cg_w u) q.1 q.2)) (vp_updL w q.1 q.2) n (hw.upd rfl) (by rw [List.append_assoc]; exact hl) (by rw [List.append_assoc]; exact hc) (by rw [List.append_assoc]; exact h9) (by omega)
      refine ⟨u1, ?_, ?_, h3, h4⟩
      · rw [List.length_append] at h1; exact h1
      · rw [cutw, if_pos hb]
        rw [List.length_append] at h2; exact h2
    · rw [if_neg (fun z => hb ((bitU _ (by omega)).mp z)), a1]
      obtain ⟨u1, h1, h2, h3, h4⟩ := ih (pre ++ [q]) u w n hw (by rw [List.append_assoc]; exact hl) (by rw [List.append_assoc]; exact hc) (by rw [List.append_assoc]; exact h9) (by omega)
      refine ⟨u1, ?_, ?_, h3, h4⟩
      · rw [List.length_append] at h1; exact h1
      · rw [cutw, if_neg hb]
        rw [List.length_append] at h2; exact h2
theorem c_cut {u : SM} {M : MM} (h : inC u M) : ∃ u1, m_Memory_cutPower u = some ((), u1) ∧ inC u1 (ctM M) := by
  obtain ⟨u1, h1, h2, h3, h4⟩ := c_cut_L M.2.1 [] u M.1 fz h.1 h.2.2.2.1 h.2.1 h.2.2.1 (by have := h.2.2.1; unfold fz; omega)
  refine ⟨(cs_dn (cs_sb (cs_lc u1 (0 : Int32)) (-1 : Int32)) (1 : Int32)), ?_, ?_, rfl, Nat.zero_le _, fun i hi => absurd hi (Nat.not_lt_zero i), rfl, ?_, ?_, rfl⟩
  · have h1' : m_Memory_cutPower_L2 fz u (nI 0) = some (Sum.inr u1) := h1
    unfold m_Memory_cutPower
    rw [nI_lit0, h1', ol0R]
  · intro j hj
    have := h2 j hj
    rw [h.2.2.2.2.2.1] at this
    exact this
  · show cg_cm u1 = _
    rw [h3]; exact h.2.2.2.2.2.1
  · show cg_sc u1 = _
    rw [h4]; exact h.2.2.2.2.2.2.1
theorem c_store_cut {u : SM} {M : MM} (h : inC u M) (hs : M.2.2.1 = 0) (a : Int32) (x : Int64) : ∃ u1, m_Memory_store u a x = some (0, u1) ∧ inC u1 (ctM M) := by
  obtain ⟨u1, h1, h2⟩ := c_cut h
  refine ⟨u1, ?_, h2⟩
  unfold m_Memory_store
  rw [h.2.2.2.2.1, hs, if_pos rfl, h1, obS]
theorem c_store_ok {u : SM} {M : MM} (h : inC u M) (hs : M.2.2.1 ≠ 0) {a : Nat} (ha : a < 279) (hl : M.2.1.length < 9) (x : Int64) : ∃ u1, m_Memory_store u (nI a) x = some (1, u1) ∧ inC u1 (stM M a x) := by
  obtain ⟨hw, hlc, h9, hls, hsb, hcm, hsc, hdn⟩ := h
  have key : ∀ (u' : SM), cg_w u' = cg_w u → cg_lc u' = cg_lc u → cg_la u' = cg_la u → cg_fw u' = cg_fw u → cg_cm u' = cg_cm u → cg_sc u' = cg_sc u → cg_dn u' = cg_dn u → cg_sb u' = (if M.2.2.1 ≤ 0 then M.2.2.1 else M.2.2.1 - 1) →
      ∃ u1, m_Memory_store_J30 u' (nI a) x = some (1, u1) ∧ inC u1 (stM M a x) := by
    intro u' e1 e2 e3 e4 e5 e6 e7 e8
    refine ⟨(cs_sc (cs_w (cs_lc (cs_fw (cs_la u' (upd (cg_la u) M.2.1.length (nI a))) (vp_updL (cg_fw u) M.2.1.length (M.1 a))) (nI (M.2.1.length + 1))) (vp_updL (cg_w u) a x)) (cg_sc u + 1)), ?_, ?_⟩
    · unfold m_Memory_store_J30
      rw [if_neg (nI_pos (by omega)), if_neg (by rw [show (279 : Int32) = nI 279 from rfl]; exact nI_ge ha (by omega)), e2, hlc, if_neg (by rw [show (9 : Int32) = nI 9 from rfl]; exact nI_ge hl (by omega)), if_pos (inb_n hl (by omega)), if_pos (inb_n ha (by omega)), if_pos (inb_n hl (by omega)), if_pos (inb_n ha (by omega)), nI_clamp (by omega), nI_clamp (by omega), e1, e3, e4, e6, hw a ha, a1]
    · refine ⟨?_, ?_, ?_, ?_, e8, ?_, ?_, ?_⟩
      · exact hw.upd (u' := _) rfl
      · show nI (M.2.1.length + 1) = nI (M.2.1 ++ [(a, M.1 a)]).length
        simp
      · show (M.2.1 ++ [(a, M.1 a)]).length ≤ 9
        simp; omega
      · exact hls.push ha (M.1 a)
      · show cg_cm u' = _
        rw [e5]; exact hcm
      · show cg_sc u + 1 = M.2.2.2.2.1 + 1
        rw [hsc]
      · show cg_dn u' = _
        rw [e7]; exact hdn
  unfold m_Memory_store
  rw [hsb, if_neg hs]
  by_cases h0 : M.2.2.1 ≤ 0
  · rw [if_pos h0]
    exact key u rfl rfl rfl rfl rfl rfl rfl (by rw [if_pos h0]; exact hsb)
  · rw [if_neg h0]
    exact key _ rfl rfl rfl rfl rfl rfl rfl (by rw [if_neg h0]; rfl)
theorem c_fence {u : SM} {M : MM} (h : inC u M) : ∃ u1, m_Memory_fence u = some ((), u1) ∧ inC u1 (feM M) := by
  obtain ⟨hw, hlc, h9, hls, hsb, hcm, hsc, hdn⟩ := h
  exact ⟨_, rfl, hw, rfl, Nat.zero_le _, fun i hi => absurd hi (Nat.not_lt_zero i), hsb, hcm, hsc, hdn⟩
-- reference
theorem r_cut_L : ∀ (r pre : List (Nat × Int64)) (u : SR) (w : Mem) (n : Nat), RW u w → lsC (rg_lat u) (rg_old u) (pre ++ r) → rg_lo u = nI (pre ++ r).length → (pre ++ r).length ≤ 9 → r.length < n →
    ∃ u1, m_Ref_cutNow_L2 n u (nI pre.length) = some (.inr u1) ∧ RW u1 (cutw (rg_cm u) pre.length r w) ∧ rg_cm u1 = rg_cm u ∧ rg_st u1 = rg_st u := by
  intro r
  induction r with
  | nil =>
    intro pre u w n hw hl hc h9 hn
    obtain ⟨n, rfl⟩ : ∃ m, n = m + 1 := ⟨n - 1, by omega⟩
    refine ⟨u, ?_, hw, rfl, rfl⟩
    rw [m_Ref_cutNow_L2, hc, if_pos]
    rw [List.append_nil]
    exact nI_le (Nat.le_refl _) (by rw [List.append_nil] at h9; omega)
  | cons q r ih =>
    intro pre u w n hw hl hc h9 hn
    obtain ⟨n, rfl⟩ : ∃ m, n = m + 1 := ⟨n - 1, by omega⟩
    have hlen : (pre ++ q :: r).length = pre.length + r.length + 1 := by simp; omega
    have hp : pre.length < (pre ++ q :: r).length := by omega
    have hq := hl pre.length hp
    have eq1 : (pre ++ q :: r)[pre.length] = q := by simp
    rw [eq1] at hq
    simp only [List.length_cons] at hn
    rw [m_Ref_cutNow_L2, hc, if_neg (nI_ge hp (by omega))]
    by_cases hb : bt (rg_cm u) pre.length = false
    · rw [if_pos ((bitS _ (by omega)).mpr hb), if_pos (inb_n (by omega) (by omega)), if_pos (inb_n (by omega) (by omega)), nI_clamp (by omega), hq.1, hq.2.1, if_pos (inb_n hq.2.2 (by omega)), nI_clamp (by have := hq.2.2; omega), a1]
      obtain ⟨u1, h1, h2, h3, h4⟩ := ih (pre ++ [q]) (rs_mem u (vp_updL (rg_mem u) q.1 q.2)) (vp_updL w q.1 q.2) n (hw.upd rfl) (by rw [List.append_assoc]; exact hl) (by rw [List.append_assoc]; exact hc) (by rw [List.append_assoc]; exact h9) (by omega)
      refine ⟨u1, ?_, ?_, h3, h4⟩
      · rw [List.length_append] at h1; exact h1
      · rw [cutw, if_pos hb]
        rw [List.length_append] at h2; exact h2
    · rw [if_neg (fun z => hb ((bitS _ (by omega)).mp z)), a1]
      obtain ⟨u1, h1, h2, h3, h4⟩ := ih (pre ++ [q]) u w n hw (by rw [List.append_assoc]; exact hl) (by rw [List.append_assoc]; exact hc) (by rw [List.append_assoc]; exact h9) (by omega)
      refine ⟨u1, ?_, ?_, h3, h4⟩
      · rw [List.length_append] at h1; exact h1
      · rw [cutw, if_neg hb]
        rw [List.length_append] at h2; exact h2
theorem r_cut {u : SR} {M : MM} {br : Int32} (h : inR u M br) : ∃ u1, m_Ref_cutNow u = some ((), u1) ∧ inR u1 (ctM M) 1 := by
  obtain ⟨u1, h1, h2, h3, h4⟩ := r_cut_L M.2.1 [] u M.1 fz h.1 h.2.2.2.1 h.2.1 h.2.2.1 (by have := h.2.2.1; unfold fz; omega)
  refine ⟨(rs_br (rs_dn (rs_ca (rs_lo u1 (0 : Int32)) (-1 : Int32)) (1 : Int32)) (1 : Int32)), ?_, ?_, ?_, Nat.zero_le _, fun i hi => absurd hi (Nat.not_lt_zero i), ?_, ?_, ?_, ?_, ?_⟩
  · have h1' : m_Ref_cutNow_L2 fz u (nI 0) = some (Sum.inr u1) := h1
    unfold m_Ref_cutNow
    rw [nI_lit0, h1', ol0R]
  · intro j hj
    have := h2 j hj
    rw [h.2.2.2.2.2.1] at this
    exact this
  · rfl
  · rfl
  · show rg_cm u1 = _
    rw [h3]; exact h.2.2.2.2.2.1
  · show rg_st u1 = _
    rw [h4]; exact h.2.2.2.2.2.2.1
  · rfl
  · rfl
theorem r_store_brk {u : SR} (h : rg_br u ≠ 0) (a : Int32) (x : Int64) : m_Ref_store u a x = some ((), u) := by
  unfold m_Ref_store m_Ref_store_J18
  rw [if_neg h, if_neg h]
  by_cases e : rg_ca u = 0
  · rw [if_pos e]
  · rw [if_neg e]
theorem r_store_cut {u : SR} {M : MM} (h : inR u M 0) (hs : M.2.2.1 = 0) (a : Int32) (x : Int64) : ∃ u1, m_Ref_store u a x = some ((), u1) ∧ inR u1 (ctM M) 1 := by
  obtain ⟨u1, h1, h2⟩ := r_cut h
  refine ⟨u1, ?_, h2⟩
  unfold m_Ref_store
  rw [h.2.2.2.2.1, hs, if_pos rfl, h.2.2.2.2.2.2.2.2, if_pos rfl, h1, obS]
  unfold m_Ref_store_J18
  rw [if_neg (by rw [h2.2.2.2.2.2.2.2.2]; decide)]
theorem r_store_ok {u : SR} {M : MM} (h : inR u M 0) (hs : M.2.2.1 ≠ 0) {a : Nat} (ha : a < 279) (hl : M.2.1.length < 9) (x : Int64) : ∃ u1, m_Ref_store u (nI a) x = some ((), u1) ∧ inR u1 (stM M a x) 0 := by
  obtain ⟨hw, hlc, h9, hls, hsb, hcm, hsc, hdn, hbr⟩ := h
  have key : ∀ (sb : Int32), sb = (if M.2.2.1 ≤ 0 then M.2.2.1 else M.2.2.1 - 1) → ∃ u1, m_Ref_store_J46 u (nI a) x sb = some ((), u1) ∧ inR u1 (stM M a x) 0 := by
    intro sb e8
    refine ⟨(rs_st (rs_mem (rs_lo (rs_old (rs_lat (rs_ca u sb) (upd (rg_lat u) M.2.1.length (nI a))) (vp_updL (rg_old u) M.2.1.length (M.1 a))) (nI (M.2.1.length + 1))) (vp_updL (rg_mem u) a x)) (rg_st u + 1)), ?_, ?_⟩
    · unfold m_Ref_store_J46
      rw [hlc, if_pos (inb_n (by omega) (by omega)), if_pos (inb_n ha (by omega)), if_pos (inb_n (by omega) (by omega)), if_pos (inb_n ha (by omega)), nI_clamp (by omega), nI_clamp (by omega), hw a ha, a1]
    · refine ⟨?_, ?_, ?_, ?_, e8, hcm, ?_, hdn, hbr⟩
      · exact hw.upd (u' := _) rfl
      · show nI (M.2.1.length + 1) = nI (M.2.1 ++ [(a, M.1 a)]).length
        simp
      · show (M.2.1 ++ [(a, M.1 a)]).length ≤ 9
        simp; omega
      · exact hls.push ha (M.1 a)
      · show rg_st u + 1 = M.2.2.2.2.1 + 1
        rw [hsc]
  unfold m_Ref_store m_Ref_store_J18
  rw [hsb, if_neg hs, hbr, if_pos rfl]
  by_cases h0 : M.2.2.1 ≤ 0
  · rw [if_pos h0]
    exact key _ (by rw [if_pos h0])
  · rw [if_neg h0]
    exact key _ (by rw [if_neg h0])
theorem r_fence {u : SR} {M : MM} {br : Int32} (h : inR u M br) : ∃ u1, m_Ref_fence u = some ((), u1) ∧ inR u1 (feM M) br := by
  obtain ⟨hw, hlc, h9, hls, hsb, hcm, hsc, hdn, hbr⟩ := h
  exact ⟨_, rfl, hw, rfl, Nat.zero_le _, fun i hi => absurd hi (Nat.not_lt_zero i), hsb, hcm, hsc, hdn, hbr⟩
end Cut
/-! outcomes: .inl: a cut came; .inr: went through -/
def firmM (M : MM) (a : Nat) (x : Int64) : MM ⊕ MM := if M.2.2.1 = 0 then .inl (ctM M) else .inr (feM (stM M a x))
def okC (res : Option (Int32 × SM)) (o : MM ⊕ MM) : Prop := ∃ u1, match o with
  | .inl M => res = some (0, u1) ∧ inC u1 M
  | .inr M => res = some (1, u1) ∧ inC u1 M
def okR (res : Option (Unit × SR)) (o : MM ⊕ MM) : Prop := ∃ u1, res = some ((), u1) ∧ match o with
  | .inl M => inR u1 M 1
  | .inr M => inR u1 M 0
theorem c_firm {u : SM} {M : MM} (h : inC u M) (h0 : M.2.1 = []) {a : Nat} (ha : a < 279) (x : Int64) : okC (m_Memory_firmStore u (nI a) x) (firmM M a x) := by
  unfold firmM m_Memory_firmStore
  by_cases e : M.2.2.1 = 0
  · rw [if_pos e]
    obtain ⟨u1, h1, h2⟩ := c_store_cut h e (nI a) x
    exact ⟨u1, by rw [h1, obS, if_pos rfl], h2⟩
  · rw [if_neg e]
    obtain ⟨u1, h1, h2⟩ := c_store_ok h e ha (by rw [h0]; simp) x
    obtain ⟨u2, h3, h4⟩ := c_fence h2
    exact ⟨u2, by rw [h1, obS, if_neg (by decide), h3, obS], h4⟩
theorem r_firm {u : SR} {M : MM} (h : inR u M 0) (h0 : M.2.1 = []) {a : Nat} (ha : a < 279) (x : Int64) : okR (m_Ref_firm u (nI a) x) (firmM M a x) := by
  unfold firmM m_Ref_firm
  by_cases e : M.2.2.1 = 0
  · rw [if_pos e]
    obtain ⟨u1, h1, h2⟩ := r_store_cut h e (nI a) x
    obtain ⟨u2, h3, h4⟩ := r_fence h2
    exact ⟨u2, by rw [h1, obS, h3, obS], h4⟩
  · rw [if_neg e]
    obtain ⟨u1, h1, h2⟩ := r_store_ok h e ha (by rw [h0]; simp) x
    obtain ⟨u2, h3, h4⟩ := r_fence h2
    exact ⟨u2, by rw [h1, obS, h3, obS], h4⟩
/-- behind a cut the reference's stores do nothing that shows -/
theorem r_firm_brk {u : SR} {M : MM} (h : inR u M 1) (h0 : M.2.1 = []) (a : Int32) (x : Int64) : ∃ u1, m_Ref_firm u a x = some ((), u1) ∧ inR u1 M 1 := by
  unfold m_Ref_firm
  rw [r_store_brk (by rw [h.2.2.2.2.2.2.2.2]; decide), obS]
  obtain ⟨u2, h3, h4⟩ := r_fence h
  refine ⟨u2, by rw [h3, obS], ?_⟩
  have : feM M = M := by
    obtain ⟨w, ls, s1, s2, s3, s4⟩ := M
    simp only at h0
    subst h0; rfl
  rw [this] at h4
  exact h4
