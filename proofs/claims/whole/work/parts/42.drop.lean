/-! PURE: drop -/
def drL (w : Mem) (b : Nat) : Nat → Nat → List (Nat × Int64)
  | 0, _ => []
  | n + 1, i => if i + 1 < 6 ∧ w (9 * b + 3 + (i + 1)) ≠ 0 then (9 * b + 3 + i, w (9 * b + 3 + (i + 1))) :: drL w b n (i + 1) else [(9 * b + 3 + i, 0)]
section Dr
variable {b : Nat} {w : Mem}
theorem c_dr_L (hb : b ≤ 30) : ∀ (d i n : Nat) (u : SM) (M : MM), i + d = 6 → 0 < d → d < n → inC u M → M.2.1 = [] → (∀ q, i < q → q < 6 → M.1 (9 * b + 3 + q) = w (9 * b + 3 + q)) →
    ∃ u1, match fsM (drL w b d i) M with
      | .inl M' => m_Tree_dropPlace_L2 n u (nI i) (nI b) = some (.inl (0, u1)) ∧ inC u1 M'
      | .inr M' => m_Tree_dropPlace_L2 n u (nI i) (nI b) = some (.inl (1, u1)) ∧ inC u1 M' := by
  intro d
  induction d with
  | zero => intro i n u M _ h; omega
  | succ d ih =>
    intro i n u M hi _ hn h h0 hw
    obtain ⟨n, rfl⟩ : ∃ m, n = m + 1 := ⟨n - 1, by omega⟩
    have em : m_Tree_dropPlace_L2 (n + 1) u (nI i) (nI b) = ob (m_Memory_firmStore u (nI (9 * b + 3 + i)) (if i + 1 < 6 then w (9 * b + 3 + (i + 1)) else 0)) (fun r17 u18 => if r17 = 0 then (some (.inl ((0 : Int32), u18))) else (if (lg_cmp (if i + 1 < 6 then w (9 * b + 3 + (i + 1)) else 0) (0 : Int64)) = 0 then (some (.inl ((1 : Int32), u18))) else (m_Tree_dropPlace_L2 n u18 (nI (i + 1)) (nI b)))) := by
      rw [m_Tree_dropPlace_L2, if_neg (by rw [show (6 : Int32) = nI 6 from rfl]; exact nI_ge (by omega) (by omega)), a1]
      by_cases e6 : i + 1 < 6
      · rw [if_neg (by rw [show (6 : Int32) = nI 6 from rfl]; exact nI_ge (by omega) (by omega)), c_entry h.1 hb (by omega), obS, hw (i + 1) (by omega) e6, c_place, obS, if_pos e6]
      · rw [if_pos (by rw [show (6 : Int32) = nI 6 from rfl]; exact nI_le (by omega) (by omega)), c_place, obS, if_neg e6]
    by_cases ec : i + 1 < 6 ∧ w (9 * b + 3 + (i + 1)) ≠ 0
    · rw [if_pos ec.1] at em
      have hdr : drL w b (d + 1) i = (9 * b + 3 + i, w (9 * b + 3 + (i + 1))) :: drL w b d (i + 1) := by rw [drL, if_pos ec]
      rw [hdr, em, fsM]
      obtain ⟨u1, hu⟩ := c_firm h h0 (a := 9 * b + 3 + i) (by omega) (w (9 * b + 3 + (i + 1)))
      simp only
      cases ef : firmM M (9 * b + 3 + i) (w (9 * b + 3 + (i + 1))) with
      | inl M' => rw [ef] at hu; exact ⟨u1, by rw [hu.1, obS, if_pos rfl], hu.2⟩
      | inr M' =>
        rw [ef] at hu
        have hn2 := firmM_nil ef
        obtain ⟨u2, hu2⟩ := ih (i + 1) n u1 M' (by omega) (by omega) (by omega) hu.2 hn2.1 (fun q h1 h2 => by
          rw [hn2.2]; unfold vp_updL; rw [if_neg (by omega)]; exact hw q (by omega) h2)
        refine ⟨u2, ?_⟩
        simp only
        rw [hu.1, obS, if_neg (by decide), if_neg (fun q => ec.2 (cmp_eq.mp q))]
        exact hu2
    · have hX : (if i + 1 < 6 then w (9 * b + 3 + (i + 1)) else 0) = 0 := by
        by_cases e6 : i + 1 < 6
        · rw [if_pos e6]
          rcases Classical.em (w (9 * b + 3 + (i + 1)) = 0) with q | q
          · exact q
          · exact absurd ⟨e6, q⟩ ec
        · rw [if_neg e6]
      rw [hX] at em
      have hdr : drL w b (d + 1) i = [(9 * b + 3 + i, 0)] := by rw [drL, if_neg ec]
      rw [hdr, em, fsM_one]
      obtain ⟨u1, hu⟩ := c_firm h h0 (a := 9 * b + 3 + i) (by omega) 0
      refine ⟨u1, ?_⟩
      cases ef : firmM M (9 * b + 3 + i) 0 with
      | inl M' => rw [ef] at hu; exact ⟨by rw [hu.1, obS, if_pos rfl], hu.2⟩
      | inr M' => rw [ef] at hu; exact ⟨by rw [hu.1, obS, if_neg (by decide), if_pos (cmp_eq.mpr rfl)], hu.2⟩
theorem c_drop {u : SM} {M : MM} {p : Nat} (h : inC u M) (h0 : M.2.1 = []) (hb : b ≤ 30) (hp : p < 6) : okC (m_Tree_dropPlace u (nI b) (nI p)) (fsM (drL M.1 b (6 - p) p) M) := by
  obtain ⟨u1, hu⟩ := c_dr_L (b := b) (w := M.1) hb (6 - p) p fz u M (by omega) (by omega) (by unfold fz; omega) h h0 (fun _ _ _ => rfl)
  refine ⟨u1, ?_⟩
  unfold m_Tree_dropPlace
  cases ef : fsM (drL M.1 b (6 - p) p) M with
  | inl M' => rw [ef] at hu; exact ⟨by rw [hu.1, ol0I]; rfl, hu.2⟩
  | inr M' => rw [ef] at hu; exact ⟨by rw [hu.1, ol0I]; rfl, hu.2⟩
theorem r_dr_brk (hb : b ≤ 30) {M : MM} (h0 : M.2.1 = []) : ∀ (d i n : Nat) (v : SR) (x : Int64), i + d = 6 → d < n → inR v M 1 → (d = 0 → x = 0) → ∃ v1, m_Ref_drop_L5 n v (nI i) x (nI b) = some (.inr v1) ∧ inR v1 M 1 := by
  intro d
  induction d with
  | zero =>
    intro i n v x hi hn h hx
    obtain ⟨n, rfl⟩ : ∃ m, n = m + 1 := ⟨n - 1, by omega⟩
    exact ⟨v, by rw [m_Ref_drop_L5, if_pos (cmp_eq.mpr (hx rfl))], h⟩
  | succ d ih =>
    intro i n v x hi hn h hx
    obtain ⟨n, rfl⟩ : ∃ m, n = m + 1 := ⟨n - 1, by omega⟩
    rw [m_Ref_drop_L5]
    by_cases e : x = 0
    · exact ⟨v, by rw [if_pos (cmp_eq.mpr e)], h⟩
    · rw [if_neg (fun q => e (cmp_eq.mp q)), a1]
      by_cases e6 : i + 1 < 6
      · rw [r_at h.1 hb e6, obS]
        obtain ⟨v1, q1, q2⟩ := r_firm_brk h h0 ((9 : Int32) * nI b + (3 : Int32) + nI i) (M.1 (9 * b + 3 + (i + 1)))
        obtain ⟨v2, q3, q4⟩ := ih (i + 1) n v1 (M.1 (9 * b + 3 + (i + 1))) (by omega) (by omega) q2 (fun q => by omega)
        exact ⟨v2, by rw [q1, obS]; exact q3, q4⟩
      · rw [r_at6 (p := i + 1) (by omega) (by omega), obS]
        obtain ⟨v1, q1, q2⟩ := r_firm_brk h h0 ((9 : Int32) * nI b + (3 : Int32) + nI i) 0
        obtain ⟨v2, q3, q4⟩ := ih (i + 1) n v1 0 (by omega) (by omega) q2 (fun _ => rfl)
        exact ⟨v2, by rw [q1, obS]; exact q3, q4⟩
theorem r_dr_end {n : Nat} {v : SR} {i : Int32} {c : Int32} (hn : 0 < n) : m_Ref_drop_L5 n v i (0 : Int64) c = some (.inr v) := by
  obtain ⟨n, rfl⟩ : ∃ m, n = m + 1 := ⟨n - 1, by omega⟩
  rw [m_Ref_drop_L5, if_pos (cmp_eq.mpr rfl)]
theorem r_dr_L (hb : b ≤ 30) : ∀ (d i n : Nat) (v : SR) (M : MM) (x : Int64), i + d = 6 → 0 < d → d + 1 < n → x ≠ 0 → inR v M 0 → M.2.1 = [] → (∀ q, i < q → q < 6 → M.1 (9 * b + 3 + q) = w (9 * b + 3 + q)) →
    ∃ v1, m_Ref_drop_L5 n v (nI i) x (nI b) = some (.inr v1) ∧ match fsM (drL w b d i) M with
      | .inl M' => inR v1 M' 1
      | .inr M' => inR v1 M' 0 := by
  intro d
  induction d with
  | zero => intro i n v M x _ h; omega
  | succ d ih =>
    intro i n v M x hi _ hn hx h h0 hw
    obtain ⟨n, rfl⟩ : ∃ m, n = m + 1 := ⟨n - 1, by omega⟩
    have em : m_Ref_drop_L5 (n + 1) v (nI i) x (nI b) = ob (m_Ref_firm v (nI (9 * b + 3 + i)) (if i + 1 < 6 then w (9 * b + 3 + (i + 1)) else 0)) (fun _ u6 => m_Ref_drop_L5 n u6 (nI (i + 1)) (if i + 1 < 6 then w (9 * b + 3 + (i + 1)) else 0) (nI b)) := by
      rw [m_Ref_drop_L5, if_neg (fun q => hx (cmp_eq.mp q)), a1, pl_addr']
      by_cases e6 : i + 1 < 6
      · rw [r_at h.1 hb e6, obS, hw (i + 1) (by omega) e6, if_pos e6]
      · rw [r_at6 (p := i + 1) (by omega) (by omega), obS, if_neg e6]
    by_cases ec : i + 1 < 6 ∧ w (9 * b + 3 + (i + 1)) ≠ 0
    · rw [if_pos ec.1] at em
      have hdr : drL w b (d + 1) i = (9 * b + 3 + i, w (9 * b + 3 + (i + 1))) :: drL w b d (i + 1) := by rw [drL, if_pos ec]
      obtain ⟨v1, hv1, hv⟩ := r_firm h h0 (a := 9 * b + 3 + i) (by omega) (w (9 * b + 3 + (i + 1)))
      rw [hdr, em, fsM, hv1, obS]
      simp only
      cases ef : firmM M (9 * b + 3 + i) (w (9 * b + 3 + (i + 1))) with
      | inl M' =>
        rw [ef] at hv
        have hM' : M'.2.1 = [] := by rw [firmM_cut ef]; rfl
        exact r_dr_brk hb hM' d (i + 1) n v1 _ (by omega) (by omega) hv (fun q => by omega)
      | inr M' =>
        rw [ef] at hv
        have hn2 := firmM_nil ef
        exact ih (i + 1) n v1 M' _ (by omega) (by omega) (by omega) ec.2 hv hn2.1 (fun q h1 h2 => by
          rw [hn2.2]; unfold vp_updL; rw [if_neg (by omega)]; exact hw q (by omega) h2)
    · have hX : (if i + 1 < 6 then w (9 * b + 3 + (i + 1)) else 0) = 0 := by
        by_cases e6 : i + 1 < 6
        · rw [if_pos e6]
          rcases Classical.em (w (9 * b + 3 + (i + 1)) = 0) with q | q
          · exact q
          · exact absurd ⟨e6, q⟩ ec
        · rw [if_neg e6]
      rw [hX] at em
      have hdr : drL w b (d + 1) i = [(9 * b + 3 + i, 0)] := by rw [drL, if_neg ec]
      obtain ⟨v1, hv1, hv⟩ := r_firm h h0 (a := 9 * b + 3 + i) (by omega) 0
      rw [hdr, em, fsM_one]
      exact ⟨v1, by rw [hv1, obS, r_dr_end (by omega)], hv⟩
theorem r_drop {v : SR} {M : MM} {p : Nat} (h : inR v M 0) (h0 : M.2.1 = []) (hb : b ≤ 30) (hp : p < 6) : okR (m_Ref_drop v (nI b) (nI p)) (fsM (drL M.1 b (6 - p) p) M) := by
  obtain ⟨v1, hv1, hv⟩ := r_dr_L (b := b) (w := M.1) hb (6 - p) p fz v M 1 (by omega) (by omega) (by unfold fz; omega) (by decide) h h0 (fun _ _ _ => rfl)
  refine ⟨v1, ?_, hv⟩
  unfold m_Ref_drop
  rw [hv1, ol0R]
end Dr
