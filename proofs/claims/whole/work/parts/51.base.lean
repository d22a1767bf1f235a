/-! PURE: the bundle of what always holds; raise -/
def HR (w : Mem) (hs : Nat → List Nat) : Prop := ∀ h, 1 ≤ h → h ≤ 8 → (∀ b ∈ hs h, ∀ p, p < 6 → w (9 * b + 3 + p) = 0 ∨ ∃ (k : Nat) (v : Int32), w (9 * b + 3 + p) = ent k v ∧ k < 1000 ∧ k % 8 + 1 = h) ∧
  ∀ b b' p p', b ∈ hs h → b' ∈ hs h → p < 6 → p' < 6 → w (9 * b + 3 + p) ≠ 0 → w (9 * b' + 3 + p') ≠ 0 → kp w b p = kp w b' p' → b = b' ∧ p = p'
def Base (w : Mem) (cs : List (List Nat)) (hs : Nat → List Nat) : Prop := TS w cs ∧ T2 cs ∧ HC w hs ∧ HR w hs ∧ (bls cs hs).Nodup
theorem HR.congr {w w' : Mem} {hs : Nat → List Nat} (H : HR w hs) (h : ∀ b ∈ hsA hs, sb w w' b) : HR w' hs := by
  intro a h1 h2
  have hb : ∀ b ∈ hs a, sb w w' b := fun b q => h b (hsA_mem.mpr ⟨a, h1, h2, q⟩)
  refine ⟨fun b q p hp => ?_, fun b b' p p' q q' hp hp' n1 n2 e => ?_⟩
  · rw [(hb b q).pl hp]; exact (H a h1 h2).1 b q p hp
  · rw [(hb b q).pl hp] at n1
    rw [(hb b' q').pl hp'] at n2
    rw [(hb b q).kp hp, (hb b' q').kp hp'] at e
    exact (H a h1 h2).2 b b' p p' q q' hp hp' n1 n2 e
theorem cnt_one {f g : Nat → Bool} {k : Nat} : ∀ n, k < n → (∀ i, i < n → i ≠ k → f i = g i) → f k = true → g k = false → cnt g n + 1 = cnt f n := by
  intro n
  induction n with
  | zero => intro h; omega
  | succ n ih =>
    intro hk h h1 h2
    unfold cnt
    by_cases e : k = n
    · subst e
      rw [h1, h2, cnt_congr k (fun i hi => h i (by omega) (by omega))]
      simp
    · rw [← ih (by omega) (fun i hi => h i (by omega)) h1 h2, h n (by omega) (fun q => e q.symm)]
      omega
theorem frN_add {B B' : List Nat} {k : Nat} (h : ∀ b, b ∈ B' ↔ b ∈ B ∨ b = k) (hk : 1 ≤ k ∧ k ≤ 30) (hn : k ∉ B) : frN B' + 1 = frN B := by
  unfold frN
  refine cnt_one (k := k - 1) 30 (by omega) ?_ ?_ ?_
  · intro i _ hi
    have : (i + 1 ∈ B') ↔ (i + 1 ∈ B) := by
      rw [h]
      constructor
      · rintro (q | q)
        · exact q
        · omega
      · exact Or.inl
    exact decide_eq_decide.mpr (not_congr this.symm)
  · rw [decide_eq_true_eq, show k - 1 + 1 = k by omega]; exact hn
  · rw [decide_eq_false_iff_not, show k - 1 + 1 = k by omega]
    exact fun z => z ((h k).mpr (Or.inr rfl))
theorem frN_same {B B' : List Nat} (h : ∀ b, b ∈ B' ↔ b ∈ B) : frN B' = frN B := by
  unfold frN
  apply cnt_congr
  intro i _
  exact decide_eq_decide.mpr (not_congr (h _))
theorem csI_flat {cs : List (List Nat)} {L x k : Nat} (hx : x ∈ lvc cs L) : ∀ b, b ∈ (csI cs L x k).flatten ↔ b ∈ cs.flatten ∨ b = k := by
  intro b
  have hL := lvc_in hx
  constructor
  · intro h
    obtain ⟨M, hM, hb⟩ := flat_lvc h
    rw [lvc_csI hL] at hb
    by_cases e : M = L
    · rw [if_pos e, insA_mem hx] at hb
      rcases hb with q | q
      · exact Or.inl (lvc_flat q)
      · exact Or.inr q
    · rw [if_neg e] at hb; exact Or.inl (lvc_flat hb)
  · rintro (h | h)
    · obtain ⟨M, hM, hb⟩ := flat_lvc h
      apply lvc_flat (L := M)
      rw [lvc_csI hL]
      by_cases e : M = L
      · rw [if_pos e, insA_mem hx]; subst e; exact Or.inl hb
      · rw [if_neg e]; exact hb
    · apply lvc_flat (L := L)
      rw [lvc_csI hL, if_pos rfl, insA_mem hx]; exact Or.inr h
theorem bls_add {cs cs' : List (List Nat)} {hs : Nat → List Nat} {k : Nat} (h : ∀ b, b ∈ cs'.flatten ↔ b ∈ cs.flatten ∨ b = k) : ∀ b, b ∈ bls cs' hs ↔ b ∈ bls cs hs ∨ b = k := by
  intro b
  unfold bls
  rw [List.mem_append, List.mem_append, h b]
  constructor
  · rintro ((q | q) | q)
    · exact Or.inl (Or.inl q)
    · exact Or.inr q
    · exact Or.inl (Or.inr q)
  · rintro ((q | q) | q)
    · exact Or.inl (Or.inl q)
    · exact Or.inr q
    · exact Or.inl (Or.inr q)
theorem bls_nd {cs cs' : List (List Nat)} {hs : Nat → List Nat} {k : Nat} (hn : (bls cs hs).Nodup) (hc : cs'.flatten.Nodup) (h : ∀ b, b ∈ cs'.flatten ↔ b ∈ cs.flatten ∨ b = k) (hk : k ∉ bls cs hs) : (bls cs' hs).Nodup := by
  have n := List.nodup_append.mp (show (cs.flatten ++ hsA hs).Nodup from hn)
  refine List.nodup_append.mpr ⟨hc, n.2.1, ?_⟩
  intro a ha b hb e
  subst e
  rcases (h a).mp ha with q | q
  · exact n.2.2 a q a hb rfl
  · subst q; exact hk (List.mem_append_right _ hb)
theorem hs_ne {cs : List (List Nat)} {hs : Nat → List Nat} (hn : (bls cs hs).Nodup) {b x : Nat} (hb : b ∈ hsA hs) (hx : x ∈ cs.flatten) : b ≠ x := fun e => by
  have n := List.nodup_append.mp (show (cs.flatten ++ hsA hs).Nodup from hn)
  exact n.2.2 x hx b hb e.symm
theorem T2_csI {cs : List (List Nat)} {L x k : Nat} (h : T2 cs) (hx : x ∈ lvc cs L) : T2 (csI cs L x k) := by
  intro M hM
  rw [csI_len] at hM
  have hL := lvc_in hx
  rw [lvc_csI hL]
  by_cases e : M = L
  · rw [if_pos e]
    subst e
    have := h M hM
    have : ∀ c : List Nat, c.length ≤ (insA x k c).length := by
      intro c
      induction c with
      | nil => exact Nat.le_refl _
      | cons a r ih =>
        rw [insA]
        by_cases q : a = x
        · rw [if_pos q]; simp
        · rw [if_neg q]; simp; exact ih
    have := this (lvc cs M)
    omega
  · rw [if_neg e]; exact h M hM
theorem csI_new {cs : List (List Nat)} {L x k : Nat} (hL : L < cs.length) (hx : x ∈ lvc cs L) : k ∈ lvc (csI cs L x k) L := by
  rw [lvc_csI hL, if_pos rfl, insA_mem hx]; exact Or.inr rfl
theorem csI_old {cs : List (List Nat)} {L x k : Nat} (hx : x ∈ lvc cs L) {M b : Nat} (hb : b ∈ lvc cs M) : b ∈ lvc (csI cs L x k) M := by
  rw [lvc_csI (lvc_in hx)]
  by_cases e : M = L
  · rw [if_pos e, insA_mem hx]; subst e; exact Or.inl hb
  · rw [if_neg e]; exact hb
theorem csI_cls {cs : List (List Nat)} {L x k : Nat} (hx : x ∈ lvc cs L) {M b : Nat} (hb : b ∈ lvc (csI cs L x k) M) : b ∈ lvc cs M ∨ (M = L ∧ b = k) := by
  rw [lvc_csI (lvc_in hx)] at hb
  by_cases e : M = L
  · rw [if_pos e, insA_mem hx] at hb
    rcases hb with q | q
    · subst e; exact Or.inl q
    · exact Or.inr ⟨e, q⟩
  · rw [if_neg e] at hb; exact Or.inl hb
/-- the base behind a split -/
theorem sp_base {w w' : Mem} {cs : List (List Nat)} {hs : Nat → List Nat} {L x k : Nat} (Bs : Base w cs hs) (hx : x ∈ lvc cs L) (hc : clean w x) (h6 : rl w x = 6) (hk : fst (bls cs hs) k) (S : SpW w w' x k) : Base w' (csI cs L x k) hs ∧ frN (bls (csI cs L x k) hs) + 1 = frN (bls cs hs) := by
  obtain ⟨T, t2, hc1, hr1, hn⟩ := Bs
  have hkn : k ∉ cs.flatten := fun q => hk.2.2.1 (List.mem_append_left _ q)
  have hk30 : 1 ≤ k ∧ k ≤ 30 := ⟨hk.1, hk.2.1⟩
  have T' := sp_TS T hx hc h6 hkn hk30 S
  have hbs : ∀ b ∈ hsA hs, sb w w' b := fun b hb => S.sb (hs_ne hn hb (lvc_flat hx)) (fun e => hk.2.2.1 (by rw [← e]; exact List.mem_append_right _ hb))
  have hx1 := (T.rng (lvc_flat hx)).1
  refine ⟨⟨T', T2_csI t2 hx, hc1.congr (fun a h1 h2 => S.1 a (by omega) (by omega)) hbs, hr1.congr hbs, bls_nd hn T'.2.2.2.1 (csI_flat hx) hk.2.2.1⟩, frN_add (bls_add (csI_flat hx)) hk30 hk.2.2.1⟩
/-- nothing but a free block has changed -/
theorem free_base {w w' : Mem} {cs : List (List Nat)} {hs : Nat → List Nat} {k : Nat} (Bs : Base w cs hs) (hk : fst (bls cs hs) k) (ho : ∀ a, a < 9 * k ∨ 9 * k + 9 ≤ a → w' a = w a) : Base w' cs hs ∧ alk w w' cs ∧ ∀ b ∈ bls cs hs, sb w w' b := by
  obtain ⟨T, t2, hc1, hr1, hn⟩ := Bs
  have hb : ∀ b ∈ bls cs hs, sb w w' b := fun b q => sb_of_out ho (fun e => hk.2.2.1 (by rw [← e]; exact q))
  have hT : ∀ b ∈ cs.flatten, sb w w' b := fun b q => hb b (List.mem_append_left _ q)
  have hH : ∀ b ∈ hsA hs, sb w w' b := fun b q => hb b (List.mem_append_right _ q)
  have hk1 := hk.1
  refine ⟨⟨T.congr (ho 0 (by omega)) hT, t2, hc1.congr (fun a h1 h2 => ho a (by omega)) hH, hr1.congr hH, hn⟩, ⟨fun b q => (hT b q).lo, fun M _ b q => ?_⟩, hb⟩
  have hsb := hT b (lvc_flat q)
  refine ksB_sb hsb ?_
  have e1 : nxN w' b = nxN w b := by unfold nxN; rw [hsb 1 (by omega)]
  unfold ubd
  rw [e1]
  rcases T.nx q with z | z
  · rw [if_pos z, if_pos z]
  · rw [(hT _ (lvc_flat z)).lo]
