/-! PURE: what the memory is behind stores, with a cut or without -/
def apl : List (Nat × Int64) → Mem → Mem
  | [], w => w
  | q :: r, w => apl r (vp_updL w q.1 q.2)
theorem apl_app (l1 l2 : List (Nat × Int64)) : ∀ w, apl (l1 ++ l2) w = apl l2 (apl l1 w) := by
  induction l1 with
  | nil => intro w; rfl
  | cons q r ih => intro w; exact ih _
theorem apl_out {l : List (Nat × Int64)} {a : Nat} : ∀ {w : Mem}, (∀ q ∈ l, q.1 ≠ a) → apl l w a = w a := by
  induction l with
  | nil => intro w _; rfl
  | cons q r ih =>
    intro w h
    show apl r (vp_updL w q.1 q.2) a = w a
    rw [ih (fun z hz => h z (List.mem_cons_of_mem _ hz))]
    unfold vp_updL
    rw [if_neg (fun e => h q List.mem_cons_self e.symm)]
theorem cut0 (cm : Int32) (i : Nat) (w : Mem) : cutw cm i [] w = w := rfl
/-- the rest of the abstract memory -/
def endC (M M' : MM) : Prop := M'.2.1 = [] ∧ M'.2.2.1 = -1 ∧ M'.2.2.2.1 = M.2.2.2.1 ∧ M'.2.2.2.2.2 = 1
def endO (M M' : MM) : Prop := M'.2.1 = [] ∧ M'.2.2.2.1 = M.2.2.2.1 ∧ M'.2.2.2.2.2 = M.2.2.2.2.2
theorem endC.trans {M M1 M2 : MM} (h1 : endO M M1) (h2 : endC M1 M2) : endC M M2 := ⟨h2.1, h2.2.1, by rw [h2.2.2.1, h1.2.1], h2.2.2.2⟩
theorem endO.trans {M M1 M2 : MM} (h1 : endO M M1) (h2 : endO M1 M2) : endO M M2 := ⟨h2.1, by rw [h2.2.1, h1.2.1], by rw [h2.2.2, h1.2.2]⟩
theorem endO.rf {M : MM} (h : M.2.1 = []) : endO M M := ⟨h, rfl, rfl⟩
theorem firm_img {M : MM} (h0 : M.2.1 = []) (a : Nat) (x : Int64) : (∃ M', firmM M a x = .inl M' ∧ M'.1 = M.1 ∧ endC M M') ∨ (∃ M', firmM M a x = .inr M' ∧ M'.1 = vp_updL M.1 a x ∧ endO M M') := by
  unfold firmM
  by_cases e : M.2.2.1 = 0
  · left
    refine ⟨ctM M, by rw [if_pos e], ?_, rfl, rfl, rfl, rfl⟩
    show cutw M.2.2.2.1 0 M.2.1 M.1 = M.1
    rw [h0]; rfl
  · right
    exact ⟨feM (stM M a x), by rw [if_neg e], rfl, rfl, rfl, rfl⟩
theorem fs_img : ∀ (l : List (Nat × Int64)) (M : MM), M.2.1 = [] → (∃ M' t, fsM l M = .inl M' ∧ t < l.length ∧ M'.1 = apl (l.take t) M.1 ∧ endC M M') ∨ (∃ M', fsM l M = .inr M' ∧ M'.1 = apl l M.1 ∧ endO M M') := by
  intro l
  induction l with
  | nil => intro M h0; right; exact ⟨M, rfl, rfl, endO.rf h0⟩
  | cons q r ih =>
    intro M h0
    rw [fsM]
    rcases firm_img h0 q.1 q.2 with ⟨M', e, h1, h2⟩ | ⟨M1, e, h1, h2⟩
    · left
      exact ⟨M', 0, by rw [e], by simp, h1, h2⟩
    · rw [e]
      rcases ih M1 h2.1 with ⟨M', t, g1, g2, g3, g4⟩ | ⟨M', g1, g2, g3⟩
      · left
        refine ⟨M', t + 1, g1, by simp; omega, ?_, endC.trans h2 g4⟩
        rw [g3, h1]; rfl
      · right
        refine ⟨M', g1, ?_, endO.trans h2 g3⟩
        rw [g2, h1]; rfl
def lsJ (w0 : Mem) (S : List (Nat × Int64)) (M : MM) : Prop := (∀ a, M.1 a = w0 a ∨ ∃ q ∈ S, q.1 = a ∧ M.1 a = q.2) ∧ ∀ q ∈ M.2.1, q.2 = w0 q.1
theorem cutw_J {w0 : Mem} {S : List (Nat × Int64)} (cm : Int32) : ∀ (ls : List (Nat × Int64)) (i : Nat) (w : Mem), (∀ q ∈ ls, q.2 = w0 q.1) → (∀ a, w a = w0 a ∨ ∃ q ∈ S, q.1 = a ∧ w a = q.2) → ∀ a, cutw cm i ls w a = w0 a ∨ ∃ q ∈ S, q.1 = a ∧ cutw cm i ls w a = q.2 := by
  intro ls
  induction ls with
  | nil => intro i w _ h; exact h
  | cons q r ih =>
    intro i w hq h
    rw [cutw]
    apply ih (i + 1) _ (fun z hz => hq z (List.mem_cons_of_mem _ hz))
    intro a
    by_cases e : bt cm i = false
    · rw [if_pos e]
      unfold vp_updL
      by_cases ea : a = q.1
      · rw [if_pos ea]; left; rw [hq q List.mem_cons_self, ea]
      · rw [if_neg ea]; exact h a
    · rw [if_neg e]; exact h a
theorem ls_img {w0 : Mem} {S : List (Nat × Int64)} : ∀ (l : List (Nat × Int64)) (M : MM), lsJ w0 S M → (∀ q ∈ l, q ∈ S) → (l.map (·.1)).Nodup → (∀ q ∈ l, M.1 q.1 = w0 q.1) →
    (∃ M', lsM l M = .inl M' ∧ (∀ a, M'.1 a = w0 a ∨ ∃ q ∈ S, q.1 = a ∧ M'.1 a = q.2) ∧ endC M M') ∨ (∃ M', lsM l M = .inr M' ∧ M'.1 = apl l M.1 ∧ M'.2.2.2.1 = M.2.2.2.1 ∧ M'.2.2.2.2.2 = M.2.2.2.2.2) := by
  intro l
  induction l with
  | nil => intro M _ _ _ _; right; exact ⟨M, rfl, rfl, rfl, rfl⟩
  | cons q r ih =>
    intro M hJ hS hn hw
    by_cases e : M.2.2.1 = 0
    · left
      exact ⟨ctM M, lsM_cut e, cutw_J M.2.2.2.1 M.2.1 0 M.1 hJ.2 hJ.1, rfl, rfl, rfl, rfl⟩
    · rw [lsM_ok e]
      have hn' := List.nodup_cons.mp (show (q.1 :: r.map (·.1)).Nodup from hn)
      have hJ' : lsJ w0 S (stM M q.1 q.2) := by
        refine ⟨?_, ?_⟩
        · intro a
          show vp_updL M.1 q.1 q.2 a = w0 a ∨ _
          by_cases ea : a = q.1
          · right; exact ⟨q, hS q List.mem_cons_self, ea.symm, by show vp_updL M.1 q.1 q.2 a = q.2; unfold vp_updL; rw [if_pos ea]⟩
          · have e2 : vp_updL M.1 q.1 q.2 a = M.1 a := by unfold vp_updL; rw [if_neg ea]
            rw [e2]
            rcases hJ.1 a with z | ⟨z, z1, z2, z3⟩
            · exact Or.inl z
            · exact Or.inr ⟨z, z1, z2, by show vp_updL M.1 q.1 q.2 a = z.2; rw [e2]; exact z3⟩
        · intro z hz
          have hz' : z ∈ M.2.1 ++ [(q.1, M.1 q.1)] := hz
          rcases List.mem_append.mp hz' with g | g
          · exact hJ.2 z g
          · rw [List.mem_singleton.mp g]; exact hw q List.mem_cons_self
      have hw' : ∀ z ∈ r, (stM M q.1 q.2).1 z.1 = w0 z.1 := by
        intro z hz
        show vp_updL M.1 q.1 q.2 z.1 = _
        unfold vp_updL
        rw [if_neg (fun ez => hn'.1 (by rw [← ez]; exact List.mem_map.mpr ⟨z, hz, rfl⟩))]
        exact hw z (List.mem_cons_of_mem _ hz)
      rcases ih (stM M q.1 q.2) hJ' (fun z hz => hS z (List.mem_cons_of_mem _ hz)) hn'.2 hw' with ⟨M', g1, g2, g3⟩ | ⟨M', g1, g2, g3, g4⟩
      · left; exact ⟨M', g1, g2, g3⟩
      · right; exact ⟨M', g1, by rw [g2]; rfl, g3, g4⟩
theorem loose_img {l : List (Nat × Int64)} {M : MM} (h0 : M.2.1 = []) (hn : (l.map (·.1)).Nodup) :
    (∃ M', looseM l M = .inl M' ∧ (∀ a, M'.1 a = M.1 a ∨ ∃ q ∈ l, q.1 = a ∧ M'.1 a = q.2) ∧ endC M M') ∨ (∃ M', looseM l M = .inr M' ∧ M'.1 = apl l M.1 ∧ endO M M') := by
  have := ls_img (w0 := M.1) (S := l) l M ⟨fun a => Or.inl rfl, fun q hq => by rw [h0] at hq; cases hq⟩ (fun _ h => h) hn (fun _ _ => rfl)
  unfold looseM
  rcases this with ⟨M', g1, g2, g3⟩ | ⟨M', g1, g2, g3, g4⟩
  · left; exact ⟨M', by rw [g1], g2, g3⟩
  · right; exact ⟨feM M', by rw [g1], g2, rfl, g3, g4⟩
theorem mkl_nd (k : Nat) (w0 w1 w2 w3 w4 w5 : Int64) : ((mkl k w0 w1 w2 w3 w4 w5).map (·.1)).Nodup := by
  unfold mkl
  simp only [List.map_cons, List.map_nil, List.nodup_cons, List.mem_cons, List.not_mem_nil, or_false, not_or, List.nodup_nil, and_true]
  refine ⟨?_, ?_, ?_, ?_, ?_, ?_, ?_, ?_⟩ <;> (first | omega | (refine ⟨?_, ?_⟩ <;> omega) | simp)
theorem mkl_rng {k : Nat} {w0 w1 w2 w3 w4 w5 : Int64} {q : Nat × Int64} (h : q ∈ mkl k w0 w1 w2 w3 w4 w5) : 9 * k ≤ q.1 ∧ q.1 < 9 * k + 9 := by
  unfold mkl at h
  simp only [List.mem_cons, List.not_mem_nil, or_false] at h
  rcases h with rfl | rfl | rfl | rfl | rfl | rfl | rfl | rfl | rfl <;> simp only <;> omega
/-- behind make: outside block k nothing has changed; and it holds the nine words if no cut came -/
theorem make_img {M : MM} (h0 : M.2.1 = []) (k : Nat) (w0 w1 w2 w3 w4 w5 : Int64) :
    (∃ M', looseM (mkl k w0 w1 w2 w3 w4 w5) M = .inl M' ∧ (∀ a, a < 9 * k ∨ 9 * k + 9 ≤ a → M'.1 a = M.1 a) ∧ endC M M') ∨
    (∃ M', looseM (mkl k w0 w1 w2 w3 w4 w5) M = .inr M' ∧ (∀ a, a < 9 * k ∨ 9 * k + 9 ≤ a → M'.1 a = M.1 a) ∧ (M'.1 (9 * k) = w0 ∧ M'.1 (9 * k + 1) = w1 ∧ M'.1 (9 * k + 2) = w2 ∧ M'.1 (9 * k + 3) = w3 ∧ M'.1 (9 * k + 4) = w4 ∧ M'.1 (9 * k + 5) = w5 ∧ M'.1 (9 * k + 6) = 0 ∧ M'.1 (9 * k + 7) = 0 ∧ M'.1 (9 * k + 8) = 0) ∧ endO M M') := by
  rcases loose_img h0 (mkl_nd k w0 w1 w2 w3 w4 w5) with ⟨M', g1, g2, g3⟩ | ⟨M', g1, g2, g3⟩
  · left
    refine ⟨M', g1, fun a ha => ?_, g3⟩
    rcases g2 a with z | ⟨q, z1, z2, -⟩
    · exact z
    · have := mkl_rng z1; omega
  · right
    refine ⟨M', g1, fun a ha => ?_, ?_, g3⟩
    · rw [g2, apl_out]
      intro q hq e
      have := mkl_rng hq; omega
    · rw [g2]
      unfold mkl apl apl apl apl apl apl apl apl apl apl vp_updL
      refine ⟨?_, ?_, ?_, ?_, ?_, ?_, ?_, ?_, ?_⟩ <;> simp
theorem sb_of_out {w w' : Mem} {k b : Nat} (h : ∀ a, a < 9 * k ∨ 9 * k + 9 ≤ a → w' a = w a) (hb : b ≠ k) : sb w w' b := fun i hi => h _ (by omega)
