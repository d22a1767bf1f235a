/-! PURE: split: images, keys that count, clean rows -/
theorem split_img {M : MM} (h0 : M.2.1 = []) {x k : Nat} (hxk : x ≠ k) :
    (∃ M', splM M x k = .inl M' ∧ endC M M' ∧ ((∀ a, a < 9 * k ∨ 9 * k + 9 ≤ a → M'.1 a = M.1 a) ∨ SpW M.1 M'.1 x k)) ∨
    (∃ M', splM M x k = .inr M' ∧ endO M M' ∧ SpW M.1 M'.1 x k ∧ ∀ p, 3 ≤ p → p < 6 → M'.1 (9 * x + 3 + p) = 0) := by
  unfold splM sp1
  rcases make_img h0 k (M.1 (9 * x)) (M.1 (9 * x + 1)) (lN (kp M.1 x 3)) (M.1 (9 * x + 6)) (M.1 (9 * x + 7)) (M.1 (9 * x + 8)) with ⟨M1, g1, g2, g3⟩ | ⟨M1, g1, g2, g4, g3⟩
  · left
    rw [g1]
    exact ⟨M1, rfl, g3, Or.inl g2⟩
  · rw [g1]
    simp only
    rcases firm_img g3.1 (9 * x + 1) (lN k) with ⟨M2, e, f1, f2⟩ | ⟨M2, e, f1, f2⟩
    · left
      rw [e]
      exact ⟨M2, rfl, endC.trans g3 f2, Or.inl (fun a ha => by rw [f1]; exact g2 a ha)⟩
    · rw [e]
      simp only
      have hw2 : ∀ a, a ≠ 9 * x + 1 → M2.1 a = M1.1 a := fun a ha => by rw [f1]; unfold vp_updL; rw [if_neg ha]
      have hw2x : M2.1 (9 * x + 1) = lN k := by rw [f1]; unfold vp_updL; rw [if_pos rfl]
      have nd3 : ((sp3 x).map (·.1)).Nodup := by
        unfold sp3
        simp only [List.map_cons, List.map_nil, List.nodup_cons, List.mem_cons, List.not_mem_nil, or_false, not_or, List.nodup_nil, and_true]
        refine ⟨⟨?_, ?_⟩, ?_, ?_⟩ <;> (first | omega | simp)
      have mk : ∀ (w' : Mem), (∀ a, a < 9 * x + 6 ∨ 9 * x + 9 ≤ a → w' a = M2.1 a) → (∀ a, 9 * x + 6 ≤ a → a < 9 * x + 9 → w' a = M2.1 a ∨ w' a = 0) → SpW M.1 w' x k := by
        intro w' o1 o2
        refine ⟨?_, ⟨?_, ?_, ?_, ?_, ?_⟩, ?_, ?_, ?_, ?_, ?_⟩
        · intro a h1 h2
          rw [o1 a (by omega), hw2 a (by omega), g2 a h1]
        · rw [o1 _ (by omega), hw2 _ (by omega), g2 _ (by omega)]
        · rw [o1 _ (by omega)]; exact hw2x
        · rw [o1 _ (by omega), hw2 _ (by omega), g2 _ (by omega)]
        · intro p hp; rw [o1 _ (by omega), hw2 _ (by omega), g2 _ (by omega)]
        · intro p h3 h6
          rcases o2 (9 * x + 3 + p) (by omega) (by omega) with z | z
          · left; rw [z, hw2 _ (by omega), g2 _ (by omega)]
          · exact Or.inr z
        · rw [o1 _ (by omega), hw2 _ (by omega)]; exact g4.1
        · rw [o1 _ (by omega), hw2 _ (by omega)]; exact g4.2.1
        · rw [o1 _ (by omega), hw2 _ (by omega)]; exact g4.2.2.1
        · intro p hp
          rw [o1 _ (by omega), hw2 _ (by omega)]
          match p, hp with
          | 0, _ => exact g4.2.2.2.1
          | 1, _ => exact g4.2.2.2.2.1
          | 2, _ => exact g4.2.2.2.2.2.1
        · intro p h3 h6
          rw [o1 _ (by omega), hw2 _ (by omega)]
          match p, h3, h6 with
          | 3, _, _ => exact g4.2.2.2.2.2.2.1
          | 4, _, _ => exact g4.2.2.2.2.2.2.2.1
          | 5, _, _ => exact g4.2.2.2.2.2.2.2.2
      have in3 : ∀ q ∈ sp3 x, (9 * x + 6 ≤ q.1 ∧ q.1 < 9 * x + 9) ∧ q.2 = 0 := by
        intro q hq
        unfold sp3 at hq
        simp only [List.mem_cons, List.not_mem_nil, or_false] at hq
        rcases hq with rfl | rfl | rfl <;> exact ⟨⟨by simp only; omega, by simp only; omega⟩, rfl⟩
      rcases loose_img f2.1 nd3 with ⟨M3, e3, c1, c2⟩ | ⟨M3, e3, c1, c2⟩
      · left
        refine ⟨M3, e3, endC.trans (endO.trans g3 f2) c2, Or.inr (mk M3.1 ?_ ?_)⟩
        · intro a ha
          rcases c1 a with z | ⟨q, z1, z2, -⟩
          · exact z
          · have := (in3 q z1).1; omega
        · intro a h1 h2
          rcases c1 a with z | ⟨q, z1, z2, z3⟩
          · exact Or.inl z
          · right; rw [z3]; exact (in3 q z1).2
      · right
        have z5 : ∀ a, M3.1 a = if 9 * x + 6 ≤ a ∧ a < 9 * x + 9 then 0 else M2.1 a := by
          intro a
          rw [c1]
          show vp_updL (vp_updL (vp_updL M2.1 (9 * x + 8) 0) (9 * x + 7) 0) (9 * x + 6) 0 a = _
          unfold vp_updL
          by_cases q : 9 * x + 6 ≤ a ∧ a < 9 * x + 9
          · rw [if_pos q]
            by_cases q6 : a = 9 * x + 6
            · rw [if_pos q6]
            · rw [if_neg q6]
              by_cases q7 : a = 9 * x + 7
              · rw [if_pos q7]
              · rw [if_neg q7, if_pos (by omega)]
          · rw [if_neg q, if_neg (by omega), if_neg (by omega), if_neg (by omega)]
        refine ⟨M3, e3, endO.trans (endO.trans g3 f2) c2, mk M3.1 ?_ ?_, ?_⟩
        · intro a ha; rw [z5, if_neg (by omega)]
        · intro a h1 h2; right; rw [z5, if_pos ⟨h1, h2⟩]
        · intro p h3 h6; rw [z5, if_pos (by omega)]
section SpKs
variable {w w' : Mem} {cs : List (List Nat)} {L x k : Nat}
theorem nxN_of {b c : Nat} (h : w (9 * b + 1) = lN c) (hc : c ≤ 30) : nxN w b = c := by unfold nxN; rw [h, lN_i]; exact nI_clamp (by omega)
theorem TS.nx (T : TS w cs) {b : Nat} (hb : b ∈ lvc cs L) : nxN w b = 0 ∨ nxN w b ∈ lvc cs L := by
  obtain ⟨n, h1, h2⟩ := (T.1 L (lvc_in hb)).1.next b hb
  have : n ≤ 30 := by
    rcases h2 with q | q
    · omega
    · exact ((T.1 L (lvc_in hb)).1.mem n q).1.2
  rw [nxN_of h1 this]; exact h2
/-- what a split leaves: lows, bounds, counted keys -/
theorem sp_facts (T : TS w cs) (hx : x ∈ lvc cs L) (hc : clean w x) (h6 : rl w x = 6) (hkn : k ∉ cs.flatten) (hk : 1 ≤ k ∧ k ≤ 30) (S : SpW w w' x k) :
    (∀ M b, b ∈ lvc cs M → b ≠ x → ubd w' b = ubd w b ∧ ksB w' b = ksB w b) ∧ ubd w' x = kp w x 3 ∧ ubd w' k = ubd w x ∧
    (∀ j, ksB w' x j = true ↔ ksB w x j = true ∧ j < kp w x 3) ∧ (∀ j, ksB w' k j = true ↔ ksB w x j = true ∧ kp w x 3 ≤ j) ∧ clean w' k ∧
    ((∀ p, 3 ≤ p → p < 6 → w' (9 * x + 3 + p) = 0) → clean w' x ∧ rl w' x = 3) := by
  have hL := lvc_in hx
  have nek : ∀ {M b}, b ∈ lvc cs M → b ≠ k := fun hb q => hkn (by rw [← q]; exact lvc_flat hb)
  have k1000 : kp w x 3 < 1000 := by
    obtain ⟨p, r, e⟩ := List.append_of_mem hx
    have := (T.ub e hL).2.2.1
    have := hc.2.1 3 (by omega)
    omega
  have hlk := S.loK k1000
  have ub : ∀ M b, b ∈ lvc cs M → b ≠ x → ubd w' b = ubd w b := by
    intro M b hb hbx
    have hsb := S.sb hbx (nek hb)
    have e1 : nxN w' b = nxN w b := by unfold nxN; rw [hsb 1 (by omega)]
    unfold ubd
    rw [e1]
    rcases T.nx hb with q | q
    · rw [if_pos q, if_pos q]
    · have := ((T.1 M (lvc_in hb)).1.mem _ q).1
      rw [if_neg (by omega), if_neg (by omega), S.lo (nek q)]
  have ubx : ubd w' x = kp w x 3 := by
    unfold ubd
    rw [nxN_of S.2.1.2.1 hk.2, if_neg (by omega), hlk]
  have ubk : ubd w' k = ubd w x := by
    have e1 : nxN w' k = nxN w x := by unfold nxN; rw [S.2.2.2.1]
    unfold ubd
    rw [e1]
    rcases T.nx hx with q | q
    · rw [if_pos q, if_pos q]
    · have := ((T.1 L hL).1.mem _ q).1
      rw [if_neg (by omega), if_neg (by omega), S.lo (nek q)]
  have rX := S.rlX h6
  have rK := S.rlK h6
  have mono3 : ∀ p, p < 6 → (p < 3 ↔ kp w x p < kp w x 3) := by
    intro p hp
    constructor
    · intro h
      have := hc.mono (3 - p) p (by omega)
      rw [show p + (3 - p) = 3 by omega] at this
      omega
    · intro h
      rcases Nat.lt_or_ge p 3 with q | q
      · exact q
      · have := hc.mono (p - 3) 3 (by omega)
        rw [show 3 + (p - 3) = p by omega] at this
        omega
  have ksx : ∀ j, ksB w' x j = true ↔ ksB w x j = true ∧ j < kp w x 3 := by
    intro j
    rw [ksB_iff, ksB_iff, ubx]
    have h6' := rl_le w' x
    constructor
    · rintro ⟨h1, p, h2, h3⟩
      have e : kp w x p = j := by rw [← h3]; unfold kp; rw [rX.2 p h2]
      exact ⟨⟨by rw [← e]; exact hc.2.1 p (by omega), p, by omega, e⟩, h1⟩
    · rintro ⟨⟨h1, p, h2, h3⟩, h4⟩
      have hp3 : p < 3 := (mono3 p (by omega)).mpr (by omega)
      exact ⟨h4, p, by omega, by rw [← h3]; unfold kp; rw [S.2.1.2.2.2.1 p hp3]⟩
  have ksk : ∀ j, ksB w' k j = true ↔ ksB w x j = true ∧ kp w x 3 ≤ j := by
    intro j
    rw [ksB_iff, ksB_iff, ubk, rK]
    constructor
    · rintro ⟨h1, p, h2, h3⟩
      rw [S.kpK h2] at h3
      have := hc.mono p 3 (by omega)
      exact ⟨⟨h1, 3 + p, by omega, h3⟩, by omega⟩
    · rintro ⟨⟨h1, p, h2, h3⟩, h4⟩
      have hp3 : ¬ p < 3 := fun q => by have := (mono3 p (by omega)).mp q; omega
      exact ⟨h1, p - 3, by omega, by rw [S.kpK (by omega), show 3 + (p - 3) = p by omega]; exact h3⟩
  refine ⟨fun M b hb hbx => ⟨ub M b hb hbx, ksB_sb (S.sb hbx (nek hb)) (ub M b hb hbx)⟩, ubx, ubk, ksx, ksk, ⟨?_, ?_, ?_⟩, ?_⟩
  · intro p hp
    rw [rK] at hp
    rw [S.kpK (by omega), S.kpK (by omega)]
    exact hc.1 (3 + p) (by omega)
  · intro p hp
    rw [rK] at hp
    rw [S.kpK hp, ubk]
    exact hc.2.1 (3 + p) (by omega)
  · intro p h1 h2
    rw [rK] at h1
    exact S.2.2.2.2.2.2 p h1 h2
  · intro hz
    have r3 : rl w' x = 3 := by
      apply rl_eq (by omega)
      · intro q hq; rw [S.2.1.2.2.2.1 q hq]; exact rl_nz (by omega)
      · intro _; exact hz 3 (by omega) (by omega)
    have kx : ∀ p, p < 3 → kp w' x p = kp w x p := fun p hp => by unfold kp; rw [S.2.1.2.2.2.1 p hp]
    refine ⟨⟨?_, ?_, ?_⟩, r3⟩
    · intro p hp
      rw [r3] at hp
      rw [kx p (by omega), kx (p + 1) hp]
      exact hc.1 p (by omega)
    · intro p hp
      rw [r3] at hp
      rw [kx p hp, ubx]
      exact (mono3 p (by omega)).mp hp
    · intro p h1 h2
      rw [r3] at h1
      exact hz p h1 h2
end SpKs
