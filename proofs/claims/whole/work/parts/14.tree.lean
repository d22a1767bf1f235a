/-! models and contracts; written by wip/whole/gen.py -/
def m_Tree_topLevel (u : SM)  : Option (Int32 × SM) := ob (m_Blocks_blockIn u (0 : Int32)) (fun r1 u2 => if r1 = 0 then (some ((-1 : Int32), u2)) else (ob (m_Blocks_levelOf u2 r1) (fun r5 u6 => some (r5, u6))))
def m_Tree_keyAt (u : SM) (a1 : Int32) (a2 : Int32) : Option (Int32 × SM) := ob (m_Blocks_entryAt u a1 a2) (fun r1 u2 => ob (m_Firm_keyOf u2 r1) (fun r5 u6 => some (r5, u6)))
def m_Tree_endOf (u : SM) (a1 : Int32) : Option (Int32 × SM) := ob (m_Blocks_nextOf u a1) (fun r1 u2 => if r1 = 0 then (some ((1000 : Int32), u2)) else (ob (m_Blocks_lowOf u2 r1) (fun r5 u6 => some (r5, u6))))
def m_Tree_firstOf_L11 : Nat → SM → Int32 → Int32 → Int32 → Option ((Int32 × SM) ⊕ (Int32 × SM))
  | 0, _, _, _, _ => none
  | n0 + 1, ua, x2, x3, x1 => if (30 : Int32) ≤ x3 then (some (.inr (x2, ua))) else (if x2 = 0 then (some (.inr (x2, ua))) else (ob (m_Blocks_levelOf ua x2) (fun r1 u2 => if r1 ≤ x1 then (some (.inr (x2, u2))) else (ob (m_Blocks_childAt u2 x2 (0 : Int32)) (fun r5 u6 => m_Tree_firstOf_L11 n0 u6 r5 (x3 + (1 : Int32)) x1)))))
def m_Tree_firstOf (u : SM) (a1 : Int32) : Option (Int32 × SM) := ob (m_Blocks_blockIn u (0 : Int32)) (fun r9 u10 => ol1 (m_Tree_firstOf_L11 fz u10 r9 (0 : Int32) a1) id (fun x13 u14 => some (x13, u14)))
def m_Tree_countLesser_L12 : Nat → SM → Int32 → Int32 → Int32 → Int32 → Option ((Int32 × SM) ⊕ (SM))
  | 0, _, _, _, _, _ => none
  | n0 + 1, ua, x4, x1, x2, x3 => if x3 ≤ x4 then (some (.inr ua)) else (ob (m_Tree_keyAt ua x1 x4) (fun r1 u2 => if r1 < x2 then (m_Tree_countLesser_L12 n0 u2 (x4 + (1 : Int32)) x1 x2 x3) else (some (.inl (x4, u2)))))
def m_Tree_countLesser (u : SM) (a1 : Int32) (a2 : Int32) : Option (Int32 × SM) := ob (m_Blocks_rowLength u a1) (fun r5 u6 => ol0 (m_Tree_countLesser_L12 fz u6 (0 : Int32) a1 a2 r5) id (fun u9 => some (r5, u9)))
def m_Tree_childFor_L14 : Nat → SM → Int32 → Int32 → Int32 → Option ((Int32 × SM) ⊕ (SM))
  | 0, _, _, _, _ => none
  | n0 + 1, ua, x4, x1, x2 => if x4 < 0 then (some (.inr ua)) else (ob (m_Tree_keyAt ua x1 x4) (fun r1 u2 => if x2 < r1 then (m_Tree_childFor_L14 n0 u2 (x4 + (-1 : Int32)) x1 x2) else (ob (m_Blocks_childAt u2 x1 x4) (fun r5 u6 => some (.inl (r5, u6))))))
def m_Tree_childFor (u : SM) (a1 : Int32) (a2 : Int32) : Option (Int32 × SM) := ob (m_Blocks_rowLength u a1) (fun r9 u10 => ol0 (m_Tree_childFor_L14 fz u10 (r9 - (1 : Int32)) a1 a2) id (fun u13 => some ((0 : Int32), u13)))
def m_Tree_find_L12 : Nat → SM → Int32 → Int32 → Int32 → Int32 → Option ((Int32 × SM) ⊕ (SM))
  | 0, _, _, _, _, _ => none
  | n0 + 1, ua, x3, x4, x1, x2 => if (30 : Int32) ≤ x4 then (some (.inr ua)) else (if x3 = 0 then (some (.inr ua)) else (ob (m_Blocks_nextOf ua x3) (fun r1 u2 => if r1 = 0 then (ob (m_Blocks_levelOf u2 x3) (fun r5 u6 => if x2 < r5 then (ob (m_Tree_childFor u6 x3 x1) (fun r9 u10 => m_Tree_find_L12 n0 u10 r9 (x4 + (1 : Int32)) x1 x2)) else (some (.inl (x3, u6))))) else (ob (m_Blocks_lowOf u2 r1) (fun r13 u14 => if x1 < r13 then (ob (m_Blocks_levelOf u14 x3) (fun r17 u18 => if x2 < r17 then (ob (m_Tree_childFor u18 x3 x1) (fun r21 u22 => m_Tree_find_L12 n0 u22 r21 (x4 + (1 : Int32)) x1 x2)) else (some (.inl (x3, u18))))) else (m_Tree_find_L12 n0 u14 r1 (x4 + (1 : Int32)) x1 x2))))))
def m_Tree_find (u : SM) (a1 : Int32) (a2 : Int32) : Option (Int32 × SM) := ob (m_Blocks_blockIn u (0 : Int32)) (fun r25 u26 => ol0 (m_Tree_find_L12 fz u26 r25 (0 : Int32) a1 a2) id (fun u29 => some ((0 : Int32), u29)))
def m_Tree_seek_J45 (ua : SM) (x2 : Int32) (x3 : Int32) (s0 : Int32) : Option (Int32 × SM) := if s0 = 0 then (some ((0 : Int32), ua)) else (ob (m_Blocks_addressOfPlace ua x2 x3) (fun r17 u18 => some (r17, u18)))
def m_Tree_seek_J44 (ua : SM) (x2 : Int32) (x3 : Int32) : Option (Int32 × SM) := m_Tree_seek_J45 ua x2 x3 (0 : Int32)
def m_Tree_seek (u : SM) (a1 : Int32) : Option (Int32 × SM) := ob (m_Tree_find u a1 (0 : Int32)) (fun r1 u2 => ob (m_Tree_countLesser u2 r1 a1) (fun r5 u6 => if r1 = 0 then (m_Tree_seek_J44 u6 r1 r5) else (ob (m_Blocks_rowLength u6 r1) (fun r9 u10 => if r9 ≤ r5 then (m_Tree_seek_J44 u10 r1 r5) else (ob (m_Tree_keyAt u10 r1 r5) (fun r13 u14 => if r13 = a1 then (m_Tree_seek_J45 u14 r1 r5 (1 : Int32)) else (m_Tree_seek_J44 u14 r1 r5)))))))
def m_Tree_leastKeyFrom_L9 : Nat → SM → Int32 → Int32 → Int32 → Option ((Int32 × SM) ⊕ (SM))
  | 0, _, _, _, _ => none
  | n0 + 1, ua, x2, x3, x1 => if (30 : Int32) ≤ x3 then (some (.inr ua)) else (if x2 = 0 then (some (.inr ua)) else (ob (m_Tree_countLesser ua x2 x1) (fun r1 u2 => ob (m_Blocks_rowLength u2 x2) (fun r5 u6 => if r5 ≤ r1 then (ob (m_Blocks_nextOf u6 x2) (fun r9 u10 => m_Tree_leastKeyFrom_L9 n0 u10 r9 (x3 + (1 : Int32)) x1)) else (ob (m_Tree_keyAt u6 x2 r1) (fun r13 u14 => ob (m_Tree_endOf u14 x2) (fun r17 u18 => if r17 ≤ r13 then (ob (m_Blocks_nextOf u18 x2) (fun r21 u22 => m_Tree_leastKeyFrom_L9 n0 u22 r21 (x3 + (1 : Int32)) x1)) else (ob (m_Tree_keyAt u18 x2 r1) (fun r25 u26 => some (.inl (r25, u26)))))))))))
def m_Tree_leastKeyFrom (u : SM) (a1 : Int32) : Option (Int32 × SM) := ob (m_Tree_find u a1 (0 : Int32)) (fun r29 u30 => ol0 (m_Tree_leastKeyFrom_L9 fz u30 r29 (0 : Int32) a1) id (fun u33 => some ((1000 : Int32), u33)))
def m_Tree_countKeys_L43 : Nat → SM → Int32 → Int32 → Int32 → Int32 → Int32 → Int32 → Int32 → Option ((Int32 × SM) ⊕ (Int32 × SM))
  | 0, _, _, _, _, _, _, _, _ => none
  | n0 + 1, ua, x1, x6, x7, x2, x3, x4, x5 => if x5 ≤ x7 then (some (.inr (x1, ua))) else (ob (m_Tree_keyAt ua x2 x7) (fun r1 u2 => if x4 ≤ r1 then (some (.inr (x1, u2))) else (ob (m_Tree_keyAt u2 x2 x7) (fun r5 u6 => if r5 = x6 then (ob (m_Tree_keyAt u6 x2 x7) (fun r13 u14 => m_Tree_countKeys_L43 n0 u14 (x1 + (0 : Int32)) r13 (x7 + (1 : Int32)) x2 x3 x4 x5)) else (ob (m_Tree_keyAt u6 x2 x7) (fun r9 u10 => m_Tree_countKeys_L43 n0 u10 (x1 + (1 : Int32)) r9 (x7 + (1 : Int32)) x2 x3 x4 x5))))))
def m_Tree_countKeys_L10 : Nat → SM → Int32 → Int32 → Int32 → Option ((Int32 × SM) ⊕ (Int32 × SM))
  | 0, _, _, _, _ => none
  | n0 + 1, ua, x1, x2, x3 => if (30 : Int32) ≤ x3 then (some (.inr (x1, ua))) else (if x2 = 0 then (some (.inr (x1, ua))) else (ob (m_Tree_endOf ua x2) (fun r17 u18 => ob (m_Blocks_rowLength u18 x2) (fun r21 u22 => ol1 (m_Tree_countKeys_L43 fz u22 x1 (-1 : Int32) (0 : Int32) x2 x3 r17 r21) Sum.inl (fun x25 u26 => ob (m_Blocks_nextOf u26 x2) (fun r27 u28 => m_Tree_countKeys_L10 n0 u28 x25 r27 (x3 + (1 : Int32))))))))
def m_Tree_countKeys (u : SM)  : Option (Int32 × SM) := ob (m_Tree_firstOf u (0 : Int32)) (fun r31 u32 => ol1 (m_Tree_countKeys_L10 fz u32 (0 : Int32) r31 (0 : Int32)) id (fun x35 u36 => some (x35, u36)))
theorem d_Tree_topLevel_0 : decode b_Tree_topLevel 0 = .ok (.aload_n 0, 1) := by decide +kernel
theorem d_Tree_topLevel_1 : decode b_Tree_topLevel 1 = .ok (.getfield 15, 3) := by decide +kernel
theorem d_Tree_topLevel_4 : decode b_Tree_topLevel 4 = .ok (.iconst 0, 1) := by decide +kernel
theorem d_Tree_topLevel_5 : decode b_Tree_topLevel 5 = .ok (.invokevirtual 19, 3) := by decide +kernel
theorem d_Tree_topLevel_8 : decode b_Tree_topLevel 8 = .ok (.istore_n 1, 1) := by decide +kernel
theorem d_Tree_topLevel_9 : decode b_Tree_topLevel 9 = .ok (.iload_n 1, 1) := by decide +kernel
theorem d_Tree_topLevel_10 : decode b_Tree_topLevel 10 = .ok (.ifCond .ne 7, 3) := by decide +kernel
theorem d_Tree_topLevel_13 : decode b_Tree_topLevel 13 = .ok (.iconst (-1), 1) := by decide +kernel
theorem d_Tree_topLevel_14 : decode b_Tree_topLevel 14 = .ok (.goto 11, 3) := by decide +kernel
theorem d_Tree_topLevel_17 : decode b_Tree_topLevel 17 = .ok (.aload_n 0, 1) := by decide +kernel
theorem d_Tree_topLevel_18 : decode b_Tree_topLevel 18 = .ok (.getfield 15, 3) := by decide +kernel
theorem d_Tree_topLevel_21 : decode b_Tree_topLevel 21 = .ok (.iload_n 1, 1) := by decide +kernel
theorem d_Tree_topLevel_22 : decode b_Tree_topLevel 22 = .ok (.invokevirtual 25, 3) := by decide +kernel
theorem d_Tree_topLevel_25 : decode b_Tree_topLevel 25 = .ok (.ireturn, 1) := by decide +kernel
set_option maxRecDepth 100000 in
set_option maxHeartbeats 4000000 in
theorem k_Tree_topLevel (l : Launch) (D : va_G) (G : Nat → Nat) (Y : Nat → ClassId) {u : SM}  {r : Int32} {u' : SM} (hm : m_Tree_topLevel u  = some (r, u')) : KI l D clz (tyz Y) (wdC G Y) y_Tree_topLevel b_Tree_topLevel 2 (some .int) 2 43 [.ref (G 6)] u r u' := by
  refine mkI (by decide) (Nat.le_of_ble_eq_true rfl) ?_
  intro p e s m below meth c A Z ls C0 hP hD hS hl hret
  obtain ⟨hx, hb, hml, hown, hts, hK, hN, hA⟩ := id C0
  have hl : lv_has ls 2 [(0, .ref (G 6))] := hl
  rw [m_Tree_topLevel] at hm
  refine lv_aload_n hx hb d_Tree_topLevel_0 rfl (lv_at hl 0 rfl) ?_
  refine va_get (D := D) (ci := 3) (v := .ref (G 5)) (C := "FirmStore$Tree") (T := F_Tree) (N := 2) hx hb hts iz_Tree hown hK hP 6 rfl rfl 1 (by decide) (hts _ q_74) (fun _ h9 => h9) rfl d_Tree_topLevel_1 ?_
  refine lv_iconst (v := (0 : Int32)) hx hb d_Tree_topLevel_4 (by decide) ?_
  obtain ⟨r1, u2, h3, hm⟩ := ob_some hm
  refine goVI (As := [.int (0 : Int32)]) (rest := []) (b0 := G 5) 5 C0 (k_Blocks_blockIn l D G Y h3) q_132 q_3 q_129 q_130 q_131 e_Blocks_blockIn (by decide) rfl rfl hP hD hS hl.1 rfl (Nat.le_of_ble_eq_true rfl) d_Tree_topLevel_5 (fun H locs hP hD hS => ?_)
  refine lv_istore_n (lv' := [(1, .int r1), (0, .ref (G 6))]) hx hb d_Tree_topLevel_8 rfl hl (by decide) rfl (fun ls hl => ?_)
  refine lv_iload_n hx hb d_Tree_topLevel_9 rfl (lv_at hl 0 rfl) ?_
  refine lv_if_ne (tgt := 17) hx hb d_Tree_topLevel_10 (by decide) (fun hc => ?_) (fun hc => ?_)
  · rw [if_neg hc] at hm
    refine lv_aload_n hx hb d_Tree_topLevel_17 rfl (lv_at hl 1 rfl) ?_
    refine va_get (D := D) (ci := 3) (v := .ref (G 5)) (C := "FirmStore$Tree") (T := F_Tree) (N := 2) hx hb hts iz_Tree hown hK hP 6 rfl rfl 1 (by decide) (hts _ q_74) (fun _ h9 => h9) rfl d_Tree_topLevel_18 ?_
    refine lv_iload_n hx hb d_Tree_topLevel_21 rfl (lv_at hl 0 rfl) ?_
    obtain ⟨r5, u6, h7, hm⟩ := ob_some hm
    refine goVI (As := [.int r1]) (rest := []) (b0 := G 5) 5 C0 (k_Blocks_levelOf l D G Y h7) q_145 q_3 q_142 q_143 q_144 e_Blocks_levelOf (by decide) rfl rfl hP hD hS hl.1 rfl (Nat.le_of_ble_eq_true rfl) d_Tree_topLevel_22 (fun H locs hP hD hS => ?_)
    exact hret _ _ _ _ r5 u6 (Option.some.inj hm) hP hD hS d_Tree_topLevel_25
  · rw [if_pos hc] at hm
    refine lv_iconst (v := (-1 : Int32)) hx hb d_Tree_topLevel_13 (by decide) ?_
    refine lv_goto (tgt := 25) hx hb d_Tree_topLevel_14 (by decide) ?_
    exact hret _ _ _ _ (-1 : Int32) u2 (Option.some.inj hm) hP hD hS d_Tree_topLevel_25
theorem d_Tree_keyAt_0 : decode b_Tree_keyAt 0 = .ok (.aload_n 0, 1) := by decide +kernel
theorem d_Tree_keyAt_1 : decode b_Tree_keyAt 1 = .ok (.getfield 15, 3) := by decide +kernel
theorem d_Tree_keyAt_4 : decode b_Tree_keyAt 4 = .ok (.iload_n 1, 1) := by decide +kernel
theorem d_Tree_keyAt_5 : decode b_Tree_keyAt 5 = .ok (.iload_n 2, 1) := by decide +kernel
theorem d_Tree_keyAt_6 : decode b_Tree_keyAt 6 = .ok (.invokevirtual 119, 3) := by decide +kernel
theorem d_Tree_keyAt_9 : decode b_Tree_keyAt 9 = .ok (.invokestatic 122, 3) := by decide +kernel
theorem d_Tree_keyAt_12 : decode b_Tree_keyAt 12 = .ok (.ireturn, 1) := by decide +kernel
set_option maxRecDepth 100000 in
set_option maxHeartbeats 4000000 in
theorem k_Tree_keyAt (l : Launch) (D : va_G) (G : Nat → Nat) (Y : Nat → ClassId) {u : SM} {a1 : Int32} {a2 : Int32} {r : Int32} {u' : SM} (hm : m_Tree_keyAt u a1 a2 = some (r, u')) : KI l D clz (tyz Y) (wdC G Y) y_Tree_keyAt b_Tree_keyAt 3 (some .int) 2 43 [.ref (G 6), .int a1, .int a2] u r u' := by
  refine mkI (by decide) (Nat.le_of_ble_eq_true rfl) ?_
  intro p e s m below meth c A Z ls C0 hP hD hS hl hret
  obtain ⟨hx, hb, hml, hown, hts, hK, hN, hA⟩ := id C0
  have hl : lv_has ls 3 [(0, .ref (G 6)), (1, .int a1), (2, .int a2)] := hl
  rw [m_Tree_keyAt] at hm
  refine lv_aload_n hx hb d_Tree_keyAt_0 rfl (lv_at hl 0 rfl) ?_
  refine va_get (D := D) (ci := 3) (v := .ref (G 5)) (C := "FirmStore$Tree") (T := F_Tree) (N := 2) hx hb hts iz_Tree hown hK hP 6 rfl rfl 1 (by decide) (hts _ q_74) (fun _ h9 => h9) rfl d_Tree_keyAt_1 ?_
  refine lv_iload_n hx hb d_Tree_keyAt_4 rfl (lv_at hl 1 rfl) ?_
  refine lv_iload_n hx hb d_Tree_keyAt_5 rfl (lv_at hl 2 rfl) ?_
  obtain ⟨r1, u2, h3, hm⟩ := ob_some hm
  refine goVL (As := [.int a1, .int a2]) (rest := []) (b0 := G 5) 5 C0 (k_Blocks_entryAt l D G Y h3) q_176 q_3 q_173 q_174 q_175 e_Blocks_entryAt (by decide) rfl rfl hP hD hS hl.1 rfl (Nat.le_of_ble_eq_true rfl) d_Tree_keyAt_6 (fun H locs hP hD hS => ?_)
  obtain ⟨r5, u6, h7, hm⟩ := ob_some hm
  refine goNI (As := [.long r1]) (rest := []) C0 (k_Firm_keyOf l D G Y h7) q_179 q_1 hN.2.1 q_178 e_Firm_keyOf (by decide) hP hD hS hl.1 rfl (Nat.le_of_ble_eq_true rfl) d_Tree_keyAt_9 (fun H locs hP hD hS => ?_)
  exact hret _ _ _ _ r5 u6 (Option.some.inj hm) hP hD hS d_Tree_keyAt_12
theorem d_Tree_endOf_0 : decode b_Tree_endOf 0 = .ok (.aload_n 0, 1) := by decide +kernel
theorem d_Tree_endOf_1 : decode b_Tree_endOf 1 = .ok (.getfield 15, 3) := by decide +kernel
theorem d_Tree_endOf_4 : decode b_Tree_endOf 4 = .ok (.iload_n 1, 1) := by decide +kernel
theorem d_Tree_endOf_5 : decode b_Tree_endOf 5 = .ok (.invokevirtual 47, 3) := by decide +kernel
theorem d_Tree_endOf_8 : decode b_Tree_endOf 8 = .ok (.istore_n 2, 1) := by decide +kernel
theorem d_Tree_endOf_9 : decode b_Tree_endOf 9 = .ok (.iload_n 2, 1) := by decide +kernel
theorem d_Tree_endOf_10 : decode b_Tree_endOf 10 = .ok (.ifCond .ne 9, 3) := by decide +kernel
theorem d_Tree_endOf_13 : decode b_Tree_endOf 13 = .ok (.sipush 1000, 3) := by decide +kernel
theorem d_Tree_endOf_16 : decode b_Tree_endOf 16 = .ok (.goto 11, 3) := by decide +kernel
theorem d_Tree_endOf_19 : decode b_Tree_endOf 19 = .ok (.aload_n 0, 1) := by decide +kernel
theorem d_Tree_endOf_20 : decode b_Tree_endOf 20 = .ok (.getfield 15, 3) := by decide +kernel
theorem d_Tree_endOf_23 : decode b_Tree_endOf 23 = .ok (.iload_n 2, 1) := by decide +kernel
theorem d_Tree_endOf_24 : decode b_Tree_endOf 24 = .ok (.invokevirtual 110, 3) := by decide +kernel
theorem d_Tree_endOf_27 : decode b_Tree_endOf 27 = .ok (.ireturn, 1) := by decide +kernel
set_option maxRecDepth 100000 in
set_option maxHeartbeats 4000000 in
theorem k_Tree_endOf (l : Launch) (D : va_G) (G : Nat → Nat) (Y : Nat → ClassId) {u : SM} {a1 : Int32} {r : Int32} {u' : SM} (hm : m_Tree_endOf u a1 = some (r, u')) : KI l D clz (tyz Y) (wdC G Y) y_Tree_endOf b_Tree_endOf 3 (some .int) 2 43 [.ref (G 6), .int a1] u r u' := by
  refine mkI (by decide) (Nat.le_of_ble_eq_true rfl) ?_
  intro p e s m below meth c A Z ls C0 hP hD hS hl hret
  obtain ⟨hx, hb, hml, hown, hts, hK, hN, hA⟩ := id C0
  have hl : lv_has ls 3 [(0, .ref (G 6)), (1, .int a1)] := hl
  rw [m_Tree_endOf] at hm
  refine lv_aload_n hx hb d_Tree_endOf_0 rfl (lv_at hl 0 rfl) ?_
  refine va_get (D := D) (ci := 3) (v := .ref (G 5)) (C := "FirmStore$Tree") (T := F_Tree) (N := 2) hx hb hts iz_Tree hown hK hP 6 rfl rfl 1 (by decide) (hts _ q_74) (fun _ h9 => h9) rfl d_Tree_endOf_1 ?_
  refine lv_iload_n hx hb d_Tree_endOf_4 rfl (lv_at hl 1 rfl) ?_
  obtain ⟨r1, u2, h3, hm⟩ := ob_some hm
  refine goVI (As := [.int a1]) (rest := []) (b0 := G 5) 5 C0 (k_Blocks_nextOf l D G Y h3) q_160 q_3 q_157 q_158 q_159 e_Blocks_nextOf (by decide) rfl rfl hP hD hS hl.1 rfl (Nat.le_of_ble_eq_true rfl) d_Tree_endOf_5 (fun H locs hP hD hS => ?_)
  refine lv_istore_n (lv' := [(2, .int r1), (0, .ref (G 6)), (1, .int a1)]) hx hb d_Tree_endOf_8 rfl hl (by decide) rfl (fun ls hl => ?_)
  refine lv_iload_n hx hb d_Tree_endOf_9 rfl (lv_at hl 0 rfl) ?_
  refine lv_if_ne (tgt := 19) hx hb d_Tree_endOf_10 (by decide) (fun hc => ?_) (fun hc => ?_)
  · rw [if_neg hc] at hm
    refine lv_aload_n hx hb d_Tree_endOf_19 rfl (lv_at hl 1 rfl) ?_
    refine va_get (D := D) (ci := 3) (v := .ref (G 5)) (C := "FirmStore$Tree") (T := F_Tree) (N := 2) hx hb hts iz_Tree hown hK hP 6 rfl rfl 1 (by decide) (hts _ q_74) (fun _ h9 => h9) rfl d_Tree_endOf_20 ?_
    refine lv_iload_n hx hb d_Tree_endOf_23 rfl (lv_at hl 0 rfl) ?_
    obtain ⟨r5, u6, h7, hm⟩ := ob_some hm
    refine goVI (As := [.int r1]) (rest := []) (b0 := G 5) 5 C0 (k_Blocks_lowOf l D G Y h7) q_164 q_3 q_161 q_162 q_163 e_Blocks_lowOf (by decide) rfl rfl hP hD hS hl.1 rfl (Nat.le_of_ble_eq_true rfl) d_Tree_endOf_24 (fun H locs hP hD hS => ?_)
    exact hret _ _ _ _ r5 u6 (Option.some.inj hm) hP hD hS d_Tree_endOf_27
  · rw [if_pos hc] at hm
    refine lv_sipush (v := (1000 : Int32)) hx hb d_Tree_endOf_13 (by decide) ?_
    refine lv_goto (tgt := 27) hx hb d_Tree_endOf_16 (by decide) ?_
    exact hret _ _ _ _ (1000 : Int32) u2 (Option.some.inj hm) hP hD hS d_Tree_endOf_27
theorem d_Tree_firstOf_0 : decode b_Tree_firstOf 0 = .ok (.aload_n 0, 1) := by decide +kernel
theorem d_Tree_firstOf_1 : decode b_Tree_firstOf 1 = .ok (.getfield 15, 3) := by decide +kernel
theorem d_Tree_firstOf_4 : decode b_Tree_firstOf 4 = .ok (.iconst 0, 1) := by decide +kernel
theorem d_Tree_firstOf_5 : decode b_Tree_firstOf 5 = .ok (.invokevirtual 19, 3) := by decide +kernel
theorem d_Tree_firstOf_8 : decode b_Tree_firstOf 8 = .ok (.istore_n 2, 1) := by decide +kernel
theorem d_Tree_firstOf_9 : decode b_Tree_firstOf 9 = .ok (.iconst 0, 1) := by decide +kernel
theorem d_Tree_firstOf_10 : decode b_Tree_firstOf 10 = .ok (.istore_n 3, 1) := by decide +kernel
theorem d_Tree_firstOf_11 : decode b_Tree_firstOf 11 = .ok (.iload_n 3, 1) := by decide +kernel
theorem d_Tree_firstOf_12 : decode b_Tree_firstOf 12 = .ok (.bipush 30, 2) := by decide +kernel
theorem d_Tree_firstOf_14 : decode b_Tree_firstOf 14 = .ok (.if_icmp .ge 35, 3) := by decide +kernel
theorem d_Tree_firstOf_17 : decode b_Tree_firstOf 17 = .ok (.iload_n 2, 1) := by decide +kernel
theorem d_Tree_firstOf_18 : decode b_Tree_firstOf 18 = .ok (.ifCond .eq 31, 3) := by decide +kernel
theorem d_Tree_firstOf_21 : decode b_Tree_firstOf 21 = .ok (.aload_n 0, 1) := by decide +kernel
theorem d_Tree_firstOf_22 : decode b_Tree_firstOf 22 = .ok (.getfield 15, 3) := by decide +kernel
theorem d_Tree_firstOf_25 : decode b_Tree_firstOf 25 = .ok (.iload_n 2, 1) := by decide +kernel
theorem d_Tree_firstOf_26 : decode b_Tree_firstOf 26 = .ok (.invokevirtual 25, 3) := by decide +kernel
theorem d_Tree_firstOf_29 : decode b_Tree_firstOf 29 = .ok (.iload_n 1, 1) := by decide +kernel
theorem d_Tree_firstOf_30 : decode b_Tree_firstOf 30 = .ok (.if_icmp .le 19, 3) := by decide +kernel
theorem d_Tree_firstOf_33 : decode b_Tree_firstOf 33 = .ok (.aload_n 0, 1) := by decide +kernel
theorem d_Tree_firstOf_34 : decode b_Tree_firstOf 34 = .ok (.getfield 15, 3) := by decide +kernel
theorem d_Tree_firstOf_37 : decode b_Tree_firstOf 37 = .ok (.iload_n 2, 1) := by decide +kernel
theorem d_Tree_firstOf_38 : decode b_Tree_firstOf 38 = .ok (.iconst 0, 1) := by decide +kernel
theorem d_Tree_firstOf_39 : decode b_Tree_firstOf 39 = .ok (.invokevirtual 116, 3) := by decide +kernel
theorem d_Tree_firstOf_42 : decode b_Tree_firstOf 42 = .ok (.istore_n 2, 1) := by decide +kernel
theorem d_Tree_firstOf_43 : decode b_Tree_firstOf 43 = .ok (.iinc 3 1, 3) := by decide +kernel
theorem d_Tree_firstOf_46 : decode b_Tree_firstOf 46 = .ok (.goto (-35), 3) := by decide +kernel
theorem d_Tree_firstOf_49 : decode b_Tree_firstOf 49 = .ok (.iload_n 2, 1) := by decide +kernel
theorem d_Tree_firstOf_50 : decode b_Tree_firstOf 50 = .ok (.ireturn, 1) := by decide +kernel
set_option maxRecDepth 100000 in
set_option maxHeartbeats 4000000 in
theorem k_Tree_firstOf (l : Launch) (D : va_G) (G : Nat → Nat) (Y : Nat → ClassId) {u : SM} {a1 : Int32} {r : Int32} {u' : SM} (hm : m_Tree_firstOf u a1 = some (r, u')) : KI l D clz (tyz Y) (wdC G Y) y_Tree_firstOf b_Tree_firstOf 4 (some .int) 2 44 [.ref (G 6), .int a1] u r u' := by
  refine mkI (by decide) (Nat.le_of_ble_eq_true rfl) ?_
  intro p e s m below meth c A Z ls C0 hP hD hS hl hret
  obtain ⟨hx, hb, hml, hown, hts, hK, hN, hA⟩ := id C0
  have hl : lv_has ls 4 [(0, .ref (G 6)), (1, .int a1)] := hl
  have L11 : ∀ (x1 : Int32) (o : (Int32 × SM) ⊕ (Int32 × SM)) (kr : ∀ z, o = .inl z → z = (r, u')) (kx : ∀ (y2 : Int32) (ub : SM), o = .inr (y2, ub) → ∀ (H : Heap) (locs : List Loc) (ls : Array Slot), va_P D clz (wdC G Y ub) H → va_D A (wdC G Y ub) → va_S A s.heap H locs → lv_has ls 4 [(2, .int y2)] → W p l e (zRm 2 44) s m ([.ref (G 6), .int a1] : List Value).toArray below meth c H locs 0 0 Z (F0 m 49 ls [])) (n0 : Nat) (ua : SM) (x2 : Int32) (x3 : Int32), m_Tree_firstOf_L11 n0 ua x2 x3 x1 = some o → ∀ (H : Heap) (locs : List Loc) (ls : Array Slot), va_P D clz (wdC G Y ua) H → va_D A (wdC G Y ua) → va_S A s.heap H locs → lv_has ls 4 [(0, .ref (G 6)), (1, .int x1), (2, .int x2), (3, .int x3)] → W p l e (zRm 2 44) s m ([.ref (G 6), .int a1] : List Value).toArray below meth c H locs 0 0 Z (F0 m 11 ls []) := by
    intro x1 o kr kx n0
    induction n0 with
    | zero => intro ua x2 x3 hm; rw [m_Tree_firstOf_L11] at hm; cases hm
    | succ n0 ih =>
      intro ua x2 x3 hm H locs ls hP hD hS hl
      rw [m_Tree_firstOf_L11] at hm
      refine lv_iload_n hx hb d_Tree_firstOf_11 rfl (lv_at hl 3 rfl) ?_
      refine lv_bipush (v := (30 : Int32)) hx hb d_Tree_firstOf_12 (by decide) ?_
      refine lv_icmp_ge (tgt := 49) hx hb d_Tree_firstOf_14 (by decide) (fun hc => ?_) (fun hc => ?_)
      · rw [if_pos hc] at hm
        exact kx x2 ua (Option.some.inj hm).symm _ _ _ hP hD hS (lv_sub hl [2] rfl)
      · rw [if_neg hc] at hm
        refine lv_iload_n hx hb d_Tree_firstOf_17 rfl (lv_at hl 2 rfl) ?_
        refine lv_if_eq (tgt := 49) hx hb d_Tree_firstOf_18 (by decide) (fun hc => ?_) (fun hc => ?_)
        · rw [if_pos hc] at hm
          exact kx x2 ua (Option.some.inj hm).symm _ _ _ hP hD hS (lv_sub hl [2] rfl)
        · rw [if_neg hc] at hm
          refine lv_aload_n hx hb d_Tree_firstOf_21 rfl (lv_at hl 0 rfl) ?_
          refine va_get (D := D) (ci := 3) (v := .ref (G 5)) (C := "FirmStore$Tree") (T := F_Tree) (N := 2) hx hb hts iz_Tree hown hK hP 6 rfl rfl 1 (by decide) (hts _ q_74) (fun _ h9 => h9) rfl d_Tree_firstOf_22 ?_
          refine lv_iload_n hx hb d_Tree_firstOf_25 rfl (lv_at hl 2 rfl) ?_
          obtain ⟨r1, u2, h3, hm⟩ := ob_some hm
          refine goVI (As := [.int x2]) (rest := []) (b0 := G 5) 5 C0 (k_Blocks_levelOf l D G Y h3) q_145 q_3 q_142 q_143 q_144 e_Blocks_levelOf (by decide) rfl rfl hP hD hS hl.1 rfl (Nat.le_of_ble_eq_true rfl) d_Tree_firstOf_26 (fun H locs hP hD hS => ?_)
          refine lv_iload_n hx hb d_Tree_firstOf_29 rfl (lv_at hl 1 rfl) ?_
          refine lv_icmp_le (tgt := 49) hx hb d_Tree_firstOf_30 (by decide) (fun hc => ?_) (fun hc => ?_)
          · rw [if_pos hc] at hm
            exact kx x2 u2 (Option.some.inj hm).symm _ _ _ hP hD hS (lv_sub hl [2] rfl)
          · rw [if_neg hc] at hm
            refine lv_aload_n hx hb d_Tree_firstOf_33 rfl (lv_at hl 0 rfl) ?_
            refine va_get (D := D) (ci := 3) (v := .ref (G 5)) (C := "FirmStore$Tree") (T := F_Tree) (N := 2) hx hb hts iz_Tree hown hK hP 6 rfl rfl 1 (by decide) (hts _ q_74) (fun _ h9 => h9) rfl d_Tree_firstOf_34 ?_
            refine lv_iload_n hx hb d_Tree_firstOf_37 rfl (lv_at hl 2 rfl) ?_
            refine lv_iconst (v := (0 : Int32)) hx hb d_Tree_firstOf_38 (by decide) ?_
            obtain ⟨r5, u6, h7, hm⟩ := ob_some hm
            refine goVI (As := [.int x2, .int (0 : Int32)]) (rest := []) (b0 := G 5) 5 C0 (k_Blocks_childAt l D G Y h7) q_149 q_3 q_146 q_147 q_148 e_Blocks_childAt (by decide) rfl rfl hP hD hS hl.1 rfl (Nat.le_of_ble_eq_true rfl) d_Tree_firstOf_39 (fun H locs hP hD hS => ?_)
            refine lv_istore_n (lv' := [(2, .int r5), (0, .ref (G 6)), (1, .int x1), (3, .int x3)]) hx hb d_Tree_firstOf_42 rfl hl (by decide) rfl (fun ls hl => ?_)
            refine lv_iinc (v := (x3 + (1 : Int32))) (lv' := [(3, .int (x3 + (1 : Int32))), (2, .int r5), (0, .ref (G 6)), (1, .int x1)]) hx hb d_Tree_firstOf_43 hl (k := 3) rfl rfl (by decide) rfl (fun ls hl => ?_)
            refine lv_goto (tgt := 11) hx hb d_Tree_firstOf_46 (by decide) ?_
            exact ih u6 r5 (x3 + (1 : Int32)) hm _ _ _ hP hD hS (lv_sub hl [2, 3, 1, 0] rfl)
  rw [m_Tree_firstOf] at hm
  refine lv_aload_n hx hb d_Tree_firstOf_0 rfl (lv_at hl 0 rfl) ?_
  refine va_get (D := D) (ci := 3) (v := .ref (G 5)) (C := "FirmStore$Tree") (T := F_Tree) (N := 2) hx hb hts iz_Tree hown hK hP 6 rfl rfl 1 (by decide) (hts _ q_74) (fun _ h9 => h9) rfl d_Tree_firstOf_1 ?_
  refine lv_iconst (v := (0 : Int32)) hx hb d_Tree_firstOf_4 (by decide) ?_
  obtain ⟨r9, u10, h11, hm⟩ := ob_some hm
  refine goVI (As := [.int (0 : Int32)]) (rest := []) (b0 := G 5) 5 C0 (k_Blocks_blockIn l D G Y h11) q_132 q_3 q_129 q_130 q_131 e_Blocks_blockIn (by decide) rfl rfl hP hD hS hl.1 rfl (Nat.le_of_ble_eq_true rfl) d_Tree_firstOf_5 (fun H locs hP hD hS => ?_)
  refine lv_istore_n (lv' := [(2, .int r9), (0, .ref (G 6)), (1, .int a1)]) hx hb d_Tree_firstOf_8 rfl hl (by decide) rfl (fun ls hl => ?_)
  refine lv_iconst (v := (0 : Int32)) hx hb d_Tree_firstOf_9 (by decide) ?_
  refine lv_istore_n (lv' := [(3, .int (0 : Int32)), (2, .int r9), (0, .ref (G 6)), (1, .int a1)]) hx hb d_Tree_firstOf_10 rfl hl (by decide) rfl (fun ls hl => ?_)
  obtain ⟨qq, hq, hi, ho⟩ := ol1_some hm
  refine L11 a1 qq (fun z hz => hi z hz) (fun x13 u14 hz H locs ls hP hD hS hl => ?_) fz u10 r9 (0 : Int32) hq _ _ _ hP hD hS (lv_sub hl [2, 3, 1, 0] rfl)
  have hm := ho x13 u14 hz
  refine lv_iload_n hx hb d_Tree_firstOf_49 rfl (lv_at hl 0 rfl) ?_
  exact hret _ _ _ _ x13 u14 (Option.some.inj hm) hP hD hS d_Tree_firstOf_50
theorem d_Tree_countLesser_0 : decode b_Tree_countLesser 0 = .ok (.aload_n 0, 1) := by decide +kernel
theorem d_Tree_countLesser_1 : decode b_Tree_countLesser 1 = .ok (.getfield 15, 3) := by decide +kernel
theorem d_Tree_countLesser_4 : decode b_Tree_countLesser 4 = .ok (.iload_n 1, 1) := by decide +kernel
theorem d_Tree_countLesser_5 : decode b_Tree_countLesser 5 = .ok (.invokevirtual 35, 3) := by decide +kernel
theorem d_Tree_countLesser_8 : decode b_Tree_countLesser 8 = .ok (.istore_n 3, 1) := by decide +kernel
theorem d_Tree_countLesser_9 : decode b_Tree_countLesser 9 = .ok (.iconst 0, 1) := by decide +kernel
theorem d_Tree_countLesser_10 : decode b_Tree_countLesser 10 = .ok (.istore 4, 2) := by decide +kernel
theorem d_Tree_countLesser_12 : decode b_Tree_countLesser 12 = .ok (.iload 4, 2) := by decide +kernel
theorem d_Tree_countLesser_14 : decode b_Tree_countLesser 14 = .ok (.iload_n 3, 1) := by decide +kernel
theorem d_Tree_countLesser_15 : decode b_Tree_countLesser 15 = .ok (.if_icmp .ge 23, 3) := by decide +kernel
theorem d_Tree_countLesser_18 : decode b_Tree_countLesser 18 = .ok (.aload_n 0, 1) := by decide +kernel
theorem d_Tree_countLesser_19 : decode b_Tree_countLesser 19 = .ok (.iload_n 1, 1) := by decide +kernel
theorem d_Tree_countLesser_20 : decode b_Tree_countLesser 20 = .ok (.iload 4, 2) := by decide +kernel
theorem d_Tree_countLesser_22 : decode b_Tree_countLesser 22 = .ok (.invokevirtual 38, 3) := by decide +kernel
theorem d_Tree_countLesser_25 : decode b_Tree_countLesser 25 = .ok (.iload_n 2, 1) := by decide +kernel
theorem d_Tree_countLesser_26 : decode b_Tree_countLesser 26 = .ok (.if_icmp .lt 6, 3) := by decide +kernel
theorem d_Tree_countLesser_29 : decode b_Tree_countLesser 29 = .ok (.iload 4, 2) := by decide +kernel
theorem d_Tree_countLesser_31 : decode b_Tree_countLesser 31 = .ok (.ireturn, 1) := by decide +kernel
theorem d_Tree_countLesser_32 : decode b_Tree_countLesser 32 = .ok (.iinc 4 1, 3) := by decide +kernel
theorem d_Tree_countLesser_35 : decode b_Tree_countLesser 35 = .ok (.goto (-23), 3) := by decide +kernel
theorem d_Tree_countLesser_38 : decode b_Tree_countLesser 38 = .ok (.iload_n 3, 1) := by decide +kernel
theorem d_Tree_countLesser_39 : decode b_Tree_countLesser 39 = .ok (.ireturn, 1) := by decide +kernel
set_option maxRecDepth 100000 in
set_option maxHeartbeats 4000000 in
theorem k_Tree_countLesser (l : Launch) (D : va_G) (G : Nat → Nat) (Y : Nat → ClassId) {u : SM} {a1 : Int32} {a2 : Int32} {r : Int32} {u' : SM} (hm : m_Tree_countLesser u a1 a2 = some (r, u')) : KI l D clz (tyz Y) (wdC G Y) y_Tree_countLesser b_Tree_countLesser 5 (some .int) 3 65 [.ref (G 6), .int a1, .int a2] u r u' := by
  refine mkI (by decide) (Nat.le_of_ble_eq_true rfl) ?_
  intro p e s m below meth c A Z ls C0 hP hD hS hl hret
  obtain ⟨hx, hb, hml, hown, hts, hK, hN, hA⟩ := id C0
  have hl : lv_has ls 5 [(0, .ref (G 6)), (1, .int a1), (2, .int a2)] := hl
  have L12 : ∀ (x1 : Int32) (x2 : Int32) (x3 : Int32) (o : (Int32 × SM) ⊕ (SM)) (kr : ∀ z, o = .inl z → z = (r, u')) (kx : ∀  (ub : SM), o = .inr ub → ∀ (H : Heap) (locs : List Loc) (ls : Array Slot), va_P D clz (wdC G Y ub) H → va_D A (wdC G Y ub) → va_S A s.heap H locs → lv_has ls 5 [(3, .int x3)] → W p l e (zRm 3 65) s m ([.ref (G 6), .int a1, .int a2] : List Value).toArray below meth c H locs 0 0 Z (F0 m 38 ls [])) (n0 : Nat) (ua : SM) (x4 : Int32), m_Tree_countLesser_L12 n0 ua x4 x1 x2 x3 = some o → ∀ (H : Heap) (locs : List Loc) (ls : Array Slot), va_P D clz (wdC G Y ua) H → va_D A (wdC G Y ua) → va_S A s.heap H locs → lv_has ls 5 [(0, .ref (G 6)), (1, .int x1), (2, .int x2), (3, .int x3), (4, .int x4)] → W p l e (zRm 3 65) s m ([.ref (G 6), .int a1, .int a2] : List Value).toArray below meth c H locs 0 0 Z (F0 m 12 ls []) := by
    intro x1 x2 x3 o kr kx n0
    induction n0 with
    | zero => intro ua x4 hm; rw [m_Tree_countLesser_L12] at hm; cases hm
    | succ n0 ih =>
      intro ua x4 hm H locs ls hP hD hS hl
      rw [m_Tree_countLesser_L12] at hm
      refine lv_iload hx hb d_Tree_countLesser_12 (lv_at hl 4 rfl) ?_
      refine lv_iload_n hx hb d_Tree_countLesser_14 rfl (lv_at hl 3 rfl) ?_
      refine lv_icmp_ge (tgt := 38) hx hb d_Tree_countLesser_15 (by decide) (fun hc => ?_) (fun hc => ?_)
      · rw [if_pos hc] at hm
        exact kx  ua (Option.some.inj hm).symm _ _ _ hP hD hS (lv_sub hl [3] rfl)
      · rw [if_neg hc] at hm
        refine lv_aload_n hx hb d_Tree_countLesser_18 rfl (lv_at hl 0 rfl) ?_
        refine lv_iload_n hx hb d_Tree_countLesser_19 rfl (lv_at hl 1 rfl) ?_
        refine lv_iload hx hb d_Tree_countLesser_20 (lv_at hl 4 rfl) ?_
        obtain ⟨r1, u2, h3, hm⟩ := ob_some hm
        refine goVI (As := [.int x1, .int x4]) (rest := []) (b0 := G 6) 6 C0 (k_Tree_keyAt l D G Y h3) q_172 q_4 q_169 q_171 qs_2 e_Tree_keyAt (by decide) rfl rfl hP hD hS hl.1 rfl (Nat.le_of_ble_eq_true rfl) d_Tree_countLesser_22 (fun H locs hP hD hS => ?_)
        refine lv_iload_n hx hb d_Tree_countLesser_25 rfl (lv_at hl 2 rfl) ?_
        refine lv_icmp_lt (tgt := 32) hx hb d_Tree_countLesser_26 (by decide) (fun hc => ?_) (fun hc => ?_)
        · rw [if_pos hc] at hm
          refine lv_iinc (v := (x4 + (1 : Int32))) (lv' := [(4, .int (x4 + (1 : Int32))), (0, .ref (G 6)), (1, .int x1), (2, .int x2), (3, .int x3)]) hx hb d_Tree_countLesser_32 hl (k := 4) rfl rfl (by decide) rfl (fun ls hl => ?_)
          refine lv_goto (tgt := 12) hx hb d_Tree_countLesser_35 (by decide) ?_
          exact ih u2 (x4 + (1 : Int32)) hm _ _ _ hP hD hS (lv_sub hl [1, 2, 3, 4, 0] rfl)
        · rw [if_neg hc] at hm
          refine lv_iload hx hb d_Tree_countLesser_29 (lv_at hl 4 rfl) ?_
          exact hret _ _ _ _ x4 u2 (kr _ (Option.some.inj hm).symm) hP hD hS d_Tree_countLesser_31
  rw [m_Tree_countLesser] at hm
  refine lv_aload_n hx hb d_Tree_countLesser_0 rfl (lv_at hl 0 rfl) ?_
  refine va_get (D := D) (ci := 3) (v := .ref (G 5)) (C := "FirmStore$Tree") (T := F_Tree) (N := 2) hx hb hts iz_Tree hown hK hP 6 rfl rfl 1 (by decide) (hts _ q_74) (fun _ h9 => h9) rfl d_Tree_countLesser_1 ?_
  refine lv_iload_n hx hb d_Tree_countLesser_4 rfl (lv_at hl 1 rfl) ?_
  obtain ⟨r5, u6, h7, hm⟩ := ob_some hm
  refine goVI (As := [.int a1]) (rest := []) (b0 := G 5) 5 C0 (k_Blocks_rowLength l D G Y h7) q_168 q_3 q_165 q_166 q_167 e_Blocks_rowLength (by decide) rfl rfl hP hD hS hl.1 rfl (Nat.le_of_ble_eq_true rfl) d_Tree_countLesser_5 (fun H locs hP hD hS => ?_)
  refine lv_istore_n (lv' := [(3, .int r5), (0, .ref (G 6)), (1, .int a1), (2, .int a2)]) hx hb d_Tree_countLesser_8 rfl hl (by decide) rfl (fun ls hl => ?_)
  refine lv_iconst (v := (0 : Int32)) hx hb d_Tree_countLesser_9 (by decide) ?_
  refine lv_istore (lv' := [(4, .int (0 : Int32)), (3, .int r5), (0, .ref (G 6)), (1, .int a1), (2, .int a2)]) hx hb d_Tree_countLesser_10 hl (by decide) rfl (fun ls hl => ?_)
  obtain ⟨qq, hq, hi, ho⟩ := ol0_some hm
  refine L12 a1 a2 r5 qq (fun z hz => hi z hz) (fun  u9 hz H locs ls hP hD hS hl => ?_) fz u6 (0 : Int32) hq _ _ _ hP hD hS (lv_sub hl [2, 3, 4, 1, 0] rfl)
  have hm := ho  u9 hz
  refine lv_iload_n hx hb d_Tree_countLesser_38 rfl (lv_at hl 0 rfl) ?_
  exact hret _ _ _ _ r5 u9 (Option.some.inj hm) hP hD hS d_Tree_countLesser_39
theorem d_Tree_childFor_0 : decode b_Tree_childFor 0 = .ok (.aload_n 0, 1) := by decide +kernel
theorem d_Tree_childFor_1 : decode b_Tree_childFor 1 = .ok (.getfield 15, 3) := by decide +kernel
theorem d_Tree_childFor_4 : decode b_Tree_childFor 4 = .ok (.iload_n 1, 1) := by decide +kernel
theorem d_Tree_childFor_5 : decode b_Tree_childFor 5 = .ok (.invokevirtual 35, 3) := by decide +kernel
theorem d_Tree_childFor_8 : decode b_Tree_childFor 8 = .ok (.istore_n 3, 1) := by decide +kernel
theorem d_Tree_childFor_9 : decode b_Tree_childFor 9 = .ok (.iload_n 3, 1) := by decide +kernel
theorem d_Tree_childFor_10 : decode b_Tree_childFor 10 = .ok (.iconst 1, 1) := by decide +kernel
theorem d_Tree_childFor_11 : decode b_Tree_childFor 11 = .ok (.isub, 1) := by decide +kernel
theorem d_Tree_childFor_12 : decode b_Tree_childFor 12 = .ok (.istore 4, 2) := by decide +kernel
theorem d_Tree_childFor_14 : decode b_Tree_childFor 14 = .ok (.iload 4, 2) := by decide +kernel
theorem d_Tree_childFor_16 : decode b_Tree_childFor 16 = .ok (.ifCond .lt 31, 3) := by decide +kernel
theorem d_Tree_childFor_19 : decode b_Tree_childFor 19 = .ok (.aload_n 0, 1) := by decide +kernel
theorem d_Tree_childFor_20 : decode b_Tree_childFor 20 = .ok (.iload_n 1, 1) := by decide +kernel
theorem d_Tree_childFor_21 : decode b_Tree_childFor 21 = .ok (.iload 4, 2) := by decide +kernel
theorem d_Tree_childFor_23 : decode b_Tree_childFor 23 = .ok (.invokevirtual 38, 3) := by decide +kernel
theorem d_Tree_childFor_26 : decode b_Tree_childFor 26 = .ok (.iload_n 2, 1) := by decide +kernel
theorem d_Tree_childFor_27 : decode b_Tree_childFor 27 = .ok (.if_icmp .gt 14, 3) := by decide +kernel
theorem d_Tree_childFor_30 : decode b_Tree_childFor 30 = .ok (.aload_n 0, 1) := by decide +kernel
theorem d_Tree_childFor_31 : decode b_Tree_childFor 31 = .ok (.getfield 15, 3) := by decide +kernel
theorem d_Tree_childFor_34 : decode b_Tree_childFor 34 = .ok (.iload_n 1, 1) := by decide +kernel
theorem d_Tree_childFor_35 : decode b_Tree_childFor 35 = .ok (.iload 4, 2) := by decide +kernel
theorem d_Tree_childFor_37 : decode b_Tree_childFor 37 = .ok (.invokevirtual 116, 3) := by decide +kernel
theorem d_Tree_childFor_40 : decode b_Tree_childFor 40 = .ok (.ireturn, 1) := by decide +kernel
theorem d_Tree_childFor_41 : decode b_Tree_childFor 41 = .ok (.iinc 4 (-1), 3) := by decide +kernel
theorem d_Tree_childFor_44 : decode b_Tree_childFor 44 = .ok (.goto (-30), 3) := by decide +kernel
theorem d_Tree_childFor_47 : decode b_Tree_childFor 47 = .ok (.iconst 0, 1) := by decide +kernel
theorem d_Tree_childFor_48 : decode b_Tree_childFor 48 = .ok (.ireturn, 1) := by decide +kernel
set_option maxRecDepth 100000 in
set_option maxHeartbeats 4000000 in
theorem k_Tree_childFor (l : Launch) (D : va_G) (G : Nat → Nat) (Y : Nat → ClassId) {u : SM} {a1 : Int32} {a2 : Int32} {r : Int32} {u' : SM} (hm : m_Tree_childFor u a1 a2 = some (r, u')) : KI l D clz (tyz Y) (wdC G Y) y_Tree_childFor b_Tree_childFor 5 (some .int) 3 65 [.ref (G 6), .int a1, .int a2] u r u' := by
  refine mkI (by decide) (Nat.le_of_ble_eq_true rfl) ?_
  intro p e s m below meth c A Z ls C0 hP hD hS hl hret
  obtain ⟨hx, hb, hml, hown, hts, hK, hN, hA⟩ := id C0
  have hl : lv_has ls 5 [(0, .ref (G 6)), (1, .int a1), (2, .int a2)] := hl
  have L14 : ∀ (x1 : Int32) (x2 : Int32) (o : (Int32 × SM) ⊕ (SM)) (kr : ∀ z, o = .inl z → z = (r, u')) (kx : ∀  (ub : SM), o = .inr ub → ∀ (H : Heap) (locs : List Loc) (ls : Array Slot), va_P D clz (wdC G Y ub) H → va_D A (wdC G Y ub) → va_S A s.heap H locs → lv_has ls 5 [] → W p l e (zRm 3 65) s m ([.ref (G 6), .int a1, .int a2] : List Value).toArray below meth c H locs 0 0 Z (F0 m 47 ls [])) (n0 : Nat) (ua : SM) (x4 : Int32), m_Tree_childFor_L14 n0 ua x4 x1 x2 = some o → ∀ (H : Heap) (locs : List Loc) (ls : Array Slot), va_P D clz (wdC G Y ua) H → va_D A (wdC G Y ua) → va_S A s.heap H locs → lv_has ls 5 [(0, .ref (G 6)), (1, .int x1), (2, .int x2), (4, .int x4)] → W p l e (zRm 3 65) s m ([.ref (G 6), .int a1, .int a2] : List Value).toArray below meth c H locs 0 0 Z (F0 m 14 ls []) := by
    intro x1 x2 o kr kx n0
    induction n0 with
    | zero => intro ua x4 hm; rw [m_Tree_childFor_L14] at hm; cases hm
    | succ n0 ih =>
      intro ua x4 hm H locs ls hP hD hS hl
      rw [m_Tree_childFor_L14] at hm
      refine lv_iload hx hb d_Tree_childFor_14 (lv_at hl 3 rfl) ?_
      refine lv_if_lt (tgt := 47) hx hb d_Tree_childFor_16 (by decide) (fun hc => ?_) (fun hc => ?_)
      · rw [if_pos hc] at hm
        exact kx  ua (Option.some.inj hm).symm _ _ _ hP hD hS (lv_sub hl [] rfl)
      · rw [if_neg hc] at hm
        refine lv_aload_n hx hb d_Tree_childFor_19 rfl (lv_at hl 0 rfl) ?_
        refine lv_iload_n hx hb d_Tree_childFor_20 rfl (lv_at hl 1 rfl) ?_
        refine lv_iload hx hb d_Tree_childFor_21 (lv_at hl 3 rfl) ?_
        obtain ⟨r1, u2, h3, hm⟩ := ob_some hm
        refine goVI (As := [.int x1, .int x4]) (rest := []) (b0 := G 6) 6 C0 (k_Tree_keyAt l D G Y h3) q_172 q_4 q_169 q_171 qs_2 e_Tree_keyAt (by decide) rfl rfl hP hD hS hl.1 rfl (Nat.le_of_ble_eq_true rfl) d_Tree_childFor_23 (fun H locs hP hD hS => ?_)
        refine lv_iload_n hx hb d_Tree_childFor_26 rfl (lv_at hl 2 rfl) ?_
        refine lv_icmp_gt (tgt := 41) hx hb d_Tree_childFor_27 (by decide) (fun hc => ?_) (fun hc => ?_)
        · rw [if_pos hc] at hm
          refine lv_iinc (v := (x4 + (-1 : Int32))) (lv' := [(4, .int (x4 + (-1 : Int32))), (0, .ref (G 6)), (1, .int x1), (2, .int x2)]) hx hb d_Tree_childFor_41 hl (k := 3) rfl rfl (by decide) rfl (fun ls hl => ?_)
          refine lv_goto (tgt := 14) hx hb d_Tree_childFor_44 (by decide) ?_
          exact ih u2 (x4 + (-1 : Int32)) hm _ _ _ hP hD hS (lv_sub hl [1, 2, 3, 0] rfl)
        · rw [if_neg hc] at hm
          refine lv_aload_n hx hb d_Tree_childFor_30 rfl (lv_at hl 0 rfl) ?_
          refine va_get (D := D) (ci := 3) (v := .ref (G 5)) (C := "FirmStore$Tree") (T := F_Tree) (N := 2) hx hb hts iz_Tree hown hK hP 6 rfl rfl 1 (by decide) (hts _ q_74) (fun _ h9 => h9) rfl d_Tree_childFor_31 ?_
          refine lv_iload_n hx hb d_Tree_childFor_34 rfl (lv_at hl 1 rfl) ?_
          refine lv_iload hx hb d_Tree_childFor_35 (lv_at hl 3 rfl) ?_
          obtain ⟨r5, u6, h7, hm⟩ := ob_some hm
          refine goVI (As := [.int x1, .int x4]) (rest := []) (b0 := G 5) 5 C0 (k_Blocks_childAt l D G Y h7) q_149 q_3 q_146 q_147 q_148 e_Blocks_childAt (by decide) rfl rfl hP hD hS hl.1 rfl (Nat.le_of_ble_eq_true rfl) d_Tree_childFor_37 (fun H locs hP hD hS => ?_)
          exact hret _ _ _ _ r5 u6 (kr _ (Option.some.inj hm).symm) hP hD hS d_Tree_childFor_40
  rw [m_Tree_childFor] at hm
  refine lv_aload_n hx hb d_Tree_childFor_0 rfl (lv_at hl 0 rfl) ?_
  refine va_get (D := D) (ci := 3) (v := .ref (G 5)) (C := "FirmStore$Tree") (T := F_Tree) (N := 2) hx hb hts iz_Tree hown hK hP 6 rfl rfl 1 (by decide) (hts _ q_74) (fun _ h9 => h9) rfl d_Tree_childFor_1 ?_
  refine lv_iload_n hx hb d_Tree_childFor_4 rfl (lv_at hl 1 rfl) ?_
  obtain ⟨r9, u10, h11, hm⟩ := ob_some hm
  refine goVI (As := [.int a1]) (rest := []) (b0 := G 5) 5 C0 (k_Blocks_rowLength l D G Y h11) q_168 q_3 q_165 q_166 q_167 e_Blocks_rowLength (by decide) rfl rfl hP hD hS hl.1 rfl (Nat.le_of_ble_eq_true rfl) d_Tree_childFor_5 (fun H locs hP hD hS => ?_)
  refine lv_istore_n (lv' := [(3, .int r9), (0, .ref (G 6)), (1, .int a1), (2, .int a2)]) hx hb d_Tree_childFor_8 rfl hl (by decide) rfl (fun ls hl => ?_)
  refine lv_iload_n hx hb d_Tree_childFor_9 rfl (lv_at hl 0 rfl) ?_
  refine lv_iconst (v := (1 : Int32)) hx hb d_Tree_childFor_10 (by decide) ?_
  refine lv_isub hx hb d_Tree_childFor_11 ?_
  refine lv_istore (lv' := [(4, .int (r9 - (1 : Int32))), (3, .int r9), (0, .ref (G 6)), (1, .int a1), (2, .int a2)]) hx hb d_Tree_childFor_12 hl (by decide) rfl (fun ls hl => ?_)
  obtain ⟨qq, hq, hi, ho⟩ := ol0_some hm
  refine L14 a1 a2 qq (fun z hz => hi z hz) (fun  u13 hz H locs ls hP hD hS hl => ?_) fz u10 (r9 - (1 : Int32)) hq _ _ _ hP hD hS (lv_sub hl [2, 3, 4, 0] rfl)
  have hm := ho  u13 hz
  refine lv_iconst (v := (0 : Int32)) hx hb d_Tree_childFor_47 (by decide) ?_
  exact hret _ _ _ _ (0 : Int32) u13 (Option.some.inj hm) hP hD hS d_Tree_childFor_48
theorem d_Tree_find_0 : decode b_Tree_find 0 = .ok (.aload_n 0, 1) := by decide +kernel
theorem d_Tree_find_1 : decode b_Tree_find 1 = .ok (.getfield 15, 3) := by decide +kernel
theorem d_Tree_find_4 : decode b_Tree_find 4 = .ok (.iconst 0, 1) := by decide +kernel
theorem d_Tree_find_5 : decode b_Tree_find 5 = .ok (.invokevirtual 19, 3) := by decide +kernel
theorem d_Tree_find_8 : decode b_Tree_find 8 = .ok (.istore_n 3, 1) := by decide +kernel
theorem d_Tree_find_9 : decode b_Tree_find 9 = .ok (.iconst 0, 1) := by decide +kernel
theorem d_Tree_find_10 : decode b_Tree_find 10 = .ok (.istore 4, 2) := by decide +kernel
theorem d_Tree_find_12 : decode b_Tree_find 12 = .ok (.iload 4, 2) := by decide +kernel
theorem d_Tree_find_14 : decode b_Tree_find 14 = .ok (.bipush 30, 2) := by decide +kernel
theorem d_Tree_find_16 : decode b_Tree_find 16 = .ok (.if_icmp .ge 68, 3) := by decide +kernel
theorem d_Tree_find_19 : decode b_Tree_find 19 = .ok (.iload_n 3, 1) := by decide +kernel
theorem d_Tree_find_20 : decode b_Tree_find 20 = .ok (.ifCond .eq 64, 3) := by decide +kernel
theorem d_Tree_find_23 : decode b_Tree_find 23 = .ok (.aload_n 0, 1) := by decide +kernel
theorem d_Tree_find_24 : decode b_Tree_find 24 = .ok (.getfield 15, 3) := by decide +kernel
theorem d_Tree_find_27 : decode b_Tree_find 27 = .ok (.iload_n 3, 1) := by decide +kernel
theorem d_Tree_find_28 : decode b_Tree_find 28 = .ok (.invokevirtual 47, 3) := by decide +kernel
theorem d_Tree_find_31 : decode b_Tree_find 31 = .ok (.istore 5, 2) := by decide +kernel
theorem d_Tree_find_33 : decode b_Tree_find 33 = .ok (.iload 5, 2) := by decide +kernel
theorem d_Tree_find_35 : decode b_Tree_find 35 = .ok (.ifCond .eq 22, 3) := by decide +kernel
theorem d_Tree_find_38 : decode b_Tree_find 38 = .ok (.aload_n 0, 1) := by decide +kernel
theorem d_Tree_find_39 : decode b_Tree_find 39 = .ok (.getfield 15, 3) := by decide +kernel
theorem d_Tree_find_42 : decode b_Tree_find 42 = .ok (.iload 5, 2) := by decide +kernel
theorem d_Tree_find_44 : decode b_Tree_find 44 = .ok (.invokevirtual 110, 3) := by decide +kernel
theorem d_Tree_find_47 : decode b_Tree_find 47 = .ok (.iload_n 1, 1) := by decide +kernel
theorem d_Tree_find_48 : decode b_Tree_find 48 = .ok (.if_icmp .gt 9, 3) := by decide +kernel
theorem d_Tree_find_51 : decode b_Tree_find 51 = .ok (.iload 5, 2) := by decide +kernel
theorem d_Tree_find_53 : decode b_Tree_find 53 = .ok (.istore_n 3, 1) := by decide +kernel
theorem d_Tree_find_54 : decode b_Tree_find 54 = .ok (.goto 24, 3) := by decide +kernel
theorem d_Tree_find_57 : decode b_Tree_find 57 = .ok (.aload_n 0, 1) := by decide +kernel
theorem d_Tree_find_58 : decode b_Tree_find 58 = .ok (.getfield 15, 3) := by decide +kernel
theorem d_Tree_find_61 : decode b_Tree_find 61 = .ok (.iload_n 3, 1) := by decide +kernel
theorem d_Tree_find_62 : decode b_Tree_find 62 = .ok (.invokevirtual 25, 3) := by decide +kernel
theorem d_Tree_find_65 : decode b_Tree_find 65 = .ok (.iload_n 2, 1) := by decide +kernel
theorem d_Tree_find_66 : decode b_Tree_find 66 = .ok (.if_icmp .gt 5, 3) := by decide +kernel
theorem d_Tree_find_69 : decode b_Tree_find 69 = .ok (.iload_n 3, 1) := by decide +kernel
theorem d_Tree_find_70 : decode b_Tree_find 70 = .ok (.ireturn, 1) := by decide +kernel
theorem d_Tree_find_71 : decode b_Tree_find 71 = .ok (.aload_n 0, 1) := by decide +kernel
theorem d_Tree_find_72 : decode b_Tree_find 72 = .ok (.iload_n 3, 1) := by decide +kernel
theorem d_Tree_find_73 : decode b_Tree_find 73 = .ok (.iload_n 1, 1) := by decide +kernel
theorem d_Tree_find_74 : decode b_Tree_find 74 = .ok (.invokevirtual 113, 3) := by decide +kernel
theorem d_Tree_find_77 : decode b_Tree_find 77 = .ok (.istore_n 3, 1) := by decide +kernel
theorem d_Tree_find_78 : decode b_Tree_find 78 = .ok (.iinc 4 1, 3) := by decide +kernel
theorem d_Tree_find_81 : decode b_Tree_find 81 = .ok (.goto (-69), 3) := by decide +kernel
theorem d_Tree_find_84 : decode b_Tree_find 84 = .ok (.iconst 0, 1) := by decide +kernel
theorem d_Tree_find_85 : decode b_Tree_find 85 = .ok (.ireturn, 1) := by decide +kernel
set_option maxRecDepth 100000 in
set_option maxHeartbeats 4000000 in
theorem k_Tree_find (l : Launch) (D : va_G) (G : Nat → Nat) (Y : Nat → ClassId) {u : SM} {a1 : Int32} {a2 : Int32} {r : Int32} {u' : SM} (hm : m_Tree_find u a1 a2 = some (r, u')) : KI l D clz (tyz Y) (wdC G Y) y_Tree_find b_Tree_find 6 (some .int) 4 89 [.ref (G 6), .int a1, .int a2] u r u' := by
  refine mkI (by decide) (Nat.le_of_ble_eq_true rfl) ?_
  intro p e s m below meth c A Z ls C0 hP hD hS hl hret
  obtain ⟨hx, hb, hml, hown, hts, hK, hN, hA⟩ := id C0
  have hl : lv_has ls 6 [(0, .ref (G 6)), (1, .int a1), (2, .int a2)] := hl
  have L12 : ∀ (x1 : Int32) (x2 : Int32) (o : (Int32 × SM) ⊕ (SM)) (kr : ∀ z, o = .inl z → z = (r, u')) (kx : ∀  (ub : SM), o = .inr ub → ∀ (H : Heap) (locs : List Loc) (ls : Array Slot), va_P D clz (wdC G Y ub) H → va_D A (wdC G Y ub) → va_S A s.heap H locs → lv_has ls 6 [] → W p l e (zRm 4 89) s m ([.ref (G 6), .int a1, .int a2] : List Value).toArray below meth c H locs 0 0 Z (F0 m 84 ls [])) (n0 : Nat) (ua : SM) (x3 : Int32) (x4 : Int32), m_Tree_find_L12 n0 ua x3 x4 x1 x2 = some o → ∀ (H : Heap) (locs : List Loc) (ls : Array Slot), va_P D clz (wdC G Y ua) H → va_D A (wdC G Y ua) → va_S A s.heap H locs → lv_has ls 6 [(0, .ref (G 6)), (1, .int x1), (2, .int x2), (3, .int x3), (4, .int x4)] → W p l e (zRm 4 89) s m ([.ref (G 6), .int a1, .int a2] : List Value).toArray below meth c H locs 0 0 Z (F0 m 12 ls []) := by
    intro x1 x2 o kr kx n0
    induction n0 with
    | zero => intro ua x3 x4 hm; rw [m_Tree_find_L12] at hm; cases hm
    | succ n0 ih =>
      intro ua x3 x4 hm H locs ls hP hD hS hl
      rw [m_Tree_find_L12] at hm
      refine lv_iload hx hb d_Tree_find_12 (lv_at hl 4 rfl) ?_
      refine lv_bipush (v := (30 : Int32)) hx hb d_Tree_find_14 (by decide) ?_
      refine lv_icmp_ge (tgt := 84) hx hb d_Tree_find_16 (by decide) (fun hc => ?_) (fun hc => ?_)
      · rw [if_pos hc] at hm
        exact kx  ua (Option.some.inj hm).symm _ _ _ hP hD hS (lv_sub hl [] rfl)
      · rw [if_neg hc] at hm
        refine lv_iload_n hx hb d_Tree_find_19 rfl (lv_at hl 3 rfl) ?_
        refine lv_if_eq (tgt := 84) hx hb d_Tree_find_20 (by decide) (fun hc => ?_) (fun hc => ?_)
        · rw [if_pos hc] at hm
          exact kx  ua (Option.some.inj hm).symm _ _ _ hP hD hS (lv_sub hl [] rfl)
        · rw [if_neg hc] at hm
          refine lv_aload_n hx hb d_Tree_find_23 rfl (lv_at hl 0 rfl) ?_
          refine va_get (D := D) (ci := 3) (v := .ref (G 5)) (C := "FirmStore$Tree") (T := F_Tree) (N := 2) hx hb hts iz_Tree hown hK hP 6 rfl rfl 1 (by decide) (hts _ q_74) (fun _ h9 => h9) rfl d_Tree_find_24 ?_
          refine lv_iload_n hx hb d_Tree_find_27 rfl (lv_at hl 3 rfl) ?_
          obtain ⟨r1, u2, h3, hm⟩ := ob_some hm
          refine goVI (As := [.int x3]) (rest := []) (b0 := G 5) 5 C0 (k_Blocks_nextOf l D G Y h3) q_160 q_3 q_157 q_158 q_159 e_Blocks_nextOf (by decide) rfl rfl hP hD hS hl.1 rfl (Nat.le_of_ble_eq_true rfl) d_Tree_find_28 (fun H locs hP hD hS => ?_)
          refine lv_istore (lv' := [(5, .int r1), (0, .ref (G 6)), (1, .int x1), (2, .int x2), (3, .int x3), (4, .int x4)]) hx hb d_Tree_find_31 hl (by decide) rfl (fun ls hl => ?_)
          refine lv_iload hx hb d_Tree_find_33 (lv_at hl 0 rfl) ?_
          refine lv_if_eq (tgt := 57) hx hb d_Tree_find_35 (by decide) (fun hc => ?_) (fun hc => ?_)
          · rw [if_pos hc] at hm
            refine lv_aload_n hx hb d_Tree_find_57 rfl (lv_at hl 1 rfl) ?_
            refine va_get (D := D) (ci := 3) (v := .ref (G 5)) (C := "FirmStore$Tree") (T := F_Tree) (N := 2) hx hb hts iz_Tree hown hK hP 6 rfl rfl 1 (by decide) (hts _ q_74) (fun _ h9 => h9) rfl d_Tree_find_58 ?_
            refine lv_iload_n hx hb d_Tree_find_61 rfl (lv_at hl 4 rfl) ?_
            obtain ⟨r5, u6, h7, hm⟩ := ob_some hm
            refine goVI (As := [.int x3]) (rest := []) (b0 := G 5) 5 C0 (k_Blocks_levelOf l D G Y h7) q_145 q_3 q_142 q_143 q_144 e_Blocks_levelOf (by decide) rfl rfl hP hD hS hl.1 rfl (Nat.le_of_ble_eq_true rfl) d_Tree_find_62 (fun H locs hP hD hS => ?_)
            refine lv_iload_n hx hb d_Tree_find_65 rfl (lv_at hl 3 rfl) ?_
            refine lv_icmp_gt (tgt := 71) hx hb d_Tree_find_66 (by decide) (fun hc => ?_) (fun hc => ?_)
            · rw [if_pos hc] at hm
              refine lv_aload_n hx hb d_Tree_find_71 rfl (lv_at hl 1 rfl) ?_
              refine lv_iload_n hx hb d_Tree_find_72 rfl (lv_at hl 4 rfl) ?_
              refine lv_iload_n hx hb d_Tree_find_73 rfl (lv_at hl 2 rfl) ?_
              obtain ⟨r9, u10, h11, hm⟩ := ob_some hm
              refine goVI (As := [.int x3, .int x1]) (rest := []) (b0 := G 6) 6 C0 (k_Tree_childFor l D G Y h11) q_376 q_4 q_373 q_375 qs_9 e_Tree_childFor (by decide) rfl rfl hP hD hS hl.1 rfl (Nat.le_of_ble_eq_true rfl) d_Tree_find_74 (fun H locs hP hD hS => ?_)
              refine lv_istore_n (lv' := [(3, .int r9), (5, .int r1), (0, .ref (G 6)), (1, .int x1), (2, .int x2), (4, .int x4)]) hx hb d_Tree_find_77 rfl hl (by decide) rfl (fun ls hl => ?_)
              refine lv_iinc (v := (x4 + (1 : Int32))) (lv' := [(4, .int (x4 + (1 : Int32))), (3, .int r9), (5, .int r1), (0, .ref (G 6)), (1, .int x1), (2, .int x2)]) hx hb d_Tree_find_78 hl (k := 5) rfl rfl (by decide) rfl (fun ls hl => ?_)
              refine lv_goto (tgt := 12) hx hb d_Tree_find_81 (by decide) ?_
              exact ih u10 r9 (x4 + (1 : Int32)) hm _ _ _ hP hD hS (lv_sub hl [3, 4, 5, 1, 0] rfl)
            · rw [if_neg hc] at hm
              refine lv_iload_n hx hb d_Tree_find_69 rfl (lv_at hl 4 rfl) ?_
              exact hret _ _ _ _ x3 u6 (kr _ (Option.some.inj hm).symm) hP hD hS d_Tree_find_70
          · rw [if_neg hc] at hm
            refine lv_aload_n hx hb d_Tree_find_38 rfl (lv_at hl 1 rfl) ?_
            refine va_get (D := D) (ci := 3) (v := .ref (G 5)) (C := "FirmStore$Tree") (T := F_Tree) (N := 2) hx hb hts iz_Tree hown hK hP 6 rfl rfl 1 (by decide) (hts _ q_74) (fun _ h9 => h9) rfl d_Tree_find_39 ?_
            refine lv_iload hx hb d_Tree_find_42 (lv_at hl 0 rfl) ?_
            obtain ⟨r13, u14, h15, hm⟩ := ob_some hm
            refine goVI (As := [.int r1]) (rest := []) (b0 := G 5) 5 C0 (k_Blocks_lowOf l D G Y h15) q_164 q_3 q_161 q_162 q_163 e_Blocks_lowOf (by decide) rfl rfl hP hD hS hl.1 rfl (Nat.le_of_ble_eq_true rfl) d_Tree_find_44 (fun H locs hP hD hS => ?_)
            refine lv_iload_n hx hb d_Tree_find_47 rfl (lv_at hl 2 rfl) ?_
            refine lv_icmp_gt (tgt := 57) hx hb d_Tree_find_48 (by decide) (fun hc => ?_) (fun hc => ?_)
            · rw [if_pos hc] at hm
              refine lv_aload_n hx hb d_Tree_find_57 rfl (lv_at hl 1 rfl) ?_
              refine va_get (D := D) (ci := 3) (v := .ref (G 5)) (C := "FirmStore$Tree") (T := F_Tree) (N := 2) hx hb hts iz_Tree hown hK hP 6 rfl rfl 1 (by decide) (hts _ q_74) (fun _ h9 => h9) rfl d_Tree_find_58 ?_
              refine lv_iload_n hx hb d_Tree_find_61 rfl (lv_at hl 4 rfl) ?_
              obtain ⟨r17, u18, h19, hm⟩ := ob_some hm
              refine goVI (As := [.int x3]) (rest := []) (b0 := G 5) 5 C0 (k_Blocks_levelOf l D G Y h19) q_145 q_3 q_142 q_143 q_144 e_Blocks_levelOf (by decide) rfl rfl hP hD hS hl.1 rfl (Nat.le_of_ble_eq_true rfl) d_Tree_find_62 (fun H locs hP hD hS => ?_)
              refine lv_iload_n hx hb d_Tree_find_65 rfl (lv_at hl 3 rfl) ?_
              refine lv_icmp_gt (tgt := 71) hx hb d_Tree_find_66 (by decide) (fun hc => ?_) (fun hc => ?_)
              · rw [if_pos hc] at hm
                refine lv_aload_n hx hb d_Tree_find_71 rfl (lv_at hl 1 rfl) ?_
                refine lv_iload_n hx hb d_Tree_find_72 rfl (lv_at hl 4 rfl) ?_
                refine lv_iload_n hx hb d_Tree_find_73 rfl (lv_at hl 2 rfl) ?_
                obtain ⟨r21, u22, h23, hm⟩ := ob_some hm
                refine goVI (As := [.int x3, .int x1]) (rest := []) (b0 := G 6) 6 C0 (k_Tree_childFor l D G Y h23) q_376 q_4 q_373 q_375 qs_9 e_Tree_childFor (by decide) rfl rfl hP hD hS hl.1 rfl (Nat.le_of_ble_eq_true rfl) d_Tree_find_74 (fun H locs hP hD hS => ?_)
                refine lv_istore_n (lv' := [(3, .int r21), (5, .int r1), (0, .ref (G 6)), (1, .int x1), (2, .int x2), (4, .int x4)]) hx hb d_Tree_find_77 rfl hl (by decide) rfl (fun ls hl => ?_)
                refine lv_iinc (v := (x4 + (1 : Int32))) (lv' := [(4, .int (x4 + (1 : Int32))), (3, .int r21), (5, .int r1), (0, .ref (G 6)), (1, .int x1), (2, .int x2)]) hx hb d_Tree_find_78 hl (k := 5) rfl rfl (by decide) rfl (fun ls hl => ?_)
                refine lv_goto (tgt := 12) hx hb d_Tree_find_81 (by decide) ?_
                exact ih u22 r21 (x4 + (1 : Int32)) hm _ _ _ hP hD hS (lv_sub hl [3, 4, 5, 1, 0] rfl)
              · rw [if_neg hc] at hm
                refine lv_iload_n hx hb d_Tree_find_69 rfl (lv_at hl 4 rfl) ?_
                exact hret _ _ _ _ x3 u18 (kr _ (Option.some.inj hm).symm) hP hD hS d_Tree_find_70
            · rw [if_neg hc] at hm
              refine lv_iload hx hb d_Tree_find_51 (lv_at hl 0 rfl) ?_
              refine lv_istore_n (lv' := [(3, .int r1), (5, .int r1), (0, .ref (G 6)), (1, .int x1), (2, .int x2), (4, .int x4)]) hx hb d_Tree_find_53 rfl hl (by decide) rfl (fun ls hl => ?_)
              refine lv_goto (tgt := 78) hx hb d_Tree_find_54 (by decide) ?_
              refine lv_iinc (v := (x4 + (1 : Int32))) (lv' := [(4, .int (x4 + (1 : Int32))), (3, .int r1), (5, .int r1), (0, .ref (G 6)), (1, .int x1), (2, .int x2)]) hx hb d_Tree_find_78 hl (k := 5) rfl rfl (by decide) rfl (fun ls hl => ?_)
              refine lv_goto (tgt := 12) hx hb d_Tree_find_81 (by decide) ?_
              exact ih u14 r1 (x4 + (1 : Int32)) hm _ _ _ hP hD hS (lv_sub hl [3, 4, 5, 1, 0] rfl)
  rw [m_Tree_find] at hm
  refine lv_aload_n hx hb d_Tree_find_0 rfl (lv_at hl 0 rfl) ?_
  refine va_get (D := D) (ci := 3) (v := .ref (G 5)) (C := "FirmStore$Tree") (T := F_Tree) (N := 2) hx hb hts iz_Tree hown hK hP 6 rfl rfl 1 (by decide) (hts _ q_74) (fun _ h9 => h9) rfl d_Tree_find_1 ?_
  refine lv_iconst (v := (0 : Int32)) hx hb d_Tree_find_4 (by decide) ?_
  obtain ⟨r25, u26, h27, hm⟩ := ob_some hm
  refine goVI (As := [.int (0 : Int32)]) (rest := []) (b0 := G 5) 5 C0 (k_Blocks_blockIn l D G Y h27) q_132 q_3 q_129 q_130 q_131 e_Blocks_blockIn (by decide) rfl rfl hP hD hS hl.1 rfl (Nat.le_of_ble_eq_true rfl) d_Tree_find_5 (fun H locs hP hD hS => ?_)
  refine lv_istore_n (lv' := [(3, .int r25), (0, .ref (G 6)), (1, .int a1), (2, .int a2)]) hx hb d_Tree_find_8 rfl hl (by decide) rfl (fun ls hl => ?_)
  refine lv_iconst (v := (0 : Int32)) hx hb d_Tree_find_9 (by decide) ?_
  refine lv_istore (lv' := [(4, .int (0 : Int32)), (3, .int r25), (0, .ref (G 6)), (1, .int a1), (2, .int a2)]) hx hb d_Tree_find_10 hl (by decide) rfl (fun ls hl => ?_)
  obtain ⟨qq, hq, hi, ho⟩ := ol0_some hm
  refine L12 a1 a2 qq (fun z hz => hi z hz) (fun  u29 hz H locs ls hP hD hS hl => ?_) fz u26 r25 (0 : Int32) hq _ _ _ hP hD hS (lv_sub hl [2, 3, 4, 1, 0] rfl)
  have hm := ho  u29 hz
  refine lv_iconst (v := (0 : Int32)) hx hb d_Tree_find_84 (by decide) ?_
  exact hret _ _ _ _ (0 : Int32) u29 (Option.some.inj hm) hP hD hS d_Tree_find_85
theorem d_Tree_seek_0 : decode b_Tree_seek 0 = .ok (.aload_n 0, 1) := by decide +kernel
theorem d_Tree_seek_1 : decode b_Tree_seek 1 = .ok (.iload_n 1, 1) := by decide +kernel
theorem d_Tree_seek_2 : decode b_Tree_seek 2 = .ok (.iconst 0, 1) := by decide +kernel
theorem d_Tree_seek_3 : decode b_Tree_seek 3 = .ok (.invokevirtual 28, 3) := by decide +kernel
theorem d_Tree_seek_6 : decode b_Tree_seek 6 = .ok (.istore_n 2, 1) := by decide +kernel
theorem d_Tree_seek_7 : decode b_Tree_seek 7 = .ok (.aload_n 0, 1) := by decide +kernel
theorem d_Tree_seek_8 : decode b_Tree_seek 8 = .ok (.iload_n 2, 1) := by decide +kernel
theorem d_Tree_seek_9 : decode b_Tree_seek 9 = .ok (.iload_n 1, 1) := by decide +kernel
theorem d_Tree_seek_10 : decode b_Tree_seek 10 = .ok (.invokevirtual 32, 3) := by decide +kernel
theorem d_Tree_seek_13 : decode b_Tree_seek 13 = .ok (.istore_n 3, 1) := by decide +kernel
theorem d_Tree_seek_14 : decode b_Tree_seek 14 = .ok (.iload_n 2, 1) := by decide +kernel
theorem d_Tree_seek_15 : decode b_Tree_seek 15 = .ok (.ifCond .eq 29, 3) := by decide +kernel
theorem d_Tree_seek_18 : decode b_Tree_seek 18 = .ok (.iload_n 3, 1) := by decide +kernel
theorem d_Tree_seek_19 : decode b_Tree_seek 19 = .ok (.aload_n 0, 1) := by decide +kernel
theorem d_Tree_seek_20 : decode b_Tree_seek 20 = .ok (.getfield 15, 3) := by decide +kernel
theorem d_Tree_seek_23 : decode b_Tree_seek 23 = .ok (.iload_n 2, 1) := by decide +kernel
theorem d_Tree_seek_24 : decode b_Tree_seek 24 = .ok (.invokevirtual 35, 3) := by decide +kernel
theorem d_Tree_seek_27 : decode b_Tree_seek 27 = .ok (.if_icmp .ge 17, 3) := by decide +kernel
theorem d_Tree_seek_30 : decode b_Tree_seek 30 = .ok (.aload_n 0, 1) := by decide +kernel
theorem d_Tree_seek_31 : decode b_Tree_seek 31 = .ok (.iload_n 2, 1) := by decide +kernel
theorem d_Tree_seek_32 : decode b_Tree_seek 32 = .ok (.iload_n 3, 1) := by decide +kernel
theorem d_Tree_seek_33 : decode b_Tree_seek 33 = .ok (.invokevirtual 38, 3) := by decide +kernel
theorem d_Tree_seek_36 : decode b_Tree_seek 36 = .ok (.iload_n 1, 1) := by decide +kernel
theorem d_Tree_seek_37 : decode b_Tree_seek 37 = .ok (.if_icmp .ne 7, 3) := by decide +kernel
theorem d_Tree_seek_40 : decode b_Tree_seek 40 = .ok (.iconst 1, 1) := by decide +kernel
theorem d_Tree_seek_41 : decode b_Tree_seek 41 = .ok (.goto 4, 3) := by decide +kernel
theorem d_Tree_seek_44 : decode b_Tree_seek 44 = .ok (.iconst 0, 1) := by decide +kernel
theorem d_Tree_seek_45 : decode b_Tree_seek 45 = .ok (.istore 4, 2) := by decide +kernel
theorem d_Tree_seek_47 : decode b_Tree_seek 47 = .ok (.iload 4, 2) := by decide +kernel
theorem d_Tree_seek_49 : decode b_Tree_seek 49 = .ok (.ifCond .eq 15, 3) := by decide +kernel
theorem d_Tree_seek_52 : decode b_Tree_seek 52 = .ok (.aload_n 0, 1) := by decide +kernel
theorem d_Tree_seek_53 : decode b_Tree_seek 53 = .ok (.getfield 15, 3) := by decide +kernel
theorem d_Tree_seek_56 : decode b_Tree_seek 56 = .ok (.iload_n 2, 1) := by decide +kernel
theorem d_Tree_seek_57 : decode b_Tree_seek 57 = .ok (.iload_n 3, 1) := by decide +kernel
theorem d_Tree_seek_58 : decode b_Tree_seek 58 = .ok (.invokevirtual 41, 3) := by decide +kernel
theorem d_Tree_seek_61 : decode b_Tree_seek 61 = .ok (.goto 4, 3) := by decide +kernel
theorem d_Tree_seek_64 : decode b_Tree_seek 64 = .ok (.iconst 0, 1) := by decide +kernel
theorem d_Tree_seek_65 : decode b_Tree_seek 65 = .ok (.ireturn, 1) := by decide +kernel
set_option maxRecDepth 100000 in
set_option maxHeartbeats 4000000 in
theorem k_Tree_seek (l : Launch) (D : va_G) (G : Nat → Nat) (Y : Nat → ClassId) {u : SM} {a1 : Int32} {r : Int32} {u' : SM} (hm : m_Tree_seek u a1 = some (r, u')) : KI l D clz (tyz Y) (wdC G Y) y_Tree_seek b_Tree_seek 5 (some .int) 5 114 [.ref (G 6), .int a1] u r u' := by
  refine mkI (by decide) (Nat.le_of_ble_eq_true rfl) ?_
  intro p e s m below meth c A Z ls C0 hP hD hS hl hret
  obtain ⟨hx, hb, hml, hown, hts, hK, hN, hA⟩ := id C0
  have hl : lv_has ls 5 [(0, .ref (G 6)), (1, .int a1)] := hl
  have J45 : ∀ (ua : SM) (x2 : Int32) (x3 : Int32) (s0 : Int32), m_Tree_seek_J45 ua x2 x3 s0 = some (r, u') → ∀ (H : Heap) (locs : List Loc) (ls : Array Slot), va_P D clz (wdC G Y ua) H → va_D A (wdC G Y ua) → va_S A s.heap H locs → lv_has ls 5 [(0, .ref (G 6)), (2, .int x2), (3, .int x3)] → W p l e (zRm 5 114) s m ([.ref (G 6), .int a1] : List Value).toArray below meth c H locs 0 0 Z (F0 m 45 ls [.int s0]) := by
    intro ua x2 x3 s0 hm H locs ls hP hD hS hl
    rw [m_Tree_seek_J45] at hm
    refine lv_istore (lv' := [(4, .int s0), (0, .ref (G 6)), (2, .int x2), (3, .int x3)]) hx hb d_Tree_seek_45 hl (by decide) rfl (fun ls hl => ?_)
    refine lv_iload hx hb d_Tree_seek_47 (lv_at hl 0 rfl) ?_
    refine lv_if_eq (tgt := 64) hx hb d_Tree_seek_49 (by decide) (fun hc => ?_) (fun hc => ?_)
    · rw [if_pos hc] at hm
      refine lv_iconst (v := (0 : Int32)) hx hb d_Tree_seek_64 (by decide) ?_
      exact hret _ _ _ _ (0 : Int32) ua (Option.some.inj hm) hP hD hS d_Tree_seek_65
    · rw [if_neg hc] at hm
      refine lv_aload_n hx hb d_Tree_seek_52 rfl (lv_at hl 1 rfl) ?_
      refine va_get (D := D) (ci := 3) (v := .ref (G 5)) (C := "FirmStore$Tree") (T := F_Tree) (N := 2) hx hb hts iz_Tree hown hK hP 6 rfl rfl 1 (by decide) (hts _ q_74) (fun _ h9 => h9) rfl d_Tree_seek_53 ?_
      refine lv_iload_n hx hb d_Tree_seek_56 rfl (lv_at hl 2 rfl) ?_
      refine lv_iload_n hx hb d_Tree_seek_57 rfl (lv_at hl 3 rfl) ?_
      obtain ⟨r17, u18, h19, hm⟩ := ob_some hm
      refine goVI (As := [.int x2, .int x3]) (rest := []) (b0 := G 5) 5 C0 (k_Blocks_addressOfPlace l D G Y h19) q_384 q_3 q_381 q_382 q_383 e_Blocks_addressOfPlace (by decide) rfl rfl hP hD hS hl.1 rfl (Nat.le_of_ble_eq_true rfl) d_Tree_seek_58 (fun H locs hP hD hS => ?_)
      refine lv_goto (tgt := 65) hx hb d_Tree_seek_61 (by decide) ?_
      exact hret _ _ _ _ r17 u18 (Option.some.inj hm) hP hD hS d_Tree_seek_65
  have J44 : ∀ (ua : SM) (x2 : Int32) (x3 : Int32), m_Tree_seek_J44 ua x2 x3 = some (r, u') → ∀ (H : Heap) (locs : List Loc) (ls : Array Slot), va_P D clz (wdC G Y ua) H → va_D A (wdC G Y ua) → va_S A s.heap H locs → lv_has ls 5 [(0, .ref (G 6)), (2, .int x2), (3, .int x3)] → W p l e (zRm 5 114) s m ([.ref (G 6), .int a1] : List Value).toArray below meth c H locs 0 0 Z (F0 m 44 ls []) := by
    intro ua x2 x3 hm H locs ls hP hD hS hl
    rw [m_Tree_seek_J44] at hm
    refine lv_iconst (v := (0 : Int32)) hx hb d_Tree_seek_44 (by decide) ?_
    exact J45 ua x2 x3 (0 : Int32) hm _ _ _ hP hD hS (lv_sub hl [0, 1, 2] rfl)
  rw [m_Tree_seek] at hm
  refine lv_aload_n hx hb d_Tree_seek_0 rfl (lv_at hl 0 rfl) ?_
  refine lv_iload_n hx hb d_Tree_seek_1 rfl (lv_at hl 1 rfl) ?_
  refine lv_iconst (v := (0 : Int32)) hx hb d_Tree_seek_2 (by decide) ?_
  obtain ⟨r1, u2, h3, hm⟩ := ob_some hm
  refine goVI (As := [.int a1, .int (0 : Int32)]) (rest := []) (b0 := G 6) 6 C0 (k_Tree_find l D G Y h3) q_372 q_4 q_369 q_371 qs_8 e_Tree_find (by decide) rfl rfl hP hD hS hl.1 rfl (Nat.le_of_ble_eq_true rfl) d_Tree_seek_3 (fun H locs hP hD hS => ?_)
  refine lv_istore_n (lv' := [(2, .int r1), (0, .ref (G 6)), (1, .int a1)]) hx hb d_Tree_seek_6 rfl hl (by decide) rfl (fun ls hl => ?_)
  refine lv_aload_n hx hb d_Tree_seek_7 rfl (lv_at hl 1 rfl) ?_
  refine lv_iload_n hx hb d_Tree_seek_8 rfl (lv_at hl 0 rfl) ?_
  refine lv_iload_n hx hb d_Tree_seek_9 rfl (lv_at hl 2 rfl) ?_
  obtain ⟨r5, u6, h7, hm⟩ := ob_some hm
  refine goVI (As := [.int r1, .int a1]) (rest := []) (b0 := G 6) 6 C0 (k_Tree_countLesser l D G Y h7) q_380 q_4 q_377 q_379 qs_10 e_Tree_countLesser (by decide) rfl rfl hP hD hS hl.1 rfl (Nat.le_of_ble_eq_true rfl) d_Tree_seek_10 (fun H locs hP hD hS => ?_)
  refine lv_istore_n (lv' := [(3, .int r5), (2, .int r1), (0, .ref (G 6)), (1, .int a1)]) hx hb d_Tree_seek_13 rfl hl (by decide) rfl (fun ls hl => ?_)
  refine lv_iload_n hx hb d_Tree_seek_14 rfl (lv_at hl 1 rfl) ?_
  refine lv_if_eq (tgt := 44) hx hb d_Tree_seek_15 (by decide) (fun hc => ?_) (fun hc => ?_)
  · rw [if_pos hc] at hm
    exact J44 u6 r1 r5 hm _ _ _ hP hD hS (lv_sub hl [2, 1, 0] rfl)
  · rw [if_neg hc] at hm
    refine lv_iload_n hx hb d_Tree_seek_18 rfl (lv_at hl 0 rfl) ?_
    refine lv_aload_n hx hb d_Tree_seek_19 rfl (lv_at hl 2 rfl) ?_
    refine va_get (D := D) (ci := 3) (v := .ref (G 5)) (C := "FirmStore$Tree") (T := F_Tree) (N := 2) hx hb hts iz_Tree hown hK hP 6 rfl rfl 1 (by decide) (hts _ q_74) (fun _ h9 => h9) rfl d_Tree_seek_20 ?_
    refine lv_iload_n hx hb d_Tree_seek_23 rfl (lv_at hl 1 rfl) ?_
    obtain ⟨r9, u10, h11, hm⟩ := ob_some hm
    refine goVI (As := [.int r1]) (rest := [.int r5]) (b0 := G 5) 5 C0 (k_Blocks_rowLength l D G Y h11) q_168 q_3 q_165 q_166 q_167 e_Blocks_rowLength (by decide) rfl rfl hP hD hS hl.1 rfl (Nat.le_of_ble_eq_true rfl) d_Tree_seek_24 (fun H locs hP hD hS => ?_)
    refine lv_icmp_ge (tgt := 44) hx hb d_Tree_seek_27 (by decide) (fun hc => ?_) (fun hc => ?_)
    · rw [if_pos hc] at hm
      exact J44 u10 r1 r5 hm _ _ _ hP hD hS (lv_sub hl [2, 1, 0] rfl)
    · rw [if_neg hc] at hm
      refine lv_aload_n hx hb d_Tree_seek_30 rfl (lv_at hl 2 rfl) ?_
      refine lv_iload_n hx hb d_Tree_seek_31 rfl (lv_at hl 1 rfl) ?_
      refine lv_iload_n hx hb d_Tree_seek_32 rfl (lv_at hl 0 rfl) ?_
      obtain ⟨r13, u14, h15, hm⟩ := ob_some hm
      refine goVI (As := [.int r1, .int r5]) (rest := []) (b0 := G 6) 6 C0 (k_Tree_keyAt l D G Y h15) q_172 q_4 q_169 q_171 qs_2 e_Tree_keyAt (by decide) rfl rfl hP hD hS hl.1 rfl (Nat.le_of_ble_eq_true rfl) d_Tree_seek_33 (fun H locs hP hD hS => ?_)
      refine lv_iload_n hx hb d_Tree_seek_36 rfl (lv_at hl 3 rfl) ?_
      refine lv_icmp_ne (tgt := 44) hx hb d_Tree_seek_37 (by decide) (fun hc => ?_) (fun hc => ?_)
      · rw [if_neg hc] at hm
        exact J44 u14 r1 r5 hm _ _ _ hP hD hS (lv_sub hl [2, 1, 0] rfl)
      · rw [if_pos hc] at hm
        refine lv_iconst (v := (1 : Int32)) hx hb d_Tree_seek_40 (by decide) ?_
        refine lv_goto (tgt := 45) hx hb d_Tree_seek_41 (by decide) ?_
        exact J45 u14 r1 r5 (1 : Int32) hm _ _ _ hP hD hS (lv_sub hl [2, 1, 0] rfl)
theorem d_Tree_leastKeyFrom_0 : decode b_Tree_leastKeyFrom 0 = .ok (.aload_n 0, 1) := by decide +kernel
theorem d_Tree_leastKeyFrom_1 : decode b_Tree_leastKeyFrom 1 = .ok (.iload_n 1, 1) := by decide +kernel
theorem d_Tree_leastKeyFrom_2 : decode b_Tree_leastKeyFrom 2 = .ok (.iconst 0, 1) := by decide +kernel
theorem d_Tree_leastKeyFrom_3 : decode b_Tree_leastKeyFrom 3 = .ok (.invokevirtual 28, 3) := by decide +kernel
theorem d_Tree_leastKeyFrom_6 : decode b_Tree_leastKeyFrom 6 = .ok (.istore_n 2, 1) := by decide +kernel
theorem d_Tree_leastKeyFrom_7 : decode b_Tree_leastKeyFrom 7 = .ok (.iconst 0, 1) := by decide +kernel
theorem d_Tree_leastKeyFrom_8 : decode b_Tree_leastKeyFrom 8 = .ok (.istore_n 3, 1) := by decide +kernel
theorem d_Tree_leastKeyFrom_9 : decode b_Tree_leastKeyFrom 9 = .ok (.iload_n 3, 1) := by decide +kernel
theorem d_Tree_leastKeyFrom_10 : decode b_Tree_leastKeyFrom 10 = .ok (.bipush 30, 2) := by decide +kernel
theorem d_Tree_leastKeyFrom_12 : decode b_Tree_leastKeyFrom 12 = .ok (.if_icmp .ge 66, 3) := by decide +kernel
theorem d_Tree_leastKeyFrom_15 : decode b_Tree_leastKeyFrom 15 = .ok (.iload_n 2, 1) := by decide +kernel
theorem d_Tree_leastKeyFrom_16 : decode b_Tree_leastKeyFrom 16 = .ok (.ifCond .eq 62, 3) := by decide +kernel
theorem d_Tree_leastKeyFrom_19 : decode b_Tree_leastKeyFrom 19 = .ok (.aload_n 0, 1) := by decide +kernel
theorem d_Tree_leastKeyFrom_20 : decode b_Tree_leastKeyFrom 20 = .ok (.iload_n 2, 1) := by decide +kernel
theorem d_Tree_leastKeyFrom_21 : decode b_Tree_leastKeyFrom 21 = .ok (.iload_n 1, 1) := by decide +kernel
theorem d_Tree_leastKeyFrom_22 : decode b_Tree_leastKeyFrom 22 = .ok (.invokevirtual 32, 3) := by decide +kernel
theorem d_Tree_leastKeyFrom_25 : decode b_Tree_leastKeyFrom 25 = .ok (.istore 4, 2) := by decide +kernel
theorem d_Tree_leastKeyFrom_27 : decode b_Tree_leastKeyFrom 27 = .ok (.iload 4, 2) := by decide +kernel
theorem d_Tree_leastKeyFrom_29 : decode b_Tree_leastKeyFrom 29 = .ok (.aload_n 0, 1) := by decide +kernel
theorem d_Tree_leastKeyFrom_30 : decode b_Tree_leastKeyFrom 30 = .ok (.getfield 15, 3) := by decide +kernel
theorem d_Tree_leastKeyFrom_33 : decode b_Tree_leastKeyFrom 33 = .ok (.iload_n 2, 1) := by decide +kernel
theorem d_Tree_leastKeyFrom_34 : decode b_Tree_leastKeyFrom 34 = .ok (.invokevirtual 35, 3) := by decide +kernel
theorem d_Tree_leastKeyFrom_37 : decode b_Tree_leastKeyFrom 37 = .ok (.if_icmp .ge 26, 3) := by decide +kernel
theorem d_Tree_leastKeyFrom_40 : decode b_Tree_leastKeyFrom 40 = .ok (.aload_n 0, 1) := by decide +kernel
theorem d_Tree_leastKeyFrom_41 : decode b_Tree_leastKeyFrom 41 = .ok (.iload_n 2, 1) := by decide +kernel
theorem d_Tree_leastKeyFrom_42 : decode b_Tree_leastKeyFrom 42 = .ok (.iload 4, 2) := by decide +kernel
theorem d_Tree_leastKeyFrom_44 : decode b_Tree_leastKeyFrom 44 = .ok (.invokevirtual 38, 3) := by decide +kernel
theorem d_Tree_leastKeyFrom_47 : decode b_Tree_leastKeyFrom 47 = .ok (.aload_n 0, 1) := by decide +kernel
theorem d_Tree_leastKeyFrom_48 : decode b_Tree_leastKeyFrom 48 = .ok (.iload_n 2, 1) := by decide +kernel
theorem d_Tree_leastKeyFrom_49 : decode b_Tree_leastKeyFrom 49 = .ok (.invokevirtual 44, 3) := by decide +kernel
theorem d_Tree_leastKeyFrom_52 : decode b_Tree_leastKeyFrom 52 = .ok (.if_icmp .ge 11, 3) := by decide +kernel
theorem d_Tree_leastKeyFrom_55 : decode b_Tree_leastKeyFrom 55 = .ok (.aload_n 0, 1) := by decide +kernel
theorem d_Tree_leastKeyFrom_56 : decode b_Tree_leastKeyFrom 56 = .ok (.iload_n 2, 1) := by decide +kernel
theorem d_Tree_leastKeyFrom_57 : decode b_Tree_leastKeyFrom 57 = .ok (.iload 4, 2) := by decide +kernel
theorem d_Tree_leastKeyFrom_59 : decode b_Tree_leastKeyFrom 59 = .ok (.invokevirtual 38, 3) := by decide +kernel
theorem d_Tree_leastKeyFrom_62 : decode b_Tree_leastKeyFrom 62 = .ok (.ireturn, 1) := by decide +kernel
theorem d_Tree_leastKeyFrom_63 : decode b_Tree_leastKeyFrom 63 = .ok (.aload_n 0, 1) := by decide +kernel
theorem d_Tree_leastKeyFrom_64 : decode b_Tree_leastKeyFrom 64 = .ok (.getfield 15, 3) := by decide +kernel
theorem d_Tree_leastKeyFrom_67 : decode b_Tree_leastKeyFrom 67 = .ok (.iload_n 2, 1) := by decide +kernel
theorem d_Tree_leastKeyFrom_68 : decode b_Tree_leastKeyFrom 68 = .ok (.invokevirtual 47, 3) := by decide +kernel
theorem d_Tree_leastKeyFrom_71 : decode b_Tree_leastKeyFrom 71 = .ok (.istore_n 2, 1) := by decide +kernel
theorem d_Tree_leastKeyFrom_72 : decode b_Tree_leastKeyFrom 72 = .ok (.iinc 3 1, 3) := by decide +kernel
theorem d_Tree_leastKeyFrom_75 : decode b_Tree_leastKeyFrom 75 = .ok (.goto (-66), 3) := by decide +kernel
theorem d_Tree_leastKeyFrom_78 : decode b_Tree_leastKeyFrom 78 = .ok (.sipush 1000, 3) := by decide +kernel
theorem d_Tree_leastKeyFrom_81 : decode b_Tree_leastKeyFrom 81 = .ok (.ireturn, 1) := by decide +kernel
set_option maxRecDepth 100000 in
set_option maxHeartbeats 4000000 in
theorem k_Tree_leastKeyFrom (l : Launch) (D : va_G) (G : Nat → Nat) (Y : Nat → ClassId) {u : SM} {a1 : Int32} {r : Int32} {u' : SM} (hm : m_Tree_leastKeyFrom u a1 = some (r, u')) : KI l D clz (tyz Y) (wdC G Y) y_Tree_leastKeyFrom b_Tree_leastKeyFrom 5 (some .int) 5 114 [.ref (G 6), .int a1] u r u' := by
  refine mkI (by decide) (Nat.le_of_ble_eq_true rfl) ?_
  intro p e s m below meth c A Z ls C0 hP hD hS hl hret
  obtain ⟨hx, hb, hml, hown, hts, hK, hN, hA⟩ := id C0
  have hl : lv_has ls 5 [(0, .ref (G 6)), (1, .int a1)] := hl
  have L9 : ∀ (x1 : Int32) (o : (Int32 × SM) ⊕ (SM)) (kr : ∀ z, o = .inl z → z = (r, u')) (kx : ∀  (ub : SM), o = .inr ub → ∀ (H : Heap) (locs : List Loc) (ls : Array Slot), va_P D clz (wdC G Y ub) H → va_D A (wdC G Y ub) → va_S A s.heap H locs → lv_has ls 5 [] → W p l e (zRm 5 114) s m ([.ref (G 6), .int a1] : List Value).toArray below meth c H locs 0 0 Z (F0 m 78 ls [])) (n0 : Nat) (ua : SM) (x2 : Int32) (x3 : Int32), m_Tree_leastKeyFrom_L9 n0 ua x2 x3 x1 = some o → ∀ (H : Heap) (locs : List Loc) (ls : Array Slot), va_P D clz (wdC G Y ua) H → va_D A (wdC G Y ua) → va_S A s.heap H locs → lv_has ls 5 [(0, .ref (G 6)), (1, .int x1), (2, .int x2), (3, .int x3)] → W p l e (zRm 5 114) s m ([.ref (G 6), .int a1] : List Value).toArray below meth c H locs 0 0 Z (F0 m 9 ls []) := by
    intro x1 o kr kx n0
    induction n0 with
    | zero => intro ua x2 x3 hm; rw [m_Tree_leastKeyFrom_L9] at hm; cases hm
    | succ n0 ih =>
      intro ua x2 x3 hm H locs ls hP hD hS hl
      rw [m_Tree_leastKeyFrom_L9] at hm
      refine lv_iload_n hx hb d_Tree_leastKeyFrom_9 rfl (lv_at hl 3 rfl) ?_
      refine lv_bipush (v := (30 : Int32)) hx hb d_Tree_leastKeyFrom_10 (by decide) ?_
      refine lv_icmp_ge (tgt := 78) hx hb d_Tree_leastKeyFrom_12 (by decide) (fun hc => ?_) (fun hc => ?_)
      · rw [if_pos hc] at hm
        exact kx  ua (Option.some.inj hm).symm _ _ _ hP hD hS (lv_sub hl [] rfl)
      · rw [if_neg hc] at hm
        refine lv_iload_n hx hb d_Tree_leastKeyFrom_15 rfl (lv_at hl 2 rfl) ?_
        refine lv_if_eq (tgt := 78) hx hb d_Tree_leastKeyFrom_16 (by decide) (fun hc => ?_) (fun hc => ?_)
        · rw [if_pos hc] at hm
          exact kx  ua (Option.some.inj hm).symm _ _ _ hP hD hS (lv_sub hl [] rfl)
        · rw [if_neg hc] at hm
          refine lv_aload_n hx hb d_Tree_leastKeyFrom_19 rfl (lv_at hl 0 rfl) ?_
          refine lv_iload_n hx hb d_Tree_leastKeyFrom_20 rfl (lv_at hl 2 rfl) ?_
          refine lv_iload_n hx hb d_Tree_leastKeyFrom_21 rfl (lv_at hl 1 rfl) ?_
          obtain ⟨r1, u2, h3, hm⟩ := ob_some hm
          refine goVI (As := [.int x2, .int x1]) (rest := []) (b0 := G 6) 6 C0 (k_Tree_countLesser l D G Y h3) q_380 q_4 q_377 q_379 qs_10 e_Tree_countLesser (by decide) rfl rfl hP hD hS hl.1 rfl (Nat.le_of_ble_eq_true rfl) d_Tree_leastKeyFrom_22 (fun H locs hP hD hS => ?_)
          refine lv_istore (lv' := [(4, .int r1), (0, .ref (G 6)), (1, .int x1), (2, .int x2), (3, .int x3)]) hx hb d_Tree_leastKeyFrom_25 hl (by decide) rfl (fun ls hl => ?_)
          refine lv_iload hx hb d_Tree_leastKeyFrom_27 (lv_at hl 0 rfl) ?_
          refine lv_aload_n hx hb d_Tree_leastKeyFrom_29 rfl (lv_at hl 1 rfl) ?_
          refine va_get (D := D) (ci := 3) (v := .ref (G 5)) (C := "FirmStore$Tree") (T := F_Tree) (N := 2) hx hb hts iz_Tree hown hK hP 6 rfl rfl 1 (by decide) (hts _ q_74) (fun _ h9 => h9) rfl d_Tree_leastKeyFrom_30 ?_
          refine lv_iload_n hx hb d_Tree_leastKeyFrom_33 rfl (lv_at hl 3 rfl) ?_
          obtain ⟨r5, u6, h7, hm⟩ := ob_some hm
          refine goVI (As := [.int x2]) (rest := [.int r1]) (b0 := G 5) 5 C0 (k_Blocks_rowLength l D G Y h7) q_168 q_3 q_165 q_166 q_167 e_Blocks_rowLength (by decide) rfl rfl hP hD hS hl.1 rfl (Nat.le_of_ble_eq_true rfl) d_Tree_leastKeyFrom_34 (fun H locs hP hD hS => ?_)
          refine lv_icmp_ge (tgt := 63) hx hb d_Tree_leastKeyFrom_37 (by decide) (fun hc => ?_) (fun hc => ?_)
          · rw [if_pos hc] at hm
            refine lv_aload_n hx hb d_Tree_leastKeyFrom_63 rfl (lv_at hl 1 rfl) ?_
            refine va_get (D := D) (ci := 3) (v := .ref (G 5)) (C := "FirmStore$Tree") (T := F_Tree) (N := 2) hx hb hts iz_Tree hown hK hP 6 rfl rfl 1 (by decide) (hts _ q_74) (fun _ h9 => h9) rfl d_Tree_leastKeyFrom_64 ?_
            refine lv_iload_n hx hb d_Tree_leastKeyFrom_67 rfl (lv_at hl 3 rfl) ?_
            obtain ⟨r9, u10, h11, hm⟩ := ob_some hm
            refine goVI (As := [.int x2]) (rest := []) (b0 := G 5) 5 C0 (k_Blocks_nextOf l D G Y h11) q_160 q_3 q_157 q_158 q_159 e_Blocks_nextOf (by decide) rfl rfl hP hD hS hl.1 rfl (Nat.le_of_ble_eq_true rfl) d_Tree_leastKeyFrom_68 (fun H locs hP hD hS => ?_)
            refine lv_istore_n (lv' := [(2, .int r9), (4, .int r1), (0, .ref (G 6)), (1, .int x1), (3, .int x3)]) hx hb d_Tree_leastKeyFrom_71 rfl hl (by decide) rfl (fun ls hl => ?_)
            refine lv_iinc (v := (x3 + (1 : Int32))) (lv' := [(3, .int (x3 + (1 : Int32))), (2, .int r9), (4, .int r1), (0, .ref (G 6)), (1, .int x1)]) hx hb d_Tree_leastKeyFrom_72 hl (k := 4) rfl rfl (by decide) rfl (fun ls hl => ?_)
            refine lv_goto (tgt := 9) hx hb d_Tree_leastKeyFrom_75 (by decide) ?_
            exact ih u10 r9 (x3 + (1 : Int32)) hm _ _ _ hP hD hS (lv_sub hl [3, 4, 1, 0] rfl)
          · rw [if_neg hc] at hm
            refine lv_aload_n hx hb d_Tree_leastKeyFrom_40 rfl (lv_at hl 1 rfl) ?_
            refine lv_iload_n hx hb d_Tree_leastKeyFrom_41 rfl (lv_at hl 3 rfl) ?_
            refine lv_iload hx hb d_Tree_leastKeyFrom_42 (lv_at hl 0 rfl) ?_
            obtain ⟨r13, u14, h15, hm⟩ := ob_some hm
            refine goVI (As := [.int x2, .int r1]) (rest := []) (b0 := G 6) 6 C0 (k_Tree_keyAt l D G Y h15) q_172 q_4 q_169 q_171 qs_2 e_Tree_keyAt (by decide) rfl rfl hP hD hS hl.1 rfl (Nat.le_of_ble_eq_true rfl) d_Tree_leastKeyFrom_44 (fun H locs hP hD hS => ?_)
            refine lv_aload_n hx hb d_Tree_leastKeyFrom_47 rfl (lv_at hl 1 rfl) ?_
            refine lv_iload_n hx hb d_Tree_leastKeyFrom_48 rfl (lv_at hl 3 rfl) ?_
            obtain ⟨r17, u18, h19, hm⟩ := ob_some hm
            refine goVI (As := [.int x2]) (rest := [.int r13]) (b0 := G 6) 6 C0 (k_Tree_endOf l D G Y h19) q_156 q_4 q_153 q_155 qs_1 e_Tree_endOf (by decide) rfl rfl hP hD hS hl.1 rfl (Nat.le_of_ble_eq_true rfl) d_Tree_leastKeyFrom_49 (fun H locs hP hD hS => ?_)
            refine lv_icmp_ge (tgt := 63) hx hb d_Tree_leastKeyFrom_52 (by decide) (fun hc => ?_) (fun hc => ?_)
            · rw [if_pos hc] at hm
              refine lv_aload_n hx hb d_Tree_leastKeyFrom_63 rfl (lv_at hl 1 rfl) ?_
              refine va_get (D := D) (ci := 3) (v := .ref (G 5)) (C := "FirmStore$Tree") (T := F_Tree) (N := 2) hx hb hts iz_Tree hown hK hP 6 rfl rfl 1 (by decide) (hts _ q_74) (fun _ h9 => h9) rfl d_Tree_leastKeyFrom_64 ?_
              refine lv_iload_n hx hb d_Tree_leastKeyFrom_67 rfl (lv_at hl 3 rfl) ?_
              obtain ⟨r21, u22, h23, hm⟩ := ob_some hm
              refine goVI (As := [.int x2]) (rest := []) (b0 := G 5) 5 C0 (k_Blocks_nextOf l D G Y h23) q_160 q_3 q_157 q_158 q_159 e_Blocks_nextOf (by decide) rfl rfl hP hD hS hl.1 rfl (Nat.le_of_ble_eq_true rfl) d_Tree_leastKeyFrom_68 (fun H locs hP hD hS => ?_)
              refine lv_istore_n (lv' := [(2, .int r21), (4, .int r1), (0, .ref (G 6)), (1, .int x1), (3, .int x3)]) hx hb d_Tree_leastKeyFrom_71 rfl hl (by decide) rfl (fun ls hl => ?_)
              refine lv_iinc (v := (x3 + (1 : Int32))) (lv' := [(3, .int (x3 + (1 : Int32))), (2, .int r21), (4, .int r1), (0, .ref (G 6)), (1, .int x1)]) hx hb d_Tree_leastKeyFrom_72 hl (k := 4) rfl rfl (by decide) rfl (fun ls hl => ?_)
              refine lv_goto (tgt := 9) hx hb d_Tree_leastKeyFrom_75 (by decide) ?_
              exact ih u22 r21 (x3 + (1 : Int32)) hm _ _ _ hP hD hS (lv_sub hl [3, 4, 1, 0] rfl)
            · rw [if_neg hc] at hm
              refine lv_aload_n hx hb d_Tree_leastKeyFrom_55 rfl (lv_at hl 1 rfl) ?_
              refine lv_iload_n hx hb d_Tree_leastKeyFrom_56 rfl (lv_at hl 3 rfl) ?_
              refine lv_iload hx hb d_Tree_leastKeyFrom_57 (lv_at hl 0 rfl) ?_
              obtain ⟨r25, u26, h27, hm⟩ := ob_some hm
              refine goVI (As := [.int x2, .int r1]) (rest := []) (b0 := G 6) 6 C0 (k_Tree_keyAt l D G Y h27) q_172 q_4 q_169 q_171 qs_2 e_Tree_keyAt (by decide) rfl rfl hP hD hS hl.1 rfl (Nat.le_of_ble_eq_true rfl) d_Tree_leastKeyFrom_59 (fun H locs hP hD hS => ?_)
              exact hret _ _ _ _ r25 u26 (kr _ (Option.some.inj hm).symm) hP hD hS d_Tree_leastKeyFrom_62
  rw [m_Tree_leastKeyFrom] at hm
  refine lv_aload_n hx hb d_Tree_leastKeyFrom_0 rfl (lv_at hl 0 rfl) ?_
  refine lv_iload_n hx hb d_Tree_leastKeyFrom_1 rfl (lv_at hl 1 rfl) ?_
  refine lv_iconst (v := (0 : Int32)) hx hb d_Tree_leastKeyFrom_2 (by decide) ?_
  obtain ⟨r29, u30, h31, hm⟩ := ob_some hm
  refine goVI (As := [.int a1, .int (0 : Int32)]) (rest := []) (b0 := G 6) 6 C0 (k_Tree_find l D G Y h31) q_372 q_4 q_369 q_371 qs_8 e_Tree_find (by decide) rfl rfl hP hD hS hl.1 rfl (Nat.le_of_ble_eq_true rfl) d_Tree_leastKeyFrom_3 (fun H locs hP hD hS => ?_)
  refine lv_istore_n (lv' := [(2, .int r29), (0, .ref (G 6)), (1, .int a1)]) hx hb d_Tree_leastKeyFrom_6 rfl hl (by decide) rfl (fun ls hl => ?_)
  refine lv_iconst (v := (0 : Int32)) hx hb d_Tree_leastKeyFrom_7 (by decide) ?_
  refine lv_istore_n (lv' := [(3, .int (0 : Int32)), (2, .int r29), (0, .ref (G 6)), (1, .int a1)]) hx hb d_Tree_leastKeyFrom_8 rfl hl (by decide) rfl (fun ls hl => ?_)
  obtain ⟨qq, hq, hi, ho⟩ := ol0_some hm
  refine L9 a1 qq (fun z hz => hi z hz) (fun  u33 hz H locs ls hP hD hS hl => ?_) fz u30 r29 (0 : Int32) hq _ _ _ hP hD hS (lv_sub hl [2, 3, 1, 0] rfl)
  have hm := ho  u33 hz
  refine lv_sipush (v := (1000 : Int32)) hx hb d_Tree_leastKeyFrom_78 (by decide) ?_
  exact hret _ _ _ _ (1000 : Int32) u33 (Option.some.inj hm) hP hD hS d_Tree_leastKeyFrom_81
theorem d_Tree_countKeys_0 : decode b_Tree_countKeys 0 = .ok (.iconst 0, 1) := by decide +kernel
theorem d_Tree_countKeys_1 : decode b_Tree_countKeys 1 = .ok (.istore_n 1, 1) := by decide +kernel
theorem d_Tree_countKeys_2 : decode b_Tree_countKeys 2 = .ok (.aload_n 0, 1) := by decide +kernel
theorem d_Tree_countKeys_3 : decode b_Tree_countKeys 3 = .ok (.iconst 0, 1) := by decide +kernel
theorem d_Tree_countKeys_4 : decode b_Tree_countKeys 4 = .ok (.invokevirtual 50, 3) := by decide +kernel
theorem d_Tree_countKeys_7 : decode b_Tree_countKeys 7 = .ok (.istore_n 2, 1) := by decide +kernel
theorem d_Tree_countKeys_8 : decode b_Tree_countKeys 8 = .ok (.iconst 0, 1) := by decide +kernel
theorem d_Tree_countKeys_9 : decode b_Tree_countKeys 9 = .ok (.istore_n 3, 1) := by decide +kernel
theorem d_Tree_countKeys_10 : decode b_Tree_countKeys 10 = .ok (.iload_n 3, 1) := by decide +kernel
theorem d_Tree_countKeys_11 : decode b_Tree_countKeys 11 = .ok (.bipush 30, 2) := by decide +kernel
theorem d_Tree_countKeys_13 : decode b_Tree_countKeys 13 = .ok (.if_icmp .ge 99, 3) := by decide +kernel
theorem d_Tree_countKeys_16 : decode b_Tree_countKeys 16 = .ok (.iload_n 2, 1) := by decide +kernel
theorem d_Tree_countKeys_17 : decode b_Tree_countKeys 17 = .ok (.ifCond .eq 95, 3) := by decide +kernel
theorem d_Tree_countKeys_20 : decode b_Tree_countKeys 20 = .ok (.aload_n 0, 1) := by decide +kernel
theorem d_Tree_countKeys_21 : decode b_Tree_countKeys 21 = .ok (.iload_n 2, 1) := by decide +kernel
theorem d_Tree_countKeys_22 : decode b_Tree_countKeys 22 = .ok (.invokevirtual 44, 3) := by decide +kernel
theorem d_Tree_countKeys_25 : decode b_Tree_countKeys 25 = .ok (.istore 4, 2) := by decide +kernel
theorem d_Tree_countKeys_27 : decode b_Tree_countKeys 27 = .ok (.aload_n 0, 1) := by decide +kernel
theorem d_Tree_countKeys_28 : decode b_Tree_countKeys 28 = .ok (.getfield 15, 3) := by decide +kernel
theorem d_Tree_countKeys_31 : decode b_Tree_countKeys 31 = .ok (.iload_n 2, 1) := by decide +kernel
theorem d_Tree_countKeys_32 : decode b_Tree_countKeys 32 = .ok (.invokevirtual 35, 3) := by decide +kernel
theorem d_Tree_countKeys_35 : decode b_Tree_countKeys 35 = .ok (.istore 5, 2) := by decide +kernel
theorem d_Tree_countKeys_37 : decode b_Tree_countKeys 37 = .ok (.iconst (-1), 1) := by decide +kernel
theorem d_Tree_countKeys_38 : decode b_Tree_countKeys 38 = .ok (.istore 6, 2) := by decide +kernel
theorem d_Tree_countKeys_40 : decode b_Tree_countKeys 40 = .ok (.iconst 0, 1) := by decide +kernel
theorem d_Tree_countKeys_41 : decode b_Tree_countKeys 41 = .ok (.istore 7, 2) := by decide +kernel
theorem d_Tree_countKeys_43 : decode b_Tree_countKeys 43 = .ok (.iload 7, 2) := by decide +kernel
theorem d_Tree_countKeys_45 : decode b_Tree_countKeys 45 = .ok (.iload 5, 2) := by decide +kernel
theorem d_Tree_countKeys_47 : decode b_Tree_countKeys 47 = .ok (.if_icmp .ge 50, 3) := by decide +kernel
theorem d_Tree_countKeys_50 : decode b_Tree_countKeys 50 = .ok (.aload_n 0, 1) := by decide +kernel
theorem d_Tree_countKeys_51 : decode b_Tree_countKeys 51 = .ok (.iload_n 2, 1) := by decide +kernel
theorem d_Tree_countKeys_52 : decode b_Tree_countKeys 52 = .ok (.iload 7, 2) := by decide +kernel
theorem d_Tree_countKeys_54 : decode b_Tree_countKeys 54 = .ok (.invokevirtual 38, 3) := by decide +kernel
theorem d_Tree_countKeys_57 : decode b_Tree_countKeys 57 = .ok (.iload 4, 2) := by decide +kernel
theorem d_Tree_countKeys_59 : decode b_Tree_countKeys 59 = .ok (.if_icmp .ge 38, 3) := by decide +kernel
theorem d_Tree_countKeys_62 : decode b_Tree_countKeys 62 = .ok (.iload_n 1, 1) := by decide +kernel
theorem d_Tree_countKeys_63 : decode b_Tree_countKeys 63 = .ok (.aload_n 0, 1) := by decide +kernel
theorem d_Tree_countKeys_64 : decode b_Tree_countKeys 64 = .ok (.iload_n 2, 1) := by decide +kernel
theorem d_Tree_countKeys_65 : decode b_Tree_countKeys 65 = .ok (.iload 7, 2) := by decide +kernel
theorem d_Tree_countKeys_67 : decode b_Tree_countKeys 67 = .ok (.invokevirtual 38, 3) := by decide +kernel
theorem d_Tree_countKeys_70 : decode b_Tree_countKeys 70 = .ok (.iload 6, 2) := by decide +kernel
theorem d_Tree_countKeys_72 : decode b_Tree_countKeys 72 = .ok (.if_icmp .ne 7, 3) := by decide +kernel
theorem d_Tree_countKeys_75 : decode b_Tree_countKeys 75 = .ok (.iconst 0, 1) := by decide +kernel
theorem d_Tree_countKeys_76 : decode b_Tree_countKeys 76 = .ok (.goto 4, 3) := by decide +kernel
theorem d_Tree_countKeys_79 : decode b_Tree_countKeys 79 = .ok (.iconst 1, 1) := by decide +kernel
theorem d_Tree_countKeys_80 : decode b_Tree_countKeys 80 = .ok (.iadd, 1) := by decide +kernel
theorem d_Tree_countKeys_81 : decode b_Tree_countKeys 81 = .ok (.istore_n 1, 1) := by decide +kernel
theorem d_Tree_countKeys_82 : decode b_Tree_countKeys 82 = .ok (.aload_n 0, 1) := by decide +kernel
theorem d_Tree_countKeys_83 : decode b_Tree_countKeys 83 = .ok (.iload_n 2, 1) := by decide +kernel
theorem d_Tree_countKeys_84 : decode b_Tree_countKeys 84 = .ok (.iload 7, 2) := by decide +kernel
theorem d_Tree_countKeys_86 : decode b_Tree_countKeys 86 = .ok (.invokevirtual 38, 3) := by decide +kernel
theorem d_Tree_countKeys_89 : decode b_Tree_countKeys 89 = .ok (.istore 6, 2) := by decide +kernel
theorem d_Tree_countKeys_91 : decode b_Tree_countKeys 91 = .ok (.iinc 7 1, 3) := by decide +kernel
theorem d_Tree_countKeys_94 : decode b_Tree_countKeys 94 = .ok (.goto (-51), 3) := by decide +kernel
theorem d_Tree_countKeys_97 : decode b_Tree_countKeys 97 = .ok (.aload_n 0, 1) := by decide +kernel
theorem d_Tree_countKeys_98 : decode b_Tree_countKeys 98 = .ok (.getfield 15, 3) := by decide +kernel
theorem d_Tree_countKeys_101 : decode b_Tree_countKeys 101 = .ok (.iload_n 2, 1) := by decide +kernel
theorem d_Tree_countKeys_102 : decode b_Tree_countKeys 102 = .ok (.invokevirtual 47, 3) := by decide +kernel
theorem d_Tree_countKeys_105 : decode b_Tree_countKeys 105 = .ok (.istore_n 2, 1) := by decide +kernel
theorem d_Tree_countKeys_106 : decode b_Tree_countKeys 106 = .ok (.iinc 3 1, 3) := by decide +kernel
theorem d_Tree_countKeys_109 : decode b_Tree_countKeys 109 = .ok (.goto (-99), 3) := by decide +kernel
theorem d_Tree_countKeys_112 : decode b_Tree_countKeys 112 = .ok (.iload_n 1, 1) := by decide +kernel
theorem d_Tree_countKeys_113 : decode b_Tree_countKeys 113 = .ok (.ireturn, 1) := by decide +kernel
set_option maxRecDepth 100000 in
set_option maxHeartbeats 4000000 in
theorem k_Tree_countKeys (l : Launch) (D : va_G) (G : Nat → Nat) (Y : Nat → ClassId) {u : SM}  {r : Int32} {u' : SM} (hm : m_Tree_countKeys u  = some (r, u')) : KI l D clz (tyz Y) (wdC G Y) y_Tree_countKeys b_Tree_countKeys 8 (some .int) 3 67 [.ref (G 6)] u r u' := by
  refine mkI (by decide) (Nat.le_of_ble_eq_true rfl) ?_
  intro p e s m below meth c A Z ls C0 hP hD hS hl hret
  obtain ⟨hx, hb, hml, hown, hts, hK, hN, hA⟩ := id C0
  have hl : lv_has ls 8 [(0, .ref (G 6))] := hl
  have L43 : ∀ (x2 : Int32) (x3 : Int32) (x4 : Int32) (x5 : Int32) (o : (Int32 × SM) ⊕ (Int32 × SM)) (kr : ∀ z, o = .inl z → z = (r, u')) (kx : ∀ (y1 : Int32) (ub : SM), o = .inr (y1, ub) → ∀ (H : Heap) (locs : List Loc) (ls : Array Slot), va_P D clz (wdC G Y ub) H → va_D A (wdC G Y ub) → va_S A s.heap H locs → lv_has ls 8 [(0, .ref (G 6)), (1, .int y1), (2, .int x2), (3, .int x3)] → W p l e (zRm 3 67) s m ([.ref (G 6)] : List Value).toArray below meth c H locs 0 0 Z (F0 m 97 ls [])) (n0 : Nat) (ua : SM) (x1 : Int32) (x6 : Int32) (x7 : Int32), m_Tree_countKeys_L43 n0 ua x1 x6 x7 x2 x3 x4 x5 = some o → ∀ (H : Heap) (locs : List Loc) (ls : Array Slot), va_P D clz (wdC G Y ua) H → va_D A (wdC G Y ua) → va_S A s.heap H locs → lv_has ls 8 [(0, .ref (G 6)), (1, .int x1), (2, .int x2), (3, .int x3), (4, .int x4), (5, .int x5), (6, .int x6), (7, .int x7)] → W p l e (zRm 3 67) s m ([.ref (G 6)] : List Value).toArray below meth c H locs 0 0 Z (F0 m 43 ls []) := by
    intro x2 x3 x4 x5 o kr kx n0
    induction n0 with
    | zero => intro ua x1 x6 x7 hm; rw [m_Tree_countKeys_L43] at hm; cases hm
    | succ n0 ih =>
      intro ua x1 x6 x7 hm H locs ls hP hD hS hl
      rw [m_Tree_countKeys_L43] at hm
      refine lv_iload hx hb d_Tree_countKeys_43 (lv_at hl 7 rfl) ?_
      refine lv_iload hx hb d_Tree_countKeys_45 (lv_at hl 5 rfl) ?_
      refine lv_icmp_ge (tgt := 97) hx hb d_Tree_countKeys_47 (by decide) (fun hc => ?_) (fun hc => ?_)
      · rw [if_pos hc] at hm
        exact kx x1 ua (Option.some.inj hm).symm _ _ _ hP hD hS (lv_sub hl [0, 1, 2, 3] rfl)
      · rw [if_neg hc] at hm
        refine lv_aload_n hx hb d_Tree_countKeys_50 rfl (lv_at hl 0 rfl) ?_
        refine lv_iload_n hx hb d_Tree_countKeys_51 rfl (lv_at hl 2 rfl) ?_
        refine lv_iload hx hb d_Tree_countKeys_52 (lv_at hl 7 rfl) ?_
        obtain ⟨r1, u2, h3, hm⟩ := ob_some hm
        refine goVI (As := [.int x2, .int x7]) (rest := []) (b0 := G 6) 6 C0 (k_Tree_keyAt l D G Y h3) q_172 q_4 q_169 q_171 qs_2 e_Tree_keyAt (by decide) rfl rfl hP hD hS hl.1 rfl (Nat.le_of_ble_eq_true rfl) d_Tree_countKeys_54 (fun H locs hP hD hS => ?_)
        refine lv_iload hx hb d_Tree_countKeys_57 (lv_at hl 4 rfl) ?_
        refine lv_icmp_ge (tgt := 97) hx hb d_Tree_countKeys_59 (by decide) (fun hc => ?_) (fun hc => ?_)
        · rw [if_pos hc] at hm
          exact kx x1 u2 (Option.some.inj hm).symm _ _ _ hP hD hS (lv_sub hl [0, 1, 2, 3] rfl)
        · rw [if_neg hc] at hm
          refine lv_iload_n hx hb d_Tree_countKeys_62 rfl (lv_at hl 1 rfl) ?_
          refine lv_aload_n hx hb d_Tree_countKeys_63 rfl (lv_at hl 0 rfl) ?_
          refine lv_iload_n hx hb d_Tree_countKeys_64 rfl (lv_at hl 2 rfl) ?_
          refine lv_iload hx hb d_Tree_countKeys_65 (lv_at hl 7 rfl) ?_
          obtain ⟨r5, u6, h7, hm⟩ := ob_some hm
          refine goVI (As := [.int x2, .int x7]) (rest := [.int x1]) (b0 := G 6) 6 C0 (k_Tree_keyAt l D G Y h7) q_172 q_4 q_169 q_171 qs_2 e_Tree_keyAt (by decide) rfl rfl hP hD hS hl.1 rfl (Nat.le_of_ble_eq_true rfl) d_Tree_countKeys_67 (fun H locs hP hD hS => ?_)
          refine lv_iload hx hb d_Tree_countKeys_70 (lv_at hl 6 rfl) ?_
          refine lv_icmp_ne (tgt := 79) hx hb d_Tree_countKeys_72 (by decide) (fun hc => ?_) (fun hc => ?_)
          · rw [if_neg hc] at hm
            refine lv_iconst (v := (1 : Int32)) hx hb d_Tree_countKeys_79 (by decide) ?_
            refine lv_iadd hx hb d_Tree_countKeys_80 ?_
            refine lv_istore_n (lv' := [(1, .int (x1 + (1 : Int32))), (0, .ref (G 6)), (2, .int x2), (3, .int x3), (4, .int x4), (5, .int x5), (6, .int x6), (7, .int x7)]) hx hb d_Tree_countKeys_81 rfl hl (by decide) rfl (fun ls hl => ?_)
            refine lv_aload_n hx hb d_Tree_countKeys_82 rfl (lv_at hl 1 rfl) ?_
            refine lv_iload_n hx hb d_Tree_countKeys_83 rfl (lv_at hl 2 rfl) ?_
            refine lv_iload hx hb d_Tree_countKeys_84 (lv_at hl 7 rfl) ?_
            obtain ⟨r9, u10, h11, hm⟩ := ob_some hm
            refine goVI (As := [.int x2, .int x7]) (rest := []) (b0 := G 6) 6 C0 (k_Tree_keyAt l D G Y h11) q_172 q_4 q_169 q_171 qs_2 e_Tree_keyAt (by decide) rfl rfl hP hD hS hl.1 rfl (Nat.le_of_ble_eq_true rfl) d_Tree_countKeys_86 (fun H locs hP hD hS => ?_)
            refine lv_istore (lv' := [(6, .int r9), (1, .int (x1 + (1 : Int32))), (0, .ref (G 6)), (2, .int x2), (3, .int x3), (4, .int x4), (5, .int x5), (7, .int x7)]) hx hb d_Tree_countKeys_89 hl (by decide) rfl (fun ls hl => ?_)
            refine lv_iinc (v := (x7 + (1 : Int32))) (lv' := [(7, .int (x7 + (1 : Int32))), (6, .int r9), (1, .int (x1 + (1 : Int32))), (0, .ref (G 6)), (2, .int x2), (3, .int x3), (4, .int x4), (5, .int x5)]) hx hb d_Tree_countKeys_91 hl (k := 7) rfl rfl (by decide) rfl (fun ls hl => ?_)
            refine lv_goto (tgt := 43) hx hb d_Tree_countKeys_94 (by decide) ?_
            exact ih u10 (x1 + (1 : Int32)) r9 (x7 + (1 : Int32)) hm _ _ _ hP hD hS (lv_sub hl [3, 2, 4, 5, 6, 7, 1, 0] rfl)
          · rw [if_pos hc] at hm
            refine lv_iconst (v := (0 : Int32)) hx hb d_Tree_countKeys_75 (by decide) ?_
            refine lv_goto (tgt := 80) hx hb d_Tree_countKeys_76 (by decide) ?_
            refine lv_iadd hx hb d_Tree_countKeys_80 ?_
            refine lv_istore_n (lv' := [(1, .int (x1 + (0 : Int32))), (0, .ref (G 6)), (2, .int x2), (3, .int x3), (4, .int x4), (5, .int x5), (6, .int x6), (7, .int x7)]) hx hb d_Tree_countKeys_81 rfl hl (by decide) rfl (fun ls hl => ?_)
            refine lv_aload_n hx hb d_Tree_countKeys_82 rfl (lv_at hl 1 rfl) ?_
            refine lv_iload_n hx hb d_Tree_countKeys_83 rfl (lv_at hl 2 rfl) ?_
            refine lv_iload hx hb d_Tree_countKeys_84 (lv_at hl 7 rfl) ?_
            obtain ⟨r13, u14, h15, hm⟩ := ob_some hm
            refine goVI (As := [.int x2, .int x7]) (rest := []) (b0 := G 6) 6 C0 (k_Tree_keyAt l D G Y h15) q_172 q_4 q_169 q_171 qs_2 e_Tree_keyAt (by decide) rfl rfl hP hD hS hl.1 rfl (Nat.le_of_ble_eq_true rfl) d_Tree_countKeys_86 (fun H locs hP hD hS => ?_)
            refine lv_istore (lv' := [(6, .int r13), (1, .int (x1 + (0 : Int32))), (0, .ref (G 6)), (2, .int x2), (3, .int x3), (4, .int x4), (5, .int x5), (7, .int x7)]) hx hb d_Tree_countKeys_89 hl (by decide) rfl (fun ls hl => ?_)
            refine lv_iinc (v := (x7 + (1 : Int32))) (lv' := [(7, .int (x7 + (1 : Int32))), (6, .int r13), (1, .int (x1 + (0 : Int32))), (0, .ref (G 6)), (2, .int x2), (3, .int x3), (4, .int x4), (5, .int x5)]) hx hb d_Tree_countKeys_91 hl (k := 7) rfl rfl (by decide) rfl (fun ls hl => ?_)
            refine lv_goto (tgt := 43) hx hb d_Tree_countKeys_94 (by decide) ?_
            exact ih u14 (x1 + (0 : Int32)) r13 (x7 + (1 : Int32)) hm _ _ _ hP hD hS (lv_sub hl [3, 2, 4, 5, 6, 7, 1, 0] rfl)
  have L10 : ∀  (o : (Int32 × SM) ⊕ (Int32 × SM)) (kr : ∀ z, o = .inl z → z = (r, u')) (kx : ∀ (y1 : Int32) (ub : SM), o = .inr (y1, ub) → ∀ (H : Heap) (locs : List Loc) (ls : Array Slot), va_P D clz (wdC G Y ub) H → va_D A (wdC G Y ub) → va_S A s.heap H locs → lv_has ls 8 [(1, .int y1)] → W p l e (zRm 3 67) s m ([.ref (G 6)] : List Value).toArray below meth c H locs 0 0 Z (F0 m 112 ls [])) (n0 : Nat) (ua : SM) (x1 : Int32) (x2 : Int32) (x3 : Int32), m_Tree_countKeys_L10 n0 ua x1 x2 x3 = some o → ∀ (H : Heap) (locs : List Loc) (ls : Array Slot), va_P D clz (wdC G Y ua) H → va_D A (wdC G Y ua) → va_S A s.heap H locs → lv_has ls 8 [(0, .ref (G 6)), (1, .int x1), (2, .int x2), (3, .int x3)] → W p l e (zRm 3 67) s m ([.ref (G 6)] : List Value).toArray below meth c H locs 0 0 Z (F0 m 10 ls []) := by
    intro  o kr kx n0
    induction n0 with
    | zero => intro ua x1 x2 x3 hm; rw [m_Tree_countKeys_L10] at hm; cases hm
    | succ n0 ih =>
      intro ua x1 x2 x3 hm H locs ls hP hD hS hl
      rw [m_Tree_countKeys_L10] at hm
      refine lv_iload_n hx hb d_Tree_countKeys_10 rfl (lv_at hl 3 rfl) ?_
      refine lv_bipush (v := (30 : Int32)) hx hb d_Tree_countKeys_11 (by decide) ?_
      refine lv_icmp_ge (tgt := 112) hx hb d_Tree_countKeys_13 (by decide) (fun hc => ?_) (fun hc => ?_)
      · rw [if_pos hc] at hm
        exact kx x1 ua (Option.some.inj hm).symm _ _ _ hP hD hS (lv_sub hl [1] rfl)
      · rw [if_neg hc] at hm
        refine lv_iload_n hx hb d_Tree_countKeys_16 rfl (lv_at hl 2 rfl) ?_
        refine lv_if_eq (tgt := 112) hx hb d_Tree_countKeys_17 (by decide) (fun hc => ?_) (fun hc => ?_)
        · rw [if_pos hc] at hm
          exact kx x1 ua (Option.some.inj hm).symm _ _ _ hP hD hS (lv_sub hl [1] rfl)
        · rw [if_neg hc] at hm
          refine lv_aload_n hx hb d_Tree_countKeys_20 rfl (lv_at hl 0 rfl) ?_
          refine lv_iload_n hx hb d_Tree_countKeys_21 rfl (lv_at hl 2 rfl) ?_
          obtain ⟨r17, u18, h19, hm⟩ := ob_some hm
          refine goVI (As := [.int x2]) (rest := []) (b0 := G 6) 6 C0 (k_Tree_endOf l D G Y h19) q_156 q_4 q_153 q_155 qs_1 e_Tree_endOf (by decide) rfl rfl hP hD hS hl.1 rfl (Nat.le_of_ble_eq_true rfl) d_Tree_countKeys_22 (fun H locs hP hD hS => ?_)
          refine lv_istore (lv' := [(4, .int r17), (0, .ref (G 6)), (1, .int x1), (2, .int x2), (3, .int x3)]) hx hb d_Tree_countKeys_25 hl (by decide) rfl (fun ls hl => ?_)
          refine lv_aload_n hx hb d_Tree_countKeys_27 rfl (lv_at hl 1 rfl) ?_
          refine va_get (D := D) (ci := 3) (v := .ref (G 5)) (C := "FirmStore$Tree") (T := F_Tree) (N := 2) hx hb hts iz_Tree hown hK hP 6 rfl rfl 1 (by decide) (hts _ q_74) (fun _ h9 => h9) rfl d_Tree_countKeys_28 ?_
          refine lv_iload_n hx hb d_Tree_countKeys_31 rfl (lv_at hl 3 rfl) ?_
          obtain ⟨r21, u22, h23, hm⟩ := ob_some hm
          refine goVI (As := [.int x2]) (rest := []) (b0 := G 5) 5 C0 (k_Blocks_rowLength l D G Y h23) q_168 q_3 q_165 q_166 q_167 e_Blocks_rowLength (by decide) rfl rfl hP hD hS hl.1 rfl (Nat.le_of_ble_eq_true rfl) d_Tree_countKeys_32 (fun H locs hP hD hS => ?_)
          refine lv_istore (lv' := [(5, .int r21), (4, .int r17), (0, .ref (G 6)), (1, .int x1), (2, .int x2), (3, .int x3)]) hx hb d_Tree_countKeys_35 hl (by decide) rfl (fun ls hl => ?_)
          refine lv_iconst (v := (-1 : Int32)) hx hb d_Tree_countKeys_37 (by decide) ?_
          refine lv_istore (lv' := [(6, .int (-1 : Int32)), (5, .int r21), (4, .int r17), (0, .ref (G 6)), (1, .int x1), (2, .int x2), (3, .int x3)]) hx hb d_Tree_countKeys_38 hl (by decide) rfl (fun ls hl => ?_)
          refine lv_iconst (v := (0 : Int32)) hx hb d_Tree_countKeys_40 (by decide) ?_
          refine lv_istore (lv' := [(7, .int (0 : Int32)), (6, .int (-1 : Int32)), (5, .int r21), (4, .int r17), (0, .ref (G 6)), (1, .int x1), (2, .int x2), (3, .int x3)]) hx hb d_Tree_countKeys_41 hl (by decide) rfl (fun ls hl => ?_)
          obtain ⟨qq, hq, hi, ho⟩ := ol1_some hm
          refine L43 x2 x3 r17 r21 qq (fun z hz => kr z (hi z hz).symm) (fun x25 u26 hz H locs ls hP hD hS hl => ?_) fz u22 x1 (-1 : Int32) (0 : Int32) hq _ _ _ hP hD hS (lv_sub hl [4, 5, 6, 7, 3, 2, 1, 0] rfl)
          have hm := ho x25 u26 hz
          refine lv_aload_n hx hb d_Tree_countKeys_97 rfl (lv_at hl 0 rfl) ?_
          refine va_get (D := D) (ci := 3) (v := .ref (G 5)) (C := "FirmStore$Tree") (T := F_Tree) (N := 2) hx hb hts iz_Tree hown hK hP 6 rfl rfl 1 (by decide) (hts _ q_74) (fun _ h9 => h9) rfl d_Tree_countKeys_98 ?_
          refine lv_iload_n hx hb d_Tree_countKeys_101 rfl (lv_at hl 2 rfl) ?_
          obtain ⟨r27, u28, h29, hm⟩ := ob_some hm
          refine goVI (As := [.int x2]) (rest := []) (b0 := G 5) 5 C0 (k_Blocks_nextOf l D G Y h29) q_160 q_3 q_157 q_158 q_159 e_Blocks_nextOf (by decide) rfl rfl hP hD hS hl.1 rfl (Nat.le_of_ble_eq_true rfl) d_Tree_countKeys_102 (fun H locs hP hD hS => ?_)
          refine lv_istore_n (lv' := [(2, .int r27), (0, .ref (G 6)), (1, .int x25), (3, .int x3)]) hx hb d_Tree_countKeys_105 rfl hl (by decide) rfl (fun ls hl => ?_)
          refine lv_iinc (v := (x3 + (1 : Int32))) (lv' := [(3, .int (x3 + (1 : Int32))), (2, .int r27), (0, .ref (G 6)), (1, .int x25)]) hx hb d_Tree_countKeys_106 hl (k := 3) rfl rfl (by decide) rfl (fun ls hl => ?_)
          refine lv_goto (tgt := 10) hx hb d_Tree_countKeys_109 (by decide) ?_
          exact ih u28 x25 r27 (x3 + (1 : Int32)) hm _ _ _ hP hD hS (lv_sub hl [2, 3, 1, 0] rfl)
  rw [m_Tree_countKeys] at hm
  refine lv_iconst (v := (0 : Int32)) hx hb d_Tree_countKeys_0 (by decide) ?_
  refine lv_istore_n (lv' := [(1, .int (0 : Int32)), (0, .ref (G 6))]) hx hb d_Tree_countKeys_1 rfl hl (by decide) rfl (fun ls hl => ?_)
  refine lv_aload_n hx hb d_Tree_countKeys_2 rfl (lv_at hl 1 rfl) ?_
  refine lv_iconst (v := (0 : Int32)) hx hb d_Tree_countKeys_3 (by decide) ?_
  obtain ⟨r31, u32, h33, hm⟩ := ob_some hm
  refine goVI (As := [.int (0 : Int32)]) (rest := []) (b0 := G 6) 6 C0 (k_Tree_firstOf l D G Y h33) q_128 q_4 q_125 q_127 qs_0 e_Tree_firstOf (by decide) rfl rfl hP hD hS hl.1 rfl (Nat.le_of_ble_eq_true rfl) d_Tree_countKeys_4 (fun H locs hP hD hS => ?_)
  refine lv_istore_n (lv' := [(2, .int r31), (1, .int (0 : Int32)), (0, .ref (G 6))]) hx hb d_Tree_countKeys_7 rfl hl (by decide) rfl (fun ls hl => ?_)
  refine lv_iconst (v := (0 : Int32)) hx hb d_Tree_countKeys_8 (by decide) ?_
  refine lv_istore_n (lv' := [(3, .int (0 : Int32)), (2, .int r31), (1, .int (0 : Int32)), (0, .ref (G 6))]) hx hb d_Tree_countKeys_9 rfl hl (by decide) rfl (fun ls hl => ?_)
  obtain ⟨qq, hq, hi, ho⟩ := ol1_some hm
  refine L10  qq (fun z hz => hi z hz) (fun x35 u36 hz H locs ls hP hD hS hl => ?_) fz u32 (0 : Int32) r31 (0 : Int32) hq _ _ _ hP hD hS (lv_sub hl [3, 2, 1, 0] rfl)
  have hm := ho x35 u36 hz
  refine lv_iload_n hx hb d_Tree_countKeys_112 rfl (lv_at hl 0 rfl) ?_
  exact hret _ _ _ _ x35 u36 (Option.some.inj hm) hP hD hS d_Tree_countKeys_113
