/-! models and contracts; written by wip/whole/gen.py -/
def m_Blocks_blockOf (u : SM) (a1 : Int64) : Option (Int32 × SM) := if (lg_cmp a1 (0 : Int64)) ≤ 0 then (some ((0 : Int32), u)) else (if 0 < (lg_cmp a1 (30 : Int64)) then (some ((0 : Int32), u)) else (some ((a1.toInt32), u)))
def m_Blocks_blockIn (u : SM) (a1 : Int32) : Option (Int32 × SM) := ob (m_Memory_wordAt u a1) (fun r1 u2 => ob (m_Blocks_blockOf u2 r1) (fun r5 u6 => some (r5, u6)))
def m_Blocks_levelOf (u : SM) (a1 : Int32) : Option (Int32 × SM) := ob (m_Memory_wordAt u (a1 * (9 : Int32))) (fun r1 u2 => some ((r1.toInt32), u2))
def m_Blocks_nextOf (u : SM) (a1 : Int32) : Option (Int32 × SM) := ob (m_Memory_wordAt u ((a1 * (9 : Int32)) + (1 : Int32))) (fun r1 u2 => ob (m_Blocks_blockOf u2 r1) (fun r5 u6 => some (r5, u6)))
def m_Blocks_lowOf (u : SM) (a1 : Int32) : Option (Int32 × SM) := ob (m_Memory_wordAt u ((a1 * (9 : Int32)) + (2 : Int32))) (fun r1 u2 => some ((r1.toInt32), u2))
def m_Blocks_addressOfPlace (u : SM) (a1 : Int32) (a2 : Int32) : Option (Int32 × SM) := some ((((a1 * (9 : Int32)) + (3 : Int32)) + a2), u)
def m_Blocks_entryAt (u : SM) (a1 : Int32) (a2 : Int32) : Option (Int64 × SM) := ob (m_Memory_wordAt u (((a1 * (9 : Int32)) + (3 : Int32)) + a2)) (fun r1 u2 => some (r1, u2))
def m_Blocks_childAt (u : SM) (a1 : Int32) (a2 : Int32) : Option (Int32 × SM) := ob (m_Memory_wordAt u (((a1 * (9 : Int32)) + (3 : Int32)) + a2)) (fun r1 u2 => ob (m_Firm_valueOf u2 r1) (fun r5 u6 => ob (m_Blocks_blockOf u6 (r5.toInt64)) (fun r9 u10 => some (r9, u10))))
def m_Blocks_rowLength_L2 : Nat → SM → Int32 → Int32 → Option ((Int32 × SM) ⊕ (SM))
  | 0, _, _, _ => none
  | n0 + 1, ua, x2, x1 => if (6 : Int32) ≤ x2 then (some (.inr ua)) else (ob (m_Memory_wordAt ua (((x1 * (9 : Int32)) + (3 : Int32)) + x2)) (fun r1 u2 => if (lg_cmp r1 (0 : Int64)) = 0 then (some (.inl (x2, u2))) else (m_Blocks_rowLength_L2 n0 u2 (x2 + (1 : Int32)) x1)))
def m_Blocks_rowLength (u : SM) (a1 : Int32) : Option (Int32 × SM) := ol0 (m_Blocks_rowLength_L2 fz u (0 : Int32) a1) id (fun u5 => some ((6 : Int32), u5))
def m_Blocks_isFull (u : SM) (a1 : Int32) : Option (Int32 × SM) := ob (m_Blocks_rowLength u a1) (fun r1 u2 => if r1 = (6 : Int32) then (some ((1 : Int32), u2)) else (some ((0 : Int32), u2)))
def m_Blocks_linkNext (u : SM) (a1 : Int32) (a2 : Int32) : Option (Int32 × SM) := ob (m_Memory_firmStore u ((a1 * (9 : Int32)) + (1 : Int32)) (a2.toInt64)) (fun r1 u2 => some (r1, u2))
def m_Blocks_freeSet_L4 : Nat → SM → Int32 → Int32 → Option ((Int32 × SM) ⊕ (Int32 × SM))
  | 0, _, _, _ => none
  | n0 + 1, ua, x1, x2 => if (9 : Int32) ≤ x2 then (some (.inr (x1, ua))) else (ob (m_Blocks_blockIn ua x2) (fun r1 u2 => m_Blocks_freeSet_L4 n0 u2 (x1 ||| ((1 : Int32) <<< (r1 &&& 31))) (x2 + (1 : Int32))))
def m_Blocks_freeSet_L83 : Nat → SM → Int32 → Int32 → Int32 → Int32 → Int32 → Int32 → Int32 → Option ((Int32 × SM) ⊕ (Int32 × SM))
  | 0, _, _, _, _, _, _, _, _ => none
  | n0 + 1, ua, x5, x7, x1, x2, x3, x4, x6 => if x6 ≤ x7 then (some (.inr (x5, ua))) else (ob (m_Blocks_childAt ua x4 x7) (fun r5 u6 => m_Blocks_freeSet_L83 n0 u6 (x5 ||| ((1 : Int32) <<< (r5 &&& 31))) (x7 + (1 : Int32)) x1 x2 x3 x4 x6))
def m_Blocks_freeSet_L33 : Nat → SM → Int32 → Int32 → Int32 → Option ((Int32 × SM) ⊕ (Int32 × SM))
  | 0, _, _, _, _ => none
  | n0 + 1, ua, x1, x2, x3 => if (30 : Int32) ≤ x3 then (some (.inr (x1, ua))) else (if x2 = 0 then (some (.inr (x1, ua))) else (ob (m_Int_numberOfTrailingZeros ua x2) (fun r9 u10 => ob (m_Blocks_nextOf u10 r9) (fun r13 u14 => ob (m_Blocks_levelOf u14 r9) (fun r17 u18 => if r17 ≤ 0 then (ol1 (m_Blocks_freeSet_L83 fz u18 ((1 : Int32) <<< (r13 &&& 31)) (0 : Int32) x1 x2 x3 r9 (0 : Int32)) Sum.inl (fun x21 u22 => m_Blocks_freeSet_L33 n0 u22 (x1 ||| ((x21 &&& (2147483646 : Int32)) &&& (x1 ^^^ (-1 : Int32)))) ((x2 &&& (((1 : Int32) <<< (r9 &&& 31)) ^^^ (-1 : Int32))) ||| ((x21 &&& (2147483646 : Int32)) &&& (x1 ^^^ (-1 : Int32)))) (x3 + (1 : Int32)))) else (ob (m_Blocks_rowLength u18 r9) (fun r23 u24 => ol1 (m_Blocks_freeSet_L83 fz u24 ((1 : Int32) <<< (r13 &&& 31)) (0 : Int32) x1 x2 x3 r9 r23) Sum.inl (fun x27 u28 => m_Blocks_freeSet_L33 n0 u28 (x1 ||| ((x27 &&& (2147483646 : Int32)) &&& (x1 ^^^ (-1 : Int32)))) ((x2 &&& (((1 : Int32) <<< (r9 &&& 31)) ^^^ (-1 : Int32))) ||| ((x27 &&& (2147483646 : Int32)) &&& (x1 ^^^ (-1 : Int32)))) (x3 + (1 : Int32))))))))))
def m_Blocks_freeSet (u : SM)  : Option (Int32 × SM) := ol1 (m_Blocks_freeSet_L4 fz u (0 : Int32) (0 : Int32)) id (fun x29 u30 => ol1 (m_Blocks_freeSet_L33 fz u30 x29 (x29 &&& (2147483646 : Int32)) (0 : Int32)) id (fun x31 u32 => some (((2147483646 : Int32) &&& (x31 ^^^ (-1 : Int32))), u32)))
def m_Blocks_countFree (u : SM)  : Option (Int32 × SM) := ob (m_Blocks_freeSet u) (fun r1 u2 => ob (m_Int_bitCount u2 r1) (fun r5 u6 => some (r5, u6)))
def m_Blocks_make_J179 (ua : SM) (x11 : Int32) (s0 : Int32) : Option (Int32 × SM) := if s0 = 0 then (some ((0 : Int32), ua)) else (ob (m_Memory_fence ua) (fun _ u46 => some (x11, u46)))
def m_Blocks_make_J178 (ua : SM) (x11 : Int32) : Option (Int32 × SM) := m_Blocks_make_J179 ua x11 (0 : Int32)
def m_Blocks_make (u : SM) (a1 : Int32) (a2 : Int32) (a3 : Int32) (a4 : Int64) (a5 : Int64) (a6 : Int64) : Option (Int32 × SM) := ob (m_Blocks_freeSet u) (fun r1 u2 => ob (m_Int_numberOfTrailingZeros u2 r1) (fun r5 u6 => if r1 = 0 then (m_Blocks_make_J178 u6 r5) else (ob (m_Memory_store u6 (r5 * (9 : Int32)) (a1.toInt64)) (fun r9 u10 => if r9 = 0 then (m_Blocks_make_J178 u10 r5) else (ob (m_Memory_store u10 ((r5 * (9 : Int32)) + (1 : Int32)) (a2.toInt64)) (fun r13 u14 => if r13 = 0 then (m_Blocks_make_J178 u14 r5) else (ob (m_Memory_store u14 ((r5 * (9 : Int32)) + (2 : Int32)) (a3.toInt64)) (fun r17 u18 => if r17 = 0 then (m_Blocks_make_J178 u18 r5) else (ob (m_Memory_store u18 ((r5 * (9 : Int32)) + (3 : Int32)) a4) (fun r21 u22 => if r21 = 0 then (m_Blocks_make_J178 u22 r5) else (ob (m_Memory_store u22 (((r5 * (9 : Int32)) + (3 : Int32)) + (1 : Int32)) a5) (fun r25 u26 => if r25 = 0 then (m_Blocks_make_J178 u26 r5) else (ob (m_Memory_store u26 (((r5 * (9 : Int32)) + (3 : Int32)) + (2 : Int32)) a6) (fun r29 u30 => if r29 = 0 then (m_Blocks_make_J178 u30 r5) else (ob (m_Memory_store u30 (((r5 * (9 : Int32)) + (3 : Int32)) + (3 : Int32)) (0 : Int64)) (fun r33 u34 => if r33 = 0 then (m_Blocks_make_J178 u34 r5) else (ob (m_Memory_store u34 (((r5 * (9 : Int32)) + (3 : Int32)) + (4 : Int32)) (0 : Int64)) (fun r37 u38 => if r37 = 0 then (m_Blocks_make_J178 u38 r5) else (ob (m_Memory_store u38 (((r5 * (9 : Int32)) + (3 : Int32)) + (5 : Int32)) (0 : Int64)) (fun r41 u42 => if r41 = 0 then (m_Blocks_make_J178 u42 r5) else (m_Blocks_make_J179 u42 r5 (1 : Int32))))))))))))))))))))))
theorem d_Blocks_blockOf_0 : decode b_Blocks_blockOf 0 = .ok (.lload_n 1, 1) := by decide +kernel
theorem d_Blocks_blockOf_1 : decode b_Blocks_blockOf 1 = .ok (.lconst 0, 1) := by decide +kernel
theorem d_Blocks_blockOf_2 : decode b_Blocks_blockOf 2 = .ok (.lcmp, 1) := by decide +kernel
theorem d_Blocks_blockOf_3 : decode b_Blocks_blockOf 3 = .ok (.ifCond .le 16, 3) := by decide +kernel
theorem d_Blocks_blockOf_6 : decode b_Blocks_blockOf 6 = .ok (.lload_n 1, 1) := by decide +kernel
theorem d_Blocks_blockOf_7 : decode b_Blocks_blockOf 7 = .ok (.ldc2_w 13, 3) := by decide +kernel
theorem d_Blocks_blockOf_10 : decode b_Blocks_blockOf 10 = .ok (.lcmp, 1) := by decide +kernel
theorem d_Blocks_blockOf_11 : decode b_Blocks_blockOf 11 = .ok (.ifCond .gt 8, 3) := by decide +kernel
theorem d_Blocks_blockOf_14 : decode b_Blocks_blockOf 14 = .ok (.lload_n 1, 1) := by decide +kernel
theorem d_Blocks_blockOf_15 : decode b_Blocks_blockOf 15 = .ok (.l2i, 1) := by decide +kernel
theorem d_Blocks_blockOf_16 : decode b_Blocks_blockOf 16 = .ok (.goto 4, 3) := by decide +kernel
theorem d_Blocks_blockOf_19 : decode b_Blocks_blockOf 19 = .ok (.iconst 0, 1) := by decide +kernel
theorem d_Blocks_blockOf_20 : decode b_Blocks_blockOf 20 = .ok (.ireturn, 1) := by decide +kernel
set_option maxRecDepth 100000 in
set_option maxHeartbeats 4000000 in
theorem k_Blocks_blockOf (l : Launch) (D : va_G) (G : Nat → Nat) (Y : Nat → ClassId) {u : SM} {a1 : Int64} {r : Int32} {u' : SM} (hm : m_Blocks_blockOf u a1 = some (r, u')) : KI l D clz (tyz Y) (wdC G Y) y_Blocks_blockOf b_Blocks_blockOf 3 (some .int) 0 0 [.ref (G 5), .long a1] u r u' := by
  refine mkI (by decide) (Nat.le_of_ble_eq_true rfl) ?_
  intro p e s m below meth c A Z ls C0 hP hD hS hl hret
  obtain ⟨hx, hb, hml, hown, hts, hK, hN, hA⟩ := id C0
  have hl : lv_has ls 3 [(0, .ref (G 5)), (1, .long a1)] := hl
  rw [m_Blocks_blockOf] at hm
  refine lv_lload_n hx hb d_Blocks_blockOf_0 rfl (lv_at hl 1 rfl) ?_
  refine lv_lconst (v := (0 : Int64)) hx hb d_Blocks_blockOf_1 (by decide) ?_
  refine W.lcmp hx hb d_Blocks_blockOf_2 ?_
  refine lv_if_le (tgt := 19) hx hb d_Blocks_blockOf_3 (by decide) (fun hc => ?_) (fun hc => ?_)
  · rw [if_pos hc] at hm
    refine lv_iconst (v := (0 : Int32)) hx hb d_Blocks_blockOf_19 (by decide) ?_
    exact hret _ _ _ _ (0 : Int32) u (Option.some.inj hm) hP hD hS d_Blocks_blockOf_20
  · rw [if_neg hc] at hm
    refine lv_lload_n hx hb d_Blocks_blockOf_6 rfl (lv_at hl 1 rfl) ?_
    refine lv_ldc2 (v := (30 : Int64)) hx hb hown (hts _ q_141) d_Blocks_blockOf_7 ?_
    refine W.lcmp hx hb d_Blocks_blockOf_10 ?_
    refine lv_if_gt (tgt := 19) hx hb d_Blocks_blockOf_11 (by decide) (fun hc => ?_) (fun hc => ?_)
    · rw [if_pos hc] at hm
      refine lv_iconst (v := (0 : Int32)) hx hb d_Blocks_blockOf_19 (by decide) ?_
      exact hret _ _ _ _ (0 : Int32) u (Option.some.inj hm) hP hD hS d_Blocks_blockOf_20
    · rw [if_neg hc] at hm
      refine lv_lload_n hx hb d_Blocks_blockOf_14 rfl (lv_at hl 1 rfl) ?_
      refine lv_l2i (v := (a1.toInt32)) hx hb d_Blocks_blockOf_15 rfl ?_
      refine lv_goto (tgt := 20) hx hb d_Blocks_blockOf_16 (by decide) ?_
      exact hret _ _ _ _ (a1.toInt32) u (Option.some.inj hm) hP hD hS d_Blocks_blockOf_20
theorem d_Blocks_blockIn_0 : decode b_Blocks_blockIn 0 = .ok (.aload_n 0, 1) := by decide +kernel
theorem d_Blocks_blockIn_1 : decode b_Blocks_blockIn 1 = .ok (.aload_n 0, 1) := by decide +kernel
theorem d_Blocks_blockIn_2 : decode b_Blocks_blockIn 2 = .ok (.getfield 9, 3) := by decide +kernel
theorem d_Blocks_blockIn_5 : decode b_Blocks_blockIn 5 = .ok (.iload_n 1, 1) := by decide +kernel
theorem d_Blocks_blockIn_6 : decode b_Blocks_blockIn 6 = .ok (.invokevirtual 15, 3) := by decide +kernel
theorem d_Blocks_blockIn_9 : decode b_Blocks_blockIn 9 = .ok (.invokevirtual 21, 3) := by decide +kernel
theorem d_Blocks_blockIn_12 : decode b_Blocks_blockIn 12 = .ok (.ireturn, 1) := by decide +kernel
set_option maxRecDepth 100000 in
set_option maxHeartbeats 4000000 in
theorem k_Blocks_blockIn (l : Launch) (D : va_G) (G : Nat → Nat) (Y : Nat → ClassId) {u : SM} {a1 : Int32} {r : Int32} {u' : SM} (hm : m_Blocks_blockIn u a1 = some (r, u')) : KI l D clz (tyz Y) (wdC G Y) y_Blocks_blockIn b_Blocks_blockIn 2 (some .int) 1 22 [.ref (G 5), .int a1] u r u' := by
  refine mkI (by decide) (Nat.le_of_ble_eq_true rfl) ?_
  intro p e s m below meth c A Z ls C0 hP hD hS hl hret
  obtain ⟨hx, hb, hml, hown, hts, hK, hN, hA⟩ := id C0
  have hl : lv_has ls 2 [(0, .ref (G 5)), (1, .int a1)] := hl
  rw [m_Blocks_blockIn] at hm
  refine lv_aload_n hx hb d_Blocks_blockIn_0 rfl (lv_at hl 0 rfl) ?_
  refine lv_aload_n hx hb d_Blocks_blockIn_1 rfl (lv_at hl 0 rfl) ?_
  refine va_get (D := D) (ci := 2) (v := .ref (G 1)) (C := "FirmStore$Blocks") (T := F_Blocks) (N := 1) hx hb hts iz_Blocks hown hK hP 5 rfl rfl 0 (by decide) (hts _ q_63) (fun _ h9 => h9) rfl d_Blocks_blockIn_2 ?_
  refine lv_iload_n hx hb d_Blocks_blockIn_5 rfl (lv_at hl 1 rfl) ?_
  obtain ⟨r1, u2, h3, hm⟩ := ob_some hm
  refine goVL (As := [.int a1]) (rest := [.ref (G 5)]) (b0 := G 1) 1 C0 (k_Memory_wordAt l D G Y h3) q_136 q_2 q_133 q_134 q_135 e_Memory_wordAt (by decide) rfl rfl hP hD hS hl.1 rfl (Nat.le_of_ble_eq_true rfl) d_Blocks_blockIn_6 (fun H locs hP hD hS => ?_)
  obtain ⟨r5, u6, h7, hm⟩ := ob_some hm
  refine goVI (As := [.long r1]) (rest := []) (b0 := G 5) 5 C0 (k_Blocks_blockOf l D G Y h7) q_140 q_3 q_137 q_138 q_139 e_Blocks_blockOf (by decide) rfl rfl hP hD hS hl.1 rfl (Nat.le_of_ble_eq_true rfl) d_Blocks_blockIn_9 (fun H locs hP hD hS => ?_)
  exact hret _ _ _ _ r5 u6 (Option.some.inj hm) hP hD hS d_Blocks_blockIn_12
theorem d_Blocks_levelOf_0 : decode b_Blocks_levelOf 0 = .ok (.aload_n 0, 1) := by decide +kernel
theorem d_Blocks_levelOf_1 : decode b_Blocks_levelOf 1 = .ok (.getfield 9, 3) := by decide +kernel
theorem d_Blocks_levelOf_4 : decode b_Blocks_levelOf 4 = .ok (.iload_n 1, 1) := by decide +kernel
theorem d_Blocks_levelOf_5 : decode b_Blocks_levelOf 5 = .ok (.bipush 9, 2) := by decide +kernel
theorem d_Blocks_levelOf_7 : decode b_Blocks_levelOf 7 = .ok (.imul, 1) := by decide +kernel
theorem d_Blocks_levelOf_8 : decode b_Blocks_levelOf 8 = .ok (.invokevirtual 15, 3) := by decide +kernel
theorem d_Blocks_levelOf_11 : decode b_Blocks_levelOf 11 = .ok (.l2i, 1) := by decide +kernel
theorem d_Blocks_levelOf_12 : decode b_Blocks_levelOf 12 = .ok (.ireturn, 1) := by decide +kernel
set_option maxRecDepth 100000 in
set_option maxHeartbeats 4000000 in
theorem k_Blocks_levelOf (l : Launch) (D : va_G) (G : Nat → Nat) (Y : Nat → ClassId) {u : SM} {a1 : Int32} {r : Int32} {u' : SM} (hm : m_Blocks_levelOf u a1 = some (r, u')) : KI l D clz (tyz Y) (wdC G Y) y_Blocks_levelOf b_Blocks_levelOf 2 (some .int) 1 21 [.ref (G 5), .int a1] u r u' := by
  refine mkI (by decide) (Nat.le_of_ble_eq_true rfl) ?_
  intro p e s m below meth c A Z ls C0 hP hD hS hl hret
  obtain ⟨hx, hb, hml, hown, hts, hK, hN, hA⟩ := id C0
  have hl : lv_has ls 2 [(0, .ref (G 5)), (1, .int a1)] := hl
  rw [m_Blocks_levelOf] at hm
  refine lv_aload_n hx hb d_Blocks_levelOf_0 rfl (lv_at hl 0 rfl) ?_
  refine va_get (D := D) (ci := 2) (v := .ref (G 1)) (C := "FirmStore$Blocks") (T := F_Blocks) (N := 1) hx hb hts iz_Blocks hown hK hP 5 rfl rfl 0 (by decide) (hts _ q_63) (fun _ h9 => h9) rfl d_Blocks_levelOf_1 ?_
  refine lv_iload_n hx hb d_Blocks_levelOf_4 rfl (lv_at hl 1 rfl) ?_
  refine lv_bipush (v := (9 : Int32)) hx hb d_Blocks_levelOf_5 (by decide) ?_
  refine lv_imul hx hb d_Blocks_levelOf_7 ?_
  obtain ⟨r1, u2, h3, hm⟩ := ob_some hm
  refine goVL (As := [.int (a1 * (9 : Int32))]) (rest := []) (b0 := G 1) 1 C0 (k_Memory_wordAt l D G Y h3) q_136 q_2 q_133 q_134 q_135 e_Memory_wordAt (by decide) rfl rfl hP hD hS hl.1 rfl (Nat.le_of_ble_eq_true rfl) d_Blocks_levelOf_8 (fun H locs hP hD hS => ?_)
  refine lv_l2i (v := (r1.toInt32)) hx hb d_Blocks_levelOf_11 rfl ?_
  exact hret _ _ _ _ (r1.toInt32) u2 (Option.some.inj hm) hP hD hS d_Blocks_levelOf_12
theorem d_Blocks_nextOf_0 : decode b_Blocks_nextOf 0 = .ok (.aload_n 0, 1) := by decide +kernel
theorem d_Blocks_nextOf_1 : decode b_Blocks_nextOf 1 = .ok (.aload_n 0, 1) := by decide +kernel
theorem d_Blocks_nextOf_2 : decode b_Blocks_nextOf 2 = .ok (.getfield 9, 3) := by decide +kernel
theorem d_Blocks_nextOf_5 : decode b_Blocks_nextOf 5 = .ok (.iload_n 1, 1) := by decide +kernel
theorem d_Blocks_nextOf_6 : decode b_Blocks_nextOf 6 = .ok (.bipush 9, 2) := by decide +kernel
theorem d_Blocks_nextOf_8 : decode b_Blocks_nextOf 8 = .ok (.imul, 1) := by decide +kernel
theorem d_Blocks_nextOf_9 : decode b_Blocks_nextOf 9 = .ok (.iconst 1, 1) := by decide +kernel
theorem d_Blocks_nextOf_10 : decode b_Blocks_nextOf 10 = .ok (.iadd, 1) := by decide +kernel
theorem d_Blocks_nextOf_11 : decode b_Blocks_nextOf 11 = .ok (.invokevirtual 15, 3) := by decide +kernel
theorem d_Blocks_nextOf_14 : decode b_Blocks_nextOf 14 = .ok (.invokevirtual 21, 3) := by decide +kernel
theorem d_Blocks_nextOf_17 : decode b_Blocks_nextOf 17 = .ok (.ireturn, 1) := by decide +kernel
set_option maxRecDepth 100000 in
set_option maxHeartbeats 4000000 in
theorem k_Blocks_nextOf (l : Launch) (D : va_G) (G : Nat → Nat) (Y : Nat → ClassId) {u : SM} {a1 : Int32} {r : Int32} {u' : SM} (hm : m_Blocks_nextOf u a1 = some (r, u')) : KI l D clz (tyz Y) (wdC G Y) y_Blocks_nextOf b_Blocks_nextOf 2 (some .int) 1 22 [.ref (G 5), .int a1] u r u' := by
  refine mkI (by decide) (Nat.le_of_ble_eq_true rfl) ?_
  intro p e s m below meth c A Z ls C0 hP hD hS hl hret
  obtain ⟨hx, hb, hml, hown, hts, hK, hN, hA⟩ := id C0
  have hl : lv_has ls 2 [(0, .ref (G 5)), (1, .int a1)] := hl
  rw [m_Blocks_nextOf] at hm
  refine lv_aload_n hx hb d_Blocks_nextOf_0 rfl (lv_at hl 0 rfl) ?_
  refine lv_aload_n hx hb d_Blocks_nextOf_1 rfl (lv_at hl 0 rfl) ?_
  refine va_get (D := D) (ci := 2) (v := .ref (G 1)) (C := "FirmStore$Blocks") (T := F_Blocks) (N := 1) hx hb hts iz_Blocks hown hK hP 5 rfl rfl 0 (by decide) (hts _ q_63) (fun _ h9 => h9) rfl d_Blocks_nextOf_2 ?_
  refine lv_iload_n hx hb d_Blocks_nextOf_5 rfl (lv_at hl 1 rfl) ?_
  refine lv_bipush (v := (9 : Int32)) hx hb d_Blocks_nextOf_6 (by decide) ?_
  refine lv_imul hx hb d_Blocks_nextOf_8 ?_
  refine lv_iconst (v := (1 : Int32)) hx hb d_Blocks_nextOf_9 (by decide) ?_
  refine lv_iadd hx hb d_Blocks_nextOf_10 ?_
  obtain ⟨r1, u2, h3, hm⟩ := ob_some hm
  refine goVL (As := [.int ((a1 * (9 : Int32)) + (1 : Int32))]) (rest := [.ref (G 5)]) (b0 := G 1) 1 C0 (k_Memory_wordAt l D G Y h3) q_136 q_2 q_133 q_134 q_135 e_Memory_wordAt (by decide) rfl rfl hP hD hS hl.1 rfl (Nat.le_of_ble_eq_true rfl) d_Blocks_nextOf_11 (fun H locs hP hD hS => ?_)
  obtain ⟨r5, u6, h7, hm⟩ := ob_some hm
  refine goVI (As := [.long r1]) (rest := []) (b0 := G 5) 5 C0 (k_Blocks_blockOf l D G Y h7) q_140 q_3 q_137 q_138 q_139 e_Blocks_blockOf (by decide) rfl rfl hP hD hS hl.1 rfl (Nat.le_of_ble_eq_true rfl) d_Blocks_nextOf_14 (fun H locs hP hD hS => ?_)
  exact hret _ _ _ _ r5 u6 (Option.some.inj hm) hP hD hS d_Blocks_nextOf_17
theorem d_Blocks_lowOf_0 : decode b_Blocks_lowOf 0 = .ok (.aload_n 0, 1) := by decide +kernel
theorem d_Blocks_lowOf_1 : decode b_Blocks_lowOf 1 = .ok (.getfield 9, 3) := by decide +kernel
theorem d_Blocks_lowOf_4 : decode b_Blocks_lowOf 4 = .ok (.iload_n 1, 1) := by decide +kernel
theorem d_Blocks_lowOf_5 : decode b_Blocks_lowOf 5 = .ok (.bipush 9, 2) := by decide +kernel
theorem d_Blocks_lowOf_7 : decode b_Blocks_lowOf 7 = .ok (.imul, 1) := by decide +kernel
theorem d_Blocks_lowOf_8 : decode b_Blocks_lowOf 8 = .ok (.iconst 2, 1) := by decide +kernel
theorem d_Blocks_lowOf_9 : decode b_Blocks_lowOf 9 = .ok (.iadd, 1) := by decide +kernel
theorem d_Blocks_lowOf_10 : decode b_Blocks_lowOf 10 = .ok (.invokevirtual 15, 3) := by decide +kernel
theorem d_Blocks_lowOf_13 : decode b_Blocks_lowOf 13 = .ok (.l2i, 1) := by decide +kernel
theorem d_Blocks_lowOf_14 : decode b_Blocks_lowOf 14 = .ok (.ireturn, 1) := by decide +kernel
set_option maxRecDepth 100000 in
set_option maxHeartbeats 4000000 in
theorem k_Blocks_lowOf (l : Launch) (D : va_G) (G : Nat → Nat) (Y : Nat → ClassId) {u : SM} {a1 : Int32} {r : Int32} {u' : SM} (hm : m_Blocks_lowOf u a1 = some (r, u')) : KI l D clz (tyz Y) (wdC G Y) y_Blocks_lowOf b_Blocks_lowOf 2 (some .int) 1 21 [.ref (G 5), .int a1] u r u' := by
  refine mkI (by decide) (Nat.le_of_ble_eq_true rfl) ?_
  intro p e s m below meth c A Z ls C0 hP hD hS hl hret
  obtain ⟨hx, hb, hml, hown, hts, hK, hN, hA⟩ := id C0
  have hl : lv_has ls 2 [(0, .ref (G 5)), (1, .int a1)] := hl
  rw [m_Blocks_lowOf] at hm
  refine lv_aload_n hx hb d_Blocks_lowOf_0 rfl (lv_at hl 0 rfl) ?_
  refine va_get (D := D) (ci := 2) (v := .ref (G 1)) (C := "FirmStore$Blocks") (T := F_Blocks) (N := 1) hx hb hts iz_Blocks hown hK hP 5 rfl rfl 0 (by decide) (hts _ q_63) (fun _ h9 => h9) rfl d_Blocks_lowOf_1 ?_
  refine lv_iload_n hx hb d_Blocks_lowOf_4 rfl (lv_at hl 1 rfl) ?_
  refine lv_bipush (v := (9 : Int32)) hx hb d_Blocks_lowOf_5 (by decide) ?_
  refine lv_imul hx hb d_Blocks_lowOf_7 ?_
  refine lv_iconst (v := (2 : Int32)) hx hb d_Blocks_lowOf_8 (by decide) ?_
  refine lv_iadd hx hb d_Blocks_lowOf_9 ?_
  obtain ⟨r1, u2, h3, hm⟩ := ob_some hm
  refine goVL (As := [.int ((a1 * (9 : Int32)) + (2 : Int32))]) (rest := []) (b0 := G 1) 1 C0 (k_Memory_wordAt l D G Y h3) q_136 q_2 q_133 q_134 q_135 e_Memory_wordAt (by decide) rfl rfl hP hD hS hl.1 rfl (Nat.le_of_ble_eq_true rfl) d_Blocks_lowOf_10 (fun H locs hP hD hS => ?_)
  refine lv_l2i (v := (r1.toInt32)) hx hb d_Blocks_lowOf_13 rfl ?_
  exact hret _ _ _ _ (r1.toInt32) u2 (Option.some.inj hm) hP hD hS d_Blocks_lowOf_14
theorem d_Blocks_addressOfPlace_0 : decode b_Blocks_addressOfPlace 0 = .ok (.iload_n 1, 1) := by decide +kernel
theorem d_Blocks_addressOfPlace_1 : decode b_Blocks_addressOfPlace 1 = .ok (.bipush 9, 2) := by decide +kernel
theorem d_Blocks_addressOfPlace_3 : decode b_Blocks_addressOfPlace 3 = .ok (.imul, 1) := by decide +kernel
theorem d_Blocks_addressOfPlace_4 : decode b_Blocks_addressOfPlace 4 = .ok (.iconst 3, 1) := by decide +kernel
theorem d_Blocks_addressOfPlace_5 : decode b_Blocks_addressOfPlace 5 = .ok (.iadd, 1) := by decide +kernel
theorem d_Blocks_addressOfPlace_6 : decode b_Blocks_addressOfPlace 6 = .ok (.iload_n 2, 1) := by decide +kernel
theorem d_Blocks_addressOfPlace_7 : decode b_Blocks_addressOfPlace 7 = .ok (.iadd, 1) := by decide +kernel
theorem d_Blocks_addressOfPlace_8 : decode b_Blocks_addressOfPlace 8 = .ok (.ireturn, 1) := by decide +kernel
set_option maxRecDepth 100000 in
set_option maxHeartbeats 4000000 in
theorem k_Blocks_addressOfPlace (l : Launch) (D : va_G) (G : Nat → Nat) (Y : Nat → ClassId) {u : SM} {a1 : Int32} {a2 : Int32} {r : Int32} {u' : SM} (hm : m_Blocks_addressOfPlace u a1 a2 = some (r, u')) : KI l D clz (tyz Y) (wdC G Y) y_Blocks_addressOfPlace b_Blocks_addressOfPlace 3 (some .int) 0 0 [.ref (G 5), .int a1, .int a2] u r u' := by
  refine mkI (by decide) (Nat.le_of_ble_eq_true rfl) ?_
  intro p e s m below meth c A Z ls C0 hP hD hS hl hret
  obtain ⟨hx, hb, hml, hown, hts, hK, hN, hA⟩ := id C0
  have hl : lv_has ls 3 [(0, .ref (G 5)), (1, .int a1), (2, .int a2)] := hl
  rw [m_Blocks_addressOfPlace] at hm
  refine lv_iload_n hx hb d_Blocks_addressOfPlace_0 rfl (lv_at hl 1 rfl) ?_
  refine lv_bipush (v := (9 : Int32)) hx hb d_Blocks_addressOfPlace_1 (by decide) ?_
  refine lv_imul hx hb d_Blocks_addressOfPlace_3 ?_
  refine lv_iconst (v := (3 : Int32)) hx hb d_Blocks_addressOfPlace_4 (by decide) ?_
  refine lv_iadd hx hb d_Blocks_addressOfPlace_5 ?_
  refine lv_iload_n hx hb d_Blocks_addressOfPlace_6 rfl (lv_at hl 2 rfl) ?_
  refine lv_iadd hx hb d_Blocks_addressOfPlace_7 ?_
  exact hret _ _ _ _ (((a1 * (9 : Int32)) + (3 : Int32)) + a2) u (Option.some.inj hm) hP hD hS d_Blocks_addressOfPlace_8
theorem d_Blocks_entryAt_0 : decode b_Blocks_entryAt 0 = .ok (.aload_n 0, 1) := by decide +kernel
theorem d_Blocks_entryAt_1 : decode b_Blocks_entryAt 1 = .ok (.getfield 9, 3) := by decide +kernel
theorem d_Blocks_entryAt_4 : decode b_Blocks_entryAt 4 = .ok (.iload_n 1, 1) := by decide +kernel
theorem d_Blocks_entryAt_5 : decode b_Blocks_entryAt 5 = .ok (.bipush 9, 2) := by decide +kernel
theorem d_Blocks_entryAt_7 : decode b_Blocks_entryAt 7 = .ok (.imul, 1) := by decide +kernel
theorem d_Blocks_entryAt_8 : decode b_Blocks_entryAt 8 = .ok (.iconst 3, 1) := by decide +kernel
theorem d_Blocks_entryAt_9 : decode b_Blocks_entryAt 9 = .ok (.iadd, 1) := by decide +kernel
theorem d_Blocks_entryAt_10 : decode b_Blocks_entryAt 10 = .ok (.iload_n 2, 1) := by decide +kernel
theorem d_Blocks_entryAt_11 : decode b_Blocks_entryAt 11 = .ok (.iadd, 1) := by decide +kernel
theorem d_Blocks_entryAt_12 : decode b_Blocks_entryAt 12 = .ok (.invokevirtual 15, 3) := by decide +kernel
theorem d_Blocks_entryAt_15 : decode b_Blocks_entryAt 15 = .ok (.lreturn, 1) := by decide +kernel
set_option maxRecDepth 100000 in
set_option maxHeartbeats 4000000 in
theorem k_Blocks_entryAt (l : Launch) (D : va_G) (G : Nat → Nat) (Y : Nat → ClassId) {u : SM} {a1 : Int32} {a2 : Int32} {r : Int64} {u' : SM} (hm : m_Blocks_entryAt u a1 a2 = some (r, u')) : KL l D clz (tyz Y) (wdC G Y) y_Blocks_entryAt b_Blocks_entryAt 3 (some .long) 1 21 [.ref (G 5), .int a1, .int a2] u r u' := by
  refine mkL (by decide) (Nat.le_of_ble_eq_true rfl) ?_
  intro p e s m below meth c A Z ls C0 hP hD hS hl hret
  obtain ⟨hx, hb, hml, hown, hts, hK, hN, hA⟩ := id C0
  have hl : lv_has ls 3 [(0, .ref (G 5)), (1, .int a1), (2, .int a2)] := hl
  rw [m_Blocks_entryAt] at hm
  refine lv_aload_n hx hb d_Blocks_entryAt_0 rfl (lv_at hl 0 rfl) ?_
  refine va_get (D := D) (ci := 2) (v := .ref (G 1)) (C := "FirmStore$Blocks") (T := F_Blocks) (N := 1) hx hb hts iz_Blocks hown hK hP 5 rfl rfl 0 (by decide) (hts _ q_63) (fun _ h9 => h9) rfl d_Blocks_entryAt_1 ?_
  refine lv_iload_n hx hb d_Blocks_entryAt_4 rfl (lv_at hl 1 rfl) ?_
  refine lv_bipush (v := (9 : Int32)) hx hb d_Blocks_entryAt_5 (by decide) ?_
  refine lv_imul hx hb d_Blocks_entryAt_7 ?_
  refine lv_iconst (v := (3 : Int32)) hx hb d_Blocks_entryAt_8 (by decide) ?_
  refine lv_iadd hx hb d_Blocks_entryAt_9 ?_
  refine lv_iload_n hx hb d_Blocks_entryAt_10 rfl (lv_at hl 2 rfl) ?_
  refine lv_iadd hx hb d_Blocks_entryAt_11 ?_
  obtain ⟨r1, u2, h3, hm⟩ := ob_some hm
  refine goVL (As := [.int (((a1 * (9 : Int32)) + (3 : Int32)) + a2)]) (rest := []) (b0 := G 1) 1 C0 (k_Memory_wordAt l D G Y h3) q_136 q_2 q_133 q_134 q_135 e_Memory_wordAt (by decide) rfl rfl hP hD hS hl.1 rfl (Nat.le_of_ble_eq_true rfl) d_Blocks_entryAt_12 (fun H locs hP hD hS => ?_)
  exact hret _ _ _ _ r1 u2 (Option.some.inj hm) hP hD hS d_Blocks_entryAt_15
theorem d_Blocks_childAt_0 : decode b_Blocks_childAt 0 = .ok (.aload_n 0, 1) := by decide +kernel
theorem d_Blocks_childAt_1 : decode b_Blocks_childAt 1 = .ok (.aload_n 0, 1) := by decide +kernel
theorem d_Blocks_childAt_2 : decode b_Blocks_childAt 2 = .ok (.getfield 9, 3) := by decide +kernel
theorem d_Blocks_childAt_5 : decode b_Blocks_childAt 5 = .ok (.iload_n 1, 1) := by decide +kernel
theorem d_Blocks_childAt_6 : decode b_Blocks_childAt 6 = .ok (.bipush 9, 2) := by decide +kernel
theorem d_Blocks_childAt_8 : decode b_Blocks_childAt 8 = .ok (.imul, 1) := by decide +kernel
theorem d_Blocks_childAt_9 : decode b_Blocks_childAt 9 = .ok (.iconst 3, 1) := by decide +kernel
theorem d_Blocks_childAt_10 : decode b_Blocks_childAt 10 = .ok (.iadd, 1) := by decide +kernel
theorem d_Blocks_childAt_11 : decode b_Blocks_childAt 11 = .ok (.iload_n 2, 1) := by decide +kernel
theorem d_Blocks_childAt_12 : decode b_Blocks_childAt 12 = .ok (.iadd, 1) := by decide +kernel
theorem d_Blocks_childAt_13 : decode b_Blocks_childAt 13 = .ok (.invokevirtual 15, 3) := by decide +kernel
theorem d_Blocks_childAt_16 : decode b_Blocks_childAt 16 = .ok (.invokestatic 25, 3) := by decide +kernel
theorem d_Blocks_childAt_19 : decode b_Blocks_childAt 19 = .ok (.i2l, 1) := by decide +kernel
theorem d_Blocks_childAt_20 : decode b_Blocks_childAt 20 = .ok (.invokevirtual 21, 3) := by decide +kernel
theorem d_Blocks_childAt_23 : decode b_Blocks_childAt 23 = .ok (.ireturn, 1) := by decide +kernel
set_option maxRecDepth 100000 in
set_option maxHeartbeats 4000000 in
theorem k_Blocks_childAt (l : Launch) (D : va_G) (G : Nat → Nat) (Y : Nat → ClassId) {u : SM} {a1 : Int32} {a2 : Int32} {r : Int32} {u' : SM} (hm : m_Blocks_childAt u a1 a2 = some (r, u')) : KI l D clz (tyz Y) (wdC G Y) y_Blocks_childAt b_Blocks_childAt 3 (some .int) 1 22 [.ref (G 5), .int a1, .int a2] u r u' := by
  refine mkI (by decide) (Nat.le_of_ble_eq_true rfl) ?_
  intro p e s m below meth c A Z ls C0 hP hD hS hl hret
  obtain ⟨hx, hb, hml, hown, hts, hK, hN, hA⟩ := id C0
  have hl : lv_has ls 3 [(0, .ref (G 5)), (1, .int a1), (2, .int a2)] := hl
  rw [m_Blocks_childAt] at hm
  refine lv_aload_n hx hb d_Blocks_childAt_0 rfl (lv_at hl 0 rfl) ?_
  refine lv_aload_n hx hb d_Blocks_childAt_1 rfl (lv_at hl 0 rfl) ?_
  refine va_get (D := D) (ci := 2) (v := .ref (G 1)) (C := "FirmStore$Blocks") (T := F_Blocks) (N := 1) hx hb hts iz_Blocks hown hK hP 5 rfl rfl 0 (by decide) (hts _ q_63) (fun _ h9 => h9) rfl d_Blocks_childAt_2 ?_
  refine lv_iload_n hx hb d_Blocks_childAt_5 rfl (lv_at hl 1 rfl) ?_
  refine lv_bipush (v := (9 : Int32)) hx hb d_Blocks_childAt_6 (by decide) ?_
  refine lv_imul hx hb d_Blocks_childAt_8 ?_
  refine lv_iconst (v := (3 : Int32)) hx hb d_Blocks_childAt_9 (by decide) ?_
  refine lv_iadd hx hb d_Blocks_childAt_10 ?_
  refine lv_iload_n hx hb d_Blocks_childAt_11 rfl (lv_at hl 2 rfl) ?_
  refine lv_iadd hx hb d_Blocks_childAt_12 ?_
  obtain ⟨r1, u2, h3, hm⟩ := ob_some hm
  refine goVL (As := [.int (((a1 * (9 : Int32)) + (3 : Int32)) + a2)]) (rest := [.ref (G 5)]) (b0 := G 1) 1 C0 (k_Memory_wordAt l D G Y h3) q_136 q_2 q_133 q_134 q_135 e_Memory_wordAt (by decide) rfl rfl hP hD hS hl.1 rfl (Nat.le_of_ble_eq_true rfl) d_Blocks_childAt_13 (fun H locs hP hD hS => ?_)
  obtain ⟨r5, u6, h7, hm⟩ := ob_some hm
  refine goNI (As := [.long r1]) (rest := [.ref (G 5)]) C0 (k_Firm_valueOf l D G Y h7) q_152 q_1 hN.1 q_151 e_Firm_valueOf (by decide) hP hD hS hl.1 rfl (Nat.le_of_ble_eq_true rfl) d_Blocks_childAt_16 (fun H locs hP hD hS => ?_)
  refine lv_i2l (v := (r5.toInt64)) hx hb d_Blocks_childAt_19 rfl ?_
  obtain ⟨r9, u10, h11, hm⟩ := ob_some hm
  refine goVI (As := [.long (r5.toInt64)]) (rest := []) (b0 := G 5) 5 C0 (k_Blocks_blockOf l D G Y h11) q_140 q_3 q_137 q_138 q_139 e_Blocks_blockOf (by decide) rfl rfl hP hD hS hl.1 rfl (Nat.le_of_ble_eq_true rfl) d_Blocks_childAt_20 (fun H locs hP hD hS => ?_)
  exact hret _ _ _ _ r9 u10 (Option.some.inj hm) hP hD hS d_Blocks_childAt_23
theorem d_Blocks_rowLength_0 : decode b_Blocks_rowLength 0 = .ok (.iconst 0, 1) := by decide +kernel
theorem d_Blocks_rowLength_1 : decode b_Blocks_rowLength 1 = .ok (.istore_n 2, 1) := by decide +kernel
theorem d_Blocks_rowLength_2 : decode b_Blocks_rowLength 2 = .ok (.iload_n 2, 1) := by decide +kernel
theorem d_Blocks_rowLength_3 : decode b_Blocks_rowLength 3 = .ok (.bipush 6, 2) := by decide +kernel
theorem d_Blocks_rowLength_5 : decode b_Blocks_rowLength 5 = .ok (.if_icmp .ge 31, 3) := by decide +kernel
theorem d_Blocks_rowLength_8 : decode b_Blocks_rowLength 8 = .ok (.aload_n 0, 1) := by decide +kernel
theorem d_Blocks_rowLength_9 : decode b_Blocks_rowLength 9 = .ok (.getfield 9, 3) := by decide +kernel
theorem d_Blocks_rowLength_12 : decode b_Blocks_rowLength 12 = .ok (.iload_n 1, 1) := by decide +kernel
theorem d_Blocks_rowLength_13 : decode b_Blocks_rowLength 13 = .ok (.bipush 9, 2) := by decide +kernel
theorem d_Blocks_rowLength_15 : decode b_Blocks_rowLength 15 = .ok (.imul, 1) := by decide +kernel
theorem d_Blocks_rowLength_16 : decode b_Blocks_rowLength 16 = .ok (.iconst 3, 1) := by decide +kernel
theorem d_Blocks_rowLength_17 : decode b_Blocks_rowLength 17 = .ok (.iadd, 1) := by decide +kernel
theorem d_Blocks_rowLength_18 : decode b_Blocks_rowLength 18 = .ok (.iload_n 2, 1) := by decide +kernel
theorem d_Blocks_rowLength_19 : decode b_Blocks_rowLength 19 = .ok (.iadd, 1) := by decide +kernel
theorem d_Blocks_rowLength_20 : decode b_Blocks_rowLength 20 = .ok (.invokevirtual 15, 3) := by decide +kernel
theorem d_Blocks_rowLength_23 : decode b_Blocks_rowLength 23 = .ok (.lconst 0, 1) := by decide +kernel
theorem d_Blocks_rowLength_24 : decode b_Blocks_rowLength 24 = .ok (.lcmp, 1) := by decide +kernel
theorem d_Blocks_rowLength_25 : decode b_Blocks_rowLength 25 = .ok (.ifCond .ne 5, 3) := by decide +kernel
theorem d_Blocks_rowLength_28 : decode b_Blocks_rowLength 28 = .ok (.iload_n 2, 1) := by decide +kernel
theorem d_Blocks_rowLength_29 : decode b_Blocks_rowLength 29 = .ok (.ireturn, 1) := by decide +kernel
theorem d_Blocks_rowLength_30 : decode b_Blocks_rowLength 30 = .ok (.iinc 2 1, 3) := by decide +kernel
theorem d_Blocks_rowLength_33 : decode b_Blocks_rowLength 33 = .ok (.goto (-31), 3) := by decide +kernel
theorem d_Blocks_rowLength_36 : decode b_Blocks_rowLength 36 = .ok (.bipush 6, 2) := by decide +kernel
theorem d_Blocks_rowLength_38 : decode b_Blocks_rowLength 38 = .ok (.ireturn, 1) := by decide +kernel
set_option maxRecDepth 100000 in
set_option maxHeartbeats 4000000 in
theorem k_Blocks_rowLength (l : Launch) (D : va_G) (G : Nat → Nat) (Y : Nat → ClassId) {u : SM} {a1 : Int32} {r : Int32} {u' : SM} (hm : m_Blocks_rowLength u a1 = some (r, u')) : KI l D clz (tyz Y) (wdC G Y) y_Blocks_rowLength b_Blocks_rowLength 3 (some .int) 1 21 [.ref (G 5), .int a1] u r u' := by
  refine mkI (by decide) (Nat.le_of_ble_eq_true rfl) ?_
  intro p e s m below meth c A Z ls C0 hP hD hS hl hret
  obtain ⟨hx, hb, hml, hown, hts, hK, hN, hA⟩ := id C0
  have hl : lv_has ls 3 [(0, .ref (G 5)), (1, .int a1)] := hl
  have L2 : ∀ (x1 : Int32) (o : (Int32 × SM) ⊕ (SM)) (kr : ∀ z, o = .inl z → z = (r, u')) (kx : ∀  (ub : SM), o = .inr ub → ∀ (H : Heap) (locs : List Loc) (ls : Array Slot), va_P D clz (wdC G Y ub) H → va_D A (wdC G Y ub) → va_S A s.heap H locs → lv_has ls 3 [] → W p l e (zRm 1 21) s m ([.ref (G 5), .int a1] : List Value).toArray below meth c H locs 0 0 Z (F0 m 36 ls [])) (n0 : Nat) (ua : SM) (x2 : Int32), m_Blocks_rowLength_L2 n0 ua x2 x1 = some o → ∀ (H : Heap) (locs : List Loc) (ls : Array Slot), va_P D clz (wdC G Y ua) H → va_D A (wdC G Y ua) → va_S A s.heap H locs → lv_has ls 3 [(0, .ref (G 5)), (1, .int x1), (2, .int x2)] → W p l e (zRm 1 21) s m ([.ref (G 5), .int a1] : List Value).toArray below meth c H locs 0 0 Z (F0 m 2 ls []) := by
    intro x1 o kr kx n0
    induction n0 with
    | zero => intro ua x2 hm; rw [m_Blocks_rowLength_L2] at hm; cases hm
    | succ n0 ih =>
      intro ua x2 hm H locs ls hP hD hS hl
      rw [m_Blocks_rowLength_L2] at hm
      refine lv_iload_n hx hb d_Blocks_rowLength_2 rfl (lv_at hl 2 rfl) ?_
      refine lv_bipush (v := (6 : Int32)) hx hb d_Blocks_rowLength_3 (by decide) ?_
      refine lv_icmp_ge (tgt := 36) hx hb d_Blocks_rowLength_5 (by decide) (fun hc => ?_) (fun hc => ?_)
      · rw [if_pos hc] at hm
        exact kx  ua (Option.some.inj hm).symm _ _ _ hP hD hS (lv_sub hl [] rfl)
      · rw [if_neg hc] at hm
        refine lv_aload_n hx hb d_Blocks_rowLength_8 rfl (lv_at hl 0 rfl) ?_
        refine va_get (D := D) (ci := 2) (v := .ref (G 1)) (C := "FirmStore$Blocks") (T := F_Blocks) (N := 1) hx hb hts iz_Blocks hown hK hP 5 rfl rfl 0 (by decide) (hts _ q_63) (fun _ h9 => h9) rfl d_Blocks_rowLength_9 ?_
        refine lv_iload_n hx hb d_Blocks_rowLength_12 rfl (lv_at hl 1 rfl) ?_
        refine lv_bipush (v := (9 : Int32)) hx hb d_Blocks_rowLength_13 (by decide) ?_
        refine lv_imul hx hb d_Blocks_rowLength_15 ?_
        refine lv_iconst (v := (3 : Int32)) hx hb d_Blocks_rowLength_16 (by decide) ?_
        refine lv_iadd hx hb d_Blocks_rowLength_17 ?_
        refine lv_iload_n hx hb d_Blocks_rowLength_18 rfl (lv_at hl 2 rfl) ?_
        refine lv_iadd hx hb d_Blocks_rowLength_19 ?_
        obtain ⟨r1, u2, h3, hm⟩ := ob_some hm
        refine goVL (As := [.int (((x1 * (9 : Int32)) + (3 : Int32)) + x2)]) (rest := []) (b0 := G 1) 1 C0 (k_Memory_wordAt l D G Y h3) q_136 q_2 q_133 q_134 q_135 e_Memory_wordAt (by decide) rfl rfl hP hD hS hl.1 rfl (Nat.le_of_ble_eq_true rfl) d_Blocks_rowLength_20 (fun H locs hP hD hS => ?_)
        refine lv_lconst (v := (0 : Int64)) hx hb d_Blocks_rowLength_23 (by decide) ?_
        refine W.lcmp hx hb d_Blocks_rowLength_24 ?_
        refine lv_if_ne (tgt := 30) hx hb d_Blocks_rowLength_25 (by decide) (fun hc => ?_) (fun hc => ?_)
        · rw [if_neg hc] at hm
          refine lv_iinc (v := (x2 + (1 : Int32))) (lv' := [(2, .int (x2 + (1 : Int32))), (0, .ref (G 5)), (1, .int x1)]) hx hb d_Blocks_rowLength_30 hl (k := 2) rfl rfl (by decide) rfl (fun ls hl => ?_)
          refine lv_goto (tgt := 2) hx hb d_Blocks_rowLength_33 (by decide) ?_
          exact ih u2 (x2 + (1 : Int32)) hm _ _ _ hP hD hS (lv_sub hl [1, 2, 0] rfl)
        · rw [if_pos hc] at hm
          refine lv_iload_n hx hb d_Blocks_rowLength_28 rfl (lv_at hl 2 rfl) ?_
          exact hret _ _ _ _ x2 u2 (kr _ (Option.some.inj hm).symm) hP hD hS d_Blocks_rowLength_29
  rw [m_Blocks_rowLength] at hm
  refine lv_iconst (v := (0 : Int32)) hx hb d_Blocks_rowLength_0 (by decide) ?_
  refine lv_istore_n (lv' := [(2, .int (0 : Int32)), (0, .ref (G 5)), (1, .int a1)]) hx hb d_Blocks_rowLength_1 rfl hl (by decide) rfl (fun ls hl => ?_)
  obtain ⟨qq, hq, hi, ho⟩ := ol0_some hm
  refine L2 a1 qq (fun z hz => hi z hz) (fun  u5 hz H locs ls hP hD hS hl => ?_) fz u (0 : Int32) hq _ _ _ hP hD hS (lv_sub hl [1, 2, 0] rfl)
  have hm := ho  u5 hz
  refine lv_bipush (v := (6 : Int32)) hx hb d_Blocks_rowLength_36 (by decide) ?_
  exact hret _ _ _ _ (6 : Int32) u5 (Option.some.inj hm) hP hD hS d_Blocks_rowLength_38
theorem d_Blocks_isFull_0 : decode b_Blocks_isFull 0 = .ok (.aload_n 0, 1) := by decide +kernel
theorem d_Blocks_isFull_1 : decode b_Blocks_isFull 1 = .ok (.iload_n 1, 1) := by decide +kernel
theorem d_Blocks_isFull_2 : decode b_Blocks_isFull 2 = .ok (.invokevirtual 30, 3) := by decide +kernel
theorem d_Blocks_isFull_5 : decode b_Blocks_isFull 5 = .ok (.bipush 6, 2) := by decide +kernel
theorem d_Blocks_isFull_7 : decode b_Blocks_isFull 7 = .ok (.if_icmp .ne 7, 3) := by decide +kernel
theorem d_Blocks_isFull_10 : decode b_Blocks_isFull 10 = .ok (.iconst 1, 1) := by decide +kernel
theorem d_Blocks_isFull_11 : decode b_Blocks_isFull 11 = .ok (.goto 4, 3) := by decide +kernel
theorem d_Blocks_isFull_14 : decode b_Blocks_isFull 14 = .ok (.iconst 0, 1) := by decide +kernel
theorem d_Blocks_isFull_15 : decode b_Blocks_isFull 15 = .ok (.ireturn, 1) := by decide +kernel
set_option maxRecDepth 100000 in
set_option maxHeartbeats 4000000 in
theorem k_Blocks_isFull (l : Launch) (D : va_G) (G : Nat → Nat) (Y : Nat → ClassId) {u : SM} {a1 : Int32} {r : Int32} {u' : SM} (hm : m_Blocks_isFull u a1 = some (r, u')) : KZ l D clz (tyz Y) (wdC G Y) y_Blocks_isFull b_Blocks_isFull 2 (some .boolean) 2 43 [.ref (G 5), .int a1] u r u' := by
  refine mkZ (by decide) (Nat.le_of_ble_eq_true rfl) ?_
  intro p e s m below meth c A Z ls C0 hP hD hS hl hret
  obtain ⟨hx, hb, hml, hown, hts, hK, hN, hA⟩ := id C0
  have hl : lv_has ls 2 [(0, .ref (G 5)), (1, .int a1)] := hl
  rw [m_Blocks_isFull] at hm
  refine lv_aload_n hx hb d_Blocks_isFull_0 rfl (lv_at hl 0 rfl) ?_
  refine lv_iload_n hx hb d_Blocks_isFull_1 rfl (lv_at hl 1 rfl) ?_
  obtain ⟨r1, u2, h3, hm⟩ := ob_some hm
  refine goVI (As := [.int a1]) (rest := []) (b0 := G 5) 5 C0 (k_Blocks_rowLength l D G Y h3) q_168 q_3 q_211 q_166 q_167 e_Blocks_rowLength (by decide) rfl rfl hP hD hS hl.1 rfl (Nat.le_of_ble_eq_true rfl) d_Blocks_isFull_2 (fun H locs hP hD hS => ?_)
  refine lv_bipush (v := (6 : Int32)) hx hb d_Blocks_isFull_5 (by decide) ?_
  refine lv_icmp_ne (tgt := 14) hx hb d_Blocks_isFull_7 (by decide) (fun hc => ?_) (fun hc => ?_)
  · rw [if_neg hc] at hm
    refine lv_iconst (v := (0 : Int32)) hx hb d_Blocks_isFull_14 (by decide) ?_
    exact hret _ _ _ _ (0 : Int32) u2 (Option.some.inj hm) (Or.inl rfl) hP hD hS d_Blocks_isFull_15
  · rw [if_pos hc] at hm
    refine lv_iconst (v := (1 : Int32)) hx hb d_Blocks_isFull_10 (by decide) ?_
    refine lv_goto (tgt := 15) hx hb d_Blocks_isFull_11 (by decide) ?_
    exact hret _ _ _ _ (1 : Int32) u2 (Option.some.inj hm) (Or.inr rfl) hP hD hS d_Blocks_isFull_15
theorem d_Blocks_linkNext_0 : decode b_Blocks_linkNext 0 = .ok (.aload_n 0, 1) := by decide +kernel
theorem d_Blocks_linkNext_1 : decode b_Blocks_linkNext 1 = .ok (.getfield 9, 3) := by decide +kernel
theorem d_Blocks_linkNext_4 : decode b_Blocks_linkNext 4 = .ok (.iload_n 1, 1) := by decide +kernel
theorem d_Blocks_linkNext_5 : decode b_Blocks_linkNext 5 = .ok (.bipush 9, 2) := by decide +kernel
theorem d_Blocks_linkNext_7 : decode b_Blocks_linkNext 7 = .ok (.imul, 1) := by decide +kernel
theorem d_Blocks_linkNext_8 : decode b_Blocks_linkNext 8 = .ok (.iconst 1, 1) := by decide +kernel
theorem d_Blocks_linkNext_9 : decode b_Blocks_linkNext 9 = .ok (.iadd, 1) := by decide +kernel
theorem d_Blocks_linkNext_10 : decode b_Blocks_linkNext 10 = .ok (.iload_n 2, 1) := by decide +kernel
theorem d_Blocks_linkNext_11 : decode b_Blocks_linkNext 11 = .ok (.i2l, 1) := by decide +kernel
theorem d_Blocks_linkNext_12 : decode b_Blocks_linkNext 12 = .ok (.invokevirtual 34, 3) := by decide +kernel
theorem d_Blocks_linkNext_15 : decode b_Blocks_linkNext 15 = .ok (.ireturn, 1) := by decide +kernel
set_option maxRecDepth 100000 in
set_option maxHeartbeats 4000000 in
theorem k_Blocks_linkNext (l : Launch) (D : va_G) (G : Nat → Nat) (Y : Nat → ClassId) {u : SM} {a1 : Int32} {a2 : Int32} {r : Int32} {u' : SM} (hm : m_Blocks_linkNext u a1 a2 = some (r, u')) : KZ l D clz (tyz Y) (wdC G Y) y_Blocks_linkNext b_Blocks_linkNext 3 (some .boolean) 3 67 [.ref (G 5), .int a1, .int a2] u r u' := by
  refine mkZ (by decide) (Nat.le_of_ble_eq_true rfl) ?_
  intro p e s m below meth c A Z ls C0 hP hD hS hl hret
  obtain ⟨hx, hb, hml, hown, hts, hK, hN, hA⟩ := id C0
  have hl : lv_has ls 3 [(0, .ref (G 5)), (1, .int a1), (2, .int a2)] := hl
  rw [m_Blocks_linkNext] at hm
  refine lv_aload_n hx hb d_Blocks_linkNext_0 rfl (lv_at hl 0 rfl) ?_
  refine va_get (D := D) (ci := 2) (v := .ref (G 1)) (C := "FirmStore$Blocks") (T := F_Blocks) (N := 1) hx hb hts iz_Blocks hown hK hP 5 rfl rfl 0 (by decide) (hts _ q_63) (fun _ h9 => h9) rfl d_Blocks_linkNext_1 ?_
  refine lv_iload_n hx hb d_Blocks_linkNext_4 rfl (lv_at hl 1 rfl) ?_
  refine lv_bipush (v := (9 : Int32)) hx hb d_Blocks_linkNext_5 (by decide) ?_
  refine lv_imul hx hb d_Blocks_linkNext_7 ?_
  refine lv_iconst (v := (1 : Int32)) hx hb d_Blocks_linkNext_8 (by decide) ?_
  refine lv_iadd hx hb d_Blocks_linkNext_9 ?_
  refine lv_iload_n hx hb d_Blocks_linkNext_10 rfl (lv_at hl 2 rfl) ?_
  refine lv_i2l (v := (a2.toInt64)) hx hb d_Blocks_linkNext_11 rfl ?_
  obtain ⟨r1, u2, h3, hm⟩ := ob_some hm
  refine goVZ (As := [.int ((a1 * (9 : Int32)) + (1 : Int32)), .long (a2.toInt64)]) (rest := []) (b0 := G 1) 1 C0 (k_Memory_firmStore l D G Y h3) q_362 q_2 q_402 q_360 q_361 e_Memory_firmStore (by decide) rfl rfl hP hD hS hl.1 rfl (Nat.le_of_ble_eq_true rfl) d_Blocks_linkNext_12 (fun H locs hz4 hP hD hS => ?_)
  exact hret _ _ _ _ r1 u2 (Option.some.inj hm) hz4 hP hD hS d_Blocks_linkNext_15
theorem d_Blocks_freeSet_0 : decode b_Blocks_freeSet 0 = .ok (.iconst 0, 1) := by decide +kernel
theorem d_Blocks_freeSet_1 : decode b_Blocks_freeSet 1 = .ok (.istore_n 1, 1) := by decide +kernel
theorem d_Blocks_freeSet_2 : decode b_Blocks_freeSet 2 = .ok (.iconst 0, 1) := by decide +kernel
theorem d_Blocks_freeSet_3 : decode b_Blocks_freeSet 3 = .ok (.istore_n 2, 1) := by decide +kernel
theorem d_Blocks_freeSet_4 : decode b_Blocks_freeSet 4 = .ok (.iload_n 2, 1) := by decide +kernel
theorem d_Blocks_freeSet_5 : decode b_Blocks_freeSet 5 = .ok (.bipush 9, 2) := by decide +kernel
theorem d_Blocks_freeSet_7 : decode b_Blocks_freeSet 7 = .ok (.if_icmp .ge 19, 3) := by decide +kernel
theorem d_Blocks_freeSet_10 : decode b_Blocks_freeSet 10 = .ok (.iload_n 1, 1) := by decide +kernel
theorem d_Blocks_freeSet_11 : decode b_Blocks_freeSet 11 = .ok (.iconst 1, 1) := by decide +kernel
theorem d_Blocks_freeSet_12 : decode b_Blocks_freeSet 12 = .ok (.aload_n 0, 1) := by decide +kernel
theorem d_Blocks_freeSet_13 : decode b_Blocks_freeSet 13 = .ok (.iload_n 2, 1) := by decide +kernel
theorem d_Blocks_freeSet_14 : decode b_Blocks_freeSet 14 = .ok (.invokevirtual 56, 3) := by decide +kernel
theorem d_Blocks_freeSet_17 : decode b_Blocks_freeSet 17 = .ok (.ishl, 1) := by decide +kernel
theorem d_Blocks_freeSet_18 : decode b_Blocks_freeSet 18 = .ok (.ior, 1) := by decide +kernel
theorem d_Blocks_freeSet_19 : decode b_Blocks_freeSet 19 = .ok (.istore_n 1, 1) := by decide +kernel
theorem d_Blocks_freeSet_20 : decode b_Blocks_freeSet 20 = .ok (.iinc 2 1, 3) := by decide +kernel
theorem d_Blocks_freeSet_23 : decode b_Blocks_freeSet 23 = .ok (.goto (-19), 3) := by decide +kernel
theorem d_Blocks_freeSet_26 : decode b_Blocks_freeSet 26 = .ok (.iload_n 1, 1) := by decide +kernel
theorem d_Blocks_freeSet_27 : decode b_Blocks_freeSet 27 = .ok (.ldc 59, 2) := by decide +kernel
theorem d_Blocks_freeSet_29 : decode b_Blocks_freeSet 29 = .ok (.iand, 1) := by decide +kernel
theorem d_Blocks_freeSet_30 : decode b_Blocks_freeSet 30 = .ok (.istore_n 2, 1) := by decide +kernel
theorem d_Blocks_freeSet_31 : decode b_Blocks_freeSet 31 = .ok (.iconst 0, 1) := by decide +kernel
theorem d_Blocks_freeSet_32 : decode b_Blocks_freeSet 32 = .ok (.istore_n 3, 1) := by decide +kernel
theorem d_Blocks_freeSet_33 : decode b_Blocks_freeSet 33 = .ok (.iload_n 3, 1) := by decide +kernel
theorem d_Blocks_freeSet_34 : decode b_Blocks_freeSet 34 = .ok (.bipush 30, 2) := by decide +kernel
theorem d_Blocks_freeSet_36 : decode b_Blocks_freeSet 36 = .ok (.if_icmp .ge 109, 3) := by decide +kernel
theorem d_Blocks_freeSet_39 : decode b_Blocks_freeSet 39 = .ok (.iload_n 2, 1) := by decide +kernel
theorem d_Blocks_freeSet_40 : decode b_Blocks_freeSet 40 = .ok (.ifCond .eq 105, 3) := by decide +kernel
theorem d_Blocks_freeSet_43 : decode b_Blocks_freeSet 43 = .ok (.iload_n 2, 1) := by decide +kernel
theorem d_Blocks_freeSet_44 : decode b_Blocks_freeSet 44 = .ok (.invokestatic 42, 3) := by decide +kernel
theorem d_Blocks_freeSet_47 : decode b_Blocks_freeSet 47 = .ok (.istore 4, 2) := by decide +kernel
theorem d_Blocks_freeSet_49 : decode b_Blocks_freeSet 49 = .ok (.iconst 1, 1) := by decide +kernel
theorem d_Blocks_freeSet_50 : decode b_Blocks_freeSet 50 = .ok (.aload_n 0, 1) := by decide +kernel
theorem d_Blocks_freeSet_51 : decode b_Blocks_freeSet 51 = .ok (.iload 4, 2) := by decide +kernel
theorem d_Blocks_freeSet_53 : decode b_Blocks_freeSet 53 = .ok (.invokevirtual 60, 3) := by decide +kernel
theorem d_Blocks_freeSet_56 : decode b_Blocks_freeSet 56 = .ok (.ishl, 1) := by decide +kernel
theorem d_Blocks_freeSet_57 : decode b_Blocks_freeSet 57 = .ok (.istore 5, 2) := by decide +kernel
theorem d_Blocks_freeSet_59 : decode b_Blocks_freeSet 59 = .ok (.aload_n 0, 1) := by decide +kernel
theorem d_Blocks_freeSet_60 : decode b_Blocks_freeSet 60 = .ok (.iload 4, 2) := by decide +kernel
theorem d_Blocks_freeSet_62 : decode b_Blocks_freeSet 62 = .ok (.invokevirtual 63, 3) := by decide +kernel
theorem d_Blocks_freeSet_65 : decode b_Blocks_freeSet 65 = .ok (.ifCond .le 12, 3) := by decide +kernel
theorem d_Blocks_freeSet_68 : decode b_Blocks_freeSet 68 = .ok (.aload_n 0, 1) := by decide +kernel
theorem d_Blocks_freeSet_69 : decode b_Blocks_freeSet 69 = .ok (.iload 4, 2) := by decide +kernel
theorem d_Blocks_freeSet_71 : decode b_Blocks_freeSet 71 = .ok (.invokevirtual 30, 3) := by decide +kernel
theorem d_Blocks_freeSet_74 : decode b_Blocks_freeSet 74 = .ok (.goto 4, 3) := by decide +kernel
theorem d_Blocks_freeSet_77 : decode b_Blocks_freeSet 77 = .ok (.iconst 0, 1) := by decide +kernel
theorem d_Blocks_freeSet_78 : decode b_Blocks_freeSet 78 = .ok (.istore 6, 2) := by decide +kernel
theorem d_Blocks_freeSet_80 : decode b_Blocks_freeSet 80 = .ok (.iconst 0, 1) := by decide +kernel
theorem d_Blocks_freeSet_81 : decode b_Blocks_freeSet 81 = .ok (.istore 7, 2) := by decide +kernel
theorem d_Blocks_freeSet_83 : decode b_Blocks_freeSet 83 = .ok (.iload 7, 2) := by decide +kernel
theorem d_Blocks_freeSet_85 : decode b_Blocks_freeSet 85 = .ok (.iload 6, 2) := by decide +kernel
theorem d_Blocks_freeSet_87 : decode b_Blocks_freeSet 87 = .ok (.if_icmp .ge 24, 3) := by decide +kernel
theorem d_Blocks_freeSet_90 : decode b_Blocks_freeSet 90 = .ok (.iload 5, 2) := by decide +kernel
theorem d_Blocks_freeSet_92 : decode b_Blocks_freeSet 92 = .ok (.iconst 1, 1) := by decide +kernel
theorem d_Blocks_freeSet_93 : decode b_Blocks_freeSet 93 = .ok (.aload_n 0, 1) := by decide +kernel
theorem d_Blocks_freeSet_94 : decode b_Blocks_freeSet 94 = .ok (.iload 4, 2) := by decide +kernel
theorem d_Blocks_freeSet_96 : decode b_Blocks_freeSet 96 = .ok (.iload 7, 2) := by decide +kernel
theorem d_Blocks_freeSet_98 : decode b_Blocks_freeSet 98 = .ok (.invokevirtual 66, 3) := by decide +kernel
theorem d_Blocks_freeSet_101 : decode b_Blocks_freeSet 101 = .ok (.ishl, 1) := by decide +kernel
theorem d_Blocks_freeSet_102 : decode b_Blocks_freeSet 102 = .ok (.ior, 1) := by decide +kernel
theorem d_Blocks_freeSet_103 : decode b_Blocks_freeSet 103 = .ok (.istore 5, 2) := by decide +kernel
theorem d_Blocks_freeSet_105 : decode b_Blocks_freeSet 105 = .ok (.iinc 7 1, 3) := by decide +kernel
theorem d_Blocks_freeSet_108 : decode b_Blocks_freeSet 108 = .ok (.goto (-25), 3) := by decide +kernel
theorem d_Blocks_freeSet_111 : decode b_Blocks_freeSet 111 = .ok (.iload 5, 2) := by decide +kernel
theorem d_Blocks_freeSet_113 : decode b_Blocks_freeSet 113 = .ok (.ldc 59, 2) := by decide +kernel
theorem d_Blocks_freeSet_115 : decode b_Blocks_freeSet 115 = .ok (.iand, 1) := by decide +kernel
theorem d_Blocks_freeSet_116 : decode b_Blocks_freeSet 116 = .ok (.iload_n 1, 1) := by decide +kernel
theorem d_Blocks_freeSet_117 : decode b_Blocks_freeSet 117 = .ok (.iconst (-1), 1) := by decide +kernel
theorem d_Blocks_freeSet_118 : decode b_Blocks_freeSet 118 = .ok (.ixor, 1) := by decide +kernel
theorem d_Blocks_freeSet_119 : decode b_Blocks_freeSet 119 = .ok (.iand, 1) := by decide +kernel
theorem d_Blocks_freeSet_120 : decode b_Blocks_freeSet 120 = .ok (.istore 7, 2) := by decide +kernel
theorem d_Blocks_freeSet_122 : decode b_Blocks_freeSet 122 = .ok (.iload_n 1, 1) := by decide +kernel
theorem d_Blocks_freeSet_123 : decode b_Blocks_freeSet 123 = .ok (.iload 7, 2) := by decide +kernel
theorem d_Blocks_freeSet_125 : decode b_Blocks_freeSet 125 = .ok (.ior, 1) := by decide +kernel
theorem d_Blocks_freeSet_126 : decode b_Blocks_freeSet 126 = .ok (.istore_n 1, 1) := by decide +kernel
theorem d_Blocks_freeSet_127 : decode b_Blocks_freeSet 127 = .ok (.iload_n 2, 1) := by decide +kernel
theorem d_Blocks_freeSet_128 : decode b_Blocks_freeSet 128 = .ok (.iconst 1, 1) := by decide +kernel
theorem d_Blocks_freeSet_129 : decode b_Blocks_freeSet 129 = .ok (.iload 4, 2) := by decide +kernel
theorem d_Blocks_freeSet_131 : decode b_Blocks_freeSet 131 = .ok (.ishl, 1) := by decide +kernel
theorem d_Blocks_freeSet_132 : decode b_Blocks_freeSet 132 = .ok (.iconst (-1), 1) := by decide +kernel
theorem d_Blocks_freeSet_133 : decode b_Blocks_freeSet 133 = .ok (.ixor, 1) := by decide +kernel
theorem d_Blocks_freeSet_134 : decode b_Blocks_freeSet 134 = .ok (.iand, 1) := by decide +kernel
theorem d_Blocks_freeSet_135 : decode b_Blocks_freeSet 135 = .ok (.iload 7, 2) := by decide +kernel
theorem d_Blocks_freeSet_137 : decode b_Blocks_freeSet 137 = .ok (.ior, 1) := by decide +kernel
theorem d_Blocks_freeSet_138 : decode b_Blocks_freeSet 138 = .ok (.istore_n 2, 1) := by decide +kernel
theorem d_Blocks_freeSet_139 : decode b_Blocks_freeSet 139 = .ok (.iinc 3 1, 3) := by decide +kernel
theorem d_Blocks_freeSet_142 : decode b_Blocks_freeSet 142 = .ok (.goto (-109), 3) := by decide +kernel
theorem d_Blocks_freeSet_145 : decode b_Blocks_freeSet 145 = .ok (.ldc 59, 2) := by decide +kernel
theorem d_Blocks_freeSet_147 : decode b_Blocks_freeSet 147 = .ok (.iload_n 1, 1) := by decide +kernel
theorem d_Blocks_freeSet_148 : decode b_Blocks_freeSet 148 = .ok (.iconst (-1), 1) := by decide +kernel
theorem d_Blocks_freeSet_149 : decode b_Blocks_freeSet 149 = .ok (.ixor, 1) := by decide +kernel
theorem d_Blocks_freeSet_150 : decode b_Blocks_freeSet 150 = .ok (.iand, 1) := by decide +kernel
theorem d_Blocks_freeSet_151 : decode b_Blocks_freeSet 151 = .ok (.ireturn, 1) := by decide +kernel
set_option maxRecDepth 100000 in
set_option maxHeartbeats 4000000 in
theorem k_Blocks_freeSet (l : Launch) (D : va_G) (G : Nat → Nat) (Y : Nat → ClassId) {u : SM}  {r : Int32} {u' : SM} (hm : m_Blocks_freeSet u  = some (r, u')) : KI l D clz (tyz Y) (wdC G Y) y_Blocks_freeSet b_Blocks_freeSet 8 (some .int) 2 44 [.ref (G 5)] u r u' := by
  refine mkI (by decide) (Nat.le_of_ble_eq_true rfl) ?_
  intro p e s m below meth c A Z ls C0 hP hD hS hl hret
  obtain ⟨hx, hb, hml, hown, hts, hK, hN, hA⟩ := id C0
  have hl : lv_has ls 8 [(0, .ref (G 5))] := hl
  have L4 : ∀  (o : (Int32 × SM) ⊕ (Int32 × SM)) (kr : ∀ z, o = .inl z → z = (r, u')) (kx : ∀ (y1 : Int32) (ub : SM), o = .inr (y1, ub) → ∀ (H : Heap) (locs : List Loc) (ls : Array Slot), va_P D clz (wdC G Y ub) H → va_D A (wdC G Y ub) → va_S A s.heap H locs → lv_has ls 8 [(0, .ref (G 5)), (1, .int y1)] → W p l e (zRm 2 44) s m ([.ref (G 5)] : List Value).toArray below meth c H locs 0 0 Z (F0 m 26 ls [])) (n0 : Nat) (ua : SM) (x1 : Int32) (x2 : Int32), m_Blocks_freeSet_L4 n0 ua x1 x2 = some o → ∀ (H : Heap) (locs : List Loc) (ls : Array Slot), va_P D clz (wdC G Y ua) H → va_D A (wdC G Y ua) → va_S A s.heap H locs → lv_has ls 8 [(0, .ref (G 5)), (1, .int x1), (2, .int x2)] → W p l e (zRm 2 44) s m ([.ref (G 5)] : List Value).toArray below meth c H locs 0 0 Z (F0 m 4 ls []) := by
    intro  o kr kx n0
    induction n0 with
    | zero => intro ua x1 x2 hm; rw [m_Blocks_freeSet_L4] at hm; cases hm
    | succ n0 ih =>
      intro ua x1 x2 hm H locs ls hP hD hS hl
      rw [m_Blocks_freeSet_L4] at hm
      refine lv_iload_n hx hb d_Blocks_freeSet_4 rfl (lv_at hl 2 rfl) ?_
      refine lv_bipush (v := (9 : Int32)) hx hb d_Blocks_freeSet_5 (by decide) ?_
      refine lv_icmp_ge (tgt := 26) hx hb d_Blocks_freeSet_7 (by decide) (fun hc => ?_) (fun hc => ?_)
      · rw [if_pos hc] at hm
        exact kx x1 ua (Option.some.inj hm).symm _ _ _ hP hD hS (lv_sub hl [0, 1] rfl)
      · rw [if_neg hc] at hm
        refine lv_iload_n hx hb d_Blocks_freeSet_10 rfl (lv_at hl 1 rfl) ?_
        refine lv_iconst (v := (1 : Int32)) hx hb d_Blocks_freeSet_11 (by decide) ?_
        refine lv_aload_n hx hb d_Blocks_freeSet_12 rfl (lv_at hl 0 rfl) ?_
        refine lv_iload_n hx hb d_Blocks_freeSet_13 rfl (lv_at hl 2 rfl) ?_
        obtain ⟨r1, u2, h3, hm⟩ := ob_some hm
        refine goVI (As := [.int x2]) (rest := [.int (1 : Int32), .int x1]) (b0 := G 5) 5 C0 (k_Blocks_blockIn l D G Y h3) q_132 q_3 q_203 q_130 q_131 e_Blocks_blockIn (by decide) rfl rfl hP hD hS hl.1 rfl (Nat.le_of_ble_eq_true rfl) d_Blocks_freeSet_14 (fun H locs hP hD hS => ?_)
        refine lv_ishl hx hb d_Blocks_freeSet_17 ?_
        refine lv_ior hx hb d_Blocks_freeSet_18 ?_
        refine lv_istore_n (lv' := [(1, .int (x1 ||| ((1 : Int32) <<< (r1 &&& 31)))), (0, .ref (G 5)), (2, .int x2)]) hx hb d_Blocks_freeSet_19 rfl hl (by decide) rfl (fun ls hl => ?_)
        refine lv_iinc (v := (x2 + (1 : Int32))) (lv' := [(2, .int (x2 + (1 : Int32))), (1, .int (x1 ||| ((1 : Int32) <<< (r1 &&& 31)))), (0, .ref (G 5))]) hx hb d_Blocks_freeSet_20 hl (k := 2) rfl rfl (by decide) rfl (fun ls hl => ?_)
        refine lv_goto (tgt := 4) hx hb d_Blocks_freeSet_23 (by decide) ?_
        exact ih u2 (x1 ||| ((1 : Int32) <<< (r1 &&& 31))) (x2 + (1 : Int32)) hm _ _ _ hP hD hS (lv_sub hl [2, 1, 0] rfl)
  have L83 : ∀ (x1 : Int32) (x2 : Int32) (x3 : Int32) (x4 : Int32) (x6 : Int32) (o : (Int32 × SM) ⊕ (Int32 × SM)) (kr : ∀ z, o = .inl z → z = (r, u')) (kx : ∀ (y5 : Int32) (ub : SM), o = .inr (y5, ub) → ∀ (H : Heap) (locs : List Loc) (ls : Array Slot), va_P D clz (wdC G Y ub) H → va_D A (wdC G Y ub) → va_S A s.heap H locs → lv_has ls 8 [(0, .ref (G 5)), (1, .int x1), (2, .int x2), (3, .int x3), (4, .int x4), (5, .int y5)] → W p l e (zRm 2 44) s m ([.ref (G 5)] : List Value).toArray below meth c H locs 0 0 Z (F0 m 111 ls [])) (n0 : Nat) (ua : SM) (x5 : Int32) (x7 : Int32), m_Blocks_freeSet_L83 n0 ua x5 x7 x1 x2 x3 x4 x6 = some o → ∀ (H : Heap) (locs : List Loc) (ls : Array Slot), va_P D clz (wdC G Y ua) H → va_D A (wdC G Y ua) → va_S A s.heap H locs → lv_has ls 8 [(0, .ref (G 5)), (1, .int x1), (2, .int x2), (3, .int x3), (4, .int x4), (5, .int x5), (6, .int x6), (7, .int x7)] → W p l e (zRm 2 44) s m ([.ref (G 5)] : List Value).toArray below meth c H locs 0 0 Z (F0 m 83 ls []) := by
    intro x1 x2 x3 x4 x6 o kr kx n0
    induction n0 with
    | zero => intro ua x5 x7 hm; rw [m_Blocks_freeSet_L83] at hm; cases hm
    | succ n0 ih =>
      intro ua x5 x7 hm H locs ls hP hD hS hl
      rw [m_Blocks_freeSet_L83] at hm
      refine lv_iload hx hb d_Blocks_freeSet_83 (lv_at hl 7 rfl) ?_
      refine lv_iload hx hb d_Blocks_freeSet_85 (lv_at hl 6 rfl) ?_
      refine lv_icmp_ge (tgt := 111) hx hb d_Blocks_freeSet_87 (by decide) (fun hc => ?_) (fun hc => ?_)
      · rw [if_pos hc] at hm
        exact kx x5 ua (Option.some.inj hm).symm _ _ _ hP hD hS (lv_sub hl [0, 1, 2, 3, 4, 5] rfl)
      · rw [if_neg hc] at hm
        refine lv_iload hx hb d_Blocks_freeSet_90 (lv_at hl 5 rfl) ?_
        refine lv_iconst (v := (1 : Int32)) hx hb d_Blocks_freeSet_92 (by decide) ?_
        refine lv_aload_n hx hb d_Blocks_freeSet_93 rfl (lv_at hl 0 rfl) ?_
        refine lv_iload hx hb d_Blocks_freeSet_94 (lv_at hl 4 rfl) ?_
        refine lv_iload hx hb d_Blocks_freeSet_96 (lv_at hl 7 rfl) ?_
        obtain ⟨r5, u6, h7, hm⟩ := ob_some hm
        refine goVI (As := [.int x4, .int x7]) (rest := [.int (1 : Int32), .int x5]) (b0 := G 5) 5 C0 (k_Blocks_childAt l D G Y h7) q_149 q_3 q_212 q_147 q_148 e_Blocks_childAt (by decide) rfl rfl hP hD hS hl.1 rfl (Nat.le_of_ble_eq_true rfl) d_Blocks_freeSet_98 (fun H locs hP hD hS => ?_)
        refine lv_ishl hx hb d_Blocks_freeSet_101 ?_
        refine lv_ior hx hb d_Blocks_freeSet_102 ?_
        refine lv_istore (lv' := [(5, .int (x5 ||| ((1 : Int32) <<< (r5 &&& 31)))), (0, .ref (G 5)), (1, .int x1), (2, .int x2), (3, .int x3), (4, .int x4), (6, .int x6), (7, .int x7)]) hx hb d_Blocks_freeSet_103 hl (by decide) rfl (fun ls hl => ?_)
        refine lv_iinc (v := (x7 + (1 : Int32))) (lv' := [(7, .int (x7 + (1 : Int32))), (5, .int (x5 ||| ((1 : Int32) <<< (r5 &&& 31)))), (0, .ref (G 5)), (1, .int x1), (2, .int x2), (3, .int x3), (4, .int x4), (6, .int x6)]) hx hb d_Blocks_freeSet_105 hl (k := 7) rfl rfl (by decide) rfl (fun ls hl => ?_)
        refine lv_goto (tgt := 83) hx hb d_Blocks_freeSet_108 (by decide) ?_
        exact ih u6 (x5 ||| ((1 : Int32) <<< (r5 &&& 31))) (x7 + (1 : Int32)) hm _ _ _ hP hD hS (lv_sub hl [2, 3, 4, 5, 6, 1, 7, 0] rfl)
  have L33 : ∀  (o : (Int32 × SM) ⊕ (Int32 × SM)) (kr : ∀ z, o = .inl z → z = (r, u')) (kx : ∀ (y1 : Int32) (ub : SM), o = .inr (y1, ub) → ∀ (H : Heap) (locs : List Loc) (ls : Array Slot), va_P D clz (wdC G Y ub) H → va_D A (wdC G Y ub) → va_S A s.heap H locs → lv_has ls 8 [(1, .int y1)] → W p l e (zRm 2 44) s m ([.ref (G 5)] : List Value).toArray below meth c H locs 0 0 Z (F0 m 145 ls [])) (n0 : Nat) (ua : SM) (x1 : Int32) (x2 : Int32) (x3 : Int32), m_Blocks_freeSet_L33 n0 ua x1 x2 x3 = some o → ∀ (H : Heap) (locs : List Loc) (ls : Array Slot), va_P D clz (wdC G Y ua) H → va_D A (wdC G Y ua) → va_S A s.heap H locs → lv_has ls 8 [(0, .ref (G 5)), (1, .int x1), (2, .int x2), (3, .int x3)] → W p l e (zRm 2 44) s m ([.ref (G 5)] : List Value).toArray below meth c H locs 0 0 Z (F0 m 33 ls []) := by
    intro  o kr kx n0
    induction n0 with
    | zero => intro ua x1 x2 x3 hm; rw [m_Blocks_freeSet_L33] at hm; cases hm
    | succ n0 ih =>
      intro ua x1 x2 x3 hm H locs ls hP hD hS hl
      rw [m_Blocks_freeSet_L33] at hm
      refine lv_iload_n hx hb d_Blocks_freeSet_33 rfl (lv_at hl 3 rfl) ?_
      refine lv_bipush (v := (30 : Int32)) hx hb d_Blocks_freeSet_34 (by decide) ?_
      refine lv_icmp_ge (tgt := 145) hx hb d_Blocks_freeSet_36 (by decide) (fun hc => ?_) (fun hc => ?_)
      · rw [if_pos hc] at hm
        exact kx x1 ua (Option.some.inj hm).symm _ _ _ hP hD hS (lv_sub hl [1] rfl)
      · rw [if_neg hc] at hm
        refine lv_iload_n hx hb d_Blocks_freeSet_39 rfl (lv_at hl 2 rfl) ?_
        refine lv_if_eq (tgt := 145) hx hb d_Blocks_freeSet_40 (by decide) (fun hc => ?_) (fun hc => ?_)
        · rw [if_pos hc] at hm
          exact kx x1 ua (Option.some.inj hm).symm _ _ _ hP hD hS (lv_sub hl [1] rfl)
        · rw [if_neg hc] at hm
          refine lv_iload_n hx hb d_Blocks_freeSet_43 rfl (lv_at hl 2 rfl) ?_
          obtain ⟨r9, u10, h11, hm⟩ := ob_some hm
          refine goSI (As := [.int x2]) (rest := []) C0 (k_Int_numberOfTrailingZeros l D G Y h11) q_207 q_12 q_205 q_206 e_Int_numberOfTrailingZeros (by decide) hP hD hS hl.1 rfl (Nat.le_of_ble_eq_true rfl) d_Blocks_freeSet_44 (fun H locs hP hD hS => ?_)
          refine lv_istore (lv' := [(4, .int r9), (0, .ref (G 5)), (1, .int x1), (2, .int x2), (3, .int x3)]) hx hb d_Blocks_freeSet_47 hl (by decide) rfl (fun ls hl => ?_)
          refine lv_iconst (v := (1 : Int32)) hx hb d_Blocks_freeSet_49 (by decide) ?_
          refine lv_aload_n hx hb d_Blocks_freeSet_50 rfl (lv_at hl 1 rfl) ?_
          refine lv_iload hx hb d_Blocks_freeSet_51 (lv_at hl 0 rfl) ?_
          obtain ⟨r13, u14, h15, hm⟩ := ob_some hm
          refine goVI (As := [.int r9]) (rest := [.int (1 : Int32)]) (b0 := G 5) 5 C0 (k_Blocks_nextOf l D G Y h15) q_160 q_3 q_209 q_158 q_159 e_Blocks_nextOf (by decide) rfl rfl hP hD hS hl.1 rfl (Nat.le_of_ble_eq_true rfl) d_Blocks_freeSet_53 (fun H locs hP hD hS => ?_)
          refine lv_ishl hx hb d_Blocks_freeSet_56 ?_
          refine lv_istore (lv' := [(5, .int ((1 : Int32) <<< (r13 &&& 31))), (4, .int r9), (0, .ref (G 5)), (1, .int x1), (2, .int x2), (3, .int x3)]) hx hb d_Blocks_freeSet_57 hl (by decide) rfl (fun ls hl => ?_)
          refine lv_aload_n hx hb d_Blocks_freeSet_59 rfl (lv_at hl 2 rfl) ?_
          refine lv_iload hx hb d_Blocks_freeSet_60 (lv_at hl 1 rfl) ?_
          obtain ⟨r17, u18, h19, hm⟩ := ob_some hm
          refine goVI (As := [.int r9]) (rest := []) (b0 := G 5) 5 C0 (k_Blocks_levelOf l D G Y h19) q_145 q_3 q_210 q_143 q_144 e_Blocks_levelOf (by decide) rfl rfl hP hD hS hl.1 rfl (Nat.le_of_ble_eq_true rfl) d_Blocks_freeSet_62 (fun H locs hP hD hS => ?_)
          refine lv_if_le (tgt := 77) hx hb d_Blocks_freeSet_65 (by decide) (fun hc => ?_) (fun hc => ?_)
          · rw [if_pos hc] at hm
            refine lv_iconst (v := (0 : Int32)) hx hb d_Blocks_freeSet_77 (by decide) ?_
            refine lv_istore (lv' := [(6, .int (0 : Int32)), (5, .int ((1 : Int32) <<< (r13 &&& 31))), (4, .int r9), (0, .ref (G 5)), (1, .int x1), (2, .int x2), (3, .int x3)]) hx hb d_Blocks_freeSet_78 hl (by decide) rfl (fun ls hl => ?_)
            refine lv_iconst (v := (0 : Int32)) hx hb d_Blocks_freeSet_80 (by decide) ?_
            refine lv_istore (lv' := [(7, .int (0 : Int32)), (6, .int (0 : Int32)), (5, .int ((1 : Int32) <<< (r13 &&& 31))), (4, .int r9), (0, .ref (G 5)), (1, .int x1), (2, .int x2), (3, .int x3)]) hx hb d_Blocks_freeSet_81 hl (by decide) rfl (fun ls hl => ?_)
            obtain ⟨qq, hq, hi, ho⟩ := ol1_some hm
            refine L83 x1 x2 x3 r9 (0 : Int32) qq (fun z hz => kr z (hi z hz).symm) (fun x21 u22 hz H locs ls hP hD hS hl => ?_) fz u18 ((1 : Int32) <<< (r13 &&& 31)) (0 : Int32) hq _ _ _ hP hD hS (lv_sub hl [4, 5, 6, 7, 3, 2, 1, 0] rfl)
            have hm := ho x21 u22 hz
            refine lv_iload hx hb d_Blocks_freeSet_111 (lv_at hl 5 rfl) ?_
            refine lv_ldc (v := (2147483646 : Int32)) hx hb hown (hts _ q_204) d_Blocks_freeSet_113 ?_
            refine lv_iand hx hb d_Blocks_freeSet_115 ?_
            refine lv_iload_n hx hb d_Blocks_freeSet_116 rfl (lv_at hl 1 rfl) ?_
            refine lv_iconst (v := (-1 : Int32)) hx hb d_Blocks_freeSet_117 (by decide) ?_
            refine lv_ixor hx hb d_Blocks_freeSet_118 ?_
            refine lv_iand hx hb d_Blocks_freeSet_119 ?_
            refine lv_istore (lv' := [(7, .int ((x21 &&& (2147483646 : Int32)) &&& (x1 ^^^ (-1 : Int32)))), (0, .ref (G 5)), (1, .int x1), (2, .int x2), (3, .int x3), (4, .int r9), (5, .int x21)]) hx hb d_Blocks_freeSet_120 hl (by decide) rfl (fun ls hl => ?_)
            refine lv_iload_n hx hb d_Blocks_freeSet_122 rfl (lv_at hl 2 rfl) ?_
            refine lv_iload hx hb d_Blocks_freeSet_123 (lv_at hl 0 rfl) ?_
            refine lv_ior hx hb d_Blocks_freeSet_125 ?_
            refine lv_istore_n (lv' := [(1, .int (x1 ||| ((x21 &&& (2147483646 : Int32)) &&& (x1 ^^^ (-1 : Int32))))), (7, .int ((x21 &&& (2147483646 : Int32)) &&& (x1 ^^^ (-1 : Int32)))), (0, .ref (G 5)), (2, .int x2), (3, .int x3), (4, .int r9), (5, .int x21)]) hx hb d_Blocks_freeSet_126 rfl hl (by decide) rfl (fun ls hl => ?_)
            refine lv_iload_n hx hb d_Blocks_freeSet_127 rfl (lv_at hl 3 rfl) ?_
            refine lv_iconst (v := (1 : Int32)) hx hb d_Blocks_freeSet_128 (by decide) ?_
            refine lv_iload hx hb d_Blocks_freeSet_129 (lv_at hl 5 rfl) ?_
            refine lv_ishl hx hb d_Blocks_freeSet_131 ?_
            refine lv_iconst (v := (-1 : Int32)) hx hb d_Blocks_freeSet_132 (by decide) ?_
            refine lv_ixor hx hb d_Blocks_freeSet_133 ?_
            refine lv_iand hx hb d_Blocks_freeSet_134 ?_
            refine lv_iload hx hb d_Blocks_freeSet_135 (lv_at hl 1 rfl) ?_
            refine lv_ior hx hb d_Blocks_freeSet_137 ?_
            refine lv_istore_n (lv' := [(2, .int ((x2 &&& (((1 : Int32) <<< (r9 &&& 31)) ^^^ (-1 : Int32))) ||| ((x21 &&& (2147483646 : Int32)) &&& (x1 ^^^ (-1 : Int32))))), (1, .int (x1 ||| ((x21 &&& (2147483646 : Int32)) &&& (x1 ^^^ (-1 : Int32))))), (7, .int ((x21 &&& (2147483646 : Int32)) &&& (x1 ^^^ (-1 : Int32)))), (0, .ref (G 5)), (3, .int x3), (4, .int r9), (5, .int x21)]) hx hb d_Blocks_freeSet_138 rfl hl (by decide) rfl (fun ls hl => ?_)
            refine lv_iinc (v := (x3 + (1 : Int32))) (lv' := [(3, .int (x3 + (1 : Int32))), (2, .int ((x2 &&& (((1 : Int32) <<< (r9 &&& 31)) ^^^ (-1 : Int32))) ||| ((x21 &&& (2147483646 : Int32)) &&& (x1 ^^^ (-1 : Int32))))), (1, .int (x1 ||| ((x21 &&& (2147483646 : Int32)) &&& (x1 ^^^ (-1 : Int32))))), (7, .int ((x21 &&& (2147483646 : Int32)) &&& (x1 ^^^ (-1 : Int32)))), (0, .ref (G 5)), (4, .int r9), (5, .int x21)]) hx hb d_Blocks_freeSet_139 hl (k := 4) rfl rfl (by decide) rfl (fun ls hl => ?_)
            refine lv_goto (tgt := 33) hx hb d_Blocks_freeSet_142 (by decide) ?_
            exact ih u22 (x1 ||| ((x21 &&& (2147483646 : Int32)) &&& (x1 ^^^ (-1 : Int32)))) ((x2 &&& (((1 : Int32) <<< (r9 &&& 31)) ^^^ (-1 : Int32))) ||| ((x21 &&& (2147483646 : Int32)) &&& (x1 ^^^ (-1 : Int32)))) (x3 + (1 : Int32)) hm _ _ _ hP hD hS (lv_sub hl [4, 2, 1, 0] rfl)
          · rw [if_neg hc] at hm
            refine lv_aload_n hx hb d_Blocks_freeSet_68 rfl (lv_at hl 2 rfl) ?_
            refine lv_iload hx hb d_Blocks_freeSet_69 (lv_at hl 1 rfl) ?_
            obtain ⟨r23, u24, h25, hm⟩ := ob_some hm
            refine goVI (As := [.int r9]) (rest := []) (b0 := G 5) 5 C0 (k_Blocks_rowLength l D G Y h25) q_168 q_3 q_211 q_166 q_167 e_Blocks_rowLength (by decide) rfl rfl hP hD hS hl.1 rfl (Nat.le_of_ble_eq_true rfl) d_Blocks_freeSet_71 (fun H locs hP hD hS => ?_)
            refine lv_goto (tgt := 78) hx hb d_Blocks_freeSet_74 (by decide) ?_
            refine lv_istore (lv' := [(6, .int r23), (5, .int ((1 : Int32) <<< (r13 &&& 31))), (4, .int r9), (0, .ref (G 5)), (1, .int x1), (2, .int x2), (3, .int x3)]) hx hb d_Blocks_freeSet_78 hl (by decide) rfl (fun ls hl => ?_)
            refine lv_iconst (v := (0 : Int32)) hx hb d_Blocks_freeSet_80 (by decide) ?_
            refine lv_istore (lv' := [(7, .int (0 : Int32)), (6, .int r23), (5, .int ((1 : Int32) <<< (r13 &&& 31))), (4, .int r9), (0, .ref (G 5)), (1, .int x1), (2, .int x2), (3, .int x3)]) hx hb d_Blocks_freeSet_81 hl (by decide) rfl (fun ls hl => ?_)
            obtain ⟨qq, hq, hi, ho⟩ := ol1_some hm
            refine L83 x1 x2 x3 r9 r23 qq (fun z hz => kr z (hi z hz).symm) (fun x27 u28 hz H locs ls hP hD hS hl => ?_) fz u24 ((1 : Int32) <<< (r13 &&& 31)) (0 : Int32) hq _ _ _ hP hD hS (lv_sub hl [4, 5, 6, 7, 3, 2, 1, 0] rfl)
            have hm := ho x27 u28 hz
            refine lv_iload hx hb d_Blocks_freeSet_111 (lv_at hl 5 rfl) ?_
            refine lv_ldc (v := (2147483646 : Int32)) hx hb hown (hts _ q_204) d_Blocks_freeSet_113 ?_
            refine lv_iand hx hb d_Blocks_freeSet_115 ?_
            refine lv_iload_n hx hb d_Blocks_freeSet_116 rfl (lv_at hl 1 rfl) ?_
            refine lv_iconst (v := (-1 : Int32)) hx hb d_Blocks_freeSet_117 (by decide) ?_
            refine lv_ixor hx hb d_Blocks_freeSet_118 ?_
            refine lv_iand hx hb d_Blocks_freeSet_119 ?_
            refine lv_istore (lv' := [(7, .int ((x27 &&& (2147483646 : Int32)) &&& (x1 ^^^ (-1 : Int32)))), (0, .ref (G 5)), (1, .int x1), (2, .int x2), (3, .int x3), (4, .int r9), (5, .int x27)]) hx hb d_Blocks_freeSet_120 hl (by decide) rfl (fun ls hl => ?_)
            refine lv_iload_n hx hb d_Blocks_freeSet_122 rfl (lv_at hl 2 rfl) ?_
            refine lv_iload hx hb d_Blocks_freeSet_123 (lv_at hl 0 rfl) ?_
            refine lv_ior hx hb d_Blocks_freeSet_125 ?_
            refine lv_istore_n (lv' := [(1, .int (x1 ||| ((x27 &&& (2147483646 : Int32)) &&& (x1 ^^^ (-1 : Int32))))), (7, .int ((x27 &&& (2147483646 : Int32)) &&& (x1 ^^^ (-1 : Int32)))), (0, .ref (G 5)), (2, .int x2), (3, .int x3), (4, .int r9), (5, .int x27)]) hx hb d_Blocks_freeSet_126 rfl hl (by decide) rfl (fun ls hl => ?_)
            refine lv_iload_n hx hb d_Blocks_freeSet_127 rfl (lv_at hl 3 rfl) ?_
            refine lv_iconst (v := (1 : Int32)) hx hb d_Blocks_freeSet_128 (by decide) ?_
            refine lv_iload hx hb d_Blocks_freeSet_129 (lv_at hl 5 rfl) ?_
            refine lv_ishl hx hb d_Blocks_freeSet_131 ?_
            refine lv_iconst (v := (-1 : Int32)) hx hb d_Blocks_freeSet_132 (by decide) ?_
            refine lv_ixor hx hb d_Blocks_freeSet_133 ?_
            refine lv_iand hx hb d_Blocks_freeSet_134 ?_
            refine lv_iload hx hb d_Blocks_freeSet_135 (lv_at hl 1 rfl) ?_
            refine lv_ior hx hb d_Blocks_freeSet_137 ?_
            refine lv_istore_n (lv' := [(2, .int ((x2 &&& (((1 : Int32) <<< (r9 &&& 31)) ^^^ (-1 : Int32))) ||| ((x27 &&& (2147483646 : Int32)) &&& (x1 ^^^ (-1 : Int32))))), (1, .int (x1 ||| ((x27 &&& (2147483646 : Int32)) &&& (x1 ^^^ (-1 : Int32))))), (7, .int ((x27 &&& (2147483646 : Int32)) &&& (x1 ^^^ (-1 : Int32)))), (0, .ref (G 5)), (3, .int x3), (4, .int r9), (5, .int x27)]) hx hb d_Blocks_freeSet_138 rfl hl (by decide) rfl (fun ls hl => ?_)
            refine lv_iinc (v := (x3 + (1 : Int32))) (lv' := [(3, .int (x3 + (1 : Int32))), (2, .int ((x2 &&& (((1 : Int32) <<< (r9 &&& 31)) ^^^ (-1 : Int32))) ||| ((x27 &&& (2147483646 : Int32)) &&& (x1 ^^^ (-1 : Int32))))), (1, .int (x1 ||| ((x27 &&& (2147483646 : Int32)) &&& (x1 ^^^ (-1 : Int32))))), (7, .int ((x27 &&& (2147483646 : Int32)) &&& (x1 ^^^ (-1 : Int32)))), (0, .ref (G 5)), (4, .int r9), (5, .int x27)]) hx hb d_Blocks_freeSet_139 hl (k := 4) rfl rfl (by decide) rfl (fun ls hl => ?_)
            refine lv_goto (tgt := 33) hx hb d_Blocks_freeSet_142 (by decide) ?_
            exact ih u28 (x1 ||| ((x27 &&& (2147483646 : Int32)) &&& (x1 ^^^ (-1 : Int32)))) ((x2 &&& (((1 : Int32) <<< (r9 &&& 31)) ^^^ (-1 : Int32))) ||| ((x27 &&& (2147483646 : Int32)) &&& (x1 ^^^ (-1 : Int32)))) (x3 + (1 : Int32)) hm _ _ _ hP hD hS (lv_sub hl [4, 2, 1, 0] rfl)
  rw [m_Blocks_freeSet] at hm
  refine lv_iconst (v := (0 : Int32)) hx hb d_Blocks_freeSet_0 (by decide) ?_
  refine lv_istore_n (lv' := [(1, .int (0 : Int32)), (0, .ref (G 5))]) hx hb d_Blocks_freeSet_1 rfl hl (by decide) rfl (fun ls hl => ?_)
  refine lv_iconst (v := (0 : Int32)) hx hb d_Blocks_freeSet_2 (by decide) ?_
  refine lv_istore_n (lv' := [(2, .int (0 : Int32)), (1, .int (0 : Int32)), (0, .ref (G 5))]) hx hb d_Blocks_freeSet_3 rfl hl (by decide) rfl (fun ls hl => ?_)
  obtain ⟨qq, hq, hi, ho⟩ := ol1_some hm
  refine L4  qq (fun z hz => hi z hz) (fun x29 u30 hz H locs ls hP hD hS hl => ?_) fz u (0 : Int32) (0 : Int32) hq _ _ _ hP hD hS (lv_sub hl [2, 1, 0] rfl)
  have hm := ho x29 u30 hz
  refine lv_iload_n hx hb d_Blocks_freeSet_26 rfl (lv_at hl 1 rfl) ?_
  refine lv_ldc (v := (2147483646 : Int32)) hx hb hown (hts _ q_204) d_Blocks_freeSet_27 ?_
  refine lv_iand hx hb d_Blocks_freeSet_29 ?_
  refine lv_istore_n (lv' := [(2, .int (x29 &&& (2147483646 : Int32))), (0, .ref (G 5)), (1, .int x29)]) hx hb d_Blocks_freeSet_30 rfl hl (by decide) rfl (fun ls hl => ?_)
  refine lv_iconst (v := (0 : Int32)) hx hb d_Blocks_freeSet_31 (by decide) ?_
  refine lv_istore_n (lv' := [(3, .int (0 : Int32)), (2, .int (x29 &&& (2147483646 : Int32))), (0, .ref (G 5)), (1, .int x29)]) hx hb d_Blocks_freeSet_32 rfl hl (by decide) rfl (fun ls hl => ?_)
  obtain ⟨qq, hq, hi, ho⟩ := ol1_some hm
  refine L33  qq (fun z hz => hi z hz) (fun x31 u32 hz H locs ls hP hD hS hl => ?_) fz u30 x29 (x29 &&& (2147483646 : Int32)) (0 : Int32) hq _ _ _ hP hD hS (lv_sub hl [2, 3, 1, 0] rfl)
  have hm := ho x31 u32 hz
  refine lv_ldc (v := (2147483646 : Int32)) hx hb hown (hts _ q_204) d_Blocks_freeSet_145 ?_
  refine lv_iload_n hx hb d_Blocks_freeSet_147 rfl (lv_at hl 0 rfl) ?_
  refine lv_iconst (v := (-1 : Int32)) hx hb d_Blocks_freeSet_148 (by decide) ?_
  refine lv_ixor hx hb d_Blocks_freeSet_149 ?_
  refine lv_iand hx hb d_Blocks_freeSet_150 ?_
  exact hret _ _ _ _ ((2147483646 : Int32) &&& (x31 ^^^ (-1 : Int32))) u32 (Option.some.inj hm) hP hD hS d_Blocks_freeSet_151
theorem d_Blocks_countFree_0 : decode b_Blocks_countFree 0 = .ok (.aload_n 0, 1) := by decide +kernel
theorem d_Blocks_countFree_1 : decode b_Blocks_countFree 1 = .ok (.invokevirtual 38, 3) := by decide +kernel
theorem d_Blocks_countFree_4 : decode b_Blocks_countFree 4 = .ok (.invokestatic 53, 3) := by decide +kernel
theorem d_Blocks_countFree_7 : decode b_Blocks_countFree 7 = .ok (.ireturn, 1) := by decide +kernel
set_option maxRecDepth 100000 in
set_option maxHeartbeats 4000000 in
theorem k_Blocks_countFree (l : Launch) (D : va_G) (G : Nat → Nat) (Y : Nat → ClassId) {u : SM}  {r : Int32} {u' : SM} (hm : m_Blocks_countFree u  = some (r, u')) : KI l D clz (tyz Y) (wdC G Y) y_Blocks_countFree b_Blocks_countFree 1 (some .int) 3 71 [.ref (G 5)] u r u' := by
  refine mkI (by decide) (Nat.le_of_ble_eq_true rfl) ?_
  intro p e s m below meth c A Z ls C0 hP hD hS hl hret
  obtain ⟨hx, hb, hml, hown, hts, hK, hN, hA⟩ := id C0
  have hl : lv_has ls 1 [(0, .ref (G 5))] := hl
  rw [m_Blocks_countFree] at hm
  refine lv_aload_n hx hb d_Blocks_countFree_0 rfl (lv_at hl 0 rfl) ?_
  obtain ⟨r1, u2, h3, hm⟩ := ob_some hm
  refine goVI (As := []) (rest := []) (b0 := G 5) 5 C0 (k_Blocks_freeSet l D G Y h3) q_202 q_3 q_199 q_201 qs_4 e_Blocks_freeSet (by decide) rfl rfl hP hD hS hl.1 rfl (Nat.le_of_ble_eq_true rfl) d_Blocks_countFree_1 (fun H locs hP hD hS => ?_)
  obtain ⟨r5, u6, h7, hm⟩ := ob_some hm
  refine goSI (As := [.int r1]) (rest := []) C0 (k_Int_bitCount l D G Y h7) q_215 q_12 q_213 q_214 e_Int_bitCount (by decide) hP hD hS hl.1 rfl (Nat.le_of_ble_eq_true rfl) d_Blocks_countFree_4 (fun H locs hP hD hS => ?_)
  exact hret _ _ _ _ r5 u6 (Option.some.inj hm) hP hD hS d_Blocks_countFree_7
theorem d_Blocks_make_0 : decode b_Blocks_make 0 = .ok (.aload_n 0, 1) := by decide +kernel
theorem d_Blocks_make_1 : decode b_Blocks_make 1 = .ok (.invokevirtual 38, 3) := by decide +kernel
theorem d_Blocks_make_4 : decode b_Blocks_make 4 = .ok (.istore 10, 2) := by decide +kernel
theorem d_Blocks_make_6 : decode b_Blocks_make 6 = .ok (.iload 10, 2) := by decide +kernel
theorem d_Blocks_make_8 : decode b_Blocks_make 8 = .ok (.invokestatic 42, 3) := by decide +kernel
theorem d_Blocks_make_11 : decode b_Blocks_make 11 = .ok (.istore 11, 2) := by decide +kernel
theorem d_Blocks_make_13 : decode b_Blocks_make 13 = .ok (.iload 11, 2) := by decide +kernel
theorem d_Blocks_make_15 : decode b_Blocks_make 15 = .ok (.bipush 9, 2) := by decide +kernel
theorem d_Blocks_make_17 : decode b_Blocks_make 17 = .ok (.imul, 1) := by decide +kernel
theorem d_Blocks_make_18 : decode b_Blocks_make 18 = .ok (.istore 12, 2) := by decide +kernel
theorem d_Blocks_make_20 : decode b_Blocks_make 20 = .ok (.iload 10, 2) := by decide +kernel
theorem d_Blocks_make_22 : decode b_Blocks_make 22 = .ok (.ifCond .eq 156, 3) := by decide +kernel
theorem d_Blocks_make_25 : decode b_Blocks_make 25 = .ok (.aload_n 0, 1) := by decide +kernel
theorem d_Blocks_make_26 : decode b_Blocks_make 26 = .ok (.getfield 9, 3) := by decide +kernel
theorem d_Blocks_make_29 : decode b_Blocks_make 29 = .ok (.iload 12, 2) := by decide +kernel
theorem d_Blocks_make_31 : decode b_Blocks_make 31 = .ok (.iload_n 1, 1) := by decide +kernel
theorem d_Blocks_make_32 : decode b_Blocks_make 32 = .ok (.i2l, 1) := by decide +kernel
theorem d_Blocks_make_33 : decode b_Blocks_make 33 = .ok (.invokevirtual 47, 3) := by decide +kernel
theorem d_Blocks_make_36 : decode b_Blocks_make 36 = .ok (.ifCond .eq 142, 3) := by decide +kernel
theorem d_Blocks_make_39 : decode b_Blocks_make 39 = .ok (.aload_n 0, 1) := by decide +kernel
theorem d_Blocks_make_40 : decode b_Blocks_make 40 = .ok (.getfield 9, 3) := by decide +kernel
theorem d_Blocks_make_43 : decode b_Blocks_make 43 = .ok (.iload 12, 2) := by decide +kernel
theorem d_Blocks_make_45 : decode b_Blocks_make 45 = .ok (.iconst 1, 1) := by decide +kernel
theorem d_Blocks_make_46 : decode b_Blocks_make 46 = .ok (.iadd, 1) := by decide +kernel
theorem d_Blocks_make_47 : decode b_Blocks_make 47 = .ok (.iload_n 2, 1) := by decide +kernel
theorem d_Blocks_make_48 : decode b_Blocks_make 48 = .ok (.i2l, 1) := by decide +kernel
theorem d_Blocks_make_49 : decode b_Blocks_make 49 = .ok (.invokevirtual 47, 3) := by decide +kernel
theorem d_Blocks_make_52 : decode b_Blocks_make 52 = .ok (.ifCond .eq 126, 3) := by decide +kernel
theorem d_Blocks_make_55 : decode b_Blocks_make 55 = .ok (.aload_n 0, 1) := by decide +kernel
theorem d_Blocks_make_56 : decode b_Blocks_make 56 = .ok (.getfield 9, 3) := by decide +kernel
theorem d_Blocks_make_59 : decode b_Blocks_make 59 = .ok (.iload 12, 2) := by decide +kernel
theorem d_Blocks_make_61 : decode b_Blocks_make 61 = .ok (.iconst 2, 1) := by decide +kernel
theorem d_Blocks_make_62 : decode b_Blocks_make 62 = .ok (.iadd, 1) := by decide +kernel
theorem d_Blocks_make_63 : decode b_Blocks_make 63 = .ok (.iload_n 3, 1) := by decide +kernel
theorem d_Blocks_make_64 : decode b_Blocks_make 64 = .ok (.i2l, 1) := by decide +kernel
theorem d_Blocks_make_65 : decode b_Blocks_make 65 = .ok (.invokevirtual 47, 3) := by decide +kernel
theorem d_Blocks_make_68 : decode b_Blocks_make 68 = .ok (.ifCond .eq 110, 3) := by decide +kernel
theorem d_Blocks_make_71 : decode b_Blocks_make 71 = .ok (.aload_n 0, 1) := by decide +kernel
theorem d_Blocks_make_72 : decode b_Blocks_make 72 = .ok (.getfield 9, 3) := by decide +kernel
theorem d_Blocks_make_75 : decode b_Blocks_make 75 = .ok (.iload 12, 2) := by decide +kernel
theorem d_Blocks_make_77 : decode b_Blocks_make 77 = .ok (.iconst 3, 1) := by decide +kernel
theorem d_Blocks_make_78 : decode b_Blocks_make 78 = .ok (.iadd, 1) := by decide +kernel
theorem d_Blocks_make_79 : decode b_Blocks_make 79 = .ok (.lload 4, 2) := by decide +kernel
theorem d_Blocks_make_81 : decode b_Blocks_make 81 = .ok (.invokevirtual 47, 3) := by decide +kernel
theorem d_Blocks_make_84 : decode b_Blocks_make 84 = .ok (.ifCond .eq 94, 3) := by decide +kernel
theorem d_Blocks_make_87 : decode b_Blocks_make 87 = .ok (.aload_n 0, 1) := by decide +kernel
theorem d_Blocks_make_88 : decode b_Blocks_make 88 = .ok (.getfield 9, 3) := by decide +kernel
theorem d_Blocks_make_91 : decode b_Blocks_make 91 = .ok (.iload 12, 2) := by decide +kernel
theorem d_Blocks_make_93 : decode b_Blocks_make 93 = .ok (.iconst 3, 1) := by decide +kernel
theorem d_Blocks_make_94 : decode b_Blocks_make 94 = .ok (.iadd, 1) := by decide +kernel
theorem d_Blocks_make_95 : decode b_Blocks_make 95 = .ok (.iconst 1, 1) := by decide +kernel
theorem d_Blocks_make_96 : decode b_Blocks_make 96 = .ok (.iadd, 1) := by decide +kernel
theorem d_Blocks_make_97 : decode b_Blocks_make 97 = .ok (.lload 6, 2) := by decide +kernel
theorem d_Blocks_make_99 : decode b_Blocks_make 99 = .ok (.invokevirtual 47, 3) := by decide +kernel
theorem d_Blocks_make_102 : decode b_Blocks_make 102 = .ok (.ifCond .eq 76, 3) := by decide +kernel
theorem d_Blocks_make_105 : decode b_Blocks_make 105 = .ok (.aload_n 0, 1) := by decide +kernel
theorem d_Blocks_make_106 : decode b_Blocks_make 106 = .ok (.getfield 9, 3) := by decide +kernel
theorem d_Blocks_make_109 : decode b_Blocks_make 109 = .ok (.iload 12, 2) := by decide +kernel
theorem d_Blocks_make_111 : decode b_Blocks_make 111 = .ok (.iconst 3, 1) := by decide +kernel
theorem d_Blocks_make_112 : decode b_Blocks_make 112 = .ok (.iadd, 1) := by decide +kernel
theorem d_Blocks_make_113 : decode b_Blocks_make 113 = .ok (.iconst 2, 1) := by decide +kernel
theorem d_Blocks_make_114 : decode b_Blocks_make 114 = .ok (.iadd, 1) := by decide +kernel
theorem d_Blocks_make_115 : decode b_Blocks_make 115 = .ok (.lload 8, 2) := by decide +kernel
theorem d_Blocks_make_117 : decode b_Blocks_make 117 = .ok (.invokevirtual 47, 3) := by decide +kernel
theorem d_Blocks_make_120 : decode b_Blocks_make 120 = .ok (.ifCond .eq 58, 3) := by decide +kernel
theorem d_Blocks_make_123 : decode b_Blocks_make 123 = .ok (.aload_n 0, 1) := by decide +kernel
theorem d_Blocks_make_124 : decode b_Blocks_make 124 = .ok (.getfield 9, 3) := by decide +kernel
theorem d_Blocks_make_127 : decode b_Blocks_make 127 = .ok (.iload 12, 2) := by decide +kernel
theorem d_Blocks_make_129 : decode b_Blocks_make 129 = .ok (.iconst 3, 1) := by decide +kernel
theorem d_Blocks_make_130 : decode b_Blocks_make 130 = .ok (.iadd, 1) := by decide +kernel
theorem d_Blocks_make_131 : decode b_Blocks_make 131 = .ok (.iconst 3, 1) := by decide +kernel
theorem d_Blocks_make_132 : decode b_Blocks_make 132 = .ok (.iadd, 1) := by decide +kernel
theorem d_Blocks_make_133 : decode b_Blocks_make 133 = .ok (.lconst 0, 1) := by decide +kernel
theorem d_Blocks_make_134 : decode b_Blocks_make 134 = .ok (.invokevirtual 47, 3) := by decide +kernel
theorem d_Blocks_make_137 : decode b_Blocks_make 137 = .ok (.ifCond .eq 41, 3) := by decide +kernel
theorem d_Blocks_make_140 : decode b_Blocks_make 140 = .ok (.aload_n 0, 1) := by decide +kernel
theorem d_Blocks_make_141 : decode b_Blocks_make 141 = .ok (.getfield 9, 3) := by decide +kernel
theorem d_Blocks_make_144 : decode b_Blocks_make 144 = .ok (.iload 12, 2) := by decide +kernel
theorem d_Blocks_make_146 : decode b_Blocks_make 146 = .ok (.iconst 3, 1) := by decide +kernel
theorem d_Blocks_make_147 : decode b_Blocks_make 147 = .ok (.iadd, 1) := by decide +kernel
theorem d_Blocks_make_148 : decode b_Blocks_make 148 = .ok (.iconst 4, 1) := by decide +kernel
theorem d_Blocks_make_149 : decode b_Blocks_make 149 = .ok (.iadd, 1) := by decide +kernel
theorem d_Blocks_make_150 : decode b_Blocks_make 150 = .ok (.lconst 0, 1) := by decide +kernel
theorem d_Blocks_make_151 : decode b_Blocks_make 151 = .ok (.invokevirtual 47, 3) := by decide +kernel
theorem d_Blocks_make_154 : decode b_Blocks_make 154 = .ok (.ifCond .eq 24, 3) := by decide +kernel
theorem d_Blocks_make_157 : decode b_Blocks_make 157 = .ok (.aload_n 0, 1) := by decide +kernel
theorem d_Blocks_make_158 : decode b_Blocks_make 158 = .ok (.getfield 9, 3) := by decide +kernel
theorem d_Blocks_make_161 : decode b_Blocks_make 161 = .ok (.iload 12, 2) := by decide +kernel
theorem d_Blocks_make_163 : decode b_Blocks_make 163 = .ok (.iconst 3, 1) := by decide +kernel
theorem d_Blocks_make_164 : decode b_Blocks_make 164 = .ok (.iadd, 1) := by decide +kernel
theorem d_Blocks_make_165 : decode b_Blocks_make 165 = .ok (.iconst 5, 1) := by decide +kernel
theorem d_Blocks_make_166 : decode b_Blocks_make 166 = .ok (.iadd, 1) := by decide +kernel
theorem d_Blocks_make_167 : decode b_Blocks_make 167 = .ok (.lconst 0, 1) := by decide +kernel
theorem d_Blocks_make_168 : decode b_Blocks_make 168 = .ok (.invokevirtual 47, 3) := by decide +kernel
theorem d_Blocks_make_171 : decode b_Blocks_make 171 = .ok (.ifCond .eq 7, 3) := by decide +kernel
theorem d_Blocks_make_174 : decode b_Blocks_make 174 = .ok (.iconst 1, 1) := by decide +kernel
theorem d_Blocks_make_175 : decode b_Blocks_make 175 = .ok (.goto 4, 3) := by decide +kernel
theorem d_Blocks_make_178 : decode b_Blocks_make 178 = .ok (.iconst 0, 1) := by decide +kernel
theorem d_Blocks_make_179 : decode b_Blocks_make 179 = .ok (.istore 13, 2) := by decide +kernel
theorem d_Blocks_make_181 : decode b_Blocks_make 181 = .ok (.iload 13, 2) := by decide +kernel
theorem d_Blocks_make_183 : decode b_Blocks_make 183 = .ok (.ifCond .ne 5, 3) := by decide +kernel
theorem d_Blocks_make_186 : decode b_Blocks_make 186 = .ok (.iconst 0, 1) := by decide +kernel
theorem d_Blocks_make_187 : decode b_Blocks_make 187 = .ok (.ireturn, 1) := by decide +kernel
theorem d_Blocks_make_188 : decode b_Blocks_make 188 = .ok (.aload_n 0, 1) := by decide +kernel
theorem d_Blocks_make_189 : decode b_Blocks_make 189 = .ok (.getfield 9, 3) := by decide +kernel
theorem d_Blocks_make_192 : decode b_Blocks_make 192 = .ok (.invokevirtual 50, 3) := by decide +kernel
theorem d_Blocks_make_195 : decode b_Blocks_make 195 = .ok (.iload 11, 2) := by decide +kernel
theorem d_Blocks_make_197 : decode b_Blocks_make 197 = .ok (.ireturn, 1) := by decide +kernel
set_option maxRecDepth 100000 in
set_option maxHeartbeats 4000000 in
theorem k_Blocks_make (l : Launch) (D : va_G) (G : Nat → Nat) (Y : Nat → ClassId) {u : SM} {a1 : Int32} {a2 : Int32} {a3 : Int32} {a4 : Int64} {a5 : Int64} {a6 : Int64} {r : Int32} {u' : SM} (hm : m_Blocks_make u a1 a2 a3 a4 a5 a6 = some (r, u')) : KI l D clz (tyz Y) (wdC G Y) y_Blocks_make b_Blocks_make 14 (some .int) 3 71 [.ref (G 5), .int a1, .int a2, .int a3, .long a4, .long a5, .long a6] u r u' := by
  refine mkI (by decide) (Nat.le_of_ble_eq_true rfl) ?_
  intro p e s m below meth c A Z ls C0 hP hD hS hl hret
  obtain ⟨hx, hb, hml, hown, hts, hK, hN, hA⟩ := id C0
  have hl : lv_has ls 14 [(0, .ref (G 5)), (1, .int a1), (2, .int a2), (3, .int a3), (4, .long a4), (6, .long a5), (8, .long a6)] := hl
  have J179 : ∀ (ua : SM) (x11 : Int32) (s0 : Int32), m_Blocks_make_J179 ua x11 s0 = some (r, u') → ∀ (H : Heap) (locs : List Loc) (ls : Array Slot), va_P D clz (wdC G Y ua) H → va_D A (wdC G Y ua) → va_S A s.heap H locs → lv_has ls 14 [(0, .ref (G 5)), (11, .int x11)] → W p l e (zRm 3 71) s m ([.ref (G 5), .int a1, .int a2, .int a3, .long a4, .long a5, .long a6] : List Value).toArray below meth c H locs 0 0 Z (F0 m 179 ls [.int s0]) := by
    intro ua x11 s0 hm H locs ls hP hD hS hl
    rw [m_Blocks_make_J179] at hm
    refine lv_istore (lv' := [(13, .int s0), (0, .ref (G 5)), (11, .int x11)]) hx hb d_Blocks_make_179 hl (by decide) rfl (fun ls hl => ?_)
    refine lv_iload hx hb d_Blocks_make_181 (lv_at hl 0 rfl) ?_
    refine lv_if_ne (tgt := 188) hx hb d_Blocks_make_183 (by decide) (fun hc => ?_) (fun hc => ?_)
    · rw [if_neg hc] at hm
      refine lv_aload_n hx hb d_Blocks_make_188 rfl (lv_at hl 1 rfl) ?_
      refine va_get (D := D) (ci := 2) (v := .ref (G 1)) (C := "FirmStore$Blocks") (T := F_Blocks) (N := 1) hx hb hts iz_Blocks hown hK hP 5 rfl rfl 0 (by decide) (hts _ q_63) (fun _ h9 => h9) rfl d_Blocks_make_189 ?_
      obtain ⟨r45, u46, h47, hm⟩ := ob_some hm
      refine goVV (As := []) (rest := []) (b0 := G 1) 1 C0 (k_Memory_fence l D G Y h47) q_358 q_2 q_355 q_356 q_357 e_Memory_fence (by decide) rfl rfl hP hD hS hl.1 rfl (Nat.le_of_ble_eq_true rfl) d_Blocks_make_192 (fun H locs hP hD hS => ?_)
      refine lv_iload hx hb d_Blocks_make_195 (lv_at hl 2 rfl) ?_
      exact hret _ _ _ _ x11 u46 (Option.some.inj hm) hP hD hS d_Blocks_make_197
    · rw [if_pos hc] at hm
      refine lv_iconst (v := (0 : Int32)) hx hb d_Blocks_make_186 (by decide) ?_
      exact hret _ _ _ _ (0 : Int32) ua (Option.some.inj hm) hP hD hS d_Blocks_make_187
  have J178 : ∀ (ua : SM) (x11 : Int32), m_Blocks_make_J178 ua x11 = some (r, u') → ∀ (H : Heap) (locs : List Loc) (ls : Array Slot), va_P D clz (wdC G Y ua) H → va_D A (wdC G Y ua) → va_S A s.heap H locs → lv_has ls 14 [(0, .ref (G 5)), (11, .int x11)] → W p l e (zRm 3 71) s m ([.ref (G 5), .int a1, .int a2, .int a3, .long a4, .long a5, .long a6] : List Value).toArray below meth c H locs 0 0 Z (F0 m 178 ls []) := by
    intro ua x11 hm H locs ls hP hD hS hl
    rw [m_Blocks_make_J178] at hm
    refine lv_iconst (v := (0 : Int32)) hx hb d_Blocks_make_178 (by decide) ?_
    exact J179 ua x11 (0 : Int32) hm _ _ _ hP hD hS (lv_sub hl [0, 1] rfl)
  rw [m_Blocks_make] at hm
  refine lv_aload_n hx hb d_Blocks_make_0 rfl (lv_at hl 0 rfl) ?_
  obtain ⟨r1, u2, h3, hm⟩ := ob_some hm
  refine goVI (As := []) (rest := []) (b0 := G 5) 5 C0 (k_Blocks_freeSet l D G Y h3) q_202 q_3 q_199 q_201 qs_4 e_Blocks_freeSet (by decide) rfl rfl hP hD hS hl.1 rfl (Nat.le_of_ble_eq_true rfl) d_Blocks_make_1 (fun H locs hP hD hS => ?_)
  refine lv_istore (lv' := [(10, .int r1), (0, .ref (G 5)), (1, .int a1), (2, .int a2), (3, .int a3), (4, .long a4), (6, .long a5), (8, .long a6)]) hx hb d_Blocks_make_4 hl (by decide) rfl (fun ls hl => ?_)
  refine lv_iload hx hb d_Blocks_make_6 (lv_at hl 0 rfl) ?_
  obtain ⟨r5, u6, h7, hm⟩ := ob_some hm
  refine goSI (As := [.int r1]) (rest := []) C0 (k_Int_numberOfTrailingZeros l D G Y h7) q_207 q_12 q_205 q_206 e_Int_numberOfTrailingZeros (by decide) hP hD hS hl.1 rfl (Nat.le_of_ble_eq_true rfl) d_Blocks_make_8 (fun H locs hP hD hS => ?_)
  refine lv_istore (lv' := [(11, .int r5), (10, .int r1), (0, .ref (G 5)), (1, .int a1), (2, .int a2), (3, .int a3), (4, .long a4), (6, .long a5), (8, .long a6)]) hx hb d_Blocks_make_11 hl (by decide) rfl (fun ls hl => ?_)
  refine lv_iload hx hb d_Blocks_make_13 (lv_at hl 0 rfl) ?_
  refine lv_bipush (v := (9 : Int32)) hx hb d_Blocks_make_15 (by decide) ?_
  refine lv_imul hx hb d_Blocks_make_17 ?_
  refine lv_istore (lv' := [(12, .int (r5 * (9 : Int32))), (11, .int r5), (10, .int r1), (0, .ref (G 5)), (1, .int a1), (2, .int a2), (3, .int a3), (4, .long a4), (6, .long a5), (8, .long a6)]) hx hb d_Blocks_make_18 hl (by decide) rfl (fun ls hl => ?_)
  refine lv_iload hx hb d_Blocks_make_20 (lv_at hl 2 rfl) ?_
  refine lv_if_eq (tgt := 178) hx hb d_Blocks_make_22 (by decide) (fun hc => ?_) (fun hc => ?_)
  · rw [if_pos hc] at hm
    exact J178 u6 r5 hm _ _ _ hP hD hS (lv_sub hl [3, 1] rfl)
  · rw [if_neg hc] at hm
    refine lv_aload_n hx hb d_Blocks_make_25 rfl (lv_at hl 3 rfl) ?_
    refine va_get (D := D) (ci := 2) (v := .ref (G 1)) (C := "FirmStore$Blocks") (T := F_Blocks) (N := 1) hx hb hts iz_Blocks hown hK hP 5 rfl rfl 0 (by decide) (hts _ q_63) (fun _ h9 => h9) rfl d_Blocks_make_26 ?_
    refine lv_iload hx hb d_Blocks_make_29 (lv_at hl 0 rfl) ?_
    refine lv_iload_n hx hb d_Blocks_make_31 rfl (lv_at hl 4 rfl) ?_
    refine lv_i2l (v := (a1.toInt64)) hx hb d_Blocks_make_32 rfl ?_
    obtain ⟨r9, u10, h11, hm⟩ := ob_some hm
    refine goVZ (As := [.int (r5 * (9 : Int32)), .long (a1.toInt64)]) (rest := []) (b0 := G 1) 1 C0 (k_Memory_store l D G Y h11) q_350 q_2 q_347 q_348 q_349 e_Memory_store (by decide) rfl rfl hP hD hS hl.1 rfl (Nat.le_of_ble_eq_true rfl) d_Blocks_make_33 (fun H locs hz12 hP hD hS => ?_)
    refine lv_if_eq (tgt := 178) hx hb d_Blocks_make_36 (by decide) (fun hc => ?_) (fun hc => ?_)
    · rw [if_pos hc] at hm
      exact J178 u10 r5 hm _ _ _ hP hD hS (lv_sub hl [3, 1] rfl)
    · rw [if_neg hc] at hm
      refine lv_aload_n hx hb d_Blocks_make_39 rfl (lv_at hl 3 rfl) ?_
      refine va_get (D := D) (ci := 2) (v := .ref (G 1)) (C := "FirmStore$Blocks") (T := F_Blocks) (N := 1) hx hb hts iz_Blocks hown hK hP 5 rfl rfl 0 (by decide) (hts _ q_63) (fun _ h9 => h9) rfl d_Blocks_make_40 ?_
      refine lv_iload hx hb d_Blocks_make_43 (lv_at hl 0 rfl) ?_
      refine lv_iconst (v := (1 : Int32)) hx hb d_Blocks_make_45 (by decide) ?_
      refine lv_iadd hx hb d_Blocks_make_46 ?_
      refine lv_iload_n hx hb d_Blocks_make_47 rfl (lv_at hl 5 rfl) ?_
      refine lv_i2l (v := (a2.toInt64)) hx hb d_Blocks_make_48 rfl ?_
      obtain ⟨r13, u14, h15, hm⟩ := ob_some hm
      refine goVZ (As := [.int ((r5 * (9 : Int32)) + (1 : Int32)), .long (a2.toInt64)]) (rest := []) (b0 := G 1) 1 C0 (k_Memory_store l D G Y h15) q_350 q_2 q_347 q_348 q_349 e_Memory_store (by decide) rfl rfl hP hD hS hl.1 rfl (Nat.le_of_ble_eq_true rfl) d_Blocks_make_49 (fun H locs hz16 hP hD hS => ?_)
      refine lv_if_eq (tgt := 178) hx hb d_Blocks_make_52 (by decide) (fun hc => ?_) (fun hc => ?_)
      · rw [if_pos hc] at hm
        exact J178 u14 r5 hm _ _ _ hP hD hS (lv_sub hl [3, 1] rfl)
      · rw [if_neg hc] at hm
        refine lv_aload_n hx hb d_Blocks_make_55 rfl (lv_at hl 3 rfl) ?_
        refine va_get (D := D) (ci := 2) (v := .ref (G 1)) (C := "FirmStore$Blocks") (T := F_Blocks) (N := 1) hx hb hts iz_Blocks hown hK hP 5 rfl rfl 0 (by decide) (hts _ q_63) (fun _ h9 => h9) rfl d_Blocks_make_56 ?_
        refine lv_iload hx hb d_Blocks_make_59 (lv_at hl 0 rfl) ?_
        refine lv_iconst (v := (2 : Int32)) hx hb d_Blocks_make_61 (by decide) ?_
        refine lv_iadd hx hb d_Blocks_make_62 ?_
        refine lv_iload_n hx hb d_Blocks_make_63 rfl (lv_at hl 6 rfl) ?_
        refine lv_i2l (v := (a3.toInt64)) hx hb d_Blocks_make_64 rfl ?_
        obtain ⟨r17, u18, h19, hm⟩ := ob_some hm
        refine goVZ (As := [.int ((r5 * (9 : Int32)) + (2 : Int32)), .long (a3.toInt64)]) (rest := []) (b0 := G 1) 1 C0 (k_Memory_store l D G Y h19) q_350 q_2 q_347 q_348 q_349 e_Memory_store (by decide) rfl rfl hP hD hS hl.1 rfl (Nat.le_of_ble_eq_true rfl) d_Blocks_make_65 (fun H locs hz20 hP hD hS => ?_)
        refine lv_if_eq (tgt := 178) hx hb d_Blocks_make_68 (by decide) (fun hc => ?_) (fun hc => ?_)
        · rw [if_pos hc] at hm
          exact J178 u18 r5 hm _ _ _ hP hD hS (lv_sub hl [3, 1] rfl)
        · rw [if_neg hc] at hm
          refine lv_aload_n hx hb d_Blocks_make_71 rfl (lv_at hl 3 rfl) ?_
          refine va_get (D := D) (ci := 2) (v := .ref (G 1)) (C := "FirmStore$Blocks") (T := F_Blocks) (N := 1) hx hb hts iz_Blocks hown hK hP 5 rfl rfl 0 (by decide) (hts _ q_63) (fun _ h9 => h9) rfl d_Blocks_make_72 ?_
          refine lv_iload hx hb d_Blocks_make_75 (lv_at hl 0 rfl) ?_
          refine lv_iconst (v := (3 : Int32)) hx hb d_Blocks_make_77 (by decide) ?_
          refine lv_iadd hx hb d_Blocks_make_78 ?_
          refine lv_lload hx hb d_Blocks_make_79 (lv_at hl 7 rfl) ?_
          obtain ⟨r21, u22, h23, hm⟩ := ob_some hm
          refine goVZ (As := [.int ((r5 * (9 : Int32)) + (3 : Int32)), .long a4]) (rest := []) (b0 := G 1) 1 C0 (k_Memory_store l D G Y h23) q_350 q_2 q_347 q_348 q_349 e_Memory_store (by decide) rfl rfl hP hD hS hl.1 rfl (Nat.le_of_ble_eq_true rfl) d_Blocks_make_81 (fun H locs hz24 hP hD hS => ?_)
          refine lv_if_eq (tgt := 178) hx hb d_Blocks_make_84 (by decide) (fun hc => ?_) (fun hc => ?_)
          · rw [if_pos hc] at hm
            exact J178 u22 r5 hm _ _ _ hP hD hS (lv_sub hl [3, 1] rfl)
          · rw [if_neg hc] at hm
            refine lv_aload_n hx hb d_Blocks_make_87 rfl (lv_at hl 3 rfl) ?_
            refine va_get (D := D) (ci := 2) (v := .ref (G 1)) (C := "FirmStore$Blocks") (T := F_Blocks) (N := 1) hx hb hts iz_Blocks hown hK hP 5 rfl rfl 0 (by decide) (hts _ q_63) (fun _ h9 => h9) rfl d_Blocks_make_88 ?_
            refine lv_iload hx hb d_Blocks_make_91 (lv_at hl 0 rfl) ?_
            refine lv_iconst (v := (3 : Int32)) hx hb d_Blocks_make_93 (by decide) ?_
            refine lv_iadd hx hb d_Blocks_make_94 ?_
            refine lv_iconst (v := (1 : Int32)) hx hb d_Blocks_make_95 (by decide) ?_
            refine lv_iadd hx hb d_Blocks_make_96 ?_
            refine lv_lload hx hb d_Blocks_make_97 (lv_at hl 8 rfl) ?_
            obtain ⟨r25, u26, h27, hm⟩ := ob_some hm
            refine goVZ (As := [.int (((r5 * (9 : Int32)) + (3 : Int32)) + (1 : Int32)), .long a5]) (rest := []) (b0 := G 1) 1 C0 (k_Memory_store l D G Y h27) q_350 q_2 q_347 q_348 q_349 e_Memory_store (by decide) rfl rfl hP hD hS hl.1 rfl (Nat.le_of_ble_eq_true rfl) d_Blocks_make_99 (fun H locs hz28 hP hD hS => ?_)
            refine lv_if_eq (tgt := 178) hx hb d_Blocks_make_102 (by decide) (fun hc => ?_) (fun hc => ?_)
            · rw [if_pos hc] at hm
              exact J178 u26 r5 hm _ _ _ hP hD hS (lv_sub hl [3, 1] rfl)
            · rw [if_neg hc] at hm
              refine lv_aload_n hx hb d_Blocks_make_105 rfl (lv_at hl 3 rfl) ?_
              refine va_get (D := D) (ci := 2) (v := .ref (G 1)) (C := "FirmStore$Blocks") (T := F_Blocks) (N := 1) hx hb hts iz_Blocks hown hK hP 5 rfl rfl 0 (by decide) (hts _ q_63) (fun _ h9 => h9) rfl d_Blocks_make_106 ?_
              refine lv_iload hx hb d_Blocks_make_109 (lv_at hl 0 rfl) ?_
              refine lv_iconst (v := (3 : Int32)) hx hb d_Blocks_make_111 (by decide) ?_
              refine lv_iadd hx hb d_Blocks_make_112 ?_
              refine lv_iconst (v := (2 : Int32)) hx hb d_Blocks_make_113 (by decide) ?_
              refine lv_iadd hx hb d_Blocks_make_114 ?_
              refine lv_lload hx hb d_Blocks_make_115 (lv_at hl 9 rfl) ?_
              obtain ⟨r29, u30, h31, hm⟩ := ob_some hm
              refine goVZ (As := [.int (((r5 * (9 : Int32)) + (3 : Int32)) + (2 : Int32)), .long a6]) (rest := []) (b0 := G 1) 1 C0 (k_Memory_store l D G Y h31) q_350 q_2 q_347 q_348 q_349 e_Memory_store (by decide) rfl rfl hP hD hS hl.1 rfl (Nat.le_of_ble_eq_true rfl) d_Blocks_make_117 (fun H locs hz32 hP hD hS => ?_)
              refine lv_if_eq (tgt := 178) hx hb d_Blocks_make_120 (by decide) (fun hc => ?_) (fun hc => ?_)
              · rw [if_pos hc] at hm
                exact J178 u30 r5 hm _ _ _ hP hD hS (lv_sub hl [3, 1] rfl)
              · rw [if_neg hc] at hm
                refine lv_aload_n hx hb d_Blocks_make_123 rfl (lv_at hl 3 rfl) ?_
                refine va_get (D := D) (ci := 2) (v := .ref (G 1)) (C := "FirmStore$Blocks") (T := F_Blocks) (N := 1) hx hb hts iz_Blocks hown hK hP 5 rfl rfl 0 (by decide) (hts _ q_63) (fun _ h9 => h9) rfl d_Blocks_make_124 ?_
                refine lv_iload hx hb d_Blocks_make_127 (lv_at hl 0 rfl) ?_
                refine lv_iconst (v := (3 : Int32)) hx hb d_Blocks_make_129 (by decide) ?_
                refine lv_iadd hx hb d_Blocks_make_130 ?_
                refine lv_iconst (v := (3 : Int32)) hx hb d_Blocks_make_131 (by decide) ?_
                refine lv_iadd hx hb d_Blocks_make_132 ?_
                refine lv_lconst (v := (0 : Int64)) hx hb d_Blocks_make_133 (by decide) ?_
                obtain ⟨r33, u34, h35, hm⟩ := ob_some hm
                refine goVZ (As := [.int (((r5 * (9 : Int32)) + (3 : Int32)) + (3 : Int32)), .long (0 : Int64)]) (rest := []) (b0 := G 1) 1 C0 (k_Memory_store l D G Y h35) q_350 q_2 q_347 q_348 q_349 e_Memory_store (by decide) rfl rfl hP hD hS hl.1 rfl (Nat.le_of_ble_eq_true rfl) d_Blocks_make_134 (fun H locs hz36 hP hD hS => ?_)
                refine lv_if_eq (tgt := 178) hx hb d_Blocks_make_137 (by decide) (fun hc => ?_) (fun hc => ?_)
                · rw [if_pos hc] at hm
                  exact J178 u34 r5 hm _ _ _ hP hD hS (lv_sub hl [3, 1] rfl)
                · rw [if_neg hc] at hm
                  refine lv_aload_n hx hb d_Blocks_make_140 rfl (lv_at hl 3 rfl) ?_
                  refine va_get (D := D) (ci := 2) (v := .ref (G 1)) (C := "FirmStore$Blocks") (T := F_Blocks) (N := 1) hx hb hts iz_Blocks hown hK hP 5 rfl rfl 0 (by decide) (hts _ q_63) (fun _ h9 => h9) rfl d_Blocks_make_141 ?_
                  refine lv_iload hx hb d_Blocks_make_144 (lv_at hl 0 rfl) ?_
                  refine lv_iconst (v := (3 : Int32)) hx hb d_Blocks_make_146 (by decide) ?_
                  refine lv_iadd hx hb d_Blocks_make_147 ?_
                  refine lv_iconst (v := (4 : Int32)) hx hb d_Blocks_make_148 (by decide) ?_
                  refine lv_iadd hx hb d_Blocks_make_149 ?_
                  refine lv_lconst (v := (0 : Int64)) hx hb d_Blocks_make_150 (by decide) ?_
                  obtain ⟨r37, u38, h39, hm⟩ := ob_some hm
                  refine goVZ (As := [.int (((r5 * (9 : Int32)) + (3 : Int32)) + (4 : Int32)), .long (0 : Int64)]) (rest := []) (b0 := G 1) 1 C0 (k_Memory_store l D G Y h39) q_350 q_2 q_347 q_348 q_349 e_Memory_store (by decide) rfl rfl hP hD hS hl.1 rfl (Nat.le_of_ble_eq_true rfl) d_Blocks_make_151 (fun H locs hz40 hP hD hS => ?_)
                  refine lv_if_eq (tgt := 178) hx hb d_Blocks_make_154 (by decide) (fun hc => ?_) (fun hc => ?_)
                  · rw [if_pos hc] at hm
                    exact J178 u38 r5 hm _ _ _ hP hD hS (lv_sub hl [3, 1] rfl)
                  · rw [if_neg hc] at hm
                    refine lv_aload_n hx hb d_Blocks_make_157 rfl (lv_at hl 3 rfl) ?_
                    refine va_get (D := D) (ci := 2) (v := .ref (G 1)) (C := "FirmStore$Blocks") (T := F_Blocks) (N := 1) hx hb hts iz_Blocks hown hK hP 5 rfl rfl 0 (by decide) (hts _ q_63) (fun _ h9 => h9) rfl d_Blocks_make_158 ?_
                    refine lv_iload hx hb d_Blocks_make_161 (lv_at hl 0 rfl) ?_
                    refine lv_iconst (v := (3 : Int32)) hx hb d_Blocks_make_163 (by decide) ?_
                    refine lv_iadd hx hb d_Blocks_make_164 ?_
                    refine lv_iconst (v := (5 : Int32)) hx hb d_Blocks_make_165 (by decide) ?_
                    refine lv_iadd hx hb d_Blocks_make_166 ?_
                    refine lv_lconst (v := (0 : Int64)) hx hb d_Blocks_make_167 (by decide) ?_
                    obtain ⟨r41, u42, h43, hm⟩ := ob_some hm
                    refine goVZ (As := [.int (((r5 * (9 : Int32)) + (3 : Int32)) + (5 : Int32)), .long (0 : Int64)]) (rest := []) (b0 := G 1) 1 C0 (k_Memory_store l D G Y h43) q_350 q_2 q_347 q_348 q_349 e_Memory_store (by decide) rfl rfl hP hD hS hl.1 rfl (Nat.le_of_ble_eq_true rfl) d_Blocks_make_168 (fun H locs hz44 hP hD hS => ?_)
                    refine lv_if_eq (tgt := 178) hx hb d_Blocks_make_171 (by decide) (fun hc => ?_) (fun hc => ?_)
                    · rw [if_pos hc] at hm
                      exact J178 u42 r5 hm _ _ _ hP hD hS (lv_sub hl [3, 1] rfl)
                    · rw [if_neg hc] at hm
                      refine lv_iconst (v := (1 : Int32)) hx hb d_Blocks_make_174 (by decide) ?_
                      refine lv_goto (tgt := 179) hx hb d_Blocks_make_175 (by decide) ?_
                      exact J179 u42 r5 (1 : Int32) hm _ _ _ hP hD hS (lv_sub hl [3, 1] rfl)
