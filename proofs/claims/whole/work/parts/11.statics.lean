/-! models and contracts; written by wip/whole/gen.py -/
def m_Firm_isPart (u : SM) (a1 : Int32) : Option (Int32 × SM) := if a1 = 0 then (some ((1 : Int32), u)) else (if a1 = (1 : Int32) then (some ((1 : Int32), u)) else (some ((0 : Int32), u)))
def m_Firm_isKey (u : SM) (a1 : Int32) : Option (Int32 × SM) := if a1 < 0 then (some ((0 : Int32), u)) else (if (1000 : Int32) ≤ a1 then (some ((0 : Int32), u)) else (some ((1 : Int32), u)))
def m_Firm_entryOf (u : SM) (a1 : Int32) (a2 : Int32) : Option (Int64 × SM) := some (((zLshl ((a1.toInt64) + (1 : Int64)) (32 : Int32)) ||| ((a2.toInt64) &&& (4294967295 : Int64))), u)
def m_Firm_keyOf (u : SM) (a1 : Int64) : Option (Int32 × SM) := some ((((zLushr a1 (32 : Int32)).toInt32) - (1 : Int32)), u)
def m_Firm_valueOf (u : SM) (a1 : Int64) : Option (Int32 × SM) := some ((a1.toInt32), u)
def m_Int_bitCount (u : SM) (a1 : Int32) : Option (Int32 × SM) := some (((((((((a1 - ((zIushr a1 (1 : Int32)) &&& (1431655765 : Int32))) &&& (858993459 : Int32)) + ((zIushr (a1 - ((zIushr a1 (1 : Int32)) &&& (1431655765 : Int32))) (2 : Int32)) &&& (858993459 : Int32))) + (zIushr (((a1 - ((zIushr a1 (1 : Int32)) &&& (1431655765 : Int32))) &&& (858993459 : Int32)) + ((zIushr (a1 - ((zIushr a1 (1 : Int32)) &&& (1431655765 : Int32))) (2 : Int32)) &&& (858993459 : Int32))) (4 : Int32))) &&& (252645135 : Int32)) + (zIushr (((((a1 - ((zIushr a1 (1 : Int32)) &&& (1431655765 : Int32))) &&& (858993459 : Int32)) + ((zIushr (a1 - ((zIushr a1 (1 : Int32)) &&& (1431655765 : Int32))) (2 : Int32)) &&& (858993459 : Int32))) + (zIushr (((a1 - ((zIushr a1 (1 : Int32)) &&& (1431655765 : Int32))) &&& (858993459 : Int32)) + ((zIushr (a1 - ((zIushr a1 (1 : Int32)) &&& (1431655765 : Int32))) (2 : Int32)) &&& (858993459 : Int32))) (4 : Int32))) &&& (252645135 : Int32)) (8 : Int32))) + (zIushr ((((((a1 - ((zIushr a1 (1 : Int32)) &&& (1431655765 : Int32))) &&& (858993459 : Int32)) + ((zIushr (a1 - ((zIushr a1 (1 : Int32)) &&& (1431655765 : Int32))) (2 : Int32)) &&& (858993459 : Int32))) + (zIushr (((a1 - ((zIushr a1 (1 : Int32)) &&& (1431655765 : Int32))) &&& (858993459 : Int32)) + ((zIushr (a1 - ((zIushr a1 (1 : Int32)) &&& (1431655765 : Int32))) (2 : Int32)) &&& (858993459 : Int32))) (4 : Int32))) &&& (252645135 : Int32)) + (zIushr (((((a1 - ((zIushr a1 (1 : Int32)) &&& (1431655765 : Int32))) &&& (858993459 : Int32)) + ((zIushr (a1 - ((zIushr a1 (1 : Int32)) &&& (1431655765 : Int32))) (2 : Int32)) &&& (858993459 : Int32))) + (zIushr (((a1 - ((zIushr a1 (1 : Int32)) &&& (1431655765 : Int32))) &&& (858993459 : Int32)) + ((zIushr (a1 - ((zIushr a1 (1 : Int32)) &&& (1431655765 : Int32))) (2 : Int32)) &&& (858993459 : Int32))) (4 : Int32))) &&& (252645135 : Int32)) (8 : Int32))) (16 : Int32))) &&& (63 : Int32)), u)
def m_Int_numberOfTrailingZeros_J62 (ua : SM) (x0 : Int32) (x1 : Int32) : Option (Int32 × SM) := if x0 ≤ (4 : Int32) then (some ((x1 + (zIushr x0 (1 : Int32))), ua)) else (some (((x1 + (2 : Int32)) + (zIushr (zIushr x0 (2 : Int32)) (1 : Int32))), ua))
def m_Int_numberOfTrailingZeros_J49 (ua : SM) (x0 : Int32) (x1 : Int32) : Option (Int32 × SM) := if x0 ≤ (16 : Int32) then (m_Int_numberOfTrailingZeros_J62 ua x0 x1) else (m_Int_numberOfTrailingZeros_J62 ua (zIushr x0 (4 : Int32)) (x1 + (4 : Int32)))
def m_Int_numberOfTrailingZeros_J34 (ua : SM) (x0 : Int32) (x1 : Int32) : Option (Int32 × SM) := if x0 ≤ (256 : Int32) then (m_Int_numberOfTrailingZeros_J49 ua x0 x1) else (m_Int_numberOfTrailingZeros_J49 ua (zIushr x0 (8 : Int32)) (x1 + (8 : Int32)))
def m_Int_numberOfTrailingZeros (u : SM) (a1 : Int32) : Option (Int32 × SM) := if 0 < ((a1 ^^^ (-1 : Int32)) &&& (a1 - (1 : Int32))) then (if ((a1 ^^^ (-1 : Int32)) &&& (a1 - (1 : Int32))) ≤ (65536 : Int32) then (m_Int_numberOfTrailingZeros_J34 u ((a1 ^^^ (-1 : Int32)) &&& (a1 - (1 : Int32))) (1 : Int32)) else (m_Int_numberOfTrailingZeros_J34 u (zIushr ((a1 ^^^ (-1 : Int32)) &&& (a1 - (1 : Int32))) (16 : Int32)) ((1 : Int32) + (16 : Int32)))) else (some ((((a1 ^^^ (-1 : Int32)) &&& (a1 - (1 : Int32))) &&& (32 : Int32)), u))
theorem d_Firm_isPart_0 : decode b_Firm_isPart 0 = .ok (.iload_n 0, 1) := by decide +kernel
theorem d_Firm_isPart_1 : decode b_Firm_isPart 1 = .ok (.ifCond .eq 8, 3) := by decide +kernel
theorem d_Firm_isPart_4 : decode b_Firm_isPart 4 = .ok (.iload_n 0, 1) := by decide +kernel
theorem d_Firm_isPart_5 : decode b_Firm_isPart 5 = .ok (.iconst 1, 1) := by decide +kernel
theorem d_Firm_isPart_6 : decode b_Firm_isPart 6 = .ok (.if_icmp .ne 7, 3) := by decide +kernel
theorem d_Firm_isPart_9 : decode b_Firm_isPart 9 = .ok (.iconst 1, 1) := by decide +kernel
theorem d_Firm_isPart_10 : decode b_Firm_isPart 10 = .ok (.goto 4, 3) := by decide +kernel
theorem d_Firm_isPart_13 : decode b_Firm_isPart 13 = .ok (.iconst 0, 1) := by decide +kernel
theorem d_Firm_isPart_14 : decode b_Firm_isPart 14 = .ok (.ireturn, 1) := by decide +kernel
set_option maxRecDepth 100000 in
set_option maxHeartbeats 4000000 in
theorem k_Firm_isPart (l : Launch) (D : va_G) (G : Nat → Nat) (Y : Nat → ClassId) {u : SM} {a1 : Int32} {r : Int32} {u' : SM} (hm : m_Firm_isPart u a1 = some (r, u')) : KZ l D clz (tyz Y) (wdC G Y) y_Firm_isPart b_Firm_isPart 1 (some .boolean) 0 0 [.int a1] u r u' := by
  refine mkZ (by decide) (Nat.le_of_ble_eq_true rfl) ?_
  intro p e s m below meth c A Z ls C0 hP hD hS hl hret
  obtain ⟨hx, hb, hml, hown, hts, hK, hN, hA⟩ := id C0
  have hl : lv_has ls 1 [(0, .int a1)] := hl
  rw [m_Firm_isPart] at hm
  refine lv_iload_n hx hb d_Firm_isPart_0 rfl (lv_at hl 0 rfl) ?_
  refine lv_if_eq (tgt := 9) hx hb d_Firm_isPart_1 (by decide) (fun hc => ?_) (fun hc => ?_)
  · rw [if_pos hc] at hm
    refine lv_iconst (v := (1 : Int32)) hx hb d_Firm_isPart_9 (by decide) ?_
    refine lv_goto (tgt := 14) hx hb d_Firm_isPart_10 (by decide) ?_
    exact hret _ _ _ _ (1 : Int32) u (Option.some.inj hm) (Or.inr rfl) hP hD hS d_Firm_isPart_14
  · rw [if_neg hc] at hm
    refine lv_iload_n hx hb d_Firm_isPart_4 rfl (lv_at hl 0 rfl) ?_
    refine lv_iconst (v := (1 : Int32)) hx hb d_Firm_isPart_5 (by decide) ?_
    refine lv_icmp_ne (tgt := 13) hx hb d_Firm_isPart_6 (by decide) (fun hc => ?_) (fun hc => ?_)
    · rw [if_neg hc] at hm
      refine lv_iconst (v := (0 : Int32)) hx hb d_Firm_isPart_13 (by decide) ?_
      exact hret _ _ _ _ (0 : Int32) u (Option.some.inj hm) (Or.inl rfl) hP hD hS d_Firm_isPart_14
    · rw [if_pos hc] at hm
      refine lv_iconst (v := (1 : Int32)) hx hb d_Firm_isPart_9 (by decide) ?_
      refine lv_goto (tgt := 14) hx hb d_Firm_isPart_10 (by decide) ?_
      exact hret _ _ _ _ (1 : Int32) u (Option.some.inj hm) (Or.inr rfl) hP hD hS d_Firm_isPart_14
theorem d_Firm_isKey_0 : decode b_Firm_isKey 0 = .ok (.iload_n 0, 1) := by decide +kernel
theorem d_Firm_isKey_1 : decode b_Firm_isKey 1 = .ok (.ifCond .lt 14, 3) := by decide +kernel
theorem d_Firm_isKey_4 : decode b_Firm_isKey 4 = .ok (.iload_n 0, 1) := by decide +kernel
theorem d_Firm_isKey_5 : decode b_Firm_isKey 5 = .ok (.sipush 1000, 3) := by decide +kernel
theorem d_Firm_isKey_8 : decode b_Firm_isKey 8 = .ok (.if_icmp .ge 7, 3) := by decide +kernel
theorem d_Firm_isKey_11 : decode b_Firm_isKey 11 = .ok (.iconst 1, 1) := by decide +kernel
theorem d_Firm_isKey_12 : decode b_Firm_isKey 12 = .ok (.goto 4, 3) := by decide +kernel
theorem d_Firm_isKey_15 : decode b_Firm_isKey 15 = .ok (.iconst 0, 1) := by decide +kernel
theorem d_Firm_isKey_16 : decode b_Firm_isKey 16 = .ok (.ireturn, 1) := by decide +kernel
set_option maxRecDepth 100000 in
set_option maxHeartbeats 4000000 in
theorem k_Firm_isKey (l : Launch) (D : va_G) (G : Nat → Nat) (Y : Nat → ClassId) {u : SM} {a1 : Int32} {r : Int32} {u' : SM} (hm : m_Firm_isKey u a1 = some (r, u')) : KZ l D clz (tyz Y) (wdC G Y) y_Firm_isKey b_Firm_isKey 1 (some .boolean) 0 0 [.int a1] u r u' := by
  refine mkZ (by decide) (Nat.le_of_ble_eq_true rfl) ?_
  intro p e s m below meth c A Z ls C0 hP hD hS hl hret
  obtain ⟨hx, hb, hml, hown, hts, hK, hN, hA⟩ := id C0
  have hl : lv_has ls 1 [(0, .int a1)] := hl
  rw [m_Firm_isKey] at hm
  refine lv_iload_n hx hb d_Firm_isKey_0 rfl (lv_at hl 0 rfl) ?_
  refine lv_if_lt (tgt := 15) hx hb d_Firm_isKey_1 (by decide) (fun hc => ?_) (fun hc => ?_)
  · rw [if_pos hc] at hm
    refine lv_iconst (v := (0 : Int32)) hx hb d_Firm_isKey_15 (by decide) ?_
    exact hret _ _ _ _ (0 : Int32) u (Option.some.inj hm) (Or.inl rfl) hP hD hS d_Firm_isKey_16
  · rw [if_neg hc] at hm
    refine lv_iload_n hx hb d_Firm_isKey_4 rfl (lv_at hl 0 rfl) ?_
    refine lv_sipush (v := (1000 : Int32)) hx hb d_Firm_isKey_5 (by decide) ?_
    refine lv_icmp_ge (tgt := 15) hx hb d_Firm_isKey_8 (by decide) (fun hc => ?_) (fun hc => ?_)
    · rw [if_pos hc] at hm
      refine lv_iconst (v := (0 : Int32)) hx hb d_Firm_isKey_15 (by decide) ?_
      exact hret _ _ _ _ (0 : Int32) u (Option.some.inj hm) (Or.inl rfl) hP hD hS d_Firm_isKey_16
    · rw [if_neg hc] at hm
      refine lv_iconst (v := (1 : Int32)) hx hb d_Firm_isKey_11 (by decide) ?_
      refine lv_goto (tgt := 16) hx hb d_Firm_isKey_12 (by decide) ?_
      exact hret _ _ _ _ (1 : Int32) u (Option.some.inj hm) (Or.inr rfl) hP hD hS d_Firm_isKey_16
theorem d_Firm_entryOf_0 : decode b_Firm_entryOf 0 = .ok (.iload_n 0, 1) := by decide +kernel
theorem d_Firm_entryOf_1 : decode b_Firm_entryOf 1 = .ok (.i2l, 1) := by decide +kernel
theorem d_Firm_entryOf_2 : decode b_Firm_entryOf 2 = .ok (.lconst 1, 1) := by decide +kernel
theorem d_Firm_entryOf_3 : decode b_Firm_entryOf 3 = .ok (.ladd, 1) := by decide +kernel
theorem d_Firm_entryOf_4 : decode b_Firm_entryOf 4 = .ok (.bipush 32, 2) := by decide +kernel
theorem d_Firm_entryOf_6 : decode b_Firm_entryOf 6 = .ok (.lshl, 1) := by decide +kernel
theorem d_Firm_entryOf_7 : decode b_Firm_entryOf 7 = .ok (.iload_n 1, 1) := by decide +kernel
theorem d_Firm_entryOf_8 : decode b_Firm_entryOf 8 = .ok (.i2l, 1) := by decide +kernel
theorem d_Firm_entryOf_9 : decode b_Firm_entryOf 9 = .ok (.ldc2_w 118, 3) := by decide +kernel
theorem d_Firm_entryOf_12 : decode b_Firm_entryOf 12 = .ok (.land, 1) := by decide +kernel
theorem d_Firm_entryOf_13 : decode b_Firm_entryOf 13 = .ok (.lor, 1) := by decide +kernel
theorem d_Firm_entryOf_14 : decode b_Firm_entryOf 14 = .ok (.lreturn, 1) := by decide +kernel
set_option maxRecDepth 100000 in
set_option maxHeartbeats 4000000 in
theorem k_Firm_entryOf (l : Launch) (D : va_G) (G : Nat → Nat) (Y : Nat → ClassId) {u : SM} {a1 : Int32} {a2 : Int32} {r : Int64} {u' : SM} (hm : m_Firm_entryOf u a1 a2 = some (r, u')) : KL l D clz (tyz Y) (wdC G Y) y_Firm_entryOf b_Firm_entryOf 2 (some .long) 0 0 [.int a1, .int a2] u r u' := by
  refine mkL (by decide) (Nat.le_of_ble_eq_true rfl) ?_
  intro p e s m below meth c A Z ls C0 hP hD hS hl hret
  obtain ⟨hx, hb, hml, hown, hts, hK, hN, hA⟩ := id C0
  have hl : lv_has ls 2 [(0, .int a1), (1, .int a2)] := hl
  rw [m_Firm_entryOf] at hm
  refine lv_iload_n hx hb d_Firm_entryOf_0 rfl (lv_at hl 0 rfl) ?_
  refine lv_i2l (v := (a1.toInt64)) hx hb d_Firm_entryOf_1 rfl ?_
  refine lv_lconst (v := (1 : Int64)) hx hb d_Firm_entryOf_2 (by decide) ?_
  refine lv_ladd hx hb d_Firm_entryOf_3 ?_
  refine lv_bipush (v := (32 : Int32)) hx hb d_Firm_entryOf_4 (by decide) ?_
  refine lv_lshl (v := (zLshl ((a1.toInt64) + (1 : Int64)) (32 : Int32))) hx hb d_Firm_entryOf_6 rfl ?_
  refine lv_iload_n hx hb d_Firm_entryOf_7 rfl (lv_at hl 1 rfl) ?_
  refine lv_i2l (v := (a2.toInt64)) hx hb d_Firm_entryOf_8 rfl ?_
  refine lv_ldc2 (v := (4294967295 : Int64)) hx hb hown (hts _ q_337) d_Firm_entryOf_9 ?_
  refine lv_land hx hb d_Firm_entryOf_12 ?_
  refine lv_lor hx hb d_Firm_entryOf_13 ?_
  exact hret _ _ _ _ ((zLshl ((a1.toInt64) + (1 : Int64)) (32 : Int32)) ||| ((a2.toInt64) &&& (4294967295 : Int64))) u (Option.some.inj hm) hP hD hS d_Firm_entryOf_14
theorem d_Firm_keyOf_0 : decode b_Firm_keyOf 0 = .ok (.lload_n 0, 1) := by decide +kernel
theorem d_Firm_keyOf_1 : decode b_Firm_keyOf 1 = .ok (.bipush 32, 2) := by decide +kernel
theorem d_Firm_keyOf_3 : decode b_Firm_keyOf 3 = .ok (.lushr, 1) := by decide +kernel
theorem d_Firm_keyOf_4 : decode b_Firm_keyOf 4 = .ok (.l2i, 1) := by decide +kernel
theorem d_Firm_keyOf_5 : decode b_Firm_keyOf 5 = .ok (.iconst 1, 1) := by decide +kernel
theorem d_Firm_keyOf_6 : decode b_Firm_keyOf 6 = .ok (.isub, 1) := by decide +kernel
theorem d_Firm_keyOf_7 : decode b_Firm_keyOf 7 = .ok (.ireturn, 1) := by decide +kernel
set_option maxRecDepth 100000 in
set_option maxHeartbeats 4000000 in
theorem k_Firm_keyOf (l : Launch) (D : va_G) (G : Nat → Nat) (Y : Nat → ClassId) {u : SM} {a1 : Int64} {r : Int32} {u' : SM} (hm : m_Firm_keyOf u a1 = some (r, u')) : KI l D clz (tyz Y) (wdC G Y) y_Firm_keyOf b_Firm_keyOf 2 (some .int) 0 0 [.long a1] u r u' := by
  refine mkI (by decide) (Nat.le_of_ble_eq_true rfl) ?_
  intro p e s m below meth c A Z ls C0 hP hD hS hl hret
  obtain ⟨hx, hb, hml, hown, hts, hK, hN, hA⟩ := id C0
  have hl : lv_has ls 2 [(0, .long a1)] := hl
  rw [m_Firm_keyOf] at hm
  refine lv_lload_n hx hb d_Firm_keyOf_0 rfl (lv_at hl 0 rfl) ?_
  refine lv_bipush (v := (32 : Int32)) hx hb d_Firm_keyOf_1 (by decide) ?_
  refine lv_lushr (v := (zLushr a1 (32 : Int32))) hx hb d_Firm_keyOf_3 rfl ?_
  refine lv_l2i (v := ((zLushr a1 (32 : Int32)).toInt32)) hx hb d_Firm_keyOf_4 rfl ?_
  refine lv_iconst (v := (1 : Int32)) hx hb d_Firm_keyOf_5 (by decide) ?_
  refine lv_isub hx hb d_Firm_keyOf_6 ?_
  exact hret _ _ _ _ (((zLushr a1 (32 : Int32)).toInt32) - (1 : Int32)) u (Option.some.inj hm) hP hD hS d_Firm_keyOf_7
theorem d_Firm_valueOf_0 : decode b_Firm_valueOf 0 = .ok (.lload_n 0, 1) := by decide +kernel
theorem d_Firm_valueOf_1 : decode b_Firm_valueOf 1 = .ok (.l2i, 1) := by decide +kernel
theorem d_Firm_valueOf_2 : decode b_Firm_valueOf 2 = .ok (.ireturn, 1) := by decide +kernel
set_option maxRecDepth 100000 in
set_option maxHeartbeats 4000000 in
theorem k_Firm_valueOf (l : Launch) (D : va_G) (G : Nat → Nat) (Y : Nat → ClassId) {u : SM} {a1 : Int64} {r : Int32} {u' : SM} (hm : m_Firm_valueOf u a1 = some (r, u')) : KI l D clz (tyz Y) (wdC G Y) y_Firm_valueOf b_Firm_valueOf 2 (some .int) 0 0 [.long a1] u r u' := by
  refine mkI (by decide) (Nat.le_of_ble_eq_true rfl) ?_
  intro p e s m below meth c A Z ls C0 hP hD hS hl hret
  obtain ⟨hx, hb, hml, hown, hts, hK, hN, hA⟩ := id C0
  have hl : lv_has ls 2 [(0, .long a1)] := hl
  rw [m_Firm_valueOf] at hm
  refine lv_lload_n hx hb d_Firm_valueOf_0 rfl (lv_at hl 0 rfl) ?_
  refine lv_l2i (v := (a1.toInt32)) hx hb d_Firm_valueOf_1 rfl ?_
  exact hret _ _ _ _ (a1.toInt32) u (Option.some.inj hm) hP hD hS d_Firm_valueOf_2
theorem d_Int_bitCount_0 : decode b_Int_bitCount 0 = .ok (.iload_n 0, 1) := by decide +kernel
theorem d_Int_bitCount_1 : decode b_Int_bitCount 1 = .ok (.iload_n 0, 1) := by decide +kernel
theorem d_Int_bitCount_2 : decode b_Int_bitCount 2 = .ok (.iconst 1, 1) := by decide +kernel
theorem d_Int_bitCount_3 : decode b_Int_bitCount 3 = .ok (.iushr, 1) := by decide +kernel
theorem d_Int_bitCount_4 : decode b_Int_bitCount 4 = .ok (.ldc_w 265, 3) := by decide +kernel
theorem d_Int_bitCount_7 : decode b_Int_bitCount 7 = .ok (.iand, 1) := by decide +kernel
theorem d_Int_bitCount_8 : decode b_Int_bitCount 8 = .ok (.isub, 1) := by decide +kernel
theorem d_Int_bitCount_9 : decode b_Int_bitCount 9 = .ok (.istore_n 0, 1) := by decide +kernel
theorem d_Int_bitCount_10 : decode b_Int_bitCount 10 = .ok (.iload_n 0, 1) := by decide +kernel
theorem d_Int_bitCount_11 : decode b_Int_bitCount 11 = .ok (.ldc_w 266, 3) := by decide +kernel
theorem d_Int_bitCount_14 : decode b_Int_bitCount 14 = .ok (.iand, 1) := by decide +kernel
theorem d_Int_bitCount_15 : decode b_Int_bitCount 15 = .ok (.iload_n 0, 1) := by decide +kernel
theorem d_Int_bitCount_16 : decode b_Int_bitCount 16 = .ok (.iconst 2, 1) := by decide +kernel
theorem d_Int_bitCount_17 : decode b_Int_bitCount 17 = .ok (.iushr, 1) := by decide +kernel
theorem d_Int_bitCount_18 : decode b_Int_bitCount 18 = .ok (.ldc_w 266, 3) := by decide +kernel
theorem d_Int_bitCount_21 : decode b_Int_bitCount 21 = .ok (.iand, 1) := by decide +kernel
theorem d_Int_bitCount_22 : decode b_Int_bitCount 22 = .ok (.iadd, 1) := by decide +kernel
theorem d_Int_bitCount_23 : decode b_Int_bitCount 23 = .ok (.istore_n 0, 1) := by decide +kernel
theorem d_Int_bitCount_24 : decode b_Int_bitCount 24 = .ok (.iload_n 0, 1) := by decide +kernel
theorem d_Int_bitCount_25 : decode b_Int_bitCount 25 = .ok (.iload_n 0, 1) := by decide +kernel
theorem d_Int_bitCount_26 : decode b_Int_bitCount 26 = .ok (.iconst 4, 1) := by decide +kernel
theorem d_Int_bitCount_27 : decode b_Int_bitCount 27 = .ok (.iushr, 1) := by decide +kernel
theorem d_Int_bitCount_28 : decode b_Int_bitCount 28 = .ok (.iadd, 1) := by decide +kernel
theorem d_Int_bitCount_29 : decode b_Int_bitCount 29 = .ok (.ldc_w 267, 3) := by decide +kernel
theorem d_Int_bitCount_32 : decode b_Int_bitCount 32 = .ok (.iand, 1) := by decide +kernel
theorem d_Int_bitCount_33 : decode b_Int_bitCount 33 = .ok (.istore_n 0, 1) := by decide +kernel
theorem d_Int_bitCount_34 : decode b_Int_bitCount 34 = .ok (.iload_n 0, 1) := by decide +kernel
theorem d_Int_bitCount_35 : decode b_Int_bitCount 35 = .ok (.iload_n 0, 1) := by decide +kernel
theorem d_Int_bitCount_36 : decode b_Int_bitCount 36 = .ok (.bipush 8, 2) := by decide +kernel
theorem d_Int_bitCount_38 : decode b_Int_bitCount 38 = .ok (.iushr, 1) := by decide +kernel
theorem d_Int_bitCount_39 : decode b_Int_bitCount 39 = .ok (.iadd, 1) := by decide +kernel
theorem d_Int_bitCount_40 : decode b_Int_bitCount 40 = .ok (.istore_n 0, 1) := by decide +kernel
theorem d_Int_bitCount_41 : decode b_Int_bitCount 41 = .ok (.iload_n 0, 1) := by decide +kernel
theorem d_Int_bitCount_42 : decode b_Int_bitCount 42 = .ok (.iload_n 0, 1) := by decide +kernel
theorem d_Int_bitCount_43 : decode b_Int_bitCount 43 = .ok (.bipush 16, 2) := by decide +kernel
theorem d_Int_bitCount_45 : decode b_Int_bitCount 45 = .ok (.iushr, 1) := by decide +kernel
theorem d_Int_bitCount_46 : decode b_Int_bitCount 46 = .ok (.iadd, 1) := by decide +kernel
theorem d_Int_bitCount_47 : decode b_Int_bitCount 47 = .ok (.istore_n 0, 1) := by decide +kernel
theorem d_Int_bitCount_48 : decode b_Int_bitCount 48 = .ok (.iload_n 0, 1) := by decide +kernel
theorem d_Int_bitCount_49 : decode b_Int_bitCount 49 = .ok (.bipush 63, 2) := by decide +kernel
theorem d_Int_bitCount_51 : decode b_Int_bitCount 51 = .ok (.iand, 1) := by decide +kernel
theorem d_Int_bitCount_52 : decode b_Int_bitCount 52 = .ok (.ireturn, 1) := by decide +kernel
set_option maxRecDepth 100000 in
set_option maxHeartbeats 4000000 in
theorem k_Int_bitCount (l : Launch) (D : va_G) (G : Nat → Nat) (Y : Nat → ClassId) {u : SM} {a1 : Int32} {r : Int32} {u' : SM} (hm : m_Int_bitCount u a1 = some (r, u')) : KI l D clz (tyz Y) (wdC G Y) y_Int_bitCount b_Int_bitCount 1 (some .int) 0 0 [.int a1] u r u' := by
  refine mkJ (by decide) (Nat.le_of_ble_eq_true rfl) ?_
  intro p e s m below meth c A Z ls C0 hP hD hS hl hret
  obtain ⟨hx, hb, hml, hown, hts, hK, hN, hA⟩ := id C0
  have hl : lv_has ls 1 [(0, .int a1)] := hl
  rw [m_Int_bitCount] at hm
  refine lv_iload_n hx hb d_Int_bitCount_0 rfl (lv_at hl 0 rfl) ?_
  refine lv_iload_n hx hb d_Int_bitCount_1 rfl (lv_at hl 0 rfl) ?_
  refine lv_iconst (v := (1 : Int32)) hx hb d_Int_bitCount_2 (by decide) ?_
  refine lv_iushr (v := (zIushr a1 (1 : Int32))) hx hb d_Int_bitCount_3 rfl ?_
  refine lv_ldcw (v := (1431655765 : Int32)) hx hb hown (hts _ q_216) d_Int_bitCount_4 ?_
  refine lv_iand hx hb d_Int_bitCount_7 ?_
  refine lv_isub hx hb d_Int_bitCount_8 ?_
  refine lv_istore_n (lv' := [(0, .int (a1 - ((zIushr a1 (1 : Int32)) &&& (1431655765 : Int32))))]) hx hb d_Int_bitCount_9 rfl hl (by decide) rfl (fun ls hl => ?_)
  refine lv_iload_n hx hb d_Int_bitCount_10 rfl (lv_at hl 0 rfl) ?_
  refine lv_ldcw (v := (858993459 : Int32)) hx hb hown (hts _ q_217) d_Int_bitCount_11 ?_
  refine lv_iand hx hb d_Int_bitCount_14 ?_
  refine lv_iload_n hx hb d_Int_bitCount_15 rfl (lv_at hl 0 rfl) ?_
  refine lv_iconst (v := (2 : Int32)) hx hb d_Int_bitCount_16 (by decide) ?_
  refine lv_iushr (v := (zIushr (a1 - ((zIushr a1 (1 : Int32)) &&& (1431655765 : Int32))) (2 : Int32))) hx hb d_Int_bitCount_17 rfl ?_
  refine lv_ldcw (v := (858993459 : Int32)) hx hb hown (hts _ q_217) d_Int_bitCount_18 ?_
  refine lv_iand hx hb d_Int_bitCount_21 ?_
  refine lv_iadd hx hb d_Int_bitCount_22 ?_
  refine lv_istore_n (lv' := [(0, .int (((a1 - ((zIushr a1 (1 : Int32)) &&& (1431655765 : Int32))) &&& (858993459 : Int32)) + ((zIushr (a1 - ((zIushr a1 (1 : Int32)) &&& (1431655765 : Int32))) (2 : Int32)) &&& (858993459 : Int32))))]) hx hb d_Int_bitCount_23 rfl hl (by decide) rfl (fun ls hl => ?_)
  refine lv_iload_n hx hb d_Int_bitCount_24 rfl (lv_at hl 0 rfl) ?_
  refine lv_iload_n hx hb d_Int_bitCount_25 rfl (lv_at hl 0 rfl) ?_
  refine lv_iconst (v := (4 : Int32)) hx hb d_Int_bitCount_26 (by decide) ?_
  refine lv_iushr (v := (zIushr (((a1 - ((zIushr a1 (1 : Int32)) &&& (1431655765 : Int32))) &&& (858993459 : Int32)) + ((zIushr (a1 - ((zIushr a1 (1 : Int32)) &&& (1431655765 : Int32))) (2 : Int32)) &&& (858993459 : Int32))) (4 : Int32))) hx hb d_Int_bitCount_27 rfl ?_
  refine lv_iadd hx hb d_Int_bitCount_28 ?_
  refine lv_ldcw (v := (252645135 : Int32)) hx hb hown (hts _ q_218) d_Int_bitCount_29 ?_
  refine lv_iand hx hb d_Int_bitCount_32 ?_
  refine lv_istore_n (lv' := [(0, .int (((((a1 - ((zIushr a1 (1 : Int32)) &&& (1431655765 : Int32))) &&& (858993459 : Int32)) + ((zIushr (a1 - ((zIushr a1 (1 : Int32)) &&& (1431655765 : Int32))) (2 : Int32)) &&& (858993459 : Int32))) + (zIushr (((a1 - ((zIushr a1 (1 : Int32)) &&& (1431655765 : Int32))) &&& (858993459 : Int32)) + ((zIushr (a1 - ((zIushr a1 (1 : Int32)) &&& (1431655765 : Int32))) (2 : Int32)) &&& (858993459 : Int32))) (4 : Int32))) &&& (252645135 : Int32)))]) hx hb d_Int_bitCount_33 rfl hl (by decide) rfl (fun ls hl => ?_)
  refine lv_iload_n hx hb d_Int_bitCount_34 rfl (lv_at hl 0 rfl) ?_
  refine lv_iload_n hx hb d_Int_bitCount_35 rfl (lv_at hl 0 rfl) ?_
  refine lv_bipush (v := (8 : Int32)) hx hb d_Int_bitCount_36 (by decide) ?_
  refine lv_iushr (v := (zIushr (((((a1 - ((zIushr a1 (1 : Int32)) &&& (1431655765 : Int32))) &&& (858993459 : Int32)) + ((zIushr (a1 - ((zIushr a1 (1 : Int32)) &&& (1431655765 : Int32))) (2 : Int32)) &&& (858993459 : Int32))) + (zIushr (((a1 - ((zIushr a1 (1 : Int32)) &&& (1431655765 : Int32))) &&& (858993459 : Int32)) + ((zIushr (a1 - ((zIushr a1 (1 : Int32)) &&& (1431655765 : Int32))) (2 : Int32)) &&& (858993459 : Int32))) (4 : Int32))) &&& (252645135 : Int32)) (8 : Int32))) hx hb d_Int_bitCount_38 rfl ?_
  refine lv_iadd hx hb d_Int_bitCount_39 ?_
  refine lv_istore_n (lv' := [(0, .int ((((((a1 - ((zIushr a1 (1 : Int32)) &&& (1431655765 : Int32))) &&& (858993459 : Int32)) + ((zIushr (a1 - ((zIushr a1 (1 : Int32)) &&& (1431655765 : Int32))) (2 : Int32)) &&& (858993459 : Int32))) + (zIushr (((a1 - ((zIushr a1 (1 : Int32)) &&& (1431655765 : Int32))) &&& (858993459 : Int32)) + ((zIushr (a1 - ((zIushr a1 (1 : Int32)) &&& (1431655765 : Int32))) (2 : Int32)) &&& (858993459 : Int32))) (4 : Int32))) &&& (252645135 : Int32)) + (zIushr (((((a1 - ((zIushr a1 (1 : Int32)) &&& (1431655765 : Int32))) &&& (858993459 : Int32)) + ((zIushr (a1 - ((zIushr a1 (1 : Int32)) &&& (1431655765 : Int32))) (2 : Int32)) &&& (858993459 : Int32))) + (zIushr (((a1 - ((zIushr a1 (1 : Int32)) &&& (1431655765 : Int32))) &&& (858993459 : Int32)) + ((zIushr (a1 - ((zIushr a1 (1 : Int32)) &&& (1431655765 : Int32))) (2 : Int32)) &&& (858993459 : Int32))) (4 : Int32))) &&& (252645135 : Int32)) (8 : Int32))))]) hx hb d_Int_bitCount_40 rfl hl (by decide) rfl (fun ls hl => ?_)
  refine lv_iload_n hx hb d_Int_bitCount_41 rfl (lv_at hl 0 rfl) ?_
  refine lv_iload_n hx hb d_Int_bitCount_42 rfl (lv_at hl 0 rfl) ?_
  refine lv_bipush (v := (16 : Int32)) hx hb d_Int_bitCount_43 (by decide) ?_
  refine lv_iushr (v := (zIushr ((((((a1 - ((zIushr a1 (1 : Int32)) &&& (1431655765 : Int32))) &&& (858993459 : Int32)) + ((zIushr (a1 - ((zIushr a1 (1 : Int32)) &&& (1431655765 : Int32))) (2 : Int32)) &&& (858993459 : Int32))) + (zIushr (((a1 - ((zIushr a1 (1 : Int32)) &&& (1431655765 : Int32))) &&& (858993459 : Int32)) + ((zIushr (a1 - ((zIushr a1 (1 : Int32)) &&& (1431655765 : Int32))) (2 : Int32)) &&& (858993459 : Int32))) (4 : Int32))) &&& (252645135 : Int32)) + (zIushr (((((a1 - ((zIushr a1 (1 : Int32)) &&& (1431655765 : Int32))) &&& (858993459 : Int32)) + ((zIushr (a1 - ((zIushr a1 (1 : Int32)) &&& (1431655765 : Int32))) (2 : Int32)) &&& (858993459 : Int32))) + (zIushr (((a1 - ((zIushr a1 (1 : Int32)) &&& (1431655765 : Int32))) &&& (858993459 : Int32)) + ((zIushr (a1 - ((zIushr a1 (1 : Int32)) &&& (1431655765 : Int32))) (2 : Int32)) &&& (858993459 : Int32))) (4 : Int32))) &&& (252645135 : Int32)) (8 : Int32))) (16 : Int32))) hx hb d_Int_bitCount_45 rfl ?_
  refine lv_iadd hx hb d_Int_bitCount_46 ?_
  refine lv_istore_n (lv' := [(0, .int (((((((a1 - ((zIushr a1 (1 : Int32)) &&& (1431655765 : Int32))) &&& (858993459 : Int32)) + ((zIushr (a1 - ((zIushr a1 (1 : Int32)) &&& (1431655765 : Int32))) (2 : Int32)) &&& (858993459 : Int32))) + (zIushr (((a1 - ((zIushr a1 (1 : Int32)) &&& (1431655765 : Int32))) &&& (858993459 : Int32)) + ((zIushr (a1 - ((zIushr a1 (1 : Int32)) &&& (1431655765 : Int32))) (2 : Int32)) &&& (858993459 : Int32))) (4 : Int32))) &&& (252645135 : Int32)) + (zIushr (((((a1 - ((zIushr a1 (1 : Int32)) &&& (1431655765 : Int32))) &&& (858993459 : Int32)) + ((zIushr (a1 - ((zIushr a1 (1 : Int32)) &&& (1431655765 : Int32))) (2 : Int32)) &&& (858993459 : Int32))) + (zIushr (((a1 - ((zIushr a1 (1 : Int32)) &&& (1431655765 : Int32))) &&& (858993459 : Int32)) + ((zIushr (a1 - ((zIushr a1 (1 : Int32)) &&& (1431655765 : Int32))) (2 : Int32)) &&& (858993459 : Int32))) (4 : Int32))) &&& (252645135 : Int32)) (8 : Int32))) + (zIushr ((((((a1 - ((zIushr a1 (1 : Int32)) &&& (1431655765 : Int32))) &&& (858993459 : Int32)) + ((zIushr (a1 - ((zIushr a1 (1 : Int32)) &&& (1431655765 : Int32))) (2 : Int32)) &&& (858993459 : Int32))) + (zIushr (((a1 - ((zIushr a1 (1 : Int32)) &&& (1431655765 : Int32))) &&& (858993459 : Int32)) + ((zIushr (a1 - ((zIushr a1 (1 : Int32)) &&& (1431655765 : Int32))) (2 : Int32)) &&& (858993459 : Int32))) (4 : Int32))) &&& (252645135 : Int32)) + (zIushr (((((a1 - ((zIushr a1 (1 : Int32)) &&& (1431655765 : Int32))) &&& (858993459 : Int32)) + ((zIushr (a1 - ((zIushr a1 (1 : Int32)) &&& (1431655765 : Int32))) (2 : Int32)) &&& (858993459 : Int32))) + (zIushr (((a1 - ((zIushr a1 (1 : Int32)) &&& (1431655765 : Int32))) &&& (858993459 : Int32)) + ((zIushr (a1 - ((zIushr a1 (1 : Int32)) &&& (1431655765 : Int32))) (2 : Int32)) &&& (858993459 : Int32))) (4 : Int32))) &&& (252645135 : Int32)) (8 : Int32))) (16 : Int32))))]) hx hb d_Int_bitCount_47 rfl hl (by decide) rfl (fun ls hl => ?_)
  refine lv_iload_n hx hb d_Int_bitCount_48 rfl (lv_at hl 0 rfl) ?_
  refine lv_bipush (v := (63 : Int32)) hx hb d_Int_bitCount_49 (by decide) ?_
  refine lv_iand hx hb d_Int_bitCount_51 ?_
  exact hret _ _ _ _ ((((((((a1 - ((zIushr a1 (1 : Int32)) &&& (1431655765 : Int32))) &&& (858993459 : Int32)) + ((zIushr (a1 - ((zIushr a1 (1 : Int32)) &&& (1431655765 : Int32))) (2 : Int32)) &&& (858993459 : Int32))) + (zIushr (((a1 - ((zIushr a1 (1 : Int32)) &&& (1431655765 : Int32))) &&& (858993459 : Int32)) + ((zIushr (a1 - ((zIushr a1 (1 : Int32)) &&& (1431655765 : Int32))) (2 : Int32)) &&& (858993459 : Int32))) (4 : Int32))) &&& (252645135 : Int32)) + (zIushr (((((a1 - ((zIushr a1 (1 : Int32)) &&& (1431655765 : Int32))) &&& (858993459 : Int32)) + ((zIushr (a1 - ((zIushr a1 (1 : Int32)) &&& (1431655765 : Int32))) (2 : Int32)) &&& (858993459 : Int32))) + (zIushr (((a1 - ((zIushr a1 (1 : Int32)) &&& (1431655765 : Int32))) &&& (858993459 : Int32)) + ((zIushr (a1 - ((zIushr a1 (1 : Int32)) &&& (1431655765 : Int32))) (2 : Int32)) &&& (858993459 : Int32))) (4 : Int32))) &&& (252645135 : Int32)) (8 : Int32))) + (zIushr ((((((a1 - ((zIushr a1 (1 : Int32)) &&& (1431655765 : Int32))) &&& (858993459 : Int32)) + ((zIushr (a1 - ((zIushr a1 (1 : Int32)) &&& (1431655765 : Int32))) (2 : Int32)) &&& (858993459 : Int32))) + (zIushr (((a1 - ((zIushr a1 (1 : Int32)) &&& (1431655765 : Int32))) &&& (858993459 : Int32)) + ((zIushr (a1 - ((zIushr a1 (1 : Int32)) &&& (1431655765 : Int32))) (2 : Int32)) &&& (858993459 : Int32))) (4 : Int32))) &&& (252645135 : Int32)) + (zIushr (((((a1 - ((zIushr a1 (1 : Int32)) &&& (1431655765 : Int32))) &&& (858993459 : Int32)) + ((zIushr (a1 - ((zIushr a1 (1 : Int32)) &&& (1431655765 : Int32))) (2 : Int32)) &&& (858993459 : Int32))) + (zIushr (((a1 - ((zIushr a1 (1 : Int32)) &&& (1431655765 : Int32))) &&& (858993459 : Int32)) + ((zIushr (a1 - ((zIushr a1 (1 : Int32)) &&& (1431655765 : Int32))) (2 : Int32)) &&& (858993459 : Int32))) (4 : Int32))) &&& (252645135 : Int32)) (8 : Int32))) (16 : Int32))) &&& (63 : Int32)) u (Option.some.inj hm) hP hD hS d_Int_bitCount_52
theorem d_Int_numberOfTrailingZeros_0 : decode b_Int_numberOfTrailingZeros 0 = .ok (.iload_n 0, 1) := by decide +kernel
theorem d_Int_numberOfTrailingZeros_1 : decode b_Int_numberOfTrailingZeros 1 = .ok (.iconst (-1), 1) := by decide +kernel
theorem d_Int_numberOfTrailingZeros_2 : decode b_Int_numberOfTrailingZeros 2 = .ok (.ixor, 1) := by decide +kernel
theorem d_Int_numberOfTrailingZeros_3 : decode b_Int_numberOfTrailingZeros 3 = .ok (.iload_n 0, 1) := by decide +kernel
theorem d_Int_numberOfTrailingZeros_4 : decode b_Int_numberOfTrailingZeros 4 = .ok (.iconst 1, 1) := by decide +kernel
theorem d_Int_numberOfTrailingZeros_5 : decode b_Int_numberOfTrailingZeros 5 = .ok (.isub, 1) := by decide +kernel
theorem d_Int_numberOfTrailingZeros_6 : decode b_Int_numberOfTrailingZeros 6 = .ok (.iand, 1) := by decide +kernel
theorem d_Int_numberOfTrailingZeros_7 : decode b_Int_numberOfTrailingZeros 7 = .ok (.istore_n 0, 1) := by decide +kernel
theorem d_Int_numberOfTrailingZeros_8 : decode b_Int_numberOfTrailingZeros 8 = .ok (.iload_n 0, 1) := by decide +kernel
theorem d_Int_numberOfTrailingZeros_9 : decode b_Int_numberOfTrailingZeros 9 = .ok (.ifCond .gt 8, 3) := by decide +kernel
theorem d_Int_numberOfTrailingZeros_12 : decode b_Int_numberOfTrailingZeros 12 = .ok (.iload_n 0, 1) := by decide +kernel
theorem d_Int_numberOfTrailingZeros_13 : decode b_Int_numberOfTrailingZeros 13 = .ok (.bipush 32, 2) := by decide +kernel
theorem d_Int_numberOfTrailingZeros_15 : decode b_Int_numberOfTrailingZeros 15 = .ok (.iand, 1) := by decide +kernel
theorem d_Int_numberOfTrailingZeros_16 : decode b_Int_numberOfTrailingZeros 16 = .ok (.ireturn, 1) := by decide +kernel
theorem d_Int_numberOfTrailingZeros_17 : decode b_Int_numberOfTrailingZeros 17 = .ok (.iconst 1, 1) := by decide +kernel
theorem d_Int_numberOfTrailingZeros_18 : decode b_Int_numberOfTrailingZeros 18 = .ok (.istore_n 1, 1) := by decide +kernel
theorem d_Int_numberOfTrailingZeros_19 : decode b_Int_numberOfTrailingZeros 19 = .ok (.iload_n 0, 1) := by decide +kernel
theorem d_Int_numberOfTrailingZeros_20 : decode b_Int_numberOfTrailingZeros 20 = .ok (.ldc_w 264, 3) := by decide +kernel
theorem d_Int_numberOfTrailingZeros_23 : decode b_Int_numberOfTrailingZeros 23 = .ok (.if_icmp .le 11, 3) := by decide +kernel
theorem d_Int_numberOfTrailingZeros_26 : decode b_Int_numberOfTrailingZeros 26 = .ok (.iinc 1 16, 3) := by decide +kernel
theorem d_Int_numberOfTrailingZeros_29 : decode b_Int_numberOfTrailingZeros 29 = .ok (.iload_n 0, 1) := by decide +kernel
theorem d_Int_numberOfTrailingZeros_30 : decode b_Int_numberOfTrailingZeros 30 = .ok (.bipush 16, 2) := by decide +kernel
theorem d_Int_numberOfTrailingZeros_32 : decode b_Int_numberOfTrailingZeros 32 = .ok (.iushr, 1) := by decide +kernel
theorem d_Int_numberOfTrailingZeros_33 : decode b_Int_numberOfTrailingZeros 33 = .ok (.istore_n 0, 1) := by decide +kernel
theorem d_Int_numberOfTrailingZeros_34 : decode b_Int_numberOfTrailingZeros 34 = .ok (.iload_n 0, 1) := by decide +kernel
theorem d_Int_numberOfTrailingZeros_35 : decode b_Int_numberOfTrailingZeros 35 = .ok (.sipush 256, 3) := by decide +kernel
theorem d_Int_numberOfTrailingZeros_38 : decode b_Int_numberOfTrailingZeros 38 = .ok (.if_icmp .le 11, 3) := by decide +kernel
theorem d_Int_numberOfTrailingZeros_41 : decode b_Int_numberOfTrailingZeros 41 = .ok (.iinc 1 8, 3) := by decide +kernel
theorem d_Int_numberOfTrailingZeros_44 : decode b_Int_numberOfTrailingZeros 44 = .ok (.iload_n 0, 1) := by decide +kernel
theorem d_Int_numberOfTrailingZeros_45 : decode b_Int_numberOfTrailingZeros 45 = .ok (.bipush 8, 2) := by decide +kernel
theorem d_Int_numberOfTrailingZeros_47 : decode b_Int_numberOfTrailingZeros 47 = .ok (.iushr, 1) := by decide +kernel
theorem d_Int_numberOfTrailingZeros_48 : decode b_Int_numberOfTrailingZeros 48 = .ok (.istore_n 0, 1) := by decide +kernel
theorem d_Int_numberOfTrailingZeros_49 : decode b_Int_numberOfTrailingZeros 49 = .ok (.iload_n 0, 1) := by decide +kernel
theorem d_Int_numberOfTrailingZeros_50 : decode b_Int_numberOfTrailingZeros 50 = .ok (.bipush 16, 2) := by decide +kernel
theorem d_Int_numberOfTrailingZeros_52 : decode b_Int_numberOfTrailingZeros 52 = .ok (.if_icmp .le 10, 3) := by decide +kernel
theorem d_Int_numberOfTrailingZeros_55 : decode b_Int_numberOfTrailingZeros 55 = .ok (.iinc 1 4, 3) := by decide +kernel
theorem d_Int_numberOfTrailingZeros_58 : decode b_Int_numberOfTrailingZeros 58 = .ok (.iload_n 0, 1) := by decide +kernel
theorem d_Int_numberOfTrailingZeros_59 : decode b_Int_numberOfTrailingZeros 59 = .ok (.iconst 4, 1) := by decide +kernel
theorem d_Int_numberOfTrailingZeros_60 : decode b_Int_numberOfTrailingZeros 60 = .ok (.iushr, 1) := by decide +kernel
theorem d_Int_numberOfTrailingZeros_61 : decode b_Int_numberOfTrailingZeros 61 = .ok (.istore_n 0, 1) := by decide +kernel
theorem d_Int_numberOfTrailingZeros_62 : decode b_Int_numberOfTrailingZeros 62 = .ok (.iload_n 0, 1) := by decide +kernel
theorem d_Int_numberOfTrailingZeros_63 : decode b_Int_numberOfTrailingZeros 63 = .ok (.iconst 4, 1) := by decide +kernel
theorem d_Int_numberOfTrailingZeros_64 : decode b_Int_numberOfTrailingZeros 64 = .ok (.if_icmp .le 10, 3) := by decide +kernel
theorem d_Int_numberOfTrailingZeros_67 : decode b_Int_numberOfTrailingZeros 67 = .ok (.iinc 1 2, 3) := by decide +kernel
theorem d_Int_numberOfTrailingZeros_70 : decode b_Int_numberOfTrailingZeros 70 = .ok (.iload_n 0, 1) := by decide +kernel
theorem d_Int_numberOfTrailingZeros_71 : decode b_Int_numberOfTrailingZeros 71 = .ok (.iconst 2, 1) := by decide +kernel
theorem d_Int_numberOfTrailingZeros_72 : decode b_Int_numberOfTrailingZeros 72 = .ok (.iushr, 1) := by decide +kernel
theorem d_Int_numberOfTrailingZeros_73 : decode b_Int_numberOfTrailingZeros 73 = .ok (.istore_n 0, 1) := by decide +kernel
theorem d_Int_numberOfTrailingZeros_74 : decode b_Int_numberOfTrailingZeros 74 = .ok (.iload_n 1, 1) := by decide +kernel
theorem d_Int_numberOfTrailingZeros_75 : decode b_Int_numberOfTrailingZeros 75 = .ok (.iload_n 0, 1) := by decide +kernel
theorem d_Int_numberOfTrailingZeros_76 : decode b_Int_numberOfTrailingZeros 76 = .ok (.iconst 1, 1) := by decide +kernel
theorem d_Int_numberOfTrailingZeros_77 : decode b_Int_numberOfTrailingZeros 77 = .ok (.iushr, 1) := by decide +kernel
theorem d_Int_numberOfTrailingZeros_78 : decode b_Int_numberOfTrailingZeros 78 = .ok (.iadd, 1) := by decide +kernel
theorem d_Int_numberOfTrailingZeros_79 : decode b_Int_numberOfTrailingZeros 79 = .ok (.ireturn, 1) := by decide +kernel
set_option maxRecDepth 100000 in
set_option maxHeartbeats 4000000 in
theorem k_Int_numberOfTrailingZeros (l : Launch) (D : va_G) (G : Nat → Nat) (Y : Nat → ClassId) {u : SM} {a1 : Int32} {r : Int32} {u' : SM} (hm : m_Int_numberOfTrailingZeros u a1 = some (r, u')) : KI l D clz (tyz Y) (wdC G Y) y_Int_numberOfTrailingZeros b_Int_numberOfTrailingZeros 2 (some .int) 0 0 [.int a1] u r u' := by
  refine mkJ (by decide) (Nat.le_of_ble_eq_true rfl) ?_
  intro p e s m below meth c A Z ls C0 hP hD hS hl hret
  obtain ⟨hx, hb, hml, hown, hts, hK, hN, hA⟩ := id C0
  have hl : lv_has ls 2 [(0, .int a1)] := hl
  have J62 : ∀ (ua : SM) (x0 : Int32) (x1 : Int32), m_Int_numberOfTrailingZeros_J62 ua x0 x1 = some (r, u') → ∀ (H : Heap) (locs : List Loc) (ls : Array Slot), va_P D clz (wdC G Y ua) H → va_D A (wdC G Y ua) → va_S A s.heap H locs → lv_has ls 2 [(0, .int x0), (1, .int x1)] → W p l e (zRm 0 0) s m ([.int a1] : List Value).toArray below meth c H locs 0 0 Z (F0 m 62 ls []) := by
    intro ua x0 x1 hm H locs ls hP hD hS hl
    rw [m_Int_numberOfTrailingZeros_J62] at hm
    refine lv_iload_n hx hb d_Int_numberOfTrailingZeros_62 rfl (lv_at hl 0 rfl) ?_
    refine lv_iconst (v := (4 : Int32)) hx hb d_Int_numberOfTrailingZeros_63 (by decide) ?_
    refine lv_icmp_le (tgt := 74) hx hb d_Int_numberOfTrailingZeros_64 (by decide) (fun hc => ?_) (fun hc => ?_)
    · rw [if_pos hc] at hm
      refine lv_iload_n hx hb d_Int_numberOfTrailingZeros_74 rfl (lv_at hl 1 rfl) ?_
      refine lv_iload_n hx hb d_Int_numberOfTrailingZeros_75 rfl (lv_at hl 0 rfl) ?_
      refine lv_iconst (v := (1 : Int32)) hx hb d_Int_numberOfTrailingZeros_76 (by decide) ?_
      refine lv_iushr (v := (zIushr x0 (1 : Int32))) hx hb d_Int_numberOfTrailingZeros_77 rfl ?_
      refine lv_iadd hx hb d_Int_numberOfTrailingZeros_78 ?_
      exact hret _ _ _ _ (x1 + (zIushr x0 (1 : Int32))) ua (Option.some.inj hm) hP hD hS d_Int_numberOfTrailingZeros_79
    · rw [if_neg hc] at hm
      refine lv_iinc (v := (x1 + (2 : Int32))) (lv' := [(1, .int (x1 + (2 : Int32))), (0, .int x0)]) hx hb d_Int_numberOfTrailingZeros_67 hl (k := 1) rfl rfl (by decide) rfl (fun ls hl => ?_)
      refine lv_iload_n hx hb d_Int_numberOfTrailingZeros_70 rfl (lv_at hl 1 rfl) ?_
      refine lv_iconst (v := (2 : Int32)) hx hb d_Int_numberOfTrailingZeros_71 (by decide) ?_
      refine lv_iushr (v := (zIushr x0 (2 : Int32))) hx hb d_Int_numberOfTrailingZeros_72 rfl ?_
      refine lv_istore_n (lv' := [(0, .int (zIushr x0 (2 : Int32))), (1, .int (x1 + (2 : Int32)))]) hx hb d_Int_numberOfTrailingZeros_73 rfl hl (by decide) rfl (fun ls hl => ?_)
      refine lv_iload_n hx hb d_Int_numberOfTrailingZeros_74 rfl (lv_at hl 1 rfl) ?_
      refine lv_iload_n hx hb d_Int_numberOfTrailingZeros_75 rfl (lv_at hl 0 rfl) ?_
      refine lv_iconst (v := (1 : Int32)) hx hb d_Int_numberOfTrailingZeros_76 (by decide) ?_
      refine lv_iushr (v := (zIushr (zIushr x0 (2 : Int32)) (1 : Int32))) hx hb d_Int_numberOfTrailingZeros_77 rfl ?_
      refine lv_iadd hx hb d_Int_numberOfTrailingZeros_78 ?_
      exact hret _ _ _ _ ((x1 + (2 : Int32)) + (zIushr (zIushr x0 (2 : Int32)) (1 : Int32))) ua (Option.some.inj hm) hP hD hS d_Int_numberOfTrailingZeros_79
  have J49 : ∀ (ua : SM) (x0 : Int32) (x1 : Int32), m_Int_numberOfTrailingZeros_J49 ua x0 x1 = some (r, u') → ∀ (H : Heap) (locs : List Loc) (ls : Array Slot), va_P D clz (wdC G Y ua) H → va_D A (wdC G Y ua) → va_S A s.heap H locs → lv_has ls 2 [(0, .int x0), (1, .int x1)] → W p l e (zRm 0 0) s m ([.int a1] : List Value).toArray below meth c H locs 0 0 Z (F0 m 49 ls []) := by
    intro ua x0 x1 hm H locs ls hP hD hS hl
    rw [m_Int_numberOfTrailingZeros_J49] at hm
    refine lv_iload_n hx hb d_Int_numberOfTrailingZeros_49 rfl (lv_at hl 0 rfl) ?_
    refine lv_bipush (v := (16 : Int32)) hx hb d_Int_numberOfTrailingZeros_50 (by decide) ?_
    refine lv_icmp_le (tgt := 62) hx hb d_Int_numberOfTrailingZeros_52 (by decide) (fun hc => ?_) (fun hc => ?_)
    · rw [if_pos hc] at hm
      exact J62 ua x0 x1 hm _ _ _ hP hD hS (lv_sub hl [0, 1] rfl)
    · rw [if_neg hc] at hm
      refine lv_iinc (v := (x1 + (4 : Int32))) (lv' := [(1, .int (x1 + (4 : Int32))), (0, .int x0)]) hx hb d_Int_numberOfTrailingZeros_55 hl (k := 1) rfl rfl (by decide) rfl (fun ls hl => ?_)
      refine lv_iload_n hx hb d_Int_numberOfTrailingZeros_58 rfl (lv_at hl 1 rfl) ?_
      refine lv_iconst (v := (4 : Int32)) hx hb d_Int_numberOfTrailingZeros_59 (by decide) ?_
      refine lv_iushr (v := (zIushr x0 (4 : Int32))) hx hb d_Int_numberOfTrailingZeros_60 rfl ?_
      refine lv_istore_n (lv' := [(0, .int (zIushr x0 (4 : Int32))), (1, .int (x1 + (4 : Int32)))]) hx hb d_Int_numberOfTrailingZeros_61 rfl hl (by decide) rfl (fun ls hl => ?_)
      exact J62 ua (zIushr x0 (4 : Int32)) (x1 + (4 : Int32)) hm _ _ _ hP hD hS (lv_sub hl [0, 1] rfl)
  have J34 : ∀ (ua : SM) (x0 : Int32) (x1 : Int32), m_Int_numberOfTrailingZeros_J34 ua x0 x1 = some (r, u') → ∀ (H : Heap) (locs : List Loc) (ls : Array Slot), va_P D clz (wdC G Y ua) H → va_D A (wdC G Y ua) → va_S A s.heap H locs → lv_has ls 2 [(0, .int x0), (1, .int x1)] → W p l e (zRm 0 0) s m ([.int a1] : List Value).toArray below meth c H locs 0 0 Z (F0 m 34 ls []) := by
    intro ua x0 x1 hm H locs ls hP hD hS hl
    rw [m_Int_numberOfTrailingZeros_J34] at hm
    refine lv_iload_n hx hb d_Int_numberOfTrailingZeros_34 rfl (lv_at hl 0 rfl) ?_
    refine lv_sipush (v := (256 : Int32)) hx hb d_Int_numberOfTrailingZeros_35 (by decide) ?_
    refine lv_icmp_le (tgt := 49) hx hb d_Int_numberOfTrailingZeros_38 (by decide) (fun hc => ?_) (fun hc => ?_)
    · rw [if_pos hc] at hm
      exact J49 ua x0 x1 hm _ _ _ hP hD hS (lv_sub hl [0, 1] rfl)
    · rw [if_neg hc] at hm
      refine lv_iinc (v := (x1 + (8 : Int32))) (lv' := [(1, .int (x1 + (8 : Int32))), (0, .int x0)]) hx hb d_Int_numberOfTrailingZeros_41 hl (k := 1) rfl rfl (by decide) rfl (fun ls hl => ?_)
      refine lv_iload_n hx hb d_Int_numberOfTrailingZeros_44 rfl (lv_at hl 1 rfl) ?_
      refine lv_bipush (v := (8 : Int32)) hx hb d_Int_numberOfTrailingZeros_45 (by decide) ?_
      refine lv_iushr (v := (zIushr x0 (8 : Int32))) hx hb d_Int_numberOfTrailingZeros_47 rfl ?_
      refine lv_istore_n (lv' := [(0, .int (zIushr x0 (8 : Int32))), (1, .int (x1 + (8 : Int32)))]) hx hb d_Int_numberOfTrailingZeros_48 rfl hl (by decide) rfl (fun ls hl => ?_)
      exact J49 ua (zIushr x0 (8 : Int32)) (x1 + (8 : Int32)) hm _ _ _ hP hD hS (lv_sub hl [0, 1] rfl)
  rw [m_Int_numberOfTrailingZeros] at hm
  refine lv_iload_n hx hb d_Int_numberOfTrailingZeros_0 rfl (lv_at hl 0 rfl) ?_
  refine lv_iconst (v := (-1 : Int32)) hx hb d_Int_numberOfTrailingZeros_1 (by decide) ?_
  refine lv_ixor hx hb d_Int_numberOfTrailingZeros_2 ?_
  refine lv_iload_n hx hb d_Int_numberOfTrailingZeros_3 rfl (lv_at hl 0 rfl) ?_
  refine lv_iconst (v := (1 : Int32)) hx hb d_Int_numberOfTrailingZeros_4 (by decide) ?_
  refine lv_isub hx hb d_Int_numberOfTrailingZeros_5 ?_
  refine lv_iand hx hb d_Int_numberOfTrailingZeros_6 ?_
  refine lv_istore_n (lv' := [(0, .int ((a1 ^^^ (-1 : Int32)) &&& (a1 - (1 : Int32))))]) hx hb d_Int_numberOfTrailingZeros_7 rfl hl (by decide) rfl (fun ls hl => ?_)
  refine lv_iload_n hx hb d_Int_numberOfTrailingZeros_8 rfl (lv_at hl 0 rfl) ?_
  refine lv_if_gt (tgt := 17) hx hb d_Int_numberOfTrailingZeros_9 (by decide) (fun hc => ?_) (fun hc => ?_)
  · rw [if_pos hc] at hm
    refine lv_iconst (v := (1 : Int32)) hx hb d_Int_numberOfTrailingZeros_17 (by decide) ?_
    refine lv_istore_n (lv' := [(1, .int (1 : Int32)), (0, .int ((a1 ^^^ (-1 : Int32)) &&& (a1 - (1 : Int32))))]) hx hb d_Int_numberOfTrailingZeros_18 rfl hl (by decide) rfl (fun ls hl => ?_)
    refine lv_iload_n hx hb d_Int_numberOfTrailingZeros_19 rfl (lv_at hl 1 rfl) ?_
    refine lv_ldcw (v := (65536 : Int32)) hx hb hown (hts _ q_208) d_Int_numberOfTrailingZeros_20 ?_
    refine lv_icmp_le (tgt := 34) hx hb d_Int_numberOfTrailingZeros_23 (by decide) (fun hc => ?_) (fun hc => ?_)
    · rw [if_pos hc] at hm
      exact J34 u ((a1 ^^^ (-1 : Int32)) &&& (a1 - (1 : Int32))) (1 : Int32) hm _ _ _ hP hD hS (lv_sub hl [1, 0] rfl)
    · rw [if_neg hc] at hm
      refine lv_iinc (v := ((1 : Int32) + (16 : Int32))) (lv' := [(1, .int ((1 : Int32) + (16 : Int32))), (0, .int ((a1 ^^^ (-1 : Int32)) &&& (a1 - (1 : Int32))))]) hx hb d_Int_numberOfTrailingZeros_26 hl (k := 0) rfl rfl (by decide) rfl (fun ls hl => ?_)
      refine lv_iload_n hx hb d_Int_numberOfTrailingZeros_29 rfl (lv_at hl 1 rfl) ?_
      refine lv_bipush (v := (16 : Int32)) hx hb d_Int_numberOfTrailingZeros_30 (by decide) ?_
      refine lv_iushr (v := (zIushr ((a1 ^^^ (-1 : Int32)) &&& (a1 - (1 : Int32))) (16 : Int32))) hx hb d_Int_numberOfTrailingZeros_32 rfl ?_
      refine lv_istore_n (lv' := [(0, .int (zIushr ((a1 ^^^ (-1 : Int32)) &&& (a1 - (1 : Int32))) (16 : Int32))), (1, .int ((1 : Int32) + (16 : Int32)))]) hx hb d_Int_numberOfTrailingZeros_33 rfl hl (by decide) rfl (fun ls hl => ?_)
      exact J34 u (zIushr ((a1 ^^^ (-1 : Int32)) &&& (a1 - (1 : Int32))) (16 : Int32)) ((1 : Int32) + (16 : Int32)) hm _ _ _ hP hD hS (lv_sub hl [0, 1] rfl)
  · rw [if_neg hc] at hm
    refine lv_iload_n hx hb d_Int_numberOfTrailingZeros_12 rfl (lv_at hl 0 rfl) ?_
    refine lv_bipush (v := (32 : Int32)) hx hb d_Int_numberOfTrailingZeros_13 (by decide) ?_
    refine lv_iand hx hb d_Int_numberOfTrailingZeros_15 ?_
    exact hret _ _ _ _ (((a1 ^^^ (-1 : Int32)) &&& (a1 - (1 : Int32))) &&& (32 : Int32)) u (Option.some.inj hm) hP hD hS d_Int_numberOfTrailingZeros_16
