/-! models and contracts; written by wip/whole/gen.py -/
def m_Firm_addressOf (u : SM) (a1 : Int32) (a2 : Int32) : Option (Int32 × SM) := if a1 = 0 then (ob (m_Tree_seek u a2) (fun r5 u6 => some (r5, u6))) else (ob (m_Table_seek u a2) (fun r1 u2 => some (r1, u2)))
def m_Firm_order (u : SM) (a1 : Int32) (a2 : Int32) : Option (Int32 × SM) := if a1 < 0 then (some ((0 : Int32), u)) else (if a1 ≤ (60 : Int32) then (ob (m_Memory_orderCut u a1 a2) (fun _ u2 => some ((1 : Int32), u2))) else (some ((0 : Int32), u)))
def m_Firm_size (u : SM) (a1 : Int32) : Option (Int32 × SM) := ob (m_Firm_isPart u a1) (fun r1 u2 => if r1 = 0 then (some ((-1 : Int32), u2)) else (if a1 = 0 then (ob (m_Tree_countKeys u2) (fun r9 u10 => some (r9, u10))) else (ob (m_Table_countKeys u2) (fun r5 u6 => some (r5, u6)))))
def m_Firm_free (u : SM)  : Option (Int32 × SM) := ob (m_Blocks_countFree u) (fun r1 u2 => some (r1, u2))
def m_Firm_height (u : SM)  : Option (Int32 × SM) := ob (m_Tree_topLevel u) (fun r1 u2 => some ((r1 + (1 : Int32)), u2))
def m_Firm_word (u : SM) (a1 : Int32) : Option (Int64 × SM) := ob (m_Memory_wordAt u a1) (fun r1 u2 => some (r1, u2))
def m_Firm_stores (u : SM)  : Option (Int32 × SM) := some ((cg_sc u), u)
def m_Firm_down (u : SM)  : Option (Int32 × SM) := if zb (cg_dn u) = true then some ((cg_dn u), u) else none
theorem d_Firm_addressOf_0 : decode b_Firm_addressOf 0 = .ok (.iload_n 1, 1) := by decide +kernel
theorem d_Firm_addressOf_1 : decode b_Firm_addressOf 1 = .ok (.ifCond .ne 14, 3) := by decide +kernel
theorem d_Firm_addressOf_4 : decode b_Firm_addressOf 4 = .ok (.aload_n 0, 1) := by decide +kernel
theorem d_Firm_addressOf_5 : decode b_Firm_addressOf 5 = .ok (.getfield 30, 3) := by decide +kernel
theorem d_Firm_addressOf_8 : decode b_Firm_addressOf 8 = .ok (.iload_n 2, 1) := by decide +kernel
theorem d_Firm_addressOf_9 : decode b_Firm_addressOf 9 = .ok (.invokevirtual 114, 3) := by decide +kernel
theorem d_Firm_addressOf_12 : decode b_Firm_addressOf 12 = .ok (.goto 11, 3) := by decide +kernel
theorem d_Firm_addressOf_15 : decode b_Firm_addressOf 15 = .ok (.aload_n 0, 1) := by decide +kernel
theorem d_Firm_addressOf_16 : decode b_Firm_addressOf 16 = .ok (.getfield 37, 3) := by decide +kernel
theorem d_Firm_addressOf_19 : decode b_Firm_addressOf 19 = .ok (.iload_n 2, 1) := by decide +kernel
theorem d_Firm_addressOf_20 : decode b_Firm_addressOf 20 = .ok (.invokevirtual 117, 3) := by decide +kernel
theorem d_Firm_addressOf_23 : decode b_Firm_addressOf 23 = .ok (.ireturn, 1) := by decide +kernel
set_option maxRecDepth 100000 in
set_option maxHeartbeats 4000000 in
theorem k_Firm_addressOf (l : Launch) (D : va_G) (G : Nat → Nat) (Y : Nat → ClassId) {u : SM} {a1 : Int32} {a2 : Int32} {r : Int32} {u' : SM} (hm : m_Firm_addressOf u a1 a2 = some (r, u')) : KI l D clz (tyz Y) (wdC G Y) y_Firm_addressOf b_Firm_addressOf 3 (some .int) 6 138 [.ref (G 0), .int a1, .int a2] u r u' := by
  refine mkI (by decide) (Nat.le_of_ble_eq_true rfl) ?_
  intro p e s m below meth c A Z ls C0 hP hD hS hl hret
  obtain ⟨hx, hb, hml, hown, hts, hK, hN, hA⟩ := id C0
  have hl : lv_has ls 3 [(0, .ref (G 0)), (1, .int a1), (2, .int a2)] := hl
  rw [m_Firm_addressOf] at hm
  refine lv_iload_n hx hb d_Firm_addressOf_0 rfl (lv_at hl 1 rfl) ?_
  refine lv_if_ne (tgt := 15) hx hb d_Firm_addressOf_1 (by decide) (fun hc => ?_) (fun hc => ?_)
  · rw [if_neg hc] at hm
    refine lv_aload_n hx hb d_Firm_addressOf_15 rfl (lv_at hl 0 rfl) ?_
    refine va_get (D := D) (ci := 0) (v := .ref (G 7)) (C := "FirmStore") (T := F_Firm) (N := 4) hx hb hts iz_Firm hown hK hP 0 rfl rfl 3 (by decide) (hts _ q_96) (fun _ h9 => h9) rfl d_Firm_addressOf_16 ?_
    refine lv_iload_n hx hb d_Firm_addressOf_19 rfl (lv_at hl 2 rfl) ?_
    obtain ⟨r1, u2, h3, hm⟩ := ob_some hm
    refine goVI (As := [.int a2]) (rest := []) (b0 := G 7) 7 C0 (k_Table_seek l D G Y h3) q_425 q_5 q_452 q_423 q_424 e_Table_seek (by decide) rfl rfl hP hD hS hl.1 rfl (Nat.le_of_ble_eq_true rfl) d_Firm_addressOf_20 (fun H locs hP hD hS => ?_)
    exact hret _ _ _ _ r1 u2 (Option.some.inj hm) hP hD hS d_Firm_addressOf_23
  · rw [if_pos hc] at hm
    refine lv_aload_n hx hb d_Firm_addressOf_4 rfl (lv_at hl 0 rfl) ?_
    refine va_get (D := D) (ci := 0) (v := .ref (G 6)) (C := "FirmStore") (T := F_Firm) (N := 4) hx hb hts iz_Firm hown hK hP 0 rfl rfl 2 (by decide) (hts _ q_95) (fun _ h9 => h9) rfl d_Firm_addressOf_5 ?_
    refine lv_iload_n hx hb d_Firm_addressOf_8 rfl (lv_at hl 2 rfl) ?_
    obtain ⟨r5, u6, h7, hm⟩ := ob_some hm
    refine goVI (As := [.int a2]) (rest := []) (b0 := G 6) 6 C0 (k_Tree_seek l D G Y h7) q_368 q_4 q_451 q_366 q_367 e_Tree_seek (by decide) rfl rfl hP hD hS hl.1 rfl (Nat.le_of_ble_eq_true rfl) d_Firm_addressOf_9 (fun H locs hP hD hS => ?_)
    refine lv_goto (tgt := 23) hx hb d_Firm_addressOf_12 (by decide) ?_
    exact hret _ _ _ _ r5 u6 (Option.some.inj hm) hP hD hS d_Firm_addressOf_23
theorem d_Firm_order_0 : decode b_Firm_order 0 = .ok (.iload_n 1, 1) := by decide +kernel
theorem d_Firm_order_1 : decode b_Firm_order 1 = .ok (.ifCond .lt 9, 3) := by decide +kernel
theorem d_Firm_order_4 : decode b_Firm_order 4 = .ok (.iload_n 1, 1) := by decide +kernel
theorem d_Firm_order_5 : decode b_Firm_order 5 = .ok (.bipush 60, 2) := by decide +kernel
theorem d_Firm_order_7 : decode b_Firm_order 7 = .ok (.if_icmp .le 5, 3) := by decide +kernel
theorem d_Firm_order_10 : decode b_Firm_order 10 = .ok (.iconst 0, 1) := by decide +kernel
theorem d_Firm_order_11 : decode b_Firm_order 11 = .ok (.ireturn, 1) := by decide +kernel
theorem d_Firm_order_12 : decode b_Firm_order 12 = .ok (.aload_n 0, 1) := by decide +kernel
theorem d_Firm_order_13 : decode b_Firm_order 13 = .ok (.getfield 10, 3) := by decide +kernel
theorem d_Firm_order_16 : decode b_Firm_order 16 = .ok (.iload_n 1, 1) := by decide +kernel
theorem d_Firm_order_17 : decode b_Firm_order 17 = .ok (.iload_n 2, 1) := by decide +kernel
theorem d_Firm_order_18 : decode b_Firm_order 18 = .ok (.invokevirtual 88, 3) := by decide +kernel
theorem d_Firm_order_21 : decode b_Firm_order 21 = .ok (.iconst 1, 1) := by decide +kernel
theorem d_Firm_order_22 : decode b_Firm_order 22 = .ok (.ireturn, 1) := by decide +kernel
set_option maxRecDepth 100000 in
set_option maxHeartbeats 4000000 in
theorem k_Firm_order (l : Launch) (D : va_G) (G : Nat → Nat) (Y : Nat → ClassId) {u : SM} {a1 : Int32} {a2 : Int32} {r : Int32} {u' : SM} (hm : m_Firm_order u a1 a2 = some (r, u')) : KZ l D clz (tyz Y) (wdC G Y) y_Firm_order b_Firm_order 3 (some .boolean) 1 22 [.ref (G 0), .int a1, .int a2] u r u' := by
  refine mkZ (by decide) (Nat.le_of_ble_eq_true rfl) ?_
  intro p e s m below meth c A Z ls C0 hP hD hS hl hret
  obtain ⟨hx, hb, hml, hown, hts, hK, hN, hA⟩ := id C0
  have hl : lv_has ls 3 [(0, .ref (G 0)), (1, .int a1), (2, .int a2)] := hl
  rw [m_Firm_order] at hm
  refine lv_iload_n hx hb d_Firm_order_0 rfl (lv_at hl 1 rfl) ?_
  refine lv_if_lt (tgt := 10) hx hb d_Firm_order_1 (by decide) (fun hc => ?_) (fun hc => ?_)
  · rw [if_pos hc] at hm
    refine lv_iconst (v := (0 : Int32)) hx hb d_Firm_order_10 (by decide) ?_
    exact hret _ _ _ _ (0 : Int32) u (Option.some.inj hm) (Or.inl rfl) hP hD hS d_Firm_order_11
  · rw [if_neg hc] at hm
    refine lv_iload_n hx hb d_Firm_order_4 rfl (lv_at hl 1 rfl) ?_
    refine lv_bipush (v := (60 : Int32)) hx hb d_Firm_order_5 (by decide) ?_
    refine lv_icmp_le (tgt := 12) hx hb d_Firm_order_7 (by decide) (fun hc => ?_) (fun hc => ?_)
    · rw [if_pos hc] at hm
      refine lv_aload_n hx hb d_Firm_order_12 rfl (lv_at hl 0 rfl) ?_
      refine va_get (D := D) (ci := 0) (v := .ref (G 1)) (C := "FirmStore") (T := F_Firm) (N := 4) hx hb hts iz_Firm hown hK hP 0 rfl rfl 0 (by decide) (hts _ q_93) (fun _ h9 => h9) rfl d_Firm_order_13 ?_
      refine lv_iload_n hx hb d_Firm_order_16 rfl (lv_at hl 1 rfl) ?_
      refine lv_iload_n hx hb d_Firm_order_17 rfl (lv_at hl 2 rfl) ?_
      obtain ⟨r1, u2, h3, hm⟩ := ob_some hm
      refine goVV (As := [.int a1, .int a2]) (rest := []) (b0 := G 1) 1 C0 (k_Memory_orderCut l D G Y h3) q_113 q_2 q_110 q_111 q_112 e_Memory_orderCut (by decide) rfl rfl hP hD hS hl.1 rfl (Nat.le_of_ble_eq_true rfl) d_Firm_order_18 (fun H locs hP hD hS => ?_)
      refine lv_iconst (v := (1 : Int32)) hx hb d_Firm_order_21 (by decide) ?_
      exact hret _ _ _ _ (1 : Int32) u2 (Option.some.inj hm) (Or.inr rfl) hP hD hS d_Firm_order_22
    · rw [if_neg hc] at hm
      refine lv_iconst (v := (0 : Int32)) hx hb d_Firm_order_10 (by decide) ?_
      exact hret _ _ _ _ (0 : Int32) u (Option.some.inj hm) (Or.inl rfl) hP hD hS d_Firm_order_11
theorem d_Firm_size_0 : decode b_Firm_size 0 = .ok (.iload_n 1, 1) := by decide +kernel
theorem d_Firm_size_1 : decode b_Firm_size 1 = .ok (.invokestatic 41, 3) := by decide +kernel
theorem d_Firm_size_4 : decode b_Firm_size 4 = .ok (.ifCond .ne 5, 3) := by decide +kernel
theorem d_Firm_size_7 : decode b_Firm_size 7 = .ok (.iconst (-1), 1) := by decide +kernel
theorem d_Firm_size_8 : decode b_Firm_size 8 = .ok (.ireturn, 1) := by decide +kernel
theorem d_Firm_size_9 : decode b_Firm_size 9 = .ok (.iload_n 1, 1) := by decide +kernel
theorem d_Firm_size_10 : decode b_Firm_size 10 = .ok (.ifCond .ne 13, 3) := by decide +kernel
theorem d_Firm_size_13 : decode b_Firm_size 13 = .ok (.aload_n 0, 1) := by decide +kernel
theorem d_Firm_size_14 : decode b_Firm_size 14 = .ok (.getfield 30, 3) := by decide +kernel
theorem d_Firm_size_17 : decode b_Firm_size 17 = .ok (.invokevirtual 103, 3) := by decide +kernel
theorem d_Firm_size_20 : decode b_Firm_size 20 = .ok (.goto 10, 3) := by decide +kernel
theorem d_Firm_size_23 : decode b_Firm_size 23 = .ok (.aload_n 0, 1) := by decide +kernel
theorem d_Firm_size_24 : decode b_Firm_size 24 = .ok (.getfield 37, 3) := by decide +kernel
theorem d_Firm_size_27 : decode b_Firm_size 27 = .ok (.invokevirtual 107, 3) := by decide +kernel
theorem d_Firm_size_30 : decode b_Firm_size 30 = .ok (.ireturn, 1) := by decide +kernel
set_option maxRecDepth 100000 in
set_option maxHeartbeats 4000000 in
theorem k_Firm_size (l : Launch) (D : va_G) (G : Nat → Nat) (Y : Nat → ClassId) {u : SM} {a1 : Int32} {r : Int32} {u' : SM} (hm : m_Firm_size u a1 = some (r, u')) : KI l D clz (tyz Y) (wdC G Y) y_Firm_size b_Firm_size 2 (some .int) 4 94 [.ref (G 0), .int a1] u r u' := by
  refine mkI (by decide) (Nat.le_of_ble_eq_true rfl) ?_
  intro p e s m below meth c A Z ls C0 hP hD hS hl hret
  obtain ⟨hx, hb, hml, hown, hts, hK, hN, hA⟩ := id C0
  have hl : lv_has ls 2 [(0, .ref (G 0)), (1, .int a1)] := hl
  rw [m_Firm_size] at hm
  refine lv_iload_n hx hb d_Firm_size_0 rfl (lv_at hl 1 rfl) ?_
  obtain ⟨r1, u2, h3, hm⟩ := ob_some hm
  refine goSZ (As := [.int a1]) (rest := []) C0 (k_Firm_isPart l D G Y h3) q_120 q_1 q_118 q_119 e_Firm_isPart (by decide) hP hD hS hl.1 rfl (Nat.le_of_ble_eq_true rfl) d_Firm_size_1 (fun H locs hz4 hP hD hS => ?_)
  refine lv_if_ne (tgt := 9) hx hb d_Firm_size_4 (by decide) (fun hc => ?_) (fun hc => ?_)
  · rw [if_neg hc] at hm
    refine lv_iload_n hx hb d_Firm_size_9 rfl (lv_at hl 1 rfl) ?_
    refine lv_if_ne (tgt := 23) hx hb d_Firm_size_10 (by decide) (fun hc => ?_) (fun hc => ?_)
    · rw [if_neg hc] at hm
      refine lv_aload_n hx hb d_Firm_size_23 rfl (lv_at hl 0 rfl) ?_
      refine va_get (D := D) (ci := 0) (v := .ref (G 7)) (C := "FirmStore") (T := F_Firm) (N := 4) hx hb hts iz_Firm hown hK hP 0 rfl rfl 3 (by decide) (hts _ q_96) (fun _ h9 => h9) rfl d_Firm_size_24 ?_
      obtain ⟨r5, u6, h7, hm⟩ := ob_some hm
      refine goVI (As := []) (rest := []) (b0 := G 7) 7 C0 (k_Table_countKeys l D G Y h7) q_183 q_5 q_180 q_181 q_182 e_Table_countKeys (by decide) rfl rfl hP hD hS hl.1 rfl (Nat.le_of_ble_eq_true rfl) d_Firm_size_27 (fun H locs hP hD hS => ?_)
      exact hret _ _ _ _ r5 u6 (Option.some.inj hm) hP hD hS d_Firm_size_30
    · rw [if_pos hc] at hm
      refine lv_aload_n hx hb d_Firm_size_13 rfl (lv_at hl 0 rfl) ?_
      refine va_get (D := D) (ci := 0) (v := .ref (G 6)) (C := "FirmStore") (T := F_Firm) (N := 4) hx hb hts iz_Firm hown hK hP 0 rfl rfl 2 (by decide) (hts _ q_95) (fun _ h9 => h9) rfl d_Firm_size_14 ?_
      obtain ⟨r9, u10, h11, hm⟩ := ob_some hm
      refine goVI (As := []) (rest := []) (b0 := G 6) 6 C0 (k_Tree_countKeys l D G Y h11) q_124 q_4 q_121 q_122 q_123 e_Tree_countKeys (by decide) rfl rfl hP hD hS hl.1 rfl (Nat.le_of_ble_eq_true rfl) d_Firm_size_17 (fun H locs hP hD hS => ?_)
      refine lv_goto (tgt := 30) hx hb d_Firm_size_20 (by decide) ?_
      exact hret _ _ _ _ r9 u10 (Option.some.inj hm) hP hD hS d_Firm_size_30
  · rw [if_pos hc] at hm
    refine lv_iconst (v := (-1 : Int32)) hx hb d_Firm_size_7 (by decide) ?_
    exact hret _ _ _ _ (-1 : Int32) u2 (Option.some.inj hm) hP hD hS d_Firm_size_8
theorem d_Firm_free_0 : decode b_Firm_free 0 = .ok (.aload_n 0, 1) := by decide +kernel
theorem d_Firm_free_1 : decode b_Firm_free 1 = .ok (.getfield 21, 3) := by decide +kernel
theorem d_Firm_free_4 : decode b_Firm_free 4 = .ok (.invokevirtual 108, 3) := by decide +kernel
theorem d_Firm_free_7 : decode b_Firm_free 7 = .ok (.ireturn, 1) := by decide +kernel
set_option maxRecDepth 100000 in
set_option maxHeartbeats 4000000 in
theorem k_Firm_free (l : Launch) (D : va_G) (G : Nat → Nat) (Y : Nat → ClassId) {u : SM}  {r : Int32} {u' : SM} (hm : m_Firm_free u  = some (r, u')) : KI l D clz (tyz Y) (wdC G Y) y_Firm_free b_Firm_free 1 (some .int) 4 91 [.ref (G 0)] u r u' := by
  refine mkI (by decide) (Nat.le_of_ble_eq_true rfl) ?_
  intro p e s m below meth c A Z ls C0 hP hD hS hl hret
  obtain ⟨hx, hb, hml, hown, hts, hK, hN, hA⟩ := id C0
  have hl : lv_has ls 1 [(0, .ref (G 0))] := hl
  rw [m_Firm_free] at hm
  refine lv_aload_n hx hb d_Firm_free_0 rfl (lv_at hl 0 rfl) ?_
  refine va_get (D := D) (ci := 0) (v := .ref (G 5)) (C := "FirmStore") (T := F_Firm) (N := 4) hx hb hts iz_Firm hown hK hP 0 rfl rfl 1 (by decide) (hts _ q_94) (fun _ h9 => h9) rfl d_Firm_free_1 ?_
  obtain ⟨r1, u2, h3, hm⟩ := ob_some hm
  refine goVI (As := []) (rest := []) (b0 := G 5) 5 C0 (k_Blocks_countFree l D G Y h3) q_198 q_3 q_195 q_196 q_197 e_Blocks_countFree (by decide) rfl rfl hP hD hS hl.1 rfl (Nat.le_of_ble_eq_true rfl) d_Firm_free_4 (fun H locs hP hD hS => ?_)
  exact hret _ _ _ _ r1 u2 (Option.some.inj hm) hP hD hS d_Firm_free_7
theorem d_Firm_height_0 : decode b_Firm_height 0 = .ok (.aload_n 0, 1) := by decide +kernel
theorem d_Firm_height_1 : decode b_Firm_height 1 = .ok (.getfield 30, 3) := by decide +kernel
theorem d_Firm_height_4 : decode b_Firm_height 4 = .ok (.invokevirtual 111, 3) := by decide +kernel
theorem d_Firm_height_7 : decode b_Firm_height 7 = .ok (.iconst 1, 1) := by decide +kernel
theorem d_Firm_height_8 : decode b_Firm_height 8 = .ok (.iadd, 1) := by decide +kernel
theorem d_Firm_height_9 : decode b_Firm_height 9 = .ok (.ireturn, 1) := by decide +kernel
set_option maxRecDepth 100000 in
set_option maxHeartbeats 4000000 in
theorem k_Firm_height (l : Launch) (D : va_G) (G : Nat → Nat) (Y : Nat → ClassId) {u : SM}  {r : Int32} {u' : SM} (hm : m_Firm_height u  = some (r, u')) : KI l D clz (tyz Y) (wdC G Y) y_Firm_height b_Firm_height 1 (some .int) 3 64 [.ref (G 0)] u r u' := by
  refine mkI (by decide) (Nat.le_of_ble_eq_true rfl) ?_
  intro p e s m below meth c A Z ls C0 hP hD hS hl hret
  obtain ⟨hx, hb, hml, hown, hts, hK, hN, hA⟩ := id C0
  have hl : lv_has ls 1 [(0, .ref (G 0))] := hl
  rw [m_Firm_height] at hm
  refine lv_aload_n hx hb d_Firm_height_0 rfl (lv_at hl 0 rfl) ?_
  refine va_get (D := D) (ci := 0) (v := .ref (G 6)) (C := "FirmStore") (T := F_Firm) (N := 4) hx hb hts iz_Firm hown hK hP 0 rfl rfl 2 (by decide) (hts _ q_95) (fun _ h9 => h9) rfl d_Firm_height_1 ?_
  obtain ⟨r1, u2, h3, hm⟩ := ob_some hm
  refine goVI (As := []) (rest := []) (b0 := G 6) 6 C0 (k_Tree_topLevel l D G Y h3) q_226 q_4 q_223 q_224 q_225 e_Tree_topLevel (by decide) rfl rfl hP hD hS hl.1 rfl (Nat.le_of_ble_eq_true rfl) d_Firm_height_4 (fun H locs hP hD hS => ?_)
  refine lv_iconst (v := (1 : Int32)) hx hb d_Firm_height_7 (by decide) ?_
  refine lv_iadd hx hb d_Firm_height_8 ?_
  exact hret _ _ _ _ (r1 + (1 : Int32)) u2 (Option.some.inj hm) hP hD hS d_Firm_height_9
theorem d_Firm_word_0 : decode b_Firm_word 0 = .ok (.aload_n 0, 1) := by decide +kernel
theorem d_Firm_word_1 : decode b_Firm_word 1 = .ok (.getfield 10, 3) := by decide +kernel
theorem d_Firm_word_4 : decode b_Firm_word 4 = .ok (.iload_n 1, 1) := by decide +kernel
theorem d_Firm_word_5 : decode b_Firm_word 5 = .ok (.invokevirtual 76, 3) := by decide +kernel
theorem d_Firm_word_8 : decode b_Firm_word 8 = .ok (.lreturn, 1) := by decide +kernel
set_option maxRecDepth 100000 in
set_option maxHeartbeats 4000000 in
theorem k_Firm_word (l : Launch) (D : va_G) (G : Nat → Nat) (Y : Nat → ClassId) {u : SM} {a1 : Int32} {r : Int64} {u' : SM} (hm : m_Firm_word u a1 = some (r, u')) : KL l D clz (tyz Y) (wdC G Y) y_Firm_word b_Firm_word 2 (some .long) 1 21 [.ref (G 0), .int a1] u r u' := by
  refine mkL (by decide) (Nat.le_of_ble_eq_true rfl) ?_
  intro p e s m below meth c A Z ls C0 hP hD hS hl hret
  obtain ⟨hx, hb, hml, hown, hts, hK, hN, hA⟩ := id C0
  have hl : lv_has ls 2 [(0, .ref (G 0)), (1, .int a1)] := hl
  rw [m_Firm_word] at hm
  refine lv_aload_n hx hb d_Firm_word_0 rfl (lv_at hl 0 rfl) ?_
  refine va_get (D := D) (ci := 0) (v := .ref (G 1)) (C := "FirmStore") (T := F_Firm) (N := 4) hx hb hts iz_Firm hown hK hP 0 rfl rfl 0 (by decide) (hts _ q_93) (fun _ h9 => h9) rfl d_Firm_word_1 ?_
  refine lv_iload_n hx hb d_Firm_word_4 rfl (lv_at hl 1 rfl) ?_
  obtain ⟨r1, u2, h3, hm⟩ := ob_some hm
  refine goVL (As := [.int a1]) (rest := []) (b0 := G 1) 1 C0 (k_Memory_wordAt l D G Y h3) q_136 q_2 q_231 q_134 q_135 e_Memory_wordAt (by decide) rfl rfl hP hD hS hl.1 rfl (Nat.le_of_ble_eq_true rfl) d_Firm_word_5 (fun H locs hP hD hS => ?_)
  exact hret _ _ _ _ r1 u2 (Option.some.inj hm) hP hD hS d_Firm_word_8
theorem d_Firm_stores_0 : decode b_Firm_stores 0 = .ok (.aload_n 0, 1) := by decide +kernel
theorem d_Firm_stores_1 : decode b_Firm_stores 1 = .ok (.getfield 10, 3) := by decide +kernel
theorem d_Firm_stores_4 : decode b_Firm_stores 4 = .ok (.getfield 92, 3) := by decide +kernel
theorem d_Firm_stores_7 : decode b_Firm_stores 7 = .ok (.ireturn, 1) := by decide +kernel
set_option maxRecDepth 100000 in
set_option maxHeartbeats 4000000 in
theorem k_Firm_stores (l : Launch) (D : va_G) (G : Nat → Nat) (Y : Nat → ClassId) {u : SM}  {r : Int32} {u' : SM} (hm : m_Firm_stores u  = some (r, u')) : KI l D clz (tyz Y) (wdC G Y) y_Firm_stores b_Firm_stores 1 (some .int) 0 0 [.ref (G 0)] u r u' := by
  refine mkI (by decide) (Nat.le_of_ble_eq_true rfl) ?_
  intro p e s m below meth c A Z ls C0 hP hD hS hl hret
  obtain ⟨hx, hb, hml, hown, hts, hK, hN, hA⟩ := id C0
  have hl : lv_has ls 1 [(0, .ref (G 0))] := hl
  rw [m_Firm_stores] at hm
  refine lv_aload_n hx hb d_Firm_stores_0 rfl (lv_at hl 0 rfl) ?_
  refine va_get (D := D) (ci := 0) (v := .ref (G 1)) (C := "FirmStore") (T := F_Firm) (N := 4) hx hb hts iz_Firm hown hK hP 0 rfl rfl 0 (by decide) (hts _ q_93) (fun _ h9 => h9) rfl d_Firm_stores_1 ?_
  refine va_get (D := D) (ci := 1) (v := .int (cg_sc u)) (C := "FirmStore$Memory") (T := F_Memory) (N := 8) hx hb hts iz_Memory hown hK hP 1 rfl rfl 6 (by decide) (hts _ q_35) (fun _ h9 => h9) rfl d_Firm_stores_4 ?_
  exact hret _ _ _ _ (cg_sc u) u (Option.some.inj hm) hP hD hS d_Firm_stores_7
theorem d_Firm_down_0 : decode b_Firm_down 0 = .ok (.aload_n 0, 1) := by decide +kernel
theorem d_Firm_down_1 : decode b_Firm_down 1 = .ok (.getfield 10, 3) := by decide +kernel
theorem d_Firm_down_4 : decode b_Firm_down 4 = .ok (.getfield 51, 3) := by decide +kernel
theorem d_Firm_down_7 : decode b_Firm_down 7 = .ok (.ireturn, 1) := by decide +kernel
set_option maxRecDepth 100000 in
set_option maxHeartbeats 4000000 in
theorem k_Firm_down (l : Launch) (D : va_G) (G : Nat → Nat) (Y : Nat → ClassId) {u : SM}  {r : Int32} {u' : SM} (hm : m_Firm_down u  = some (r, u')) : KZ l D clz (tyz Y) (wdC G Y) y_Firm_down b_Firm_down 1 (some .boolean) 0 0 [.ref (G 0)] u r u' := by
  refine mkZ (by decide) (Nat.le_of_ble_eq_true rfl) ?_
  intro p e s m below meth c A Z ls C0 hP hD hS hl hret
  obtain ⟨hx, hb, hml, hown, hts, hK, hN, hA⟩ := id C0
  have hl : lv_has ls 1 [(0, .ref (G 0))] := hl
  rw [m_Firm_down] at hm
  refine lv_aload_n hx hb d_Firm_down_0 rfl (lv_at hl 0 rfl) ?_
  refine va_get (D := D) (ci := 0) (v := .ref (G 1)) (C := "FirmStore") (T := F_Firm) (N := 4) hx hb hts iz_Firm hown hK hP 0 rfl rfl 0 (by decide) (hts _ q_93) (fun _ h9 => h9) rfl d_Firm_down_1 ?_
  refine va_get (D := D) (ci := 1) (v := .int (cg_dn u)) (C := "FirmStore$Memory") (T := F_Memory) (N := 8) hx hb hts iz_Memory hown hK hP 1 rfl rfl 7 (by decide) (hts _ q_37) (fun _ h9 => h9) rfl d_Firm_down_4 ?_
  obtain ⟨hg, hm⟩ := gd hm
  exact hret _ _ _ _ (cg_dn u) u (Option.some.inj hm) (of_decide_eq_true hg) hP hD hS d_Firm_down_7
