/-! models and contracts; written by wip/whole/gen.py -/
def m_Table_headOf (u : SM) (a1 : Int32) : Option (Int32 × SM) := some (((1 : Int32) + (a1 - a1 / (8 : Int32) * (8 : Int32))), u)
def m_Table_countEntries_L4 : Nat → SM → Int32 → Int32 → Int32 → Option ((Int32 × SM) ⊕ (Int32 × SM))
  | 0, _, _, _, _ => none
  | n0 + 1, ua, x2, x3, x1 => if (6 : Int32) ≤ x3 then (some (.inr (x2, ua))) else (ob (m_Blocks_entryAt ua x1 x3) (fun r1 u2 => if (lg_cmp r1 (0 : Int64)) = 0 then (m_Table_countEntries_L4 n0 u2 x2 (x3 + (1 : Int32)) x1) else (m_Table_countEntries_L4 n0 u2 (x2 + (1 : Int32)) (x3 + (1 : Int32)) x1)))
def m_Table_countEntries (u : SM) (a1 : Int32) : Option (Int32 × SM) := ol1 (m_Table_countEntries_L4 fz u (0 : Int32) (0 : Int32) a1) id (fun x5 u6 => some (x5, u6))
def m_Table_seekInChain_L26 : Nat → SM → Int32 → Int32 → Int32 → Int32 → Option ((Int32 × SM) ⊕ (SM))
  | 0, _, _, _, _, _ => none
  | n0 + 1, ua, x5, x2, x3, x4 => if (6 : Int32) ≤ x5 then (some (.inr ua)) else (ob (m_Blocks_entryAt ua x3 x5) (fun r1 u2 => ob (m_Firm_keyOf u2 r1) (fun r5 u6 => if r5 = x2 then (ob (m_Blocks_addressOfPlace u6 x3 x5) (fun r9 u10 => some (.inl (r9, u10)))) else (m_Table_seekInChain_L26 n0 u6 (x5 + (1 : Int32)) x2 x3 x4))))
def m_Table_seekInChain_L12 : Nat → SM → Int32 → Int32 → Int32 → Option ((Int32 × SM) ⊕ (SM))
  | 0, _, _, _, _ => none
  | n0 + 1, ua, x3, x4, x2 => if (30 : Int32) ≤ x4 then (some (.inr ua)) else (if x3 = 0 then (some (.inr ua)) else (ol0 (m_Table_seekInChain_L26 fz ua (0 : Int32) x2 x3 x4) Sum.inl (fun u13 => ob (m_Blocks_nextOf u13 x3) (fun r14 u15 => m_Table_seekInChain_L12 n0 u15 r14 (x4 + (1 : Int32)) x2))))
def m_Table_seekInChain (u : SM) (a1 : Int32) (a2 : Int32) : Option (Int32 × SM) := ob (m_Blocks_blockIn u a1) (fun r18 u19 => ol0 (m_Table_seekInChain_L12 fz u19 r18 (0 : Int32) a2) id (fun u22 => some ((0 : Int32), u22)))
def m_Table_seek (u : SM) (a1 : Int32) : Option (Int32 × SM) := ob (m_Table_headOf u a1) (fun r1 u2 => ob (m_Table_seekInChain u2 r1 a1) (fun r5 u6 => some (r5, u6)))
def m_Table_countKeys_L22 : Nat → SM → Int32 → Int32 → Int32 → Int32 → Option ((Int32 × SM) ⊕ (Int32 × SM))
  | 0, _, _, _, _, _ => none
  | n0 + 1, ua, x1, x3, x4, x2 => if (30 : Int32) ≤ x4 then (some (.inr (x1, ua))) else (if x3 = 0 then (some (.inr (x1, ua))) else (ob (m_Table_countEntries ua x3) (fun r1 u2 => ob (m_Blocks_nextOf u2 x3) (fun r5 u6 => m_Table_countKeys_L22 n0 u6 (x1 + r1) r5 (x4 + (1 : Int32)) x2))))
def m_Table_countKeys_L4 : Nat → SM → Int32 → Int32 → Option ((Int32 × SM) ⊕ (Int32 × SM))
  | 0, _, _, _ => none
  | n0 + 1, ua, x1, x2 => if (9 : Int32) ≤ x2 then (some (.inr (x1, ua))) else (ob (m_Blocks_blockIn ua x2) (fun r9 u10 => ol1 (m_Table_countKeys_L22 fz u10 x1 r9 (0 : Int32) x2) Sum.inl (fun x13 u14 => m_Table_countKeys_L4 n0 u14 x13 (x2 + (1 : Int32)))))
def m_Table_countKeys (u : SM)  : Option (Int32 × SM) := ol1 (m_Table_countKeys_L4 fz u (0 : Int32) (1 : Int32)) id (fun x15 u16 => some (x15, u16))
def m_Table_enter (u : SM) (a1 : Int32) (a2 : Int32) : Option (Int32 × SM) := ob (m_Firm_entryOf u a1 a2) (fun r1 u2 => ob (m_Table_seek u2 a1) (fun r5 u6 => if r5 = 0 then (ob (m_Table_headOf u6 a1) (fun r9 u10 => ob (m_Table_seekInChain u10 r9 (-1 : Int32)) (fun r13 u14 => if r13 = 0 then (ob (m_Blocks_countFree u14) (fun r17 u18 => if r17 = 0 then (some ((-1 : Int32), u18)) else (ob (m_Blocks_blockIn u18 r9) (fun r21 u22 => ob (m_Blocks_make u22 (-1 : Int32) r21 (0 : Int32) r1 (0 : Int64) (0 : Int64)) (fun r25 u26 => if r25 = 0 then (some ((-2 : Int32), u26)) else (ob (m_Memory_firmStore u26 r9 (r25.toInt64)) (fun r29 u30 => if r29 = 0 then (some ((-2 : Int32), u30)) else (some ((1 : Int32), u30))))))))) else (ob (m_Memory_firmStore u14 r13 r1) (fun r33 u34 => if r33 = 0 then (some ((-2 : Int32), u34)) else (some ((1 : Int32), u34))))))) else (ob (m_Memory_firmStore u6 r5 r1) (fun r37 u38 => if r37 = 0 then (some ((-2 : Int32), u38)) else (some ((0 : Int32), u38))))))
theorem d_Table_headOf_0 : decode b_Table_headOf 0 = .ok (.iconst 1, 1) := by decide +kernel
theorem d_Table_headOf_1 : decode b_Table_headOf 1 = .ok (.iload_n 1, 1) := by decide +kernel
theorem d_Table_headOf_2 : decode b_Table_headOf 2 = .ok (.bipush 8, 2) := by decide +kernel
theorem d_Table_headOf_4 : decode b_Table_headOf 4 = .ok (.irem, 1) := by decide +kernel
theorem d_Table_headOf_5 : decode b_Table_headOf 5 = .ok (.iadd, 1) := by decide +kernel
theorem d_Table_headOf_6 : decode b_Table_headOf 6 = .ok (.ireturn, 1) := by decide +kernel
set_option maxRecDepth 100000 in
set_option maxHeartbeats 4000000 in
theorem k_Table_headOf (l : Launch) (D : va_G) (G : Nat → Nat) (Y : Nat → ClassId) {u : SM} {a1 : Int32} {r : Int32} {u' : SM} (hm : m_Table_headOf u a1 = some (r, u')) : KI l D clz (tyz Y) (wdC G Y) y_Table_headOf b_Table_headOf 2 (some .int) 0 0 [.ref (G 7), .int a1] u r u' := by
  refine mkI (by decide) (Nat.le_of_ble_eq_true rfl) ?_
  intro p e s m below meth c A Z ls C0 hP hD hS hl hret
  obtain ⟨hx, hb, hml, hown, hts, hK, hN, hA⟩ := id C0
  have hl : lv_has ls 2 [(0, .ref (G 7)), (1, .int a1)] := hl
  rw [m_Table_headOf] at hm
  refine lv_iconst (v := (1 : Int32)) hx hb d_Table_headOf_0 (by decide) ?_
  refine lv_iload_n hx hb d_Table_headOf_1 rfl (lv_at hl 1 rfl) ?_
  refine lv_bipush (v := (8 : Int32)) hx hb d_Table_headOf_2 (by decide) ?_
  refine lv_irem hx hb d_Table_headOf_4 (by decide) ?_
  refine lv_iadd hx hb d_Table_headOf_5 ?_
  exact hret _ _ _ _ ((1 : Int32) + (a1 - a1 / (8 : Int32) * (8 : Int32))) u (Option.some.inj hm) hP hD hS d_Table_headOf_6
theorem d_Table_countEntries_0 : decode b_Table_countEntries 0 = .ok (.iconst 0, 1) := by decide +kernel
theorem d_Table_countEntries_1 : decode b_Table_countEntries 1 = .ok (.istore_n 2, 1) := by decide +kernel
theorem d_Table_countEntries_2 : decode b_Table_countEntries 2 = .ok (.iconst 0, 1) := by decide +kernel
theorem d_Table_countEntries_3 : decode b_Table_countEntries 3 = .ok (.istore_n 3, 1) := by decide +kernel
theorem d_Table_countEntries_4 : decode b_Table_countEntries 4 = .ok (.iload_n 3, 1) := by decide +kernel
theorem d_Table_countEntries_5 : decode b_Table_countEntries 5 = .ok (.bipush 6, 2) := by decide +kernel
theorem d_Table_countEntries_7 : decode b_Table_countEntries 7 = .ok (.if_icmp .ge 26, 3) := by decide +kernel
theorem d_Table_countEntries_10 : decode b_Table_countEntries 10 = .ok (.aload_n 0, 1) := by decide +kernel
theorem d_Table_countEntries_11 : decode b_Table_countEntries 11 = .ok (.getfield 15, 3) := by decide +kernel
theorem d_Table_countEntries_14 : decode b_Table_countEntries 14 = .ok (.iload_n 1, 1) := by decide +kernel
theorem d_Table_countEntries_15 : decode b_Table_countEntries 15 = .ok (.iload_n 3, 1) := by decide +kernel
theorem d_Table_countEntries_16 : decode b_Table_countEntries 16 = .ok (.invokevirtual 59, 3) := by decide +kernel
theorem d_Table_countEntries_19 : decode b_Table_countEntries 19 = .ok (.lconst 0, 1) := by decide +kernel
theorem d_Table_countEntries_20 : decode b_Table_countEntries 20 = .ok (.lcmp, 1) := by decide +kernel
theorem d_Table_countEntries_21 : decode b_Table_countEntries 21 = .ok (.ifCond .eq 6, 3) := by decide +kernel
theorem d_Table_countEntries_24 : decode b_Table_countEntries 24 = .ok (.iinc 2 1, 3) := by decide +kernel
theorem d_Table_countEntries_27 : decode b_Table_countEntries 27 = .ok (.iinc 3 1, 3) := by decide +kernel
theorem d_Table_countEntries_30 : decode b_Table_countEntries 30 = .ok (.goto (-26), 3) := by decide +kernel
theorem d_Table_countEntries_33 : decode b_Table_countEntries 33 = .ok (.iload_n 2, 1) := by decide +kernel
theorem d_Table_countEntries_34 : decode b_Table_countEntries 34 = .ok (.ireturn, 1) := by decide +kernel
set_option maxRecDepth 100000 in
set_option maxHeartbeats 4000000 in
theorem k_Table_countEntries (l : Launch) (D : va_G) (G : Nat → Nat) (Y : Nat → ClassId) {u : SM} {a1 : Int32} {r : Int32} {u' : SM} (hm : m_Table_countEntries u a1 = some (r, u')) : KI l D clz (tyz Y) (wdC G Y) y_Table_countEntries b_Table_countEntries 4 (some .int) 2 43 [.ref (G 7), .int a1] u r u' := by
  refine mkI (by decide) (Nat.le_of_ble_eq_true rfl) ?_
  intro p e s m below meth c A Z ls C0 hP hD hS hl hret
  obtain ⟨hx, hb, hml, hown, hts, hK, hN, hA⟩ := id C0
  have hl : lv_has ls 4 [(0, .ref (G 7)), (1, .int a1)] := hl
  have L4 : ∀ (x1 : Int32) (o : (Int32 × SM) ⊕ (Int32 × SM)) (kr : ∀ z, o = .inl z → z = (r, u')) (kx : ∀ (y2 : Int32) (ub : SM), o = .inr (y2, ub) → ∀ (H : Heap) (locs : List Loc) (ls : Array Slot), va_P D clz (wdC G Y ub) H → va_D A (wdC G Y ub) → va_S A s.heap H locs → lv_has ls 4 [(2, .int y2)] → W p l e (zRm 2 43) s m ([.ref (G 7), .int a1] : List Value).toArray below meth c H locs 0 0 Z (F0 m 33 ls [])) (n0 : Nat) (ua : SM) (x2 : Int32) (x3 : Int32), m_Table_countEntries_L4 n0 ua x2 x3 x1 = some o → ∀ (H : Heap) (locs : List Loc) (ls : Array Slot), va_P D clz (wdC G Y ua) H → va_D A (wdC G Y ua) → va_S A s.heap H locs → lv_has ls 4 [(0, .ref (G 7)), (1, .int x1), (2, .int x2), (3, .int x3)] → W p l e (zRm 2 43) s m ([.ref (G 7), .int a1] : List Value).toArray below meth c H locs 0 0 Z (F0 m 4 ls []) := by
    intro x1 o kr kx n0
    induction n0 with
    | zero => intro ua x2 x3 hm; rw [m_Table_countEntries_L4] at hm; cases hm
    | succ n0 ih =>
      intro ua x2 x3 hm H locs ls hP hD hS hl
      rw [m_Table_countEntries_L4] at hm
      refine lv_iload_n hx hb d_Table_countEntries_4 rfl (lv_at hl 3 rfl) ?_
      refine lv_bipush (v := (6 : Int32)) hx hb d_Table_countEntries_5 (by decide) ?_
      refine lv_icmp_ge (tgt := 33) hx hb d_Table_countEntries_7 (by decide) (fun hc => ?_) (fun hc => ?_)
      · rw [if_pos hc] at hm
        exact kx x2 ua (Option.some.inj hm).symm _ _ _ hP hD hS (lv_sub hl [2] rfl)
      · rw [if_neg hc] at hm
        refine lv_aload_n hx hb d_Table_countEntries_10 rfl (lv_at hl 0 rfl) ?_
        refine va_get (D := D) (ci := 4) (v := .ref (G 5)) (C := "FirmStore$Table") (T := F_Table) (N := 2) hx hb hts iz_Table hown hK hP 7 rfl rfl 1 (by decide) (hts _ q_87) (fun _ h9 => h9) rfl d_Table_countEntries_11 ?_
        refine lv_iload_n hx hb d_Table_countEntries_14 rfl (lv_at hl 1 rfl) ?_
        refine lv_iload_n hx hb d_Table_countEntries_15 rfl (lv_at hl 3 rfl) ?_
        obtain ⟨r1, u2, h3, hm⟩ := ob_some hm
        refine goVL (As := [.int x1, .int x3]) (rest := []) (b0 := G 5) 5 C0 (k_Blocks_entryAt l D G Y h3) q_176 q_3 q_189 q_174 q_175 e_Blocks_entryAt (by decide) rfl rfl hP hD hS hl.1 rfl (Nat.le_of_ble_eq_true rfl) d_Table_countEntries_16 (fun H locs hP hD hS => ?_)
        refine lv_lconst (v := (0 : Int64)) hx hb d_Table_countEntries_19 (by decide) ?_
        refine W.lcmp hx hb d_Table_countEntries_20 ?_
        refine lv_if_eq (tgt := 27) hx hb d_Table_countEntries_21 (by decide) (fun hc => ?_) (fun hc => ?_)
        · rw [if_pos hc] at hm
          refine lv_iinc (v := (x3 + (1 : Int32))) (lv' := [(3, .int (x3 + (1 : Int32))), (0, .ref (G 7)), (1, .int x1), (2, .int x2)]) hx hb d_Table_countEntries_27 hl (k := 3) rfl rfl (by decide) rfl (fun ls hl => ?_)
          refine lv_goto (tgt := 4) hx hb d_Table_countEntries_30 (by decide) ?_
          exact ih u2 x2 (x3 + (1 : Int32)) hm _ _ _ hP hD hS (lv_sub hl [1, 2, 3, 0] rfl)
        · rw [if_neg hc] at hm
          refine lv_iinc (v := (x2 + (1 : Int32))) (lv' := [(2, .int (x2 + (1 : Int32))), (0, .ref (G 7)), (1, .int x1), (3, .int x3)]) hx hb d_Table_countEntries_24 hl (k := 2) rfl rfl (by decide) rfl (fun ls hl => ?_)
          refine lv_iinc (v := (x3 + (1 : Int32))) (lv' := [(3, .int (x3 + (1 : Int32))), (2, .int (x2 + (1 : Int32))), (0, .ref (G 7)), (1, .int x1)]) hx hb d_Table_countEntries_27 hl (k := 3) rfl rfl (by decide) rfl (fun ls hl => ?_)
          refine lv_goto (tgt := 4) hx hb d_Table_countEntries_30 (by decide) ?_
          exact ih u2 (x2 + (1 : Int32)) (x3 + (1 : Int32)) hm _ _ _ hP hD hS (lv_sub hl [2, 3, 1, 0] rfl)
  rw [m_Table_countEntries] at hm
  refine lv_iconst (v := (0 : Int32)) hx hb d_Table_countEntries_0 (by decide) ?_
  refine lv_istore_n (lv' := [(2, .int (0 : Int32)), (0, .ref (G 7)), (1, .int a1)]) hx hb d_Table_countEntries_1 rfl hl (by decide) rfl (fun ls hl => ?_)
  refine lv_iconst (v := (0 : Int32)) hx hb d_Table_countEntries_2 (by decide) ?_
  refine lv_istore_n (lv' := [(3, .int (0 : Int32)), (2, .int (0 : Int32)), (0, .ref (G 7)), (1, .int a1)]) hx hb d_Table_countEntries_3 rfl hl (by decide) rfl (fun ls hl => ?_)
  obtain ⟨qq, hq, hi, ho⟩ := ol1_some hm
  refine L4 a1 qq (fun z hz => hi z hz) (fun x5 u6 hz H locs ls hP hD hS hl => ?_) fz u (0 : Int32) (0 : Int32) hq _ _ _ hP hD hS (lv_sub hl [2, 3, 1, 0] rfl)
  have hm := ho x5 u6 hz
  refine lv_iload_n hx hb d_Table_countEntries_33 rfl (lv_at hl 0 rfl) ?_
  exact hret _ _ _ _ x5 u6 (Option.some.inj hm) hP hD hS d_Table_countEntries_34
theorem d_Table_seekInChain_0 : decode b_Table_seekInChain 0 = .ok (.aload_n 0, 1) := by decide +kernel
theorem d_Table_seekInChain_1 : decode b_Table_seekInChain 1 = .ok (.getfield 15, 3) := by decide +kernel
theorem d_Table_seekInChain_4 : decode b_Table_seekInChain 4 = .ok (.iload_n 1, 1) := by decide +kernel
theorem d_Table_seekInChain_5 : decode b_Table_seekInChain 5 = .ok (.invokevirtual 27, 3) := by decide +kernel
theorem d_Table_seekInChain_8 : decode b_Table_seekInChain 8 = .ok (.istore_n 3, 1) := by decide +kernel
theorem d_Table_seekInChain_9 : decode b_Table_seekInChain 9 = .ok (.iconst 0, 1) := by decide +kernel
theorem d_Table_seekInChain_10 : decode b_Table_seekInChain 10 = .ok (.istore 4, 2) := by decide +kernel
theorem d_Table_seekInChain_12 : decode b_Table_seekInChain 12 = .ok (.iload 4, 2) := by decide +kernel
theorem d_Table_seekInChain_14 : decode b_Table_seekInChain 14 = .ok (.bipush 30, 2) := by decide +kernel
theorem d_Table_seekInChain_16 : decode b_Table_seekInChain 16 = .ok (.if_icmp .ge 66, 3) := by decide +kernel
theorem d_Table_seekInChain_19 : decode b_Table_seekInChain 19 = .ok (.iload_n 3, 1) := by decide +kernel
theorem d_Table_seekInChain_20 : decode b_Table_seekInChain 20 = .ok (.ifCond .eq 62, 3) := by decide +kernel
theorem d_Table_seekInChain_23 : decode b_Table_seekInChain 23 = .ok (.iconst 0, 1) := by decide +kernel
theorem d_Table_seekInChain_24 : decode b_Table_seekInChain 24 = .ok (.istore 5, 2) := by decide +kernel
theorem d_Table_seekInChain_26 : decode b_Table_seekInChain 26 = .ok (.iload 5, 2) := by decide +kernel
theorem d_Table_seekInChain_28 : decode b_Table_seekInChain 28 = .ok (.bipush 6, 2) := by decide +kernel
theorem d_Table_seekInChain_30 : decode b_Table_seekInChain 30 = .ok (.if_icmp .ge 37, 3) := by decide +kernel
theorem d_Table_seekInChain_33 : decode b_Table_seekInChain 33 = .ok (.aload_n 0, 1) := by decide +kernel
theorem d_Table_seekInChain_34 : decode b_Table_seekInChain 34 = .ok (.getfield 15, 3) := by decide +kernel
theorem d_Table_seekInChain_37 : decode b_Table_seekInChain 37 = .ok (.iload_n 3, 1) := by decide +kernel
theorem d_Table_seekInChain_38 : decode b_Table_seekInChain 38 = .ok (.iload 5, 2) := by decide +kernel
theorem d_Table_seekInChain_40 : decode b_Table_seekInChain 40 = .ok (.invokevirtual 59, 3) := by decide +kernel
theorem d_Table_seekInChain_43 : decode b_Table_seekInChain 43 = .ok (.invokestatic 62, 3) := by decide +kernel
theorem d_Table_seekInChain_46 : decode b_Table_seekInChain 46 = .ok (.iload_n 2, 1) := by decide +kernel
theorem d_Table_seekInChain_47 : decode b_Table_seekInChain 47 = .ok (.if_icmp .ne 14, 3) := by decide +kernel
theorem d_Table_seekInChain_50 : decode b_Table_seekInChain 50 = .ok (.aload_n 0, 1) := by decide +kernel
theorem d_Table_seekInChain_51 : decode b_Table_seekInChain 51 = .ok (.getfield 15, 3) := by decide +kernel
theorem d_Table_seekInChain_54 : decode b_Table_seekInChain 54 = .ok (.iload_n 3, 1) := by decide +kernel
theorem d_Table_seekInChain_55 : decode b_Table_seekInChain 55 = .ok (.iload 5, 2) := by decide +kernel
theorem d_Table_seekInChain_57 : decode b_Table_seekInChain 57 = .ok (.invokevirtual 66, 3) := by decide +kernel
theorem d_Table_seekInChain_60 : decode b_Table_seekInChain 60 = .ok (.ireturn, 1) := by decide +kernel
theorem d_Table_seekInChain_61 : decode b_Table_seekInChain 61 = .ok (.iinc 5 1, 3) := by decide +kernel
theorem d_Table_seekInChain_64 : decode b_Table_seekInChain 64 = .ok (.goto (-38), 3) := by decide +kernel
theorem d_Table_seekInChain_67 : decode b_Table_seekInChain 67 = .ok (.aload_n 0, 1) := by decide +kernel
theorem d_Table_seekInChain_68 : decode b_Table_seekInChain 68 = .ok (.getfield 15, 3) := by decide +kernel
theorem d_Table_seekInChain_71 : decode b_Table_seekInChain 71 = .ok (.iload_n 3, 1) := by decide +kernel
theorem d_Table_seekInChain_72 : decode b_Table_seekInChain 72 = .ok (.invokevirtual 35, 3) := by decide +kernel
theorem d_Table_seekInChain_75 : decode b_Table_seekInChain 75 = .ok (.istore_n 3, 1) := by decide +kernel
theorem d_Table_seekInChain_76 : decode b_Table_seekInChain 76 = .ok (.iinc 4 1, 3) := by decide +kernel
theorem d_Table_seekInChain_79 : decode b_Table_seekInChain 79 = .ok (.goto (-67), 3) := by decide +kernel
theorem d_Table_seekInChain_82 : decode b_Table_seekInChain 82 = .ok (.iconst 0, 1) := by decide +kernel
theorem d_Table_seekInChain_83 : decode b_Table_seekInChain 83 = .ok (.ireturn, 1) := by decide +kernel
set_option maxRecDepth 100000 in
set_option maxHeartbeats 4000000 in
theorem k_Table_seekInChain (l : Launch) (D : va_G) (G : Nat → Nat) (Y : Nat → ClassId) {u : SM} {a1 : Int32} {a2 : Int32} {r : Int32} {u' : SM} (hm : m_Table_seekInChain u a1 a2 = some (r, u')) : KI l D clz (tyz Y) (wdC G Y) y_Table_seekInChain b_Table_seekInChain 6 (some .int) 2 43 [.ref (G 7), .int a1, .int a2] u r u' := by
  refine mkI (by decide) (Nat.le_of_ble_eq_true rfl) ?_
  intro p e s m below meth c A Z ls C0 hP hD hS hl hret
  obtain ⟨hx, hb, hml, hown, hts, hK, hN, hA⟩ := id C0
  have hl : lv_has ls 6 [(0, .ref (G 7)), (1, .int a1), (2, .int a2)] := hl
  have L26 : ∀ (x2 : Int32) (x3 : Int32) (x4 : Int32) (o : (Int32 × SM) ⊕ (SM)) (kr : ∀ z, o = .inl z → z = (r, u')) (kx : ∀  (ub : SM), o = .inr ub → ∀ (H : Heap) (locs : List Loc) (ls : Array Slot), va_P D clz (wdC G Y ub) H → va_D A (wdC G Y ub) → va_S A s.heap H locs → lv_has ls 6 [(0, .ref (G 7)), (2, .int x2), (3, .int x3), (4, .int x4)] → W p l e (zRm 2 43) s m ([.ref (G 7), .int a1, .int a2] : List Value).toArray below meth c H locs 0 0 Z (F0 m 67 ls [])) (n0 : Nat) (ua : SM) (x5 : Int32), m_Table_seekInChain_L26 n0 ua x5 x2 x3 x4 = some o → ∀ (H : Heap) (locs : List Loc) (ls : Array Slot), va_P D clz (wdC G Y ua) H → va_D A (wdC G Y ua) → va_S A s.heap H locs → lv_has ls 6 [(0, .ref (G 7)), (2, .int x2), (3, .int x3), (4, .int x4), (5, .int x5)] → W p l e (zRm 2 43) s m ([.ref (G 7), .int a1, .int a2] : List Value).toArray below meth c H locs 0 0 Z (F0 m 26 ls []) := by
    intro x2 x3 x4 o kr kx n0
    induction n0 with
    | zero => intro ua x5 hm; rw [m_Table_seekInChain_L26] at hm; cases hm
    | succ n0 ih =>
      intro ua x5 hm H locs ls hP hD hS hl
      rw [m_Table_seekInChain_L26] at hm
      refine lv_iload hx hb d_Table_seekInChain_26 (lv_at hl 4 rfl) ?_
      refine lv_bipush (v := (6 : Int32)) hx hb d_Table_seekInChain_28 (by decide) ?_
      refine lv_icmp_ge (tgt := 67) hx hb d_Table_seekInChain_30 (by decide) (fun hc => ?_) (fun hc => ?_)
      · rw [if_pos hc] at hm
        exact kx  ua (Option.some.inj hm).symm _ _ _ hP hD hS (lv_sub hl [0, 1, 2, 3] rfl)
      · rw [if_neg hc] at hm
        refine lv_aload_n hx hb d_Table_seekInChain_33 rfl (lv_at hl 0 rfl) ?_
        refine va_get (D := D) (ci := 4) (v := .ref (G 5)) (C := "FirmStore$Table") (T := F_Table) (N := 2) hx hb hts iz_Table hown hK hP 7 rfl rfl 1 (by decide) (hts _ q_87) (fun _ h9 => h9) rfl d_Table_seekInChain_34 ?_
        refine lv_iload_n hx hb d_Table_seekInChain_37 rfl (lv_at hl 2 rfl) ?_
        refine lv_iload hx hb d_Table_seekInChain_38 (lv_at hl 4 rfl) ?_
        obtain ⟨r1, u2, h3, hm⟩ := ob_some hm
        refine goVL (As := [.int x3, .int x5]) (rest := []) (b0 := G 5) 5 C0 (k_Blocks_entryAt l D G Y h3) q_176 q_3 q_189 q_174 q_175 e_Blocks_entryAt (by decide) rfl rfl hP hD hS hl.1 rfl (Nat.le_of_ble_eq_true rfl) d_Table_seekInChain_40 (fun H locs hP hD hS => ?_)
        obtain ⟨r5, u6, h7, hm⟩ := ob_some hm
        refine goNI (As := [.long r1]) (rest := []) C0 (k_Firm_keyOf l D G Y h7) q_179 q_1 hN.2.2.2.2 q_178 e_Firm_keyOf (by decide) hP hD hS hl.1 rfl (Nat.le_of_ble_eq_true rfl) d_Table_seekInChain_43 (fun H locs hP hD hS => ?_)
        refine lv_iload_n hx hb d_Table_seekInChain_46 rfl (lv_at hl 1 rfl) ?_
        refine lv_icmp_ne (tgt := 61) hx hb d_Table_seekInChain_47 (by decide) (fun hc => ?_) (fun hc => ?_)
        · rw [if_neg hc] at hm
          refine lv_iinc (v := (x5 + (1 : Int32))) (lv' := [(5, .int (x5 + (1 : Int32))), (0, .ref (G 7)), (2, .int x2), (3, .int x3), (4, .int x4)]) hx hb d_Table_seekInChain_61 hl (k := 4) rfl rfl (by decide) rfl (fun ls hl => ?_)
          refine lv_goto (tgt := 26) hx hb d_Table_seekInChain_64 (by decide) ?_
          exact ih u6 (x5 + (1 : Int32)) hm _ _ _ hP hD hS (lv_sub hl [1, 2, 3, 4, 0] rfl)
        · rw [if_pos hc] at hm
          refine lv_aload_n hx hb d_Table_seekInChain_50 rfl (lv_at hl 0 rfl) ?_
          refine va_get (D := D) (ci := 4) (v := .ref (G 5)) (C := "FirmStore$Table") (T := F_Table) (N := 2) hx hb hts iz_Table hown hK hP 7 rfl rfl 1 (by decide) (hts _ q_87) (fun _ h9 => h9) rfl d_Table_seekInChain_51 ?_
          refine lv_iload_n hx hb d_Table_seekInChain_54 rfl (lv_at hl 2 rfl) ?_
          refine lv_iload hx hb d_Table_seekInChain_55 (lv_at hl 4 rfl) ?_
          obtain ⟨r9, u10, h11, hm⟩ := ob_some hm
          refine goVI (As := [.int x3, .int x5]) (rest := []) (b0 := G 5) 5 C0 (k_Blocks_addressOfPlace l D G Y h11) q_384 q_3 q_435 q_382 q_383 e_Blocks_addressOfPlace (by decide) rfl rfl hP hD hS hl.1 rfl (Nat.le_of_ble_eq_true rfl) d_Table_seekInChain_57 (fun H locs hP hD hS => ?_)
          exact hret _ _ _ _ r9 u10 (kr _ (Option.some.inj hm).symm) hP hD hS d_Table_seekInChain_60
  have L12 : ∀ (x2 : Int32) (o : (Int32 × SM) ⊕ (SM)) (kr : ∀ z, o = .inl z → z = (r, u')) (kx : ∀  (ub : SM), o = .inr ub → ∀ (H : Heap) (locs : List Loc) (ls : Array Slot), va_P D clz (wdC G Y ub) H → va_D A (wdC G Y ub) → va_S A s.heap H locs → lv_has ls 6 [] → W p l e (zRm 2 43) s m ([.ref (G 7), .int a1, .int a2] : List Value).toArray below meth c H locs 0 0 Z (F0 m 82 ls [])) (n0 : Nat) (ua : SM) (x3 : Int32) (x4 : Int32), m_Table_seekInChain_L12 n0 ua x3 x4 x2 = some o → ∀ (H : Heap) (locs : List Loc) (ls : Array Slot), va_P D clz (wdC G Y ua) H → va_D A (wdC G Y ua) → va_S A s.heap H locs → lv_has ls 6 [(0, .ref (G 7)), (2, .int x2), (3, .int x3), (4, .int x4)] → W p l e (zRm 2 43) s m ([.ref (G 7), .int a1, .int a2] : List Value).toArray below meth c H locs 0 0 Z (F0 m 12 ls []) := by
    intro x2 o kr kx n0
    induction n0 with
    | zero => intro ua x3 x4 hm; rw [m_Table_seekInChain_L12] at hm; cases hm
    | succ n0 ih =>
      intro ua x3 x4 hm H locs ls hP hD hS hl
      rw [m_Table_seekInChain_L12] at hm
      refine lv_iload hx hb d_Table_seekInChain_12 (lv_at hl 3 rfl) ?_
      refine lv_bipush (v := (30 : Int32)) hx hb d_Table_seekInChain_14 (by decide) ?_
      refine lv_icmp_ge (tgt := 82) hx hb d_Table_seekInChain_16 (by decide) (fun hc => ?_) (fun hc => ?_)
      · rw [if_pos hc] at hm
        exact kx  ua (Option.some.inj hm).symm _ _ _ hP hD hS (lv_sub hl [] rfl)
      · rw [if_neg hc] at hm
        refine lv_iload_n hx hb d_Table_seekInChain_19 rfl (lv_at hl 2 rfl) ?_
        refine lv_if_eq (tgt := 82) hx hb d_Table_seekInChain_20 (by decide) (fun hc => ?_) (fun hc => ?_)
        · rw [if_pos hc] at hm
          exact kx  ua (Option.some.inj hm).symm _ _ _ hP hD hS (lv_sub hl [] rfl)
        · rw [if_neg hc] at hm
          refine lv_iconst (v := (0 : Int32)) hx hb d_Table_seekInChain_23 (by decide) ?_
          refine lv_istore (lv' := [(5, .int (0 : Int32)), (0, .ref (G 7)), (2, .int x2), (3, .int x3), (4, .int x4)]) hx hb d_Table_seekInChain_24 hl (by decide) rfl (fun ls hl => ?_)
          obtain ⟨qq, hq, hi, ho⟩ := ol0_some hm
          refine L26 x2 x3 x4 qq (fun z hz => kr z (hi z hz).symm) (fun  u13 hz H locs ls hP hD hS hl => ?_) fz ua (0 : Int32) hq _ _ _ hP hD hS (lv_sub hl [1, 2, 3, 4, 0] rfl)
          have hm := ho  u13 hz
          refine lv_aload_n hx hb d_Table_seekInChain_67 rfl (lv_at hl 0 rfl) ?_
          refine va_get (D := D) (ci := 4) (v := .ref (G 5)) (C := "FirmStore$Table") (T := F_Table) (N := 2) hx hb hts iz_Table hown hK hP 7 rfl rfl 1 (by decide) (hts _ q_87) (fun _ h9 => h9) rfl d_Table_seekInChain_68 ?_
          refine lv_iload_n hx hb d_Table_seekInChain_71 rfl (lv_at hl 2 rfl) ?_
          obtain ⟨r14, u15, h16, hm⟩ := ob_some hm
          refine goVI (As := [.int x3]) (rest := []) (b0 := G 5) 5 C0 (k_Blocks_nextOf l D G Y h16) q_160 q_3 q_190 q_158 q_159 e_Blocks_nextOf (by decide) rfl rfl hP hD hS hl.1 rfl (Nat.le_of_ble_eq_true rfl) d_Table_seekInChain_72 (fun H locs hP hD hS => ?_)
          refine lv_istore_n (lv' := [(3, .int r14), (0, .ref (G 7)), (2, .int x2), (4, .int x4)]) hx hb d_Table_seekInChain_75 rfl hl (by decide) rfl (fun ls hl => ?_)
          refine lv_iinc (v := (x4 + (1 : Int32))) (lv' := [(4, .int (x4 + (1 : Int32))), (3, .int r14), (0, .ref (G 7)), (2, .int x2)]) hx hb d_Table_seekInChain_76 hl (k := 3) rfl rfl (by decide) rfl (fun ls hl => ?_)
          refine lv_goto (tgt := 12) hx hb d_Table_seekInChain_79 (by decide) ?_
          exact ih u15 r14 (x4 + (1 : Int32)) hm _ _ _ hP hD hS (lv_sub hl [2, 3, 1, 0] rfl)
  rw [m_Table_seekInChain] at hm
  refine lv_aload_n hx hb d_Table_seekInChain_0 rfl (lv_at hl 0 rfl) ?_
  refine va_get (D := D) (ci := 4) (v := .ref (G 5)) (C := "FirmStore$Table") (T := F_Table) (N := 2) hx hb hts iz_Table hown hK hP 7 rfl rfl 1 (by decide) (hts _ q_87) (fun _ h9 => h9) rfl d_Table_seekInChain_1 ?_
  refine lv_iload_n hx hb d_Table_seekInChain_4 rfl (lv_at hl 1 rfl) ?_
  obtain ⟨r18, u19, h20, hm⟩ := ob_some hm
  refine goVI (As := [.int a1]) (rest := []) (b0 := G 5) 5 C0 (k_Blocks_blockIn l D G Y h20) q_132 q_3 q_184 q_130 q_131 e_Blocks_blockIn (by decide) rfl rfl hP hD hS hl.1 rfl (Nat.le_of_ble_eq_true rfl) d_Table_seekInChain_5 (fun H locs hP hD hS => ?_)
  refine lv_istore_n (lv' := [(3, .int r18), (0, .ref (G 7)), (1, .int a1), (2, .int a2)]) hx hb d_Table_seekInChain_8 rfl hl (by decide) rfl (fun ls hl => ?_)
  refine lv_iconst (v := (0 : Int32)) hx hb d_Table_seekInChain_9 (by decide) ?_
  refine lv_istore (lv' := [(4, .int (0 : Int32)), (3, .int r18), (0, .ref (G 7)), (1, .int a1), (2, .int a2)]) hx hb d_Table_seekInChain_10 hl (by decide) rfl (fun ls hl => ?_)
  obtain ⟨qq, hq, hi, ho⟩ := ol0_some hm
  refine L12 a2 qq (fun z hz => hi z hz) (fun  u22 hz H locs ls hP hD hS hl => ?_) fz u19 r18 (0 : Int32) hq _ _ _ hP hD hS (lv_sub hl [2, 4, 1, 0] rfl)
  have hm := ho  u22 hz
  refine lv_iconst (v := (0 : Int32)) hx hb d_Table_seekInChain_82 (by decide) ?_
  exact hret _ _ _ _ (0 : Int32) u22 (Option.some.inj hm) hP hD hS d_Table_seekInChain_83
theorem d_Table_seek_0 : decode b_Table_seek 0 = .ok (.aload_n 0, 1) := by decide +kernel
theorem d_Table_seek_1 : decode b_Table_seek 1 = .ok (.aload_n 0, 1) := by decide +kernel
theorem d_Table_seek_2 : decode b_Table_seek 2 = .ok (.iload_n 1, 1) := by decide +kernel
theorem d_Table_seek_3 : decode b_Table_seek 3 = .ok (.invokevirtual 19, 3) := by decide +kernel
theorem d_Table_seek_6 : decode b_Table_seek 6 = .ok (.iload_n 1, 1) := by decide +kernel
theorem d_Table_seek_7 : decode b_Table_seek 7 = .ok (.invokevirtual 23, 3) := by decide +kernel
theorem d_Table_seek_10 : decode b_Table_seek 10 = .ok (.ireturn, 1) := by decide +kernel
set_option maxRecDepth 100000 in
set_option maxHeartbeats 4000000 in
theorem k_Table_seek (l : Launch) (D : va_G) (G : Nat → Nat) (Y : Nat → ClassId) {u : SM} {a1 : Int32} {r : Int32} {u' : SM} (hm : m_Table_seek u a1 = some (r, u')) : KI l D clz (tyz Y) (wdC G Y) y_Table_seek b_Table_seek 2 (some .int) 3 68 [.ref (G 7), .int a1] u r u' := by
  refine mkI (by decide) (Nat.le_of_ble_eq_true rfl) ?_
  intro p e s m below meth c A Z ls C0 hP hD hS hl hret
  obtain ⟨hx, hb, hml, hown, hts, hK, hN, hA⟩ := id C0
  have hl : lv_has ls 2 [(0, .ref (G 7)), (1, .int a1)] := hl
  rw [m_Table_seek] at hm
  refine lv_aload_n hx hb d_Table_seek_0 rfl (lv_at hl 0 rfl) ?_
  refine lv_aload_n hx hb d_Table_seek_1 rfl (lv_at hl 0 rfl) ?_
  refine lv_iload_n hx hb d_Table_seek_2 rfl (lv_at hl 1 rfl) ?_
  obtain ⟨r1, u2, h3, hm⟩ := ob_some hm
  refine goVI (As := [.int a1]) (rest := [.ref (G 7)]) (b0 := G 7) 7 C0 (k_Table_headOf l D G Y h3) q_429 q_5 q_426 q_428 qs_16 e_Table_headOf (by decide) rfl rfl hP hD hS hl.1 rfl (Nat.le_of_ble_eq_true rfl) d_Table_seek_3 (fun H locs hP hD hS => ?_)
  refine lv_iload_n hx hb d_Table_seek_6 rfl (lv_at hl 1 rfl) ?_
  obtain ⟨r5, u6, h7, hm⟩ := ob_some hm
  refine goVI (As := [.int r1, .int a1]) (rest := []) (b0 := G 7) 7 C0 (k_Table_seekInChain l D G Y h7) q_433 q_5 q_430 q_432 qs_17 e_Table_seekInChain (by decide) rfl rfl hP hD hS hl.1 rfl (Nat.le_of_ble_eq_true rfl) d_Table_seek_7 (fun H locs hP hD hS => ?_)
  exact hret _ _ _ _ r5 u6 (Option.some.inj hm) hP hD hS d_Table_seek_10
theorem d_Table_countKeys_0 : decode b_Table_countKeys 0 = .ok (.iconst 0, 1) := by decide +kernel
theorem d_Table_countKeys_1 : decode b_Table_countKeys 1 = .ok (.istore_n 1, 1) := by decide +kernel
theorem d_Table_countKeys_2 : decode b_Table_countKeys 2 = .ok (.iconst 1, 1) := by decide +kernel
theorem d_Table_countKeys_3 : decode b_Table_countKeys 3 = .ok (.istore_n 2, 1) := by decide +kernel
theorem d_Table_countKeys_4 : decode b_Table_countKeys 4 = .ok (.iload_n 2, 1) := by decide +kernel
theorem d_Table_countKeys_5 : decode b_Table_countKeys 5 = .ok (.bipush 9, 2) := by decide +kernel
theorem d_Table_countKeys_7 : decode b_Table_countKeys 7 = .ok (.if_icmp .ge 55, 3) := by decide +kernel
theorem d_Table_countKeys_10 : decode b_Table_countKeys 10 = .ok (.aload_n 0, 1) := by decide +kernel
theorem d_Table_countKeys_11 : decode b_Table_countKeys 11 = .ok (.getfield 15, 3) := by decide +kernel
theorem d_Table_countKeys_14 : decode b_Table_countKeys 14 = .ok (.iload_n 2, 1) := by decide +kernel
theorem d_Table_countKeys_15 : decode b_Table_countKeys 15 = .ok (.invokevirtual 27, 3) := by decide +kernel
theorem d_Table_countKeys_18 : decode b_Table_countKeys 18 = .ok (.istore_n 3, 1) := by decide +kernel
theorem d_Table_countKeys_19 : decode b_Table_countKeys 19 = .ok (.iconst 0, 1) := by decide +kernel
theorem d_Table_countKeys_20 : decode b_Table_countKeys 20 = .ok (.istore 4, 2) := by decide +kernel
theorem d_Table_countKeys_22 : decode b_Table_countKeys 22 = .ok (.iload 4, 2) := by decide +kernel
theorem d_Table_countKeys_24 : decode b_Table_countKeys 24 = .ok (.bipush 30, 2) := by decide +kernel
theorem d_Table_countKeys_26 : decode b_Table_countKeys 26 = .ok (.if_icmp .ge 30, 3) := by decide +kernel
theorem d_Table_countKeys_29 : decode b_Table_countKeys 29 = .ok (.iload_n 3, 1) := by decide +kernel
theorem d_Table_countKeys_30 : decode b_Table_countKeys 30 = .ok (.ifCond .eq 26, 3) := by decide +kernel
theorem d_Table_countKeys_33 : decode b_Table_countKeys 33 = .ok (.iload_n 1, 1) := by decide +kernel
theorem d_Table_countKeys_34 : decode b_Table_countKeys 34 = .ok (.aload_n 0, 1) := by decide +kernel
theorem d_Table_countKeys_35 : decode b_Table_countKeys 35 = .ok (.iload_n 3, 1) := by decide +kernel
theorem d_Table_countKeys_36 : decode b_Table_countKeys 36 = .ok (.invokevirtual 32, 3) := by decide +kernel
theorem d_Table_countKeys_39 : decode b_Table_countKeys 39 = .ok (.iadd, 1) := by decide +kernel
theorem d_Table_countKeys_40 : decode b_Table_countKeys 40 = .ok (.istore_n 1, 1) := by decide +kernel
theorem d_Table_countKeys_41 : decode b_Table_countKeys 41 = .ok (.aload_n 0, 1) := by decide +kernel
theorem d_Table_countKeys_42 : decode b_Table_countKeys 42 = .ok (.getfield 15, 3) := by decide +kernel
theorem d_Table_countKeys_45 : decode b_Table_countKeys 45 = .ok (.iload_n 3, 1) := by decide +kernel
theorem d_Table_countKeys_46 : decode b_Table_countKeys 46 = .ok (.invokevirtual 35, 3) := by decide +kernel
theorem d_Table_countKeys_49 : decode b_Table_countKeys 49 = .ok (.istore_n 3, 1) := by decide +kernel
theorem d_Table_countKeys_50 : decode b_Table_countKeys 50 = .ok (.iinc 4 1, 3) := by decide +kernel
theorem d_Table_countKeys_53 : decode b_Table_countKeys 53 = .ok (.goto (-31), 3) := by decide +kernel
theorem d_Table_countKeys_56 : decode b_Table_countKeys 56 = .ok (.iinc 2 1, 3) := by decide +kernel
theorem d_Table_countKeys_59 : decode b_Table_countKeys 59 = .ok (.goto (-55), 3) := by decide +kernel
theorem d_Table_countKeys_62 : decode b_Table_countKeys 62 = .ok (.iload_n 1, 1) := by decide +kernel
theorem d_Table_countKeys_63 : decode b_Table_countKeys 63 = .ok (.ireturn, 1) := by decide +kernel
set_option maxRecDepth 100000 in
set_option maxHeartbeats 4000000 in
theorem k_Table_countKeys (l : Launch) (D : va_G) (G : Nat → Nat) (Y : Nat → ClassId) {u : SM}  {r : Int32} {u' : SM} (hm : m_Table_countKeys u  = some (r, u')) : KI l D clz (tyz Y) (wdC G Y) y_Table_countKeys b_Table_countKeys 5 (some .int) 3 66 [.ref (G 7)] u r u' := by
  refine mkI (by decide) (Nat.le_of_ble_eq_true rfl) ?_
  intro p e s m below meth c A Z ls C0 hP hD hS hl hret
  obtain ⟨hx, hb, hml, hown, hts, hK, hN, hA⟩ := id C0
  have hl : lv_has ls 5 [(0, .ref (G 7))] := hl
  have L22 : ∀ (x2 : Int32) (o : (Int32 × SM) ⊕ (Int32 × SM)) (kr : ∀ z, o = .inl z → z = (r, u')) (kx : ∀ (y1 : Int32) (ub : SM), o = .inr (y1, ub) → ∀ (H : Heap) (locs : List Loc) (ls : Array Slot), va_P D clz (wdC G Y ub) H → va_D A (wdC G Y ub) → va_S A s.heap H locs → lv_has ls 5 [(0, .ref (G 7)), (1, .int y1), (2, .int x2)] → W p l e (zRm 3 66) s m ([.ref (G 7)] : List Value).toArray below meth c H locs 0 0 Z (F0 m 56 ls [])) (n0 : Nat) (ua : SM) (x1 : Int32) (x3 : Int32) (x4 : Int32), m_Table_countKeys_L22 n0 ua x1 x3 x4 x2 = some o → ∀ (H : Heap) (locs : List Loc) (ls : Array Slot), va_P D clz (wdC G Y ua) H → va_D A (wdC G Y ua) → va_S A s.heap H locs → lv_has ls 5 [(0, .ref (G 7)), (1, .int x1), (2, .int x2), (3, .int x3), (4, .int x4)] → W p l e (zRm 3 66) s m ([.ref (G 7)] : List Value).toArray below meth c H locs 0 0 Z (F0 m 22 ls []) := by
    intro x2 o kr kx n0
    induction n0 with
    | zero => intro ua x1 x3 x4 hm; rw [m_Table_countKeys_L22] at hm; cases hm
    | succ n0 ih =>
      intro ua x1 x3 x4 hm H locs ls hP hD hS hl
      rw [m_Table_countKeys_L22] at hm
      refine lv_iload hx hb d_Table_countKeys_22 (lv_at hl 4 rfl) ?_
      refine lv_bipush (v := (30 : Int32)) hx hb d_Table_countKeys_24 (by decide) ?_
      refine lv_icmp_ge (tgt := 56) hx hb d_Table_countKeys_26 (by decide) (fun hc => ?_) (fun hc => ?_)
      · rw [if_pos hc] at hm
        exact kx x1 ua (Option.some.inj hm).symm _ _ _ hP hD hS (lv_sub hl [0, 1, 2] rfl)
      · rw [if_neg hc] at hm
        refine lv_iload_n hx hb d_Table_countKeys_29 rfl (lv_at hl 3 rfl) ?_
        refine lv_if_eq (tgt := 56) hx hb d_Table_countKeys_30 (by decide) (fun hc => ?_) (fun hc => ?_)
        · rw [if_pos hc] at hm
          exact kx x1 ua (Option.some.inj hm).symm _ _ _ hP hD hS (lv_sub hl [0, 1, 2] rfl)
        · rw [if_neg hc] at hm
          refine lv_iload_n hx hb d_Table_countKeys_33 rfl (lv_at hl 1 rfl) ?_
          refine lv_aload_n hx hb d_Table_countKeys_34 rfl (lv_at hl 0 rfl) ?_
          refine lv_iload_n hx hb d_Table_countKeys_35 rfl (lv_at hl 3 rfl) ?_
          obtain ⟨r1, u2, h3, hm⟩ := ob_some hm
          refine goVI (As := [.int x3]) (rest := [.int x1]) (b0 := G 7) 7 C0 (k_Table_countEntries l D G Y h3) q_188 q_5 q_185 q_187 qs_3 e_Table_countEntries (by decide) rfl rfl hP hD hS hl.1 rfl (Nat.le_of_ble_eq_true rfl) d_Table_countKeys_36 (fun H locs hP hD hS => ?_)
          refine lv_iadd hx hb d_Table_countKeys_39 ?_
          refine lv_istore_n (lv' := [(1, .int (x1 + r1)), (0, .ref (G 7)), (2, .int x2), (3, .int x3), (4, .int x4)]) hx hb d_Table_countKeys_40 rfl hl (by decide) rfl (fun ls hl => ?_)
          refine lv_aload_n hx hb d_Table_countKeys_41 rfl (lv_at hl 1 rfl) ?_
          refine va_get (D := D) (ci := 4) (v := .ref (G 5)) (C := "FirmStore$Table") (T := F_Table) (N := 2) hx hb hts iz_Table hown hK hP 7 rfl rfl 1 (by decide) (hts _ q_87) (fun _ h9 => h9) rfl d_Table_countKeys_42 ?_
          refine lv_iload_n hx hb d_Table_countKeys_45 rfl (lv_at hl 3 rfl) ?_
          obtain ⟨r5, u6, h7, hm⟩ := ob_some hm
          refine goVI (As := [.int x3]) (rest := []) (b0 := G 5) 5 C0 (k_Blocks_nextOf l D G Y h7) q_160 q_3 q_190 q_158 q_159 e_Blocks_nextOf (by decide) rfl rfl hP hD hS hl.1 rfl (Nat.le_of_ble_eq_true rfl) d_Table_countKeys_46 (fun H locs hP hD hS => ?_)
          refine lv_istore_n (lv' := [(3, .int r5), (1, .int (x1 + r1)), (0, .ref (G 7)), (2, .int x2), (4, .int x4)]) hx hb d_Table_countKeys_49 rfl hl (by decide) rfl (fun ls hl => ?_)
          refine lv_iinc (v := (x4 + (1 : Int32))) (lv' := [(4, .int (x4 + (1 : Int32))), (3, .int r5), (1, .int (x1 + r1)), (0, .ref (G 7)), (2, .int x2)]) hx hb d_Table_countKeys_50 hl (k := 4) rfl rfl (by decide) rfl (fun ls hl => ?_)
          refine lv_goto (tgt := 22) hx hb d_Table_countKeys_53 (by decide) ?_
          exact ih u6 (x1 + r1) r5 (x4 + (1 : Int32)) hm _ _ _ hP hD hS (lv_sub hl [3, 2, 4, 1, 0] rfl)
  have L4 : ∀  (o : (Int32 × SM) ⊕ (Int32 × SM)) (kr : ∀ z, o = .inl z → z = (r, u')) (kx : ∀ (y1 : Int32) (ub : SM), o = .inr (y1, ub) → ∀ (H : Heap) (locs : List Loc) (ls : Array Slot), va_P D clz (wdC G Y ub) H → va_D A (wdC G Y ub) → va_S A s.heap H locs → lv_has ls 5 [(1, .int y1)] → W p l e (zRm 3 66) s m ([.ref (G 7)] : List Value).toArray below meth c H locs 0 0 Z (F0 m 62 ls [])) (n0 : Nat) (ua : SM) (x1 : Int32) (x2 : Int32), m_Table_countKeys_L4 n0 ua x1 x2 = some o → ∀ (H : Heap) (locs : List Loc) (ls : Array Slot), va_P D clz (wdC G Y ua) H → va_D A (wdC G Y ua) → va_S A s.heap H locs → lv_has ls 5 [(0, .ref (G 7)), (1, .int x1), (2, .int x2)] → W p l e (zRm 3 66) s m ([.ref (G 7)] : List Value).toArray below meth c H locs 0 0 Z (F0 m 4 ls []) := by
    intro  o kr kx n0
    induction n0 with
    | zero => intro ua x1 x2 hm; rw [m_Table_countKeys_L4] at hm; cases hm
    | succ n0 ih =>
      intro ua x1 x2 hm H locs ls hP hD hS hl
      rw [m_Table_countKeys_L4] at hm
      refine lv_iload_n hx hb d_Table_countKeys_4 rfl (lv_at hl 2 rfl) ?_
      refine lv_bipush (v := (9 : Int32)) hx hb d_Table_countKeys_5 (by decide) ?_
      refine lv_icmp_ge (tgt := 62) hx hb d_Table_countKeys_7 (by decide) (fun hc => ?_) (fun hc => ?_)
      · rw [if_pos hc] at hm
        exact kx x1 ua (Option.some.inj hm).symm _ _ _ hP hD hS (lv_sub hl [1] rfl)
      · rw [if_neg hc] at hm
        refine lv_aload_n hx hb d_Table_countKeys_10 rfl (lv_at hl 0 rfl) ?_
        refine va_get (D := D) (ci := 4) (v := .ref (G 5)) (C := "FirmStore$Table") (T := F_Table) (N := 2) hx hb hts iz_Table hown hK hP 7 rfl rfl 1 (by decide) (hts _ q_87) (fun _ h9 => h9) rfl d_Table_countKeys_11 ?_
        refine lv_iload_n hx hb d_Table_countKeys_14 rfl (lv_at hl 2 rfl) ?_
        obtain ⟨r9, u10, h11, hm⟩ := ob_some hm
        refine goVI (As := [.int x2]) (rest := []) (b0 := G 5) 5 C0 (k_Blocks_blockIn l D G Y h11) q_132 q_3 q_184 q_130 q_131 e_Blocks_blockIn (by decide) rfl rfl hP hD hS hl.1 rfl (Nat.le_of_ble_eq_true rfl) d_Table_countKeys_15 (fun H locs hP hD hS => ?_)
        refine lv_istore_n (lv' := [(3, .int r9), (0, .ref (G 7)), (1, .int x1), (2, .int x2)]) hx hb d_Table_countKeys_18 rfl hl (by decide) rfl (fun ls hl => ?_)
        refine lv_iconst (v := (0 : Int32)) hx hb d_Table_countKeys_19 (by decide) ?_
        refine lv_istore (lv' := [(4, .int (0 : Int32)), (3, .int r9), (0, .ref (G 7)), (1, .int x1), (2, .int x2)]) hx hb d_Table_countKeys_20 hl (by decide) rfl (fun ls hl => ?_)
        obtain ⟨qq, hq, hi, ho⟩ := ol1_some hm
        refine L22 x2 qq (fun z hz => kr z (hi z hz).symm) (fun x13 u14 hz H locs ls hP hD hS hl => ?_) fz u10 x1 r9 (0 : Int32) hq _ _ _ hP hD hS (lv_sub hl [2, 3, 4, 1, 0] rfl)
        have hm := ho x13 u14 hz
        refine lv_iinc (v := (x2 + (1 : Int32))) (lv' := [(2, .int (x2 + (1 : Int32))), (0, .ref (G 7)), (1, .int x13)]) hx hb d_Table_countKeys_56 hl (k := 2) rfl rfl (by decide) rfl (fun ls hl => ?_)
        refine lv_goto (tgt := 4) hx hb d_Table_countKeys_59 (by decide) ?_
        exact ih u14 x13 (x2 + (1 : Int32)) hm _ _ _ hP hD hS (lv_sub hl [1, 2, 0] rfl)
  rw [m_Table_countKeys] at hm
  refine lv_iconst (v := (0 : Int32)) hx hb d_Table_countKeys_0 (by decide) ?_
  refine lv_istore_n (lv' := [(1, .int (0 : Int32)), (0, .ref (G 7))]) hx hb d_Table_countKeys_1 rfl hl (by decide) rfl (fun ls hl => ?_)
  refine lv_iconst (v := (1 : Int32)) hx hb d_Table_countKeys_2 (by decide) ?_
  refine lv_istore_n (lv' := [(2, .int (1 : Int32)), (1, .int (0 : Int32)), (0, .ref (G 7))]) hx hb d_Table_countKeys_3 rfl hl (by decide) rfl (fun ls hl => ?_)
  obtain ⟨qq, hq, hi, ho⟩ := ol1_some hm
  refine L4  qq (fun z hz => hi z hz) (fun x15 u16 hz H locs ls hP hD hS hl => ?_) fz u (0 : Int32) (1 : Int32) hq _ _ _ hP hD hS (lv_sub hl [2, 1, 0] rfl)
  have hm := ho x15 u16 hz
  refine lv_iload_n hx hb d_Table_countKeys_62 rfl (lv_at hl 0 rfl) ?_
  exact hret _ _ _ _ x15 u16 (Option.some.inj hm) hP hD hS d_Table_countKeys_63
theorem d_Table_enter_0 : decode b_Table_enter 0 = .ok (.iload_n 1, 1) := by decide +kernel
theorem d_Table_enter_1 : decode b_Table_enter 1 = .ok (.iload_n 2, 1) := by decide +kernel
theorem d_Table_enter_2 : decode b_Table_enter 2 = .ok (.invokestatic 38, 3) := by decide +kernel
theorem d_Table_enter_5 : decode b_Table_enter 5 = .ok (.lstore_n 3, 1) := by decide +kernel
theorem d_Table_enter_6 : decode b_Table_enter 6 = .ok (.aload_n 0, 1) := by decide +kernel
theorem d_Table_enter_7 : decode b_Table_enter 7 = .ok (.iload_n 1, 1) := by decide +kernel
theorem d_Table_enter_8 : decode b_Table_enter 8 = .ok (.invokevirtual 42, 3) := by decide +kernel
theorem d_Table_enter_11 : decode b_Table_enter 11 = .ok (.istore 5, 2) := by decide +kernel
theorem d_Table_enter_13 : decode b_Table_enter 13 = .ok (.iload 5, 2) := by decide +kernel
theorem d_Table_enter_15 : decode b_Table_enter 15 = .ok (.ifCond .eq 23, 3) := by decide +kernel
theorem d_Table_enter_18 : decode b_Table_enter 18 = .ok (.aload_n 0, 1) := by decide +kernel
theorem d_Table_enter_19 : decode b_Table_enter 19 = .ok (.getfield 9, 3) := by decide +kernel
theorem d_Table_enter_22 : decode b_Table_enter 22 = .ok (.iload 5, 2) := by decide +kernel
theorem d_Table_enter_24 : decode b_Table_enter 24 = .ok (.lload_n 3, 1) := by decide +kernel
theorem d_Table_enter_25 : decode b_Table_enter 25 = .ok (.invokevirtual 45, 3) := by decide +kernel
theorem d_Table_enter_28 : decode b_Table_enter 28 = .ok (.ifCond .eq 7, 3) := by decide +kernel
theorem d_Table_enter_31 : decode b_Table_enter 31 = .ok (.iconst 0, 1) := by decide +kernel
theorem d_Table_enter_32 : decode b_Table_enter 32 = .ok (.goto 5, 3) := by decide +kernel
theorem d_Table_enter_35 : decode b_Table_enter 35 = .ok (.bipush (-2), 2) := by decide +kernel
theorem d_Table_enter_37 : decode b_Table_enter 37 = .ok (.ireturn, 1) := by decide +kernel
theorem d_Table_enter_38 : decode b_Table_enter 38 = .ok (.aload_n 0, 1) := by decide +kernel
theorem d_Table_enter_39 : decode b_Table_enter 39 = .ok (.iload_n 1, 1) := by decide +kernel
theorem d_Table_enter_40 : decode b_Table_enter 40 = .ok (.invokevirtual 19, 3) := by decide +kernel
theorem d_Table_enter_43 : decode b_Table_enter 43 = .ok (.istore 6, 2) := by decide +kernel
theorem d_Table_enter_45 : decode b_Table_enter 45 = .ok (.aload_n 0, 1) := by decide +kernel
theorem d_Table_enter_46 : decode b_Table_enter 46 = .ok (.iload 6, 2) := by decide +kernel
theorem d_Table_enter_48 : decode b_Table_enter 48 = .ok (.iconst (-1), 1) := by decide +kernel
theorem d_Table_enter_49 : decode b_Table_enter 49 = .ok (.invokevirtual 23, 3) := by decide +kernel
theorem d_Table_enter_52 : decode b_Table_enter 52 = .ok (.istore 7, 2) := by decide +kernel
theorem d_Table_enter_54 : decode b_Table_enter 54 = .ok (.iload 7, 2) := by decide +kernel
theorem d_Table_enter_56 : decode b_Table_enter 56 = .ok (.ifCond .eq 23, 3) := by decide +kernel
theorem d_Table_enter_59 : decode b_Table_enter 59 = .ok (.aload_n 0, 1) := by decide +kernel
theorem d_Table_enter_60 : decode b_Table_enter 60 = .ok (.getfield 9, 3) := by decide +kernel
theorem d_Table_enter_63 : decode b_Table_enter 63 = .ok (.iload 7, 2) := by decide +kernel
theorem d_Table_enter_65 : decode b_Table_enter 65 = .ok (.lload_n 3, 1) := by decide +kernel
theorem d_Table_enter_66 : decode b_Table_enter 66 = .ok (.invokevirtual 45, 3) := by decide +kernel
theorem d_Table_enter_69 : decode b_Table_enter 69 = .ok (.ifCond .eq 7, 3) := by decide +kernel
theorem d_Table_enter_72 : decode b_Table_enter 72 = .ok (.iconst 1, 1) := by decide +kernel
theorem d_Table_enter_73 : decode b_Table_enter 73 = .ok (.goto 5, 3) := by decide +kernel
theorem d_Table_enter_76 : decode b_Table_enter 76 = .ok (.bipush (-2), 2) := by decide +kernel
theorem d_Table_enter_78 : decode b_Table_enter 78 = .ok (.ireturn, 1) := by decide +kernel
theorem d_Table_enter_79 : decode b_Table_enter 79 = .ok (.aload_n 0, 1) := by decide +kernel
theorem d_Table_enter_80 : decode b_Table_enter 80 = .ok (.getfield 15, 3) := by decide +kernel
theorem d_Table_enter_83 : decode b_Table_enter 83 = .ok (.invokevirtual 51, 3) := by decide +kernel
theorem d_Table_enter_86 : decode b_Table_enter 86 = .ok (.ifCond .ne 5, 3) := by decide +kernel
theorem d_Table_enter_89 : decode b_Table_enter 89 = .ok (.iconst (-1), 1) := by decide +kernel
theorem d_Table_enter_90 : decode b_Table_enter 90 = .ok (.ireturn, 1) := by decide +kernel
theorem d_Table_enter_91 : decode b_Table_enter 91 = .ok (.aload_n 0, 1) := by decide +kernel
theorem d_Table_enter_92 : decode b_Table_enter 92 = .ok (.getfield 15, 3) := by decide +kernel
theorem d_Table_enter_95 : decode b_Table_enter 95 = .ok (.iconst (-1), 1) := by decide +kernel
theorem d_Table_enter_96 : decode b_Table_enter 96 = .ok (.aload_n 0, 1) := by decide +kernel
theorem d_Table_enter_97 : decode b_Table_enter 97 = .ok (.getfield 15, 3) := by decide +kernel
theorem d_Table_enter_100 : decode b_Table_enter 100 = .ok (.iload 6, 2) := by decide +kernel
theorem d_Table_enter_102 : decode b_Table_enter 102 = .ok (.invokevirtual 27, 3) := by decide +kernel
theorem d_Table_enter_105 : decode b_Table_enter 105 = .ok (.iconst 0, 1) := by decide +kernel
theorem d_Table_enter_106 : decode b_Table_enter 106 = .ok (.lload_n 3, 1) := by decide +kernel
theorem d_Table_enter_107 : decode b_Table_enter 107 = .ok (.lconst 0, 1) := by decide +kernel
theorem d_Table_enter_108 : decode b_Table_enter 108 = .ok (.lconst 0, 1) := by decide +kernel
theorem d_Table_enter_109 : decode b_Table_enter 109 = .ok (.invokevirtual 55, 3) := by decide +kernel
theorem d_Table_enter_112 : decode b_Table_enter 112 = .ok (.istore 8, 2) := by decide +kernel
theorem d_Table_enter_114 : decode b_Table_enter 114 = .ok (.iload 8, 2) := by decide +kernel
theorem d_Table_enter_116 : decode b_Table_enter 116 = .ok (.ifCond .eq 22, 3) := by decide +kernel
theorem d_Table_enter_119 : decode b_Table_enter 119 = .ok (.aload_n 0, 1) := by decide +kernel
theorem d_Table_enter_120 : decode b_Table_enter 120 = .ok (.getfield 9, 3) := by decide +kernel
theorem d_Table_enter_123 : decode b_Table_enter 123 = .ok (.iload 6, 2) := by decide +kernel
theorem d_Table_enter_125 : decode b_Table_enter 125 = .ok (.iload 8, 2) := by decide +kernel
theorem d_Table_enter_127 : decode b_Table_enter 127 = .ok (.i2l, 1) := by decide +kernel
theorem d_Table_enter_128 : decode b_Table_enter 128 = .ok (.invokevirtual 45, 3) := by decide +kernel
theorem d_Table_enter_131 : decode b_Table_enter 131 = .ok (.ifCond .eq 7, 3) := by decide +kernel
theorem d_Table_enter_134 : decode b_Table_enter 134 = .ok (.iconst 1, 1) := by decide +kernel
theorem d_Table_enter_135 : decode b_Table_enter 135 = .ok (.goto 5, 3) := by decide +kernel
theorem d_Table_enter_138 : decode b_Table_enter 138 = .ok (.bipush (-2), 2) := by decide +kernel
theorem d_Table_enter_140 : decode b_Table_enter 140 = .ok (.ireturn, 1) := by decide +kernel
set_option maxRecDepth 100000 in
set_option maxHeartbeats 4000000 in
theorem k_Table_enter (l : Launch) (D : va_G) (G : Nat → Nat) (Y : Nat → ClassId) {u : SM} {a1 : Int32} {a2 : Int32} {r : Int32} {u' : SM} (hm : m_Table_enter u a1 a2 = some (r, u')) : KI l D clz (tyz Y) (wdC G Y) y_Table_enter b_Table_enter 9 (some .int) 4 104 [.ref (G 7), .int a1, .int a2] u r u' := by
  refine mkI (by decide) (Nat.le_of_ble_eq_true rfl) ?_
  intro p e s m below meth c A Z ls C0 hP hD hS hl hret
  obtain ⟨hx, hb, hml, hown, hts, hK, hN, hA⟩ := id C0
  have hl : lv_has ls 9 [(0, .ref (G 7)), (1, .int a1), (2, .int a2)] := hl
  rw [m_Table_enter] at hm
  refine lv_iload_n hx hb d_Table_enter_0 rfl (lv_at hl 1 rfl) ?_
  refine lv_iload_n hx hb d_Table_enter_1 rfl (lv_at hl 2 rfl) ?_
  obtain ⟨r1, u2, h3, hm⟩ := ob_some hm
  refine goNL (As := [.int a1, .int a2]) (rest := []) C0 (k_Firm_entryOf l D G Y h3) q_336 q_1 hN.2.2.2.1 q_335 e_Firm_entryOf (by decide) hP hD hS hl.1 rfl (Nat.le_of_ble_eq_true rfl) d_Table_enter_2 (fun H locs hP hD hS => ?_)
  refine lv_lstore_n (lv' := [(3, .long r1), (0, .ref (G 7)), (1, .int a1), (2, .int a2)]) hx hb d_Table_enter_5 rfl hl (by decide) rfl (fun ls hl => ?_)
  refine lv_aload_n hx hb d_Table_enter_6 rfl (lv_at hl 1 rfl) ?_
  refine lv_iload_n hx hb d_Table_enter_7 rfl (lv_at hl 2 rfl) ?_
  obtain ⟨r5, u6, h7, hm⟩ := ob_some hm
  refine goVI (As := [.int a1]) (rest := []) (b0 := G 7) 7 C0 (k_Table_seek l D G Y h7) q_425 q_5 q_422 q_423 q_424 e_Table_seek (by decide) rfl rfl hP hD hS hl.1 rfl (Nat.le_of_ble_eq_true rfl) d_Table_enter_8 (fun H locs hP hD hS => ?_)
  refine lv_istore (lv' := [(5, .int r5), (3, .long r1), (0, .ref (G 7)), (1, .int a1), (2, .int a2)]) hx hb d_Table_enter_11 hl (by decide) rfl (fun ls hl => ?_)
  refine lv_iload hx hb d_Table_enter_13 (lv_at hl 0 rfl) ?_
  refine lv_if_eq (tgt := 38) hx hb d_Table_enter_15 (by decide) (fun hc => ?_) (fun hc => ?_)
  · rw [if_pos hc] at hm
    refine lv_aload_n hx hb d_Table_enter_38 rfl (lv_at hl 2 rfl) ?_
    refine lv_iload_n hx hb d_Table_enter_39 rfl (lv_at hl 3 rfl) ?_
    obtain ⟨r9, u10, h11, hm⟩ := ob_some hm
    refine goVI (As := [.int a1]) (rest := []) (b0 := G 7) 7 C0 (k_Table_headOf l D G Y h11) q_429 q_5 q_426 q_428 qs_16 e_Table_headOf (by decide) rfl rfl hP hD hS hl.1 rfl (Nat.le_of_ble_eq_true rfl) d_Table_enter_40 (fun H locs hP hD hS => ?_)
    refine lv_istore (lv' := [(6, .int r9), (5, .int r5), (3, .long r1), (0, .ref (G 7)), (1, .int a1), (2, .int a2)]) hx hb d_Table_enter_43 hl (by decide) rfl (fun ls hl => ?_)
    refine lv_aload_n hx hb d_Table_enter_45 rfl (lv_at hl 3 rfl) ?_
    refine lv_iload hx hb d_Table_enter_46 (lv_at hl 0 rfl) ?_
    refine lv_iconst (v := (-1 : Int32)) hx hb d_Table_enter_48 (by decide) ?_
    obtain ⟨r13, u14, h15, hm⟩ := ob_some hm
    refine goVI (As := [.int r9, .int (-1 : Int32)]) (rest := []) (b0 := G 7) 7 C0 (k_Table_seekInChain l D G Y h15) q_433 q_5 q_430 q_432 qs_17 e_Table_seekInChain (by decide) rfl rfl hP hD hS hl.1 rfl (Nat.le_of_ble_eq_true rfl) d_Table_enter_49 (fun H locs hP hD hS => ?_)
    refine lv_istore (lv' := [(7, .int r13), (6, .int r9), (5, .int r5), (3, .long r1), (0, .ref (G 7)), (1, .int a1), (2, .int a2)]) hx hb d_Table_enter_52 hl (by decide) rfl (fun ls hl => ?_)
    refine lv_iload hx hb d_Table_enter_54 (lv_at hl 0 rfl) ?_
    refine lv_if_eq (tgt := 79) hx hb d_Table_enter_56 (by decide) (fun hc => ?_) (fun hc => ?_)
    · rw [if_pos hc] at hm
      refine lv_aload_n hx hb d_Table_enter_79 rfl (lv_at hl 4 rfl) ?_
      refine va_get (D := D) (ci := 4) (v := .ref (G 5)) (C := "FirmStore$Table") (T := F_Table) (N := 2) hx hb hts iz_Table hown hK hP 7 rfl rfl 1 (by decide) (hts _ q_87) (fun _ h9 => h9) rfl d_Table_enter_80 ?_
      obtain ⟨r17, u18, h19, hm⟩ := ob_some hm
      refine goVI (As := []) (rest := []) (b0 := G 5) 5 C0 (k_Blocks_countFree l D G Y h19) q_198 q_3 q_437 q_196 q_197 e_Blocks_countFree (by decide) rfl rfl hP hD hS hl.1 rfl (Nat.le_of_ble_eq_true rfl) d_Table_enter_83 (fun H locs hP hD hS => ?_)
      refine lv_if_ne (tgt := 91) hx hb d_Table_enter_86 (by decide) (fun hc => ?_) (fun hc => ?_)
      · rw [if_neg hc] at hm
        refine lv_aload_n hx hb d_Table_enter_91 rfl (lv_at hl 4 rfl) ?_
        refine va_get (D := D) (ci := 4) (v := .ref (G 5)) (C := "FirmStore$Table") (T := F_Table) (N := 2) hx hb hts iz_Table hown hK hP 7 rfl rfl 1 (by decide) (hts _ q_87) (fun _ h9 => h9) rfl d_Table_enter_92 ?_
        refine lv_iconst (v := (-1 : Int32)) hx hb d_Table_enter_95 (by decide) ?_
        refine lv_aload_n hx hb d_Table_enter_96 rfl (lv_at hl 4 rfl) ?_
        refine va_get (D := D) (ci := 4) (v := .ref (G 5)) (C := "FirmStore$Table") (T := F_Table) (N := 2) hx hb hts iz_Table hown hK hP 7 rfl rfl 1 (by decide) (hts _ q_87) (fun _ h9 => h9) rfl d_Table_enter_97 ?_
        refine lv_iload hx hb d_Table_enter_100 (lv_at hl 1 rfl) ?_
        obtain ⟨r21, u22, h23, hm⟩ := ob_some hm
        refine goVI (As := [.int r9]) (rest := [.int (-1 : Int32), .ref (G 5)]) (b0 := G 5) 5 C0 (k_Blocks_blockIn l D G Y h23) q_132 q_3 q_184 q_130 q_131 e_Blocks_blockIn (by decide) rfl rfl hP hD hS hl.1 rfl (Nat.le_of_ble_eq_true rfl) d_Table_enter_102 (fun H locs hP hD hS => ?_)
        refine lv_iconst (v := (0 : Int32)) hx hb d_Table_enter_105 (by decide) ?_
        refine lv_lload_n hx hb d_Table_enter_106 rfl (lv_at hl 3 rfl) ?_
        refine lv_lconst (v := (0 : Int64)) hx hb d_Table_enter_107 (by decide) ?_
        refine lv_lconst (v := (0 : Int64)) hx hb d_Table_enter_108 (by decide) ?_
        obtain ⟨r25, u26, h27, hm⟩ := ob_some hm
        refine goVI (As := [.int (-1 : Int32), .int r21, .int (0 : Int32), .long r1, .long (0 : Int64), .long (0 : Int64)]) (rest := []) (b0 := G 5) 5 C0 (k_Blocks_make l D G Y h27) q_346 q_3 q_438 q_344 q_345 e_Blocks_make (by decide) rfl rfl hP hD hS hl.1 rfl (Nat.le_of_ble_eq_true rfl) d_Table_enter_109 (fun H locs hP hD hS => ?_)
        refine lv_istore (lv' := [(8, .int r25), (7, .int r13), (6, .int r9), (5, .int r5), (3, .long r1), (0, .ref (G 7)), (1, .int a1), (2, .int a2)]) hx hb d_Table_enter_112 hl (by decide) rfl (fun ls hl => ?_)
        refine lv_iload hx hb d_Table_enter_114 (lv_at hl 0 rfl) ?_
        refine lv_if_eq (tgt := 138) hx hb d_Table_enter_116 (by decide) (fun hc => ?_) (fun hc => ?_)
        · rw [if_pos hc] at hm
          refine lv_bipush (v := (-2 : Int32)) hx hb d_Table_enter_138 (by decide) ?_
          exact hret _ _ _ _ (-2 : Int32) u26 (Option.some.inj hm) hP hD hS d_Table_enter_140
        · rw [if_neg hc] at hm
          refine lv_aload_n hx hb d_Table_enter_119 rfl (lv_at hl 5 rfl) ?_
          refine va_get (D := D) (ci := 4) (v := .ref (G 1)) (C := "FirmStore$Table") (T := F_Table) (N := 2) hx hb hts iz_Table hown hK hP 7 rfl rfl 0 (by decide) (hts _ q_86) (fun _ h9 => h9) rfl d_Table_enter_120 ?_
          refine lv_iload hx hb d_Table_enter_123 (lv_at hl 2 rfl) ?_
          refine lv_iload hx hb d_Table_enter_125 (lv_at hl 0 rfl) ?_
          refine lv_i2l (v := (r25.toInt64)) hx hb d_Table_enter_127 rfl ?_
          obtain ⟨r29, u30, h31, hm⟩ := ob_some hm
          refine goVZ (As := [.int r9, .long (r25.toInt64)]) (rest := []) (b0 := G 1) 1 C0 (k_Memory_firmStore l D G Y h31) q_362 q_2 q_436 q_360 q_361 e_Memory_firmStore (by decide) rfl rfl hP hD hS hl.1 rfl (Nat.le_of_ble_eq_true rfl) d_Table_enter_128 (fun H locs hz32 hP hD hS => ?_)
          refine lv_if_eq (tgt := 138) hx hb d_Table_enter_131 (by decide) (fun hc => ?_) (fun hc => ?_)
          · rw [if_pos hc] at hm
            refine lv_bipush (v := (-2 : Int32)) hx hb d_Table_enter_138 (by decide) ?_
            exact hret _ _ _ _ (-2 : Int32) u30 (Option.some.inj hm) hP hD hS d_Table_enter_140
          · rw [if_neg hc] at hm
            refine lv_iconst (v := (1 : Int32)) hx hb d_Table_enter_134 (by decide) ?_
            refine lv_goto (tgt := 140) hx hb d_Table_enter_135 (by decide) ?_
            exact hret _ _ _ _ (1 : Int32) u30 (Option.some.inj hm) hP hD hS d_Table_enter_140
      · rw [if_pos hc] at hm
        refine lv_iconst (v := (-1 : Int32)) hx hb d_Table_enter_89 (by decide) ?_
        exact hret _ _ _ _ (-1 : Int32) u18 (Option.some.inj hm) hP hD hS d_Table_enter_90
    · rw [if_neg hc] at hm
      refine lv_aload_n hx hb d_Table_enter_59 rfl (lv_at hl 4 rfl) ?_
      refine va_get (D := D) (ci := 4) (v := .ref (G 1)) (C := "FirmStore$Table") (T := F_Table) (N := 2) hx hb hts iz_Table hown hK hP 7 rfl rfl 0 (by decide) (hts _ q_86) (fun _ h9 => h9) rfl d_Table_enter_60 ?_
      refine lv_iload hx hb d_Table_enter_63 (lv_at hl 0 rfl) ?_
      refine lv_lload_n hx hb d_Table_enter_65 rfl (lv_at hl 3 rfl) ?_
      obtain ⟨r33, u34, h35, hm⟩ := ob_some hm
      refine goVZ (As := [.int r13, .long r1]) (rest := []) (b0 := G 1) 1 C0 (k_Memory_firmStore l D G Y h35) q_362 q_2 q_436 q_360 q_361 e_Memory_firmStore (by decide) rfl rfl hP hD hS hl.1 rfl (Nat.le_of_ble_eq_true rfl) d_Table_enter_66 (fun H locs hz36 hP hD hS => ?_)
      refine lv_if_eq (tgt := 76) hx hb d_Table_enter_69 (by decide) (fun hc => ?_) (fun hc => ?_)
      · rw [if_pos hc] at hm
        refine lv_bipush (v := (-2 : Int32)) hx hb d_Table_enter_76 (by decide) ?_
        exact hret _ _ _ _ (-2 : Int32) u34 (Option.some.inj hm) hP hD hS d_Table_enter_78
      · rw [if_neg hc] at hm
        refine lv_iconst (v := (1 : Int32)) hx hb d_Table_enter_72 (by decide) ?_
        refine lv_goto (tgt := 78) hx hb d_Table_enter_73 (by decide) ?_
        exact hret _ _ _ _ (1 : Int32) u34 (Option.some.inj hm) hP hD hS d_Table_enter_78
  · rw [if_neg hc] at hm
    refine lv_aload_n hx hb d_Table_enter_18 rfl (lv_at hl 2 rfl) ?_
    refine va_get (D := D) (ci := 4) (v := .ref (G 1)) (C := "FirmStore$Table") (T := F_Table) (N := 2) hx hb hts iz_Table hown hK hP 7 rfl rfl 0 (by decide) (hts _ q_86) (fun _ h9 => h9) rfl d_Table_enter_19 ?_
    refine lv_iload hx hb d_Table_enter_22 (lv_at hl 0 rfl) ?_
    refine lv_lload_n hx hb d_Table_enter_24 rfl (lv_at hl 1 rfl) ?_
    obtain ⟨r37, u38, h39, hm⟩ := ob_some hm
    refine goVZ (As := [.int r5, .long r1]) (rest := []) (b0 := G 1) 1 C0 (k_Memory_firmStore l D G Y h39) q_362 q_2 q_436 q_360 q_361 e_Memory_firmStore (by decide) rfl rfl hP hD hS hl.1 rfl (Nat.le_of_ble_eq_true rfl) d_Table_enter_25 (fun H locs hz40 hP hD hS => ?_)
    refine lv_if_eq (tgt := 35) hx hb d_Table_enter_28 (by decide) (fun hc => ?_) (fun hc => ?_)
    · rw [if_pos hc] at hm
      refine lv_bipush (v := (-2 : Int32)) hx hb d_Table_enter_35 (by decide) ?_
      exact hret _ _ _ _ (-2 : Int32) u38 (Option.some.inj hm) hP hD hS d_Table_enter_37
    · rw [if_neg hc] at hm
      refine lv_iconst (v := (0 : Int32)) hx hb d_Table_enter_31 (by decide) ?_
      refine lv_goto (tgt := 37) hx hb d_Table_enter_32 (by decide) ?_
      exact hret _ _ _ _ (0 : Int32) u38 (Option.some.inj hm) hP hD hS d_Table_enter_37
