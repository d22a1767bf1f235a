/-! models and contracts; written by wip/whole/gen.py -/
def m_Tree_dropPlace_L2 : Nat → SM → Int32 → Int32 → Option ((Int32 × SM) ⊕ (SM))
  | 0, _, _, _ => none
  | n0 + 1, ua, x3, x1 => if (6 : Int32) ≤ x3 then (some (.inr ua)) else (if (6 : Int32) ≤ (x3 + (1 : Int32)) then (ob (m_Blocks_addressOfPlace ua x1 x3) (fun r1 u2 => ob (m_Memory_firmStore u2 r1 (0 : Int64)) (fun r5 u6 => if r5 = 0 then (some (.inl ((0 : Int32), u6))) else (if (lg_cmp (0 : Int64) (0 : Int64)) = 0 then (some (.inl ((1 : Int32), u6))) else (m_Tree_dropPlace_L2 n0 u6 (x3 + (1 : Int32)) x1))))) else (ob (m_Blocks_entryAt ua x1 (x3 + (1 : Int32))) (fun r9 u10 => ob (m_Blocks_addressOfPlace u10 x1 x3) (fun r13 u14 => ob (m_Memory_firmStore u14 r13 r9) (fun r17 u18 => if r17 = 0 then (some (.inl ((0 : Int32), u18))) else (if (lg_cmp r9 (0 : Int64)) = 0 then (some (.inl ((1 : Int32), u18))) else (m_Tree_dropPlace_L2 n0 u18 (x3 + (1 : Int32)) x1)))))))
def m_Tree_dropPlace (u : SM) (a1 : Int32) (a2 : Int32) : Option (Int32 × SM) := ol0 (m_Tree_dropPlace_L2 fz u a2 a1) id (fun u21 => some ((1 : Int32), u21))
def m_Tree_dropAt (u : SM) (a1 : Int32) : Option (Int32 × SM) := ob (m_Blocks_addressOfPlace u (a1 / (9 : Int32)) (0 : Int32)) (fun r1 u2 => ob (m_Tree_dropPlace u2 (a1 / (9 : Int32)) (a1 - r1)) (fun r5 u6 => some (r5, u6)))
def m_Tree_insert_L21 : Nat → SM → Int32 → Int32 → Int64 → Int32 → Option ((Int32 × SM) ⊕ (SM))
  | 0, _, _, _, _, _ => none
  | n0 + 1, ua, x5, x1, x2, x4 => if x5 ≤ x4 then (some (.inr ua)) else (ob (m_Blocks_entryAt ua x1 (x5 - (1 : Int32))) (fun r1 u2 => ob (m_Blocks_addressOfPlace u2 x1 x5) (fun r5 u6 => ob (m_Memory_firmStore u6 r5 r1) (fun r9 u10 => if r9 = 0 then (some (.inl ((0 : Int32), u10))) else (m_Tree_insert_L21 n0 u10 (x5 + (-1 : Int32)) x1 x2 x4)))))
def m_Tree_insert (u : SM) (a1 : Int32) (a2 : Int64) : Option (Int32 × SM) := ob (m_Firm_keyOf u a2) (fun r13 u14 => ob (m_Tree_countLesser u14 a1 r13) (fun r17 u18 => ob (m_Blocks_rowLength u18 a1) (fun r21 u22 => ol0 (m_Tree_insert_L21 fz u22 r21 a1 a2 r17) id (fun u25 => ob (m_Blocks_addressOfPlace u25 a1 r17) (fun r26 u27 => ob (m_Memory_firmStore u27 r26 a2) (fun r30 u31 => some (r30, u31)))))))
def m_Tree_raise (u : SM) (a1 : Int32) (a2 : Int32) : Option (Int32 × SM) := ob (m_Blocks_blockIn u (0 : Int32)) (fun r1 u2 => ob (m_Blocks_lowOf u2 r1) (fun r5 u6 => ob (m_Firm_entryOf u6 r5 r1) (fun r9 u10 => ob (m_Blocks_lowOf u10 a1) (fun r13 u14 => ob (m_Firm_entryOf u14 r13 a1) (fun r17 u18 => ob (m_Blocks_make u18 a2 (0 : Int32) r5 r9 r17 (0 : Int64)) (fun r21 u22 => if r21 = 0 then (some ((0 : Int32), u22)) else (ob (m_Memory_firmStore u22 (0 : Int32) (r21.toInt64)) (fun r25 u26 => if r25 = 0 then (some ((0 : Int32), u26)) else (some ((1 : Int32), u26))))))))))
def m_Tree_split_L81 : Nat → SM → Int32 → Int32 → Int32 → Option ((Int32 × SM) ⊕ (SM))
  | 0, _, _, _, _ => none
  | n0 + 1, ua, x5, x1, x4 => if x5 < (3 : Int32) then (some (.inr ua)) else (ob (m_Blocks_addressOfPlace ua x1 x5) (fun r1 u2 => ob (m_Memory_store u2 r1 (0 : Int64)) (fun r5 u6 => if r5 = 0 then (some (.inl ((0 : Int32), u6))) else (m_Tree_split_L81 n0 u6 (x5 + (-1 : Int32)) x1 x4))))
def m_Tree_split (u : SM) (a1 : Int32) : Option (Int32 × SM) := ob (m_Blocks_entryAt u a1 (3 : Int32)) (fun r9 u10 => ob (m_Blocks_levelOf u10 a1) (fun r13 u14 => ob (m_Blocks_nextOf u14 a1) (fun r17 u18 => ob (m_Firm_keyOf u18 r9) (fun r21 u22 => ob (m_Blocks_entryAt u22 a1 (4 : Int32)) (fun r25 u26 => ob (m_Blocks_entryAt u26 a1 (5 : Int32)) (fun r29 u30 => ob (m_Blocks_make u30 r13 r17 r21 r9 r25 r29) (fun r33 u34 => if r33 = 0 then (some ((0 : Int32), u34)) else (ob (m_Blocks_linkNext u34 a1 r33) (fun r37 u38 => if r37 = 0 then (some ((0 : Int32), u38)) else (ol0 (m_Tree_split_L81 fz u38 (5 : Int32) a1 r33) id (fun u41 => ob (m_Memory_fence u41) (fun _ u43 => some (r33, u43)))))))))))))
def m_Tree_hang : Nat → SM → Int32 → Int32 → Option (Int32 × SM)
  | 0, _, _, _ => none
  | d + 1, u, a1, a2 => if a2 ≤ (30 : Int32) then (ob (m_Tree_topLevel u) (fun r1 u2 => if a2 ≤ r1 then (ob (m_Blocks_lowOf u2 a1) (fun r5 u6 => ob (m_Tree_find u6 r5 a2) (fun r9 u10 => ob (m_Blocks_isFull u10 r9) (fun r13 u14 => if r13 = 0 then (ob (m_Firm_entryOf u14 r5 a1) (fun r17 u18 => ob (m_Tree_insert u18 r9 r17) (fun r21 u22 => some (r21, u22)))) else (ob (m_Tree_split u14 r9) (fun r25 u26 => if r25 = 0 then (some ((0 : Int32), u26)) else (ob (m_Tree_hang d u26 r25 (a2 + (1 : Int32))) (fun r29 u30 => if r29 = 0 then (some ((0 : Int32), u30)) else (ob (m_Tree_find u30 r5 a2) (fun r33 u34 => ob (m_Firm_entryOf u34 r5 a1) (fun r37 u38 => ob (m_Tree_insert u38 r33 r37) (fun r41 u42 => some (r41, u42))))))))))))) else (ob (m_Tree_raise u2 a1 a2) (fun r45 u46 => some (r45, u46))))) else (some ((0 : Int32), u))
def m_Tree_isHung_L43 : Nat → SM → Int32 → Int32 → Int32 → Int32 → Int32 → Option ((Int32 × SM) ⊕ (SM))
  | 0, _, _, _, _, _, _ => none
  | n0 + 1, ua, x6, x1, x3, x4, x5 => if x5 ≤ x6 then (some (.inr ua)) else (ob (m_Blocks_childAt ua x3 x6) (fun r1 u2 => if r1 = x1 then (some (.inl ((1 : Int32), u2))) else (m_Tree_isHung_L43 n0 u2 (x6 + (1 : Int32)) x1 x3 x4 x5)))
def m_Tree_isHung_L19 : Nat → SM → Int32 → Int32 → Int32 → Option ((Int32 × SM) ⊕ (SM))
  | 0, _, _, _, _ => none
  | n0 + 1, ua, x3, x4, x1 => if (30 : Int32) ≤ x4 then (some (.inr ua)) else (if x3 = 0 then (some (.inr ua)) else (ob (m_Blocks_rowLength ua x3) (fun r5 u6 => ol0 (m_Tree_isHung_L43 fz u6 (0 : Int32) x1 x3 x4 r5) Sum.inl (fun u9 => ob (m_Blocks_nextOf u9 x3) (fun r10 u11 => m_Tree_isHung_L19 n0 u11 r10 (x4 + (1 : Int32)) x1)))))
def m_Tree_isHung (u : SM) (a1 : Int32) (a2 : Int32) : Option (Int32 × SM) := ob (m_Tree_topLevel u) (fun r14 u15 => if a2 ≤ r14 then (ob (m_Tree_firstOf u15 a2) (fun r18 u19 => ol0 (m_Tree_isHung_L19 fz u19 r18 (0 : Int32) a1) id (fun u22 => some ((0 : Int32), u22)))) else (some ((0 : Int32), u15)))
def m_Tree_blocksToSplit_L13 : Nat → SM → Int32 → Int32 → Int32 → Int32 → Option ((Int32 × SM) ⊕ (Int32 × SM))
  | 0, _, _, _, _, _ => none
  | n0 + 1, ua, x3, x4, x5, x2 => if (30 : Int32) ≤ x5 then (some (.inr (x3, ua))) else (if x2 < x5 then (some (.inr (x3, ua))) else (ob (m_Tree_keyAt ua x4 (3 : Int32)) (fun r1 u2 => ob (m_Tree_find u2 r1 x5) (fun r5 u6 => ob (m_Blocks_isFull u6 r5) (fun r9 u10 => if r9 = 0 then (some (.inl (x3, u10))) else (m_Tree_blocksToSplit_L13 n0 u10 (x3 + (1 : Int32)) r5 (x5 + (1 : Int32)) x2))))))
def m_Tree_blocksToSplit (u : SM) (a1 : Int32) : Option (Int32 × SM) := ob (m_Tree_topLevel u) (fun r13 u14 => ol1 (m_Tree_blocksToSplit_L13 fz u14 (1 : Int32) a1 (1 : Int32) r13) id (fun x17 u18 => some ((x17 + (1 : Int32)), u18)))
def m_Tree_plant (u : SM) (a1 : Int64) : Option (Int32 × SM) := ob (m_Blocks_countFree u) (fun r1 u2 => if r1 = 0 then (some ((-1 : Int32), u2)) else (ob (m_Blocks_make u2 (0 : Int32) (0 : Int32) (0 : Int32) a1 (0 : Int64) (0 : Int64)) (fun r5 u6 => if r5 = 0 then (some ((-2 : Int32), u6)) else (ob (m_Memory_firmStore u6 (0 : Int32) (r5.toInt64)) (fun r9 u10 => if r9 = 0 then (some ((-2 : Int32), u10)) else (some ((1 : Int32), u10)))))))
def m_Tree_enter_J127 (ua : SM) (x3 : Int64) (x6 : Int32) : Option (Int32 × SM) := ob (m_Tree_insert ua x6 x3) (fun r49 u50 => if r49 = 0 then (some ((-2 : Int32), u50)) else (some ((1 : Int32), u50)))
def m_Tree_enter (u : SM) (a1 : Int32) (a2 : Int32) : Option (Int32 × SM) := ob (m_Firm_entryOf u a1 a2) (fun r1 u2 => ob (m_Blocks_blockIn u2 (0 : Int32)) (fun r5 u6 => if r5 = 0 then (ob (m_Tree_plant u6 r1) (fun r45 u46 => some (r45, u46))) else (ob (m_Tree_seek u6 a1) (fun r9 u10 => if r9 = 0 then (ob (m_Tree_find u10 a1 (0 : Int32)) (fun r13 u14 => ob (m_Blocks_isFull u14 r13) (fun r17 u18 => if r17 = 0 then (m_Tree_enter_J127 u18 r1 r13) else (ob (m_Blocks_countFree u18) (fun r21 u22 => ob (m_Tree_blocksToSplit u22 r13) (fun r25 u26 => if r25 ≤ r21 then (ob (m_Tree_split u26 r13) (fun r29 u30 => if r29 = 0 then (some ((-2 : Int32), u30)) else (ob (m_Tree_hang 40 u30 r29 (1 : Int32)) (fun r33 u34 => if r33 = 0 then (some ((-2 : Int32), u34)) else (ob (m_Tree_find u34 a1 (0 : Int32)) (fun r37 u38 => m_Tree_enter_J127 u38 r1 r37)))))) else (some ((-1 : Int32), u26)))))))) else (ob (m_Memory_firmStore u10 r9 r1) (fun r41 u42 => if r41 = 0 then (some ((-2 : Int32), u42)) else (some ((0 : Int32), u42))))))))
def m_Tree_secondTwin_L11 : Nat → SM → Int32 → Int32 → Int32 → Option ((Int32 × SM) ⊕ (SM))
  | 0, _, _, _, _ => none
  | n0 + 1, ua, x3, x1, x2 => if x2 ≤ x3 then (some (.inr ua)) else (ob (m_Tree_keyAt ua x1 x3) (fun r1 u2 => ob (m_Tree_keyAt u2 x1 (x3 - (1 : Int32))) (fun r5 u6 => if r1 = r5 then (some (.inl (x3, u6))) else (m_Tree_secondTwin_L11 n0 u6 (x3 + (1 : Int32)) x1 x2))))
def m_Tree_secondTwin (u : SM) (a1 : Int32) : Option (Int32 × SM) := ob (m_Blocks_rowLength u a1) (fun r9 u10 => ol0 (m_Tree_secondTwin_L11 fz u10 (1 : Int32) a1 r9) id (fun u13 => some ((0 : Int32), u13)))
def m_Tree_dropTwins_L2 : Nat → SM → Int32 → Int32 → Option ((Int32 × SM) ⊕ (SM))
  | 0, _, _, _ => none
  | n0 + 1, ua, x2, x1 => if (6 : Int32) ≤ x2 then (some (.inr ua)) else (ob (m_Tree_secondTwin ua x1) (fun r1 u2 => if r1 = 0 then (some (.inl ((1 : Int32), u2))) else (ob (m_Tree_dropPlace u2 x1 r1) (fun r5 u6 => if r5 = 0 then (some (.inl ((0 : Int32), u6))) else (m_Tree_dropTwins_L2 n0 u6 (x2 + (1 : Int32)) x1)))))
def m_Tree_dropTwins (u : SM) (a1 : Int32) : Option (Int32 × SM) := ol0 (m_Tree_dropTwins_L2 fz u (0 : Int32) a1) id (fun u9 => some ((1 : Int32), u9))
def m_Tree_isWrong (u : SM) (a1 : Int32) (a2 : Int32) : Option (Int32 × SM) := ob (m_Blocks_entryAt u a1 a2) (fun r1 u2 => if (lg_cmp r1 (0 : Int64)) = 0 then (some ((0 : Int32), u2)) else (ob (m_Blocks_nextOf u2 a1) (fun r5 u6 => ob (m_Blocks_rowLength u6 a1) (fun r9 u10 => if r9 < a2 then (some ((1 : Int32), u10)) else (if r5 = 0 then (some ((0 : Int32), u10)) else (ob (m_Firm_keyOf u10 r1) (fun r13 u14 => ob (m_Blocks_lowOf u14 r5) (fun r17 u18 => if r13 < r17 then (some ((0 : Int32), u18)) else (some ((1 : Int32), u18))))))))))
def m_Tree_clearWrong_L2 : Nat → SM → Int32 → Int32 → Option ((Int32 × SM) ⊕ (SM))
  | 0, _, _, _ => none
  | n0 + 1, ua, x2, x1 => if x2 < 0 then (some (.inr ua)) else (ob (m_Tree_isWrong ua x1 x2) (fun r1 u2 => if r1 = 0 then (m_Tree_clearWrong_L2 n0 u2 (x2 + (-1 : Int32)) x1) else (ob (m_Blocks_addressOfPlace u2 x1 x2) (fun r5 u6 => ob (m_Memory_store u6 r5 (0 : Int64)) (fun r9 u10 => if r9 = 0 then (some (.inl ((0 : Int32), u10))) else (m_Tree_clearWrong_L2 n0 u10 (x2 + (-1 : Int32)) x1))))))
def m_Tree_clearWrong (u : SM) (a1 : Int32) : Option (Int32 × SM) := ol0 (m_Tree_clearWrong_L2 fz u (5 : Int32) a1) id (fun u13 => ob (m_Memory_fence u13) (fun _ u15 => some ((1 : Int32), u15)))
def m_Tree_putRight_L27 : Nat → SM → Int32 → Int32 → Int32 → Int32 → Option ((Int32 × SM) ⊕ (SM))
  | 0, _, _, _, _, _ => none
  | n0 + 1, ua, x3, x4, x1, x2 => if (30 : Int32) ≤ x4 then (some (.inr ua)) else (if x3 = 0 then (some (.inr ua)) else (ob (m_Tree_clearWrong ua x3) (fun r1 u2 => if r1 = 0 then (some (.inl ((0 : Int32), u2))) else (ob (m_Tree_dropTwins u2 x3) (fun r5 u6 => if r5 = 0 then (some (.inl ((0 : Int32), u6))) else (ob (m_Blocks_nextOf u6 x3) (fun r9 u10 => m_Tree_putRight_L27 n0 u10 r9 (x4 + (1 : Int32)) x1 x2)))))))
def m_Tree_putRight_L7 : Nat → SM → Int32 → Int32 → Option ((Int32 × SM) ⊕ (SM))
  | 0, _, _, _ => none
  | n0 + 1, ua, x2, x1 => if (30 : Int32) ≤ x2 then (some (.inr ua)) else (if x1 < x2 then (some (.inr ua)) else (ob (m_Tree_firstOf ua x2) (fun r13 u14 => ol0 (m_Tree_putRight_L27 fz u14 r13 (0 : Int32) x1 x2) Sum.inl (fun u17 => m_Tree_putRight_L7 n0 u17 (x2 + (1 : Int32)) x1))))
def m_Tree_putRight (u : SM)  : Option (Int32 × SM) := ob (m_Tree_topLevel u) (fun r18 u19 => ol0 (m_Tree_putRight_L7 fz u19 (0 : Int32) r18) id (fun u22 => some ((1 : Int32), u22)))
def m_Tree_hangStrays_L31 : Nat → SM → Int32 → Int32 → Int32 → Option ((Int32 × SM) ⊕ (SM))
  | 0, _, _, _, _ => none
  | n0 + 1, ua, x2, x3, x1 => if (30 : Int32) ≤ x3 then (some (.inr ua)) else (if x2 = 0 then (some (.inr ua)) else (ob (m_Tree_isHung ua x2 (x1 + (1 : Int32))) (fun r1 u2 => if r1 = 0 then (ob (m_Tree_hang 40 u2 x2 (x1 + (1 : Int32))) (fun r9 u10 => if r9 = 0 then (some (.inl ((0 : Int32), u10))) else (ob (m_Blocks_nextOf u10 x2) (fun r13 u14 => m_Tree_hangStrays_L31 n0 u14 r13 (x3 + (1 : Int32)) x1)))) else (ob (m_Blocks_nextOf u2 x2) (fun r5 u6 => m_Tree_hangStrays_L31 n0 u6 r5 (x3 + (1 : Int32)) x1)))))
def m_Tree_hangStrays_L2 : Nat → SM → Int32 → Option ((Int32 × SM) ⊕ (SM))
  | 0, _, _ => none
  | n0 + 1, ua, x1 => if (30 : Int32) ≤ x1 then (some (.inr ua)) else (ob (m_Tree_topLevel ua) (fun r17 u18 => if r17 < x1 then (some (.inr u18)) else (ob (m_Tree_firstOf u18 x1) (fun r21 u22 => ob (m_Blocks_nextOf u22 r21) (fun r25 u26 => ol0 (m_Tree_hangStrays_L31 fz u26 r25 (0 : Int32) x1) Sum.inl (fun u29 => m_Tree_hangStrays_L2 n0 u29 (x1 + (1 : Int32))))))))
def m_Tree_hangStrays (u : SM)  : Option (Int32 × SM) := ol0 (m_Tree_hangStrays_L2 fz u (0 : Int32)) id (fun u30 => some ((1 : Int32), u30))
theorem d_Tree_dropPlace_0 : decode b_Tree_dropPlace 0 = .ok (.iload_n 2, 1) := by decide +kernel
theorem d_Tree_dropPlace_1 : decode b_Tree_dropPlace 1 = .ok (.istore_n 3, 1) := by decide +kernel
theorem d_Tree_dropPlace_2 : decode b_Tree_dropPlace 2 = .ok (.iload_n 3, 1) := by decide +kernel
theorem d_Tree_dropPlace_3 : decode b_Tree_dropPlace 3 = .ok (.bipush 6, 2) := by decide +kernel
theorem d_Tree_dropPlace_5 : decode b_Tree_dropPlace 5 = .ok (.if_icmp .ge 66, 3) := by decide +kernel
theorem d_Tree_dropPlace_8 : decode b_Tree_dropPlace 8 = .ok (.iload_n 3, 1) := by decide +kernel
theorem d_Tree_dropPlace_9 : decode b_Tree_dropPlace 9 = .ok (.iconst 1, 1) := by decide +kernel
theorem d_Tree_dropPlace_10 : decode b_Tree_dropPlace 10 = .ok (.iadd, 1) := by decide +kernel
theorem d_Tree_dropPlace_11 : decode b_Tree_dropPlace 11 = .ok (.bipush 6, 2) := by decide +kernel
theorem d_Tree_dropPlace_13 : decode b_Tree_dropPlace 13 = .ok (.if_icmp .ge 17, 3) := by decide +kernel
theorem d_Tree_dropPlace_16 : decode b_Tree_dropPlace 16 = .ok (.aload_n 0, 1) := by decide +kernel
theorem d_Tree_dropPlace_17 : decode b_Tree_dropPlace 17 = .ok (.getfield 15, 3) := by decide +kernel
theorem d_Tree_dropPlace_20 : decode b_Tree_dropPlace 20 = .ok (.iload_n 1, 1) := by decide +kernel
theorem d_Tree_dropPlace_21 : decode b_Tree_dropPlace 21 = .ok (.iload_n 3, 1) := by decide +kernel
theorem d_Tree_dropPlace_22 : decode b_Tree_dropPlace 22 = .ok (.iconst 1, 1) := by decide +kernel
theorem d_Tree_dropPlace_23 : decode b_Tree_dropPlace 23 = .ok (.iadd, 1) := by decide +kernel
theorem d_Tree_dropPlace_24 : decode b_Tree_dropPlace 24 = .ok (.invokevirtual 119, 3) := by decide +kernel
theorem d_Tree_dropPlace_27 : decode b_Tree_dropPlace 27 = .ok (.goto 4, 3) := by decide +kernel
theorem d_Tree_dropPlace_30 : decode b_Tree_dropPlace 30 = .ok (.lconst 0, 1) := by decide +kernel
theorem d_Tree_dropPlace_31 : decode b_Tree_dropPlace 31 = .ok (.lstore 4, 2) := by decide +kernel
theorem d_Tree_dropPlace_33 : decode b_Tree_dropPlace 33 = .ok (.aload_n 0, 1) := by decide +kernel
theorem d_Tree_dropPlace_34 : decode b_Tree_dropPlace 34 = .ok (.getfield 9, 3) := by decide +kernel
theorem d_Tree_dropPlace_37 : decode b_Tree_dropPlace 37 = .ok (.aload_n 0, 1) := by decide +kernel
theorem d_Tree_dropPlace_38 : decode b_Tree_dropPlace 38 = .ok (.getfield 15, 3) := by decide +kernel
theorem d_Tree_dropPlace_41 : decode b_Tree_dropPlace 41 = .ok (.iload_n 1, 1) := by decide +kernel
theorem d_Tree_dropPlace_42 : decode b_Tree_dropPlace 42 = .ok (.iload_n 3, 1) := by decide +kernel
theorem d_Tree_dropPlace_43 : decode b_Tree_dropPlace 43 = .ok (.invokevirtual 41, 3) := by decide +kernel
theorem d_Tree_dropPlace_46 : decode b_Tree_dropPlace 46 = .ok (.lload 4, 2) := by decide +kernel
theorem d_Tree_dropPlace_48 : decode b_Tree_dropPlace 48 = .ok (.invokevirtual 64, 3) := by decide +kernel
theorem d_Tree_dropPlace_51 : decode b_Tree_dropPlace 51 = .ok (.ifCond .ne 5, 3) := by decide +kernel
theorem d_Tree_dropPlace_54 : decode b_Tree_dropPlace 54 = .ok (.iconst 0, 1) := by decide +kernel
theorem d_Tree_dropPlace_55 : decode b_Tree_dropPlace 55 = .ok (.ireturn, 1) := by decide +kernel
theorem d_Tree_dropPlace_56 : decode b_Tree_dropPlace 56 = .ok (.lload 4, 2) := by decide +kernel
theorem d_Tree_dropPlace_58 : decode b_Tree_dropPlace 58 = .ok (.lconst 0, 1) := by decide +kernel
theorem d_Tree_dropPlace_59 : decode b_Tree_dropPlace 59 = .ok (.lcmp, 1) := by decide +kernel
theorem d_Tree_dropPlace_60 : decode b_Tree_dropPlace 60 = .ok (.ifCond .ne 5, 3) := by decide +kernel
theorem d_Tree_dropPlace_63 : decode b_Tree_dropPlace 63 = .ok (.iconst 1, 1) := by decide +kernel
theorem d_Tree_dropPlace_64 : decode b_Tree_dropPlace 64 = .ok (.ireturn, 1) := by decide +kernel
theorem d_Tree_dropPlace_65 : decode b_Tree_dropPlace 65 = .ok (.iinc 3 1, 3) := by decide +kernel
theorem d_Tree_dropPlace_68 : decode b_Tree_dropPlace 68 = .ok (.goto (-66), 3) := by decide +kernel
theorem d_Tree_dropPlace_71 : decode b_Tree_dropPlace 71 = .ok (.iconst 1, 1) := by decide +kernel
theorem d_Tree_dropPlace_72 : decode b_Tree_dropPlace 72 = .ok (.ireturn, 1) := by decide +kernel
set_option maxRecDepth 100000 in
set_option maxHeartbeats 4000000 in
theorem k_Tree_dropPlace (l : Launch) (D : va_G) (G : Nat → Nat) (Y : Nat → ClassId) {u : SM} {a1 : Int32} {a2 : Int32} {r : Int32} {u' : SM} (hm : m_Tree_dropPlace u a1 a2 = some (r, u')) : KZ l D clz (tyz Y) (wdC G Y) y_Tree_dropPlace b_Tree_dropPlace 6 (some .boolean) 3 67 [.ref (G 6), .int a1, .int a2] u r u' := by
  refine mkZ (by decide) (Nat.le_of_ble_eq_true rfl) ?_
  intro p e s m below meth c A Z ls C0 hP hD hS hl hret
  obtain ⟨hx, hb, hml, hown, hts, hK, hN, hA⟩ := id C0
  have hl : lv_has ls 6 [(0, .ref (G 6)), (1, .int a1), (2, .int a2)] := hl
  have L2 : ∀ (x1 : Int32) (o : (Int32 × SM) ⊕ (SM)) (kr : ∀ z, o = .inl z → z = (r, u')) (kx : ∀  (ub : SM), o = .inr ub → ∀ (H : Heap) (locs : List Loc) (ls : Array Slot), va_P D clz (wdC G Y ub) H → va_D A (wdC G Y ub) → va_S A s.heap H locs → lv_has ls 6 [] → W p l e (zRm 3 67) s m ([.ref (G 6), .int a1, .int a2] : List Value).toArray below meth c H locs 0 0 Z (F0 m 71 ls [])) (n0 : Nat) (ua : SM) (x3 : Int32), m_Tree_dropPlace_L2 n0 ua x3 x1 = some o → ∀ (H : Heap) (locs : List Loc) (ls : Array Slot), va_P D clz (wdC G Y ua) H → va_D A (wdC G Y ua) → va_S A s.heap H locs → lv_has ls 6 [(0, .ref (G 6)), (1, .int x1), (3, .int x3)] → W p l e (zRm 3 67) s m ([.ref (G 6), .int a1, .int a2] : List Value).toArray below meth c H locs 0 0 Z (F0 m 2 ls []) := by
    intro x1 o kr kx n0
    induction n0 with
    | zero => intro ua x3 hm; rw [m_Tree_dropPlace_L2] at hm; cases hm
    | succ n0 ih =>
      intro ua x3 hm H locs ls hP hD hS hl
      rw [m_Tree_dropPlace_L2] at hm
      refine lv_iload_n hx hb d_Tree_dropPlace_2 rfl (lv_at hl 2 rfl) ?_
      refine lv_bipush (v := (6 : Int32)) hx hb d_Tree_dropPlace_3 (by decide) ?_
      refine lv_icmp_ge (tgt := 71) hx hb d_Tree_dropPlace_5 (by decide) (fun hc => ?_) (fun hc => ?_)
      · rw [if_pos hc] at hm
        exact kx  ua (Option.some.inj hm).symm _ _ _ hP hD hS (lv_sub hl [] rfl)
      · rw [if_neg hc] at hm
        refine lv_iload_n hx hb d_Tree_dropPlace_8 rfl (lv_at hl 2 rfl) ?_
        refine lv_iconst (v := (1 : Int32)) hx hb d_Tree_dropPlace_9 (by decide) ?_
        refine lv_iadd hx hb d_Tree_dropPlace_10 ?_
        refine lv_bipush (v := (6 : Int32)) hx hb d_Tree_dropPlace_11 (by decide) ?_
        refine lv_icmp_ge (tgt := 30) hx hb d_Tree_dropPlace_13 (by decide) (fun hc => ?_) (fun hc => ?_)
        · rw [if_pos hc] at hm
          refine lv_lconst (v := (0 : Int64)) hx hb d_Tree_dropPlace_30 (by decide) ?_
          refine lv_lstore (lv' := [(4, .long (0 : Int64)), (0, .ref (G 6)), (1, .int x1), (3, .int x3)]) hx hb d_Tree_dropPlace_31 hl (by decide) rfl (fun ls hl => ?_)
          refine lv_aload_n hx hb d_Tree_dropPlace_33 rfl (lv_at hl 1 rfl) ?_
          refine va_get (D := D) (ci := 3) (v := .ref (G 1)) (C := "FirmStore$Tree") (T := F_Tree) (N := 2) hx hb hts iz_Tree hown hK hP 6 rfl rfl 0 (by decide) (hts _ q_73) (fun _ h9 => h9) rfl d_Tree_dropPlace_34 ?_
          refine lv_aload_n hx hb d_Tree_dropPlace_37 rfl (lv_at hl 1 rfl) ?_
          refine va_get (D := D) (ci := 3) (v := .ref (G 5)) (C := "FirmStore$Tree") (T := F_Tree) (N := 2) hx hb hts iz_Tree hown hK hP 6 rfl rfl 1 (by decide) (hts _ q_74) (fun _ h9 => h9) rfl d_Tree_dropPlace_38 ?_
          refine lv_iload_n hx hb d_Tree_dropPlace_41 rfl (lv_at hl 2 rfl) ?_
          refine lv_iload_n hx hb d_Tree_dropPlace_42 rfl (lv_at hl 3 rfl) ?_
          obtain ⟨r1, u2, h3, hm⟩ := ob_some hm
          refine goVI (As := [.int x1, .int x3]) (rest := [.ref (G 1)]) (b0 := G 5) 5 C0 (k_Blocks_addressOfPlace l D G Y h3) q_384 q_3 q_381 q_382 q_383 e_Blocks_addressOfPlace (by decide) rfl rfl hP hD hS hl.1 rfl (Nat.le_of_ble_eq_true rfl) d_Tree_dropPlace_43 (fun H locs hP hD hS => ?_)
          refine lv_lload hx hb d_Tree_dropPlace_46 (lv_at hl 0 rfl) ?_
          obtain ⟨r5, u6, h7, hm⟩ := ob_some hm
          refine goVZ (As := [.int r1, .long (0 : Int64)]) (rest := []) (b0 := G 1) 1 C0 (k_Memory_firmStore l D G Y h7) q_362 q_2 q_359 q_360 q_361 e_Memory_firmStore (by decide) rfl rfl hP hD hS hl.1 rfl (Nat.le_of_ble_eq_true rfl) d_Tree_dropPlace_48 (fun H locs hz8 hP hD hS => ?_)
          refine lv_if_ne (tgt := 56) hx hb d_Tree_dropPlace_51 (by decide) (fun hc => ?_) (fun hc => ?_)
          · rw [if_neg hc] at hm
            refine lv_lload hx hb d_Tree_dropPlace_56 (lv_at hl 0 rfl) ?_
            refine lv_lconst (v := (0 : Int64)) hx hb d_Tree_dropPlace_58 (by decide) ?_
            refine W.lcmp hx hb d_Tree_dropPlace_59 ?_
            refine lv_if_ne (tgt := 65) hx hb d_Tree_dropPlace_60 (by decide) (fun hc => ?_) (fun hc => ?_)
            · rw [if_neg hc] at hm
              refine lv_iinc (v := (x3 + (1 : Int32))) (lv' := [(3, .int (x3 + (1 : Int32))), (4, .long (0 : Int64)), (0, .ref (G 6)), (1, .int x1)]) hx hb d_Tree_dropPlace_65 hl (k := 3) rfl rfl (by decide) rfl (fun ls hl => ?_)
              refine lv_goto (tgt := 2) hx hb d_Tree_dropPlace_68 (by decide) ?_
              exact ih u6 (x3 + (1 : Int32)) hm _ _ _ hP hD hS (lv_sub hl [2, 3, 0] rfl)
            · rw [if_pos hc] at hm
              refine lv_iconst (v := (1 : Int32)) hx hb d_Tree_dropPlace_63 (by decide) ?_
              exact hret _ _ _ _ (1 : Int32) u6 (kr _ (Option.some.inj hm).symm) (Or.inr rfl) hP hD hS d_Tree_dropPlace_64
          · rw [if_pos hc] at hm
            refine lv_iconst (v := (0 : Int32)) hx hb d_Tree_dropPlace_54 (by decide) ?_
            exact hret _ _ _ _ (0 : Int32) u6 (kr _ (Option.some.inj hm).symm) (Or.inl rfl) hP hD hS d_Tree_dropPlace_55
        · rw [if_neg hc] at hm
          refine lv_aload_n hx hb d_Tree_dropPlace_16 rfl (lv_at hl 0 rfl) ?_
          refine va_get (D := D) (ci := 3) (v := .ref (G 5)) (C := "FirmStore$Tree") (T := F_Tree) (N := 2) hx hb hts iz_Tree hown hK hP 6 rfl rfl 1 (by decide) (hts _ q_74) (fun _ h9 => h9) rfl d_Tree_dropPlace_17 ?_
          refine lv_iload_n hx hb d_Tree_dropPlace_20 rfl (lv_at hl 1 rfl) ?_
          refine lv_iload_n hx hb d_Tree_dropPlace_21 rfl (lv_at hl 2 rfl) ?_
          refine lv_iconst (v := (1 : Int32)) hx hb d_Tree_dropPlace_22 (by decide) ?_
          refine lv_iadd hx hb d_Tree_dropPlace_23 ?_
          obtain ⟨r9, u10, h11, hm⟩ := ob_some hm
          refine goVL (As := [.int x1, .int (x3 + (1 : Int32))]) (rest := []) (b0 := G 5) 5 C0 (k_Blocks_entryAt l D G Y h11) q_176 q_3 q_173 q_174 q_175 e_Blocks_entryAt (by decide) rfl rfl hP hD hS hl.1 rfl (Nat.le_of_ble_eq_true rfl) d_Tree_dropPlace_24 (fun H locs hP hD hS => ?_)
          refine lv_goto (tgt := 31) hx hb d_Tree_dropPlace_27 (by decide) ?_
          refine lv_lstore (lv' := [(4, .long r9), (0, .ref (G 6)), (1, .int x1), (3, .int x3)]) hx hb d_Tree_dropPlace_31 hl (by decide) rfl (fun ls hl => ?_)
          refine lv_aload_n hx hb d_Tree_dropPlace_33 rfl (lv_at hl 1 rfl) ?_
          refine va_get (D := D) (ci := 3) (v := .ref (G 1)) (C := "FirmStore$Tree") (T := F_Tree) (N := 2) hx hb hts iz_Tree hown hK hP 6 rfl rfl 0 (by decide) (hts _ q_73) (fun _ h9 => h9) rfl d_Tree_dropPlace_34 ?_
          refine lv_aload_n hx hb d_Tree_dropPlace_37 rfl (lv_at hl 1 rfl) ?_
          refine va_get (D := D) (ci := 3) (v := .ref (G 5)) (C := "FirmStore$Tree") (T := F_Tree) (N := 2) hx hb hts iz_Tree hown hK hP 6 rfl rfl 1 (by decide) (hts _ q_74) (fun _ h9 => h9) rfl d_Tree_dropPlace_38 ?_
          refine lv_iload_n hx hb d_Tree_dropPlace_41 rfl (lv_at hl 2 rfl) ?_
          refine lv_iload_n hx hb d_Tree_dropPlace_42 rfl (lv_at hl 3 rfl) ?_
          obtain ⟨r13, u14, h15, hm⟩ := ob_some hm
          refine goVI (As := [.int x1, .int x3]) (rest := [.ref (G 1)]) (b0 := G 5) 5 C0 (k_Blocks_addressOfPlace l D G Y h15) q_384 q_3 q_381 q_382 q_383 e_Blocks_addressOfPlace (by decide) rfl rfl hP hD hS hl.1 rfl (Nat.le_of_ble_eq_true rfl) d_Tree_dropPlace_43 (fun H locs hP hD hS => ?_)
          refine lv_lload hx hb d_Tree_dropPlace_46 (lv_at hl 0 rfl) ?_
          obtain ⟨r17, u18, h19, hm⟩ := ob_some hm
          refine goVZ (As := [.int r13, .long r9]) (rest := []) (b0 := G 1) 1 C0 (k_Memory_firmStore l D G Y h19) q_362 q_2 q_359 q_360 q_361 e_Memory_firmStore (by decide) rfl rfl hP hD hS hl.1 rfl (Nat.le_of_ble_eq_true rfl) d_Tree_dropPlace_48 (fun H locs hz20 hP hD hS => ?_)
          refine lv_if_ne (tgt := 56) hx hb d_Tree_dropPlace_51 (by decide) (fun hc => ?_) (fun hc => ?_)
          · rw [if_neg hc] at hm
            refine lv_lload hx hb d_Tree_dropPlace_56 (lv_at hl 0 rfl) ?_
            refine lv_lconst (v := (0 : Int64)) hx hb d_Tree_dropPlace_58 (by decide) ?_
            refine W.lcmp hx hb d_Tree_dropPlace_59 ?_
            refine lv_if_ne (tgt := 65) hx hb d_Tree_dropPlace_60 (by decide) (fun hc => ?_) (fun hc => ?_)
            · rw [if_neg hc] at hm
              refine lv_iinc (v := (x3 + (1 : Int32))) (lv' := [(3, .int (x3 + (1 : Int32))), (4, .long r9), (0, .ref (G 6)), (1, .int x1)]) hx hb d_Tree_dropPlace_65 hl (k := 3) rfl rfl (by decide) rfl (fun ls hl => ?_)
              refine lv_goto (tgt := 2) hx hb d_Tree_dropPlace_68 (by decide) ?_
              exact ih u18 (x3 + (1 : Int32)) hm _ _ _ hP hD hS (lv_sub hl [2, 3, 0] rfl)
            · rw [if_pos hc] at hm
              refine lv_iconst (v := (1 : Int32)) hx hb d_Tree_dropPlace_63 (by decide) ?_
              exact hret _ _ _ _ (1 : Int32) u18 (kr _ (Option.some.inj hm).symm) (Or.inr rfl) hP hD hS d_Tree_dropPlace_64
          · rw [if_pos hc] at hm
            refine lv_iconst (v := (0 : Int32)) hx hb d_Tree_dropPlace_54 (by decide) ?_
            exact hret _ _ _ _ (0 : Int32) u18 (kr _ (Option.some.inj hm).symm) (Or.inl rfl) hP hD hS d_Tree_dropPlace_55
  rw [m_Tree_dropPlace] at hm
  refine lv_iload_n hx hb d_Tree_dropPlace_0 rfl (lv_at hl 2 rfl) ?_
  refine lv_istore_n (lv' := [(3, .int a2), (0, .ref (G 6)), (1, .int a1), (2, .int a2)]) hx hb d_Tree_dropPlace_1 rfl hl (by decide) rfl (fun ls hl => ?_)
  obtain ⟨qq, hq, hi, ho⟩ := ol0_some hm
  refine L2 a1 qq (fun z hz => hi z hz) (fun  u21 hz H locs ls hP hD hS hl => ?_) fz u a2 hq _ _ _ hP hD hS (lv_sub hl [1, 2, 0] rfl)
  have hm := ho  u21 hz
  refine lv_iconst (v := (1 : Int32)) hx hb d_Tree_dropPlace_71 (by decide) ?_
  exact hret _ _ _ _ (1 : Int32) u21 (Option.some.inj hm) (Or.inr rfl) hP hD hS d_Tree_dropPlace_72
theorem d_Tree_dropAt_0 : decode b_Tree_dropAt 0 = .ok (.iload_n 1, 1) := by decide +kernel
theorem d_Tree_dropAt_1 : decode b_Tree_dropAt 1 = .ok (.bipush 9, 2) := by decide +kernel
theorem d_Tree_dropAt_3 : decode b_Tree_dropAt 3 = .ok (.idiv, 1) := by decide +kernel
theorem d_Tree_dropAt_4 : decode b_Tree_dropAt 4 = .ok (.istore_n 2, 1) := by decide +kernel
theorem d_Tree_dropAt_5 : decode b_Tree_dropAt 5 = .ok (.aload_n 0, 1) := by decide +kernel
theorem d_Tree_dropAt_6 : decode b_Tree_dropAt 6 = .ok (.iload_n 2, 1) := by decide +kernel
theorem d_Tree_dropAt_7 : decode b_Tree_dropAt 7 = .ok (.iload_n 1, 1) := by decide +kernel
theorem d_Tree_dropAt_8 : decode b_Tree_dropAt 8 = .ok (.aload_n 0, 1) := by decide +kernel
theorem d_Tree_dropAt_9 : decode b_Tree_dropAt 9 = .ok (.getfield 15, 3) := by decide +kernel
theorem d_Tree_dropAt_12 : decode b_Tree_dropAt 12 = .ok (.iload_n 2, 1) := by decide +kernel
theorem d_Tree_dropAt_13 : decode b_Tree_dropAt 13 = .ok (.iconst 0, 1) := by decide +kernel
theorem d_Tree_dropAt_14 : decode b_Tree_dropAt 14 = .ok (.invokevirtual 41, 3) := by decide +kernel
theorem d_Tree_dropAt_17 : decode b_Tree_dropAt 17 = .ok (.isub, 1) := by decide +kernel
theorem d_Tree_dropAt_18 : decode b_Tree_dropAt 18 = .ok (.invokevirtual 91, 3) := by decide +kernel
theorem d_Tree_dropAt_21 : decode b_Tree_dropAt 21 = .ok (.ireturn, 1) := by decide +kernel
set_option maxRecDepth 100000 in
set_option maxHeartbeats 4000000 in
theorem k_Tree_dropAt (l : Launch) (D : va_G) (G : Nat → Nat) (Y : Nat → ClassId) {u : SM} {a1 : Int32} {r : Int32} {u' : SM} (hm : m_Tree_dropAt u a1 = some (r, u')) : KZ l D clz (tyz Y) (wdC G Y) y_Tree_dropAt b_Tree_dropAt 3 (some .boolean) 4 92 [.ref (G 6), .int a1] u r u' := by
  refine mkZ (by decide) (Nat.le_of_ble_eq_true rfl) ?_
  intro p e s m below meth c A Z ls C0 hP hD hS hl hret
  obtain ⟨hx, hb, hml, hown, hts, hK, hN, hA⟩ := id C0
  have hl : lv_has ls 3 [(0, .ref (G 6)), (1, .int a1)] := hl
  rw [m_Tree_dropAt] at hm
  refine lv_iload_n hx hb d_Tree_dropAt_0 rfl (lv_at hl 1 rfl) ?_
  refine lv_bipush (v := (9 : Int32)) hx hb d_Tree_dropAt_1 (by decide) ?_
  refine lv_idiv hx hb d_Tree_dropAt_3 (by decide) ?_
  refine lv_istore_n (lv' := [(2, .int (a1 / (9 : Int32))), (0, .ref (G 6)), (1, .int a1)]) hx hb d_Tree_dropAt_4 rfl hl (by decide) rfl (fun ls hl => ?_)
  refine lv_aload_n hx hb d_Tree_dropAt_5 rfl (lv_at hl 1 rfl) ?_
  refine lv_iload_n hx hb d_Tree_dropAt_6 rfl (lv_at hl 0 rfl) ?_
  refine lv_iload_n hx hb d_Tree_dropAt_7 rfl (lv_at hl 2 rfl) ?_
  refine lv_aload_n hx hb d_Tree_dropAt_8 rfl (lv_at hl 1 rfl) ?_
  refine va_get (D := D) (ci := 3) (v := .ref (G 5)) (C := "FirmStore$Tree") (T := F_Tree) (N := 2) hx hb hts iz_Tree hown hK hP 6 rfl rfl 1 (by decide) (hts _ q_74) (fun _ h9 => h9) rfl d_Tree_dropAt_9 ?_
  refine lv_iload_n hx hb d_Tree_dropAt_12 rfl (lv_at hl 0 rfl) ?_
  refine lv_iconst (v := (0 : Int32)) hx hb d_Tree_dropAt_13 (by decide) ?_
  obtain ⟨r1, u2, h3, hm⟩ := ob_some hm
  refine goVI (As := [.int (a1 / (9 : Int32)), .int (0 : Int32)]) (rest := [.int a1, .int (a1 / (9 : Int32)), .ref (G 6)]) (b0 := G 5) 5 C0 (k_Blocks_addressOfPlace l D G Y h3) q_384 q_3 q_381 q_382 q_383 e_Blocks_addressOfPlace (by decide) rfl rfl hP hD hS hl.1 rfl (Nat.le_of_ble_eq_true rfl) d_Tree_dropAt_14 (fun H locs hP hD hS => ?_)
  refine lv_isub hx hb d_Tree_dropAt_17 ?_
  obtain ⟨r5, u6, h7, hm⟩ := ob_some hm
  refine goVZ (As := [.int (a1 / (9 : Int32)), .int (a1 - r1)]) (rest := []) (b0 := G 6) 6 C0 (k_Tree_dropPlace l D G Y h7) q_475 q_4 q_472 q_474 qs_19 e_Tree_dropPlace (by decide) rfl rfl hP hD hS hl.1 rfl (Nat.le_of_ble_eq_true rfl) d_Tree_dropAt_18 (fun H locs hz8 hP hD hS => ?_)
  exact hret _ _ _ _ r5 u6 (Option.some.inj hm) hz8 hP hD hS d_Tree_dropAt_21
theorem d_Tree_insert_0 : decode b_Tree_insert 0 = .ok (.aload_n 0, 1) := by decide +kernel
theorem d_Tree_insert_1 : decode b_Tree_insert 1 = .ok (.iload_n 1, 1) := by decide +kernel
theorem d_Tree_insert_2 : decode b_Tree_insert 2 = .ok (.lload_n 2, 1) := by decide +kernel
theorem d_Tree_insert_3 : decode b_Tree_insert 3 = .ok (.invokestatic 122, 3) := by decide +kernel
theorem d_Tree_insert_6 : decode b_Tree_insert 6 = .ok (.invokevirtual 32, 3) := by decide +kernel
theorem d_Tree_insert_9 : decode b_Tree_insert 9 = .ok (.istore 4, 2) := by decide +kernel
theorem d_Tree_insert_11 : decode b_Tree_insert 11 = .ok (.aload_n 0, 1) := by decide +kernel
theorem d_Tree_insert_12 : decode b_Tree_insert 12 = .ok (.getfield 15, 3) := by decide +kernel
theorem d_Tree_insert_15 : decode b_Tree_insert 15 = .ok (.iload_n 1, 1) := by decide +kernel
theorem d_Tree_insert_16 : decode b_Tree_insert 16 = .ok (.invokevirtual 35, 3) := by decide +kernel
theorem d_Tree_insert_19 : decode b_Tree_insert 19 = .ok (.istore 5, 2) := by decide +kernel
theorem d_Tree_insert_21 : decode b_Tree_insert 21 = .ok (.iload 5, 2) := by decide +kernel
theorem d_Tree_insert_23 : decode b_Tree_insert 23 = .ok (.iload 4, 2) := by decide +kernel
theorem d_Tree_insert_25 : decode b_Tree_insert 25 = .ok (.if_icmp .le 47, 3) := by decide +kernel
theorem d_Tree_insert_28 : decode b_Tree_insert 28 = .ok (.aload_n 0, 1) := by decide +kernel
theorem d_Tree_insert_29 : decode b_Tree_insert 29 = .ok (.getfield 15, 3) := by decide +kernel
theorem d_Tree_insert_32 : decode b_Tree_insert 32 = .ok (.iload_n 1, 1) := by decide +kernel
theorem d_Tree_insert_33 : decode b_Tree_insert 33 = .ok (.iload 5, 2) := by decide +kernel
theorem d_Tree_insert_35 : decode b_Tree_insert 35 = .ok (.iconst 1, 1) := by decide +kernel
theorem d_Tree_insert_36 : decode b_Tree_insert 36 = .ok (.isub, 1) := by decide +kernel
theorem d_Tree_insert_37 : decode b_Tree_insert 37 = .ok (.invokevirtual 119, 3) := by decide +kernel
theorem d_Tree_insert_40 : decode b_Tree_insert 40 = .ok (.lstore 6, 2) := by decide +kernel
theorem d_Tree_insert_42 : decode b_Tree_insert 42 = .ok (.aload_n 0, 1) := by decide +kernel
theorem d_Tree_insert_43 : decode b_Tree_insert 43 = .ok (.getfield 9, 3) := by decide +kernel
theorem d_Tree_insert_46 : decode b_Tree_insert 46 = .ok (.aload_n 0, 1) := by decide +kernel
theorem d_Tree_insert_47 : decode b_Tree_insert 47 = .ok (.getfield 15, 3) := by decide +kernel
theorem d_Tree_insert_50 : decode b_Tree_insert 50 = .ok (.iload_n 1, 1) := by decide +kernel
theorem d_Tree_insert_51 : decode b_Tree_insert 51 = .ok (.iload 5, 2) := by decide +kernel
theorem d_Tree_insert_53 : decode b_Tree_insert 53 = .ok (.invokevirtual 41, 3) := by decide +kernel
theorem d_Tree_insert_56 : decode b_Tree_insert 56 = .ok (.lload 6, 2) := by decide +kernel
theorem d_Tree_insert_58 : decode b_Tree_insert 58 = .ok (.invokevirtual 64, 3) := by decide +kernel
theorem d_Tree_insert_61 : decode b_Tree_insert 61 = .ok (.ifCond .ne 5, 3) := by decide +kernel
theorem d_Tree_insert_64 : decode b_Tree_insert 64 = .ok (.iconst 0, 1) := by decide +kernel
theorem d_Tree_insert_65 : decode b_Tree_insert 65 = .ok (.ireturn, 1) := by decide +kernel
theorem d_Tree_insert_66 : decode b_Tree_insert 66 = .ok (.iinc 5 (-1), 3) := by decide +kernel
theorem d_Tree_insert_69 : decode b_Tree_insert 69 = .ok (.goto (-48), 3) := by decide +kernel
theorem d_Tree_insert_72 : decode b_Tree_insert 72 = .ok (.aload_n 0, 1) := by decide +kernel
theorem d_Tree_insert_73 : decode b_Tree_insert 73 = .ok (.getfield 9, 3) := by decide +kernel
theorem d_Tree_insert_76 : decode b_Tree_insert 76 = .ok (.aload_n 0, 1) := by decide +kernel
theorem d_Tree_insert_77 : decode b_Tree_insert 77 = .ok (.getfield 15, 3) := by decide +kernel
theorem d_Tree_insert_80 : decode b_Tree_insert 80 = .ok (.iload_n 1, 1) := by decide +kernel
theorem d_Tree_insert_81 : decode b_Tree_insert 81 = .ok (.iload 4, 2) := by decide +kernel
theorem d_Tree_insert_83 : decode b_Tree_insert 83 = .ok (.invokevirtual 41, 3) := by decide +kernel
theorem d_Tree_insert_86 : decode b_Tree_insert 86 = .ok (.lload_n 2, 1) := by decide +kernel
theorem d_Tree_insert_87 : decode b_Tree_insert 87 = .ok (.invokevirtual 64, 3) := by decide +kernel
theorem d_Tree_insert_90 : decode b_Tree_insert 90 = .ok (.ireturn, 1) := by decide +kernel
set_option maxRecDepth 100000 in
set_option maxHeartbeats 4000000 in
theorem k_Tree_insert (l : Launch) (D : va_G) (G : Nat → Nat) (Y : Nat → ClassId) {u : SM} {a1 : Int32} {a2 : Int64} {r : Int32} {u' : SM} (hm : m_Tree_insert u a1 a2 = some (r, u')) : KZ l D clz (tyz Y) (wdC G Y) y_Tree_insert b_Tree_insert 8 (some .boolean) 4 89 [.ref (G 6), .int a1, .long a2] u r u' := by
  refine mkZ (by decide) (Nat.le_of_ble_eq_true rfl) ?_
  intro p e s m below meth c A Z ls C0 hP hD hS hl hret
  obtain ⟨hx, hb, hml, hown, hts, hK, hN, hA⟩ := id C0
  have hl : lv_has ls 8 [(0, .ref (G 6)), (1, .int a1), (2, .long a2)] := hl
  have L21 : ∀ (x1 : Int32) (x2 : Int64) (x4 : Int32) (o : (Int32 × SM) ⊕ (SM)) (kr : ∀ z, o = .inl z → z = (r, u')) (kx : ∀  (ub : SM), o = .inr ub → ∀ (H : Heap) (locs : List Loc) (ls : Array Slot), va_P D clz (wdC G Y ub) H → va_D A (wdC G Y ub) → va_S A s.heap H locs → lv_has ls 8 [(0, .ref (G 6)), (1, .int x1), (2, .long x2), (4, .int x4)] → W p l e (zRm 4 89) s m ([.ref (G 6), .int a1, .long a2] : List Value).toArray below meth c H locs 0 0 Z (F0 m 72 ls [])) (n0 : Nat) (ua : SM) (x5 : Int32), m_Tree_insert_L21 n0 ua x5 x1 x2 x4 = some o → ∀ (H : Heap) (locs : List Loc) (ls : Array Slot), va_P D clz (wdC G Y ua) H → va_D A (wdC G Y ua) → va_S A s.heap H locs → lv_has ls 8 [(0, .ref (G 6)), (1, .int x1), (2, .long x2), (4, .int x4), (5, .int x5)] → W p l e (zRm 4 89) s m ([.ref (G 6), .int a1, .long a2] : List Value).toArray below meth c H locs 0 0 Z (F0 m 21 ls []) := by
    intro x1 x2 x4 o kr kx n0
    induction n0 with
    | zero => intro ua x5 hm; rw [m_Tree_insert_L21] at hm; cases hm
    | succ n0 ih =>
      intro ua x5 hm H locs ls hP hD hS hl
      rw [m_Tree_insert_L21] at hm
      refine lv_iload hx hb d_Tree_insert_21 (lv_at hl 4 rfl) ?_
      refine lv_iload hx hb d_Tree_insert_23 (lv_at hl 3 rfl) ?_
      refine lv_icmp_le (tgt := 72) hx hb d_Tree_insert_25 (by decide) (fun hc => ?_) (fun hc => ?_)
      · rw [if_pos hc] at hm
        exact kx  ua (Option.some.inj hm).symm _ _ _ hP hD hS (lv_sub hl [0, 1, 2, 3] rfl)
      · rw [if_neg hc] at hm
        refine lv_aload_n hx hb d_Tree_insert_28 rfl (lv_at hl 0 rfl) ?_
        refine va_get (D := D) (ci := 3) (v := .ref (G 5)) (C := "FirmStore$Tree") (T := F_Tree) (N := 2) hx hb hts iz_Tree hown hK hP 6 rfl rfl 1 (by decide) (hts _ q_74) (fun _ h9 => h9) rfl d_Tree_insert_29 ?_
        refine lv_iload_n hx hb d_Tree_insert_32 rfl (lv_at hl 1 rfl) ?_
        refine lv_iload hx hb d_Tree_insert_33 (lv_at hl 4 rfl) ?_
        refine lv_iconst (v := (1 : Int32)) hx hb d_Tree_insert_35 (by decide) ?_
        refine lv_isub hx hb d_Tree_insert_36 ?_
        obtain ⟨r1, u2, h3, hm⟩ := ob_some hm
        refine goVL (As := [.int x1, .int (x5 - (1 : Int32))]) (rest := []) (b0 := G 5) 5 C0 (k_Blocks_entryAt l D G Y h3) q_176 q_3 q_173 q_174 q_175 e_Blocks_entryAt (by decide) rfl rfl hP hD hS hl.1 rfl (Nat.le_of_ble_eq_true rfl) d_Tree_insert_37 (fun H locs hP hD hS => ?_)
        refine lv_lstore (lv' := [(6, .long r1), (0, .ref (G 6)), (1, .int x1), (2, .long x2), (4, .int x4), (5, .int x5)]) hx hb d_Tree_insert_40 hl (by decide) rfl (fun ls hl => ?_)
        refine lv_aload_n hx hb d_Tree_insert_42 rfl (lv_at hl 1 rfl) ?_
        refine va_get (D := D) (ci := 3) (v := .ref (G 1)) (C := "FirmStore$Tree") (T := F_Tree) (N := 2) hx hb hts iz_Tree hown hK hP 6 rfl rfl 0 (by decide) (hts _ q_73) (fun _ h9 => h9) rfl d_Tree_insert_43 ?_
        refine lv_aload_n hx hb d_Tree_insert_46 rfl (lv_at hl 1 rfl) ?_
        refine va_get (D := D) (ci := 3) (v := .ref (G 5)) (C := "FirmStore$Tree") (T := F_Tree) (N := 2) hx hb hts iz_Tree hown hK hP 6 rfl rfl 1 (by decide) (hts _ q_74) (fun _ h9 => h9) rfl d_Tree_insert_47 ?_
        refine lv_iload_n hx hb d_Tree_insert_50 rfl (lv_at hl 2 rfl) ?_
        refine lv_iload hx hb d_Tree_insert_51 (lv_at hl 5 rfl) ?_
        obtain ⟨r5, u6, h7, hm⟩ := ob_some hm
        refine goVI (As := [.int x1, .int x5]) (rest := [.ref (G 1)]) (b0 := G 5) 5 C0 (k_Blocks_addressOfPlace l D G Y h7) q_384 q_3 q_381 q_382 q_383 e_Blocks_addressOfPlace (by decide) rfl rfl hP hD hS hl.1 rfl (Nat.le_of_ble_eq_true rfl) d_Tree_insert_53 (fun H locs hP hD hS => ?_)
        refine lv_lload hx hb d_Tree_insert_56 (lv_at hl 0 rfl) ?_
        obtain ⟨r9, u10, h11, hm⟩ := ob_some hm
        refine goVZ (As := [.int r5, .long r1]) (rest := []) (b0 := G 1) 1 C0 (k_Memory_firmStore l D G Y h11) q_362 q_2 q_359 q_360 q_361 e_Memory_firmStore (by decide) rfl rfl hP hD hS hl.1 rfl (Nat.le_of_ble_eq_true rfl) d_Tree_insert_58 (fun H locs hz12 hP hD hS => ?_)
        refine lv_if_ne (tgt := 66) hx hb d_Tree_insert_61 (by decide) (fun hc => ?_) (fun hc => ?_)
        · rw [if_neg hc] at hm
          refine lv_iinc (v := (x5 + (-1 : Int32))) (lv' := [(5, .int (x5 + (-1 : Int32))), (6, .long r1), (0, .ref (G 6)), (1, .int x1), (2, .long x2), (4, .int x4)]) hx hb d_Tree_insert_66 hl (k := 5) rfl rfl (by decide) rfl (fun ls hl => ?_)
          refine lv_goto (tgt := 21) hx hb d_Tree_insert_69 (by decide) ?_
          exact ih u10 (x5 + (-1 : Int32)) hm _ _ _ hP hD hS (lv_sub hl [2, 3, 4, 5, 0] rfl)
        · rw [if_pos hc] at hm
          refine lv_iconst (v := (0 : Int32)) hx hb d_Tree_insert_64 (by decide) ?_
          exact hret _ _ _ _ (0 : Int32) u10 (kr _ (Option.some.inj hm).symm) (Or.inl rfl) hP hD hS d_Tree_insert_65
  rw [m_Tree_insert] at hm
  refine lv_aload_n hx hb d_Tree_insert_0 rfl (lv_at hl 0 rfl) ?_
  refine lv_iload_n hx hb d_Tree_insert_1 rfl (lv_at hl 1 rfl) ?_
  refine lv_lload_n hx hb d_Tree_insert_2 rfl (lv_at hl 2 rfl) ?_
  obtain ⟨r13, u14, h15, hm⟩ := ob_some hm
  refine goNI (As := [.long a2]) (rest := [.int a1, .ref (G 6)]) C0 (k_Firm_keyOf l D G Y h15) q_179 q_1 hN.2.1 q_178 e_Firm_keyOf (by decide) hP hD hS hl.1 rfl (Nat.le_of_ble_eq_true rfl) d_Tree_insert_3 (fun H locs hP hD hS => ?_)
  obtain ⟨r17, u18, h19, hm⟩ := ob_some hm
  refine goVI (As := [.int a1, .int r13]) (rest := []) (b0 := G 6) 6 C0 (k_Tree_countLesser l D G Y h19) q_380 q_4 q_377 q_379 qs_10 e_Tree_countLesser (by decide) rfl rfl hP hD hS hl.1 rfl (Nat.le_of_ble_eq_true rfl) d_Tree_insert_6 (fun H locs hP hD hS => ?_)
  refine lv_istore (lv' := [(4, .int r17), (0, .ref (G 6)), (1, .int a1), (2, .long a2)]) hx hb d_Tree_insert_9 hl (by decide) rfl (fun ls hl => ?_)
  refine lv_aload_n hx hb d_Tree_insert_11 rfl (lv_at hl 1 rfl) ?_
  refine va_get (D := D) (ci := 3) (v := .ref (G 5)) (C := "FirmStore$Tree") (T := F_Tree) (N := 2) hx hb hts iz_Tree hown hK hP 6 rfl rfl 1 (by decide) (hts _ q_74) (fun _ h9 => h9) rfl d_Tree_insert_12 ?_
  refine lv_iload_n hx hb d_Tree_insert_15 rfl (lv_at hl 2 rfl) ?_
  obtain ⟨r21, u22, h23, hm⟩ := ob_some hm
  refine goVI (As := [.int a1]) (rest := []) (b0 := G 5) 5 C0 (k_Blocks_rowLength l D G Y h23) q_168 q_3 q_165 q_166 q_167 e_Blocks_rowLength (by decide) rfl rfl hP hD hS hl.1 rfl (Nat.le_of_ble_eq_true rfl) d_Tree_insert_16 (fun H locs hP hD hS => ?_)
  refine lv_istore (lv' := [(5, .int r21), (4, .int r17), (0, .ref (G 6)), (1, .int a1), (2, .long a2)]) hx hb d_Tree_insert_19 hl (by decide) rfl (fun ls hl => ?_)
  obtain ⟨qq, hq, hi, ho⟩ := ol0_some hm
  refine L21 a1 a2 r17 qq (fun z hz => hi z hz) (fun  u25 hz H locs ls hP hD hS hl => ?_) fz u22 r21 hq _ _ _ hP hD hS (lv_sub hl [2, 3, 4, 1, 0] rfl)
  have hm := ho  u25 hz
  refine lv_aload_n hx hb d_Tree_insert_72 rfl (lv_at hl 0 rfl) ?_
  refine va_get (D := D) (ci := 3) (v := .ref (G 1)) (C := "FirmStore$Tree") (T := F_Tree) (N := 2) hx hb hts iz_Tree hown hK hP 6 rfl rfl 0 (by decide) (hts _ q_73) (fun _ h9 => h9) rfl d_Tree_insert_73 ?_
  refine lv_aload_n hx hb d_Tree_insert_76 rfl (lv_at hl 0 rfl) ?_
  refine va_get (D := D) (ci := 3) (v := .ref (G 5)) (C := "FirmStore$Tree") (T := F_Tree) (N := 2) hx hb hts iz_Tree hown hK hP 6 rfl rfl 1 (by decide) (hts _ q_74) (fun _ h9 => h9) rfl d_Tree_insert_77 ?_
  refine lv_iload_n hx hb d_Tree_insert_80 rfl (lv_at hl 1 rfl) ?_
  refine lv_iload hx hb d_Tree_insert_81 (lv_at hl 3 rfl) ?_
  obtain ⟨r26, u27, h28, hm⟩ := ob_some hm
  refine goVI (As := [.int a1, .int r17]) (rest := [.ref (G 1)]) (b0 := G 5) 5 C0 (k_Blocks_addressOfPlace l D G Y h28) q_384 q_3 q_381 q_382 q_383 e_Blocks_addressOfPlace (by decide) rfl rfl hP hD hS hl.1 rfl (Nat.le_of_ble_eq_true rfl) d_Tree_insert_83 (fun H locs hP hD hS => ?_)
  refine lv_lload_n hx hb d_Tree_insert_86 rfl (lv_at hl 2 rfl) ?_
  obtain ⟨r30, u31, h32, hm⟩ := ob_some hm
  refine goVZ (As := [.int r26, .long a2]) (rest := []) (b0 := G 1) 1 C0 (k_Memory_firmStore l D G Y h32) q_362 q_2 q_359 q_360 q_361 e_Memory_firmStore (by decide) rfl rfl hP hD hS hl.1 rfl (Nat.le_of_ble_eq_true rfl) d_Tree_insert_87 (fun H locs hz33 hP hD hS => ?_)
  exact hret _ _ _ _ r30 u31 (Option.some.inj hm) hz33 hP hD hS d_Tree_insert_90
theorem d_Tree_raise_0 : decode b_Tree_raise 0 = .ok (.aload_n 0, 1) := by decide +kernel
theorem d_Tree_raise_1 : decode b_Tree_raise 1 = .ok (.getfield 15, 3) := by decide +kernel
theorem d_Tree_raise_4 : decode b_Tree_raise 4 = .ok (.iconst 0, 1) := by decide +kernel
theorem d_Tree_raise_5 : decode b_Tree_raise 5 = .ok (.invokevirtual 19, 3) := by decide +kernel
theorem d_Tree_raise_8 : decode b_Tree_raise 8 = .ok (.istore_n 3, 1) := by decide +kernel
theorem d_Tree_raise_9 : decode b_Tree_raise 9 = .ok (.aload_n 0, 1) := by decide +kernel
theorem d_Tree_raise_10 : decode b_Tree_raise 10 = .ok (.getfield 15, 3) := by decide +kernel
theorem d_Tree_raise_13 : decode b_Tree_raise 13 = .ok (.iload_n 3, 1) := by decide +kernel
theorem d_Tree_raise_14 : decode b_Tree_raise 14 = .ok (.invokevirtual 110, 3) := by decide +kernel
theorem d_Tree_raise_17 : decode b_Tree_raise 17 = .ok (.istore 4, 2) := by decide +kernel
theorem d_Tree_raise_19 : decode b_Tree_raise 19 = .ok (.aload_n 0, 1) := by decide +kernel
theorem d_Tree_raise_20 : decode b_Tree_raise 20 = .ok (.getfield 15, 3) := by decide +kernel
theorem d_Tree_raise_23 : decode b_Tree_raise 23 = .ok (.iload_n 2, 1) := by decide +kernel
theorem d_Tree_raise_24 : decode b_Tree_raise 24 = .ok (.iconst 0, 1) := by decide +kernel
theorem d_Tree_raise_25 : decode b_Tree_raise 25 = .ok (.iload 4, 2) := by decide +kernel
theorem d_Tree_raise_27 : decode b_Tree_raise 27 = .ok (.iload 4, 2) := by decide +kernel
theorem d_Tree_raise_29 : decode b_Tree_raise 29 = .ok (.iload_n 3, 1) := by decide +kernel
theorem d_Tree_raise_30 : decode b_Tree_raise 30 = .ok (.invokestatic 53, 3) := by decide +kernel
theorem d_Tree_raise_33 : decode b_Tree_raise 33 = .ok (.aload_n 0, 1) := by decide +kernel
theorem d_Tree_raise_34 : decode b_Tree_raise 34 = .ok (.getfield 15, 3) := by decide +kernel
theorem d_Tree_raise_37 : decode b_Tree_raise 37 = .ok (.iload_n 1, 1) := by decide +kernel
theorem d_Tree_raise_38 : decode b_Tree_raise 38 = .ok (.invokevirtual 110, 3) := by decide +kernel
theorem d_Tree_raise_41 : decode b_Tree_raise 41 = .ok (.iload_n 1, 1) := by decide +kernel
theorem d_Tree_raise_42 : decode b_Tree_raise 42 = .ok (.invokestatic 53, 3) := by decide +kernel
theorem d_Tree_raise_45 : decode b_Tree_raise 45 = .ok (.lconst 0, 1) := by decide +kernel
theorem d_Tree_raise_46 : decode b_Tree_raise 46 = .ok (.invokevirtual 106, 3) := by decide +kernel
theorem d_Tree_raise_49 : decode b_Tree_raise 49 = .ok (.istore 5, 2) := by decide +kernel
theorem d_Tree_raise_51 : decode b_Tree_raise 51 = .ok (.iload 5, 2) := by decide +kernel
theorem d_Tree_raise_53 : decode b_Tree_raise 53 = .ok (.ifCond .eq 21, 3) := by decide +kernel
theorem d_Tree_raise_56 : decode b_Tree_raise 56 = .ok (.aload_n 0, 1) := by decide +kernel
theorem d_Tree_raise_57 : decode b_Tree_raise 57 = .ok (.getfield 9, 3) := by decide +kernel
theorem d_Tree_raise_60 : decode b_Tree_raise 60 = .ok (.iconst 0, 1) := by decide +kernel
theorem d_Tree_raise_61 : decode b_Tree_raise 61 = .ok (.iload 5, 2) := by decide +kernel
theorem d_Tree_raise_63 : decode b_Tree_raise 63 = .ok (.i2l, 1) := by decide +kernel
theorem d_Tree_raise_64 : decode b_Tree_raise 64 = .ok (.invokevirtual 64, 3) := by decide +kernel
theorem d_Tree_raise_67 : decode b_Tree_raise 67 = .ok (.ifCond .eq 7, 3) := by decide +kernel
theorem d_Tree_raise_70 : decode b_Tree_raise 70 = .ok (.iconst 1, 1) := by decide +kernel
theorem d_Tree_raise_71 : decode b_Tree_raise 71 = .ok (.goto 4, 3) := by decide +kernel
theorem d_Tree_raise_74 : decode b_Tree_raise 74 = .ok (.iconst 0, 1) := by decide +kernel
theorem d_Tree_raise_75 : decode b_Tree_raise 75 = .ok (.ireturn, 1) := by decide +kernel
set_option maxRecDepth 100000 in
set_option maxHeartbeats 4000000 in
theorem k_Tree_raise (l : Launch) (D : va_G) (G : Nat → Nat) (Y : Nat → ClassId) {u : SM} {a1 : Int32} {a2 : Int32} {r : Int32} {u' : SM} (hm : m_Tree_raise u a1 a2 = some (r, u')) : KZ l D clz (tyz Y) (wdC G Y) y_Tree_raise b_Tree_raise 6 (some .boolean) 4 104 [.ref (G 6), .int a1, .int a2] u r u' := by
  refine mkZ (by decide) (Nat.le_of_ble_eq_true rfl) ?_
  intro p e s m below meth c A Z ls C0 hP hD hS hl hret
  obtain ⟨hx, hb, hml, hown, hts, hK, hN, hA⟩ := id C0
  have hl : lv_has ls 6 [(0, .ref (G 6)), (1, .int a1), (2, .int a2)] := hl
  rw [m_Tree_raise] at hm
  refine lv_aload_n hx hb d_Tree_raise_0 rfl (lv_at hl 0 rfl) ?_
  refine va_get (D := D) (ci := 3) (v := .ref (G 5)) (C := "FirmStore$Tree") (T := F_Tree) (N := 2) hx hb hts iz_Tree hown hK hP 6 rfl rfl 1 (by decide) (hts _ q_74) (fun _ h9 => h9) rfl d_Tree_raise_1 ?_
  refine lv_iconst (v := (0 : Int32)) hx hb d_Tree_raise_4 (by decide) ?_
  obtain ⟨r1, u2, h3, hm⟩ := ob_some hm
  refine goVI (As := [.int (0 : Int32)]) (rest := []) (b0 := G 5) 5 C0 (k_Blocks_blockIn l D G Y h3) q_132 q_3 q_129 q_130 q_131 e_Blocks_blockIn (by decide) rfl rfl hP hD hS hl.1 rfl (Nat.le_of_ble_eq_true rfl) d_Tree_raise_5 (fun H locs hP hD hS => ?_)
  refine lv_istore_n (lv' := [(3, .int r1), (0, .ref (G 6)), (1, .int a1), (2, .int a2)]) hx hb d_Tree_raise_8 rfl hl (by decide) rfl (fun ls hl => ?_)
  refine lv_aload_n hx hb d_Tree_raise_9 rfl (lv_at hl 1 rfl) ?_
  refine va_get (D := D) (ci := 3) (v := .ref (G 5)) (C := "FirmStore$Tree") (T := F_Tree) (N := 2) hx hb hts iz_Tree hown hK hP 6 rfl rfl 1 (by decide) (hts _ q_74) (fun _ h9 => h9) rfl d_Tree_raise_10 ?_
  refine lv_iload_n hx hb d_Tree_raise_13 rfl (lv_at hl 0 rfl) ?_
  obtain ⟨r5, u6, h7, hm⟩ := ob_some hm
  refine goVI (As := [.int r1]) (rest := []) (b0 := G 5) 5 C0 (k_Blocks_lowOf l D G Y h7) q_164 q_3 q_161 q_162 q_163 e_Blocks_lowOf (by decide) rfl rfl hP hD hS hl.1 rfl (Nat.le_of_ble_eq_true rfl) d_Tree_raise_14 (fun H locs hP hD hS => ?_)
  refine lv_istore (lv' := [(4, .int r5), (3, .int r1), (0, .ref (G 6)), (1, .int a1), (2, .int a2)]) hx hb d_Tree_raise_17 hl (by decide) rfl (fun ls hl => ?_)
  refine lv_aload_n hx hb d_Tree_raise_19 rfl (lv_at hl 2 rfl) ?_
  refine va_get (D := D) (ci := 3) (v := .ref (G 5)) (C := "FirmStore$Tree") (T := F_Tree) (N := 2) hx hb hts iz_Tree hown hK hP 6 rfl rfl 1 (by decide) (hts _ q_74) (fun _ h9 => h9) rfl d_Tree_raise_20 ?_
  refine lv_iload_n hx hb d_Tree_raise_23 rfl (lv_at hl 4 rfl) ?_
  refine lv_iconst (v := (0 : Int32)) hx hb d_Tree_raise_24 (by decide) ?_
  refine lv_iload hx hb d_Tree_raise_25 (lv_at hl 0 rfl) ?_
  refine lv_iload hx hb d_Tree_raise_27 (lv_at hl 0 rfl) ?_
  refine lv_iload_n hx hb d_Tree_raise_29 rfl (lv_at hl 1 rfl) ?_
  obtain ⟨r9, u10, h11, hm⟩ := ob_some hm
  refine goNL (As := [.int r5, .int r1]) (rest := [.int r5, .int (0 : Int32), .int a2, .ref (G 5)]) C0 (k_Firm_entryOf l D G Y h11) q_336 q_1 hN.2.2.1 q_335 e_Firm_entryOf (by decide) hP hD hS hl.1 rfl (Nat.le_of_ble_eq_true rfl) d_Tree_raise_30 (fun H locs hP hD hS => ?_)
  refine lv_aload_n hx hb d_Tree_raise_33 rfl (lv_at hl 2 rfl) ?_
  refine va_get (D := D) (ci := 3) (v := .ref (G 5)) (C := "FirmStore$Tree") (T := F_Tree) (N := 2) hx hb hts iz_Tree hown hK hP 6 rfl rfl 1 (by decide) (hts _ q_74) (fun _ h9 => h9) rfl d_Tree_raise_34 ?_
  refine lv_iload_n hx hb d_Tree_raise_37 rfl (lv_at hl 3 rfl) ?_
  obtain ⟨r13, u14, h15, hm⟩ := ob_some hm
  refine goVI (As := [.int a1]) (rest := [.long r9, .int r5, .int (0 : Int32), .int a2, .ref (G 5)]) (b0 := G 5) 5 C0 (k_Blocks_lowOf l D G Y h15) q_164 q_3 q_161 q_162 q_163 e_Blocks_lowOf (by decide) rfl rfl hP hD hS hl.1 rfl (Nat.le_of_ble_eq_true rfl) d_Tree_raise_38 (fun H locs hP hD hS => ?_)
  refine lv_iload_n hx hb d_Tree_raise_41 rfl (lv_at hl 3 rfl) ?_
  obtain ⟨r17, u18, h19, hm⟩ := ob_some hm
  refine goNL (As := [.int r13, .int a1]) (rest := [.long r9, .int r5, .int (0 : Int32), .int a2, .ref (G 5)]) C0 (k_Firm_entryOf l D G Y h19) q_336 q_1 hN.2.2.1 q_335 e_Firm_entryOf (by decide) hP hD hS hl.1 rfl (Nat.le_of_ble_eq_true rfl) d_Tree_raise_42 (fun H locs hP hD hS => ?_)
  refine lv_lconst (v := (0 : Int64)) hx hb d_Tree_raise_45 (by decide) ?_
  obtain ⟨r21, u22, h23, hm⟩ := ob_some hm
  refine goVI (As := [.int a2, .int (0 : Int32), .int r5, .long r9, .long r17, .long (0 : Int64)]) (rest := []) (b0 := G 5) 5 C0 (k_Blocks_make l D G Y h23) q_346 q_3 q_343 q_344 q_345 e_Blocks_make (by decide) rfl rfl hP hD hS hl.1 rfl (Nat.le_of_ble_eq_true rfl) d_Tree_raise_46 (fun H locs hP hD hS => ?_)
  refine lv_istore (lv' := [(5, .int r21), (4, .int r5), (3, .int r1), (0, .ref (G 6)), (1, .int a1), (2, .int a2)]) hx hb d_Tree_raise_49 hl (by decide) rfl (fun ls hl => ?_)
  refine lv_iload hx hb d_Tree_raise_51 (lv_at hl 0 rfl) ?_
  refine lv_if_eq (tgt := 74) hx hb d_Tree_raise_53 (by decide) (fun hc => ?_) (fun hc => ?_)
  · rw [if_pos hc] at hm
    refine lv_iconst (v := (0 : Int32)) hx hb d_Tree_raise_74 (by decide) ?_
    exact hret _ _ _ _ (0 : Int32) u22 (Option.some.inj hm) (Or.inl rfl) hP hD hS d_Tree_raise_75
  · rw [if_neg hc] at hm
    refine lv_aload_n hx hb d_Tree_raise_56 rfl (lv_at hl 3 rfl) ?_
    refine va_get (D := D) (ci := 3) (v := .ref (G 1)) (C := "FirmStore$Tree") (T := F_Tree) (N := 2) hx hb hts iz_Tree hown hK hP 6 rfl rfl 0 (by decide) (hts _ q_73) (fun _ h9 => h9) rfl d_Tree_raise_57 ?_
    refine lv_iconst (v := (0 : Int32)) hx hb d_Tree_raise_60 (by decide) ?_
    refine lv_iload hx hb d_Tree_raise_61 (lv_at hl 0 rfl) ?_
    refine lv_i2l (v := (r21.toInt64)) hx hb d_Tree_raise_63 rfl ?_
    obtain ⟨r25, u26, h27, hm⟩ := ob_some hm
    refine goVZ (As := [.int (0 : Int32), .long (r21.toInt64)]) (rest := []) (b0 := G 1) 1 C0 (k_Memory_firmStore l D G Y h27) q_362 q_2 q_359 q_360 q_361 e_Memory_firmStore (by decide) rfl rfl hP hD hS hl.1 rfl (Nat.le_of_ble_eq_true rfl) d_Tree_raise_64 (fun H locs hz28 hP hD hS => ?_)
    refine lv_if_eq (tgt := 74) hx hb d_Tree_raise_67 (by decide) (fun hc => ?_) (fun hc => ?_)
    · rw [if_pos hc] at hm
      refine lv_iconst (v := (0 : Int32)) hx hb d_Tree_raise_74 (by decide) ?_
      exact hret _ _ _ _ (0 : Int32) u26 (Option.some.inj hm) (Or.inl rfl) hP hD hS d_Tree_raise_75
    · rw [if_neg hc] at hm
      refine lv_iconst (v := (1 : Int32)) hx hb d_Tree_raise_70 (by decide) ?_
      refine lv_goto (tgt := 75) hx hb d_Tree_raise_71 (by decide) ?_
      exact hret _ _ _ _ (1 : Int32) u26 (Option.some.inj hm) (Or.inr rfl) hP hD hS d_Tree_raise_75
theorem d_Tree_split_0 : decode b_Tree_split 0 = .ok (.aload_n 0, 1) := by decide +kernel
theorem d_Tree_split_1 : decode b_Tree_split 1 = .ok (.getfield 15, 3) := by decide +kernel
theorem d_Tree_split_4 : decode b_Tree_split 4 = .ok (.iload_n 1, 1) := by decide +kernel
theorem d_Tree_split_5 : decode b_Tree_split 5 = .ok (.iconst 3, 1) := by decide +kernel
theorem d_Tree_split_6 : decode b_Tree_split 6 = .ok (.invokevirtual 119, 3) := by decide +kernel
theorem d_Tree_split_9 : decode b_Tree_split 9 = .ok (.lstore_n 2, 1) := by decide +kernel
theorem d_Tree_split_10 : decode b_Tree_split 10 = .ok (.aload_n 0, 1) := by decide +kernel
theorem d_Tree_split_11 : decode b_Tree_split 11 = .ok (.getfield 15, 3) := by decide +kernel
theorem d_Tree_split_14 : decode b_Tree_split 14 = .ok (.aload_n 0, 1) := by decide +kernel
theorem d_Tree_split_15 : decode b_Tree_split 15 = .ok (.getfield 15, 3) := by decide +kernel
theorem d_Tree_split_18 : decode b_Tree_split 18 = .ok (.iload_n 1, 1) := by decide +kernel
theorem d_Tree_split_19 : decode b_Tree_split 19 = .ok (.invokevirtual 25, 3) := by decide +kernel
theorem d_Tree_split_22 : decode b_Tree_split 22 = .ok (.aload_n 0, 1) := by decide +kernel
theorem d_Tree_split_23 : decode b_Tree_split 23 = .ok (.getfield 15, 3) := by decide +kernel
theorem d_Tree_split_26 : decode b_Tree_split 26 = .ok (.iload_n 1, 1) := by decide +kernel
theorem d_Tree_split_27 : decode b_Tree_split 27 = .ok (.invokevirtual 47, 3) := by decide +kernel
theorem d_Tree_split_30 : decode b_Tree_split 30 = .ok (.lload_n 2, 1) := by decide +kernel
theorem d_Tree_split_31 : decode b_Tree_split 31 = .ok (.invokestatic 122, 3) := by decide +kernel
theorem d_Tree_split_34 : decode b_Tree_split 34 = .ok (.lload_n 2, 1) := by decide +kernel
theorem d_Tree_split_35 : decode b_Tree_split 35 = .ok (.aload_n 0, 1) := by decide +kernel
theorem d_Tree_split_36 : decode b_Tree_split 36 = .ok (.getfield 15, 3) := by decide +kernel
theorem d_Tree_split_39 : decode b_Tree_split 39 = .ok (.iload_n 1, 1) := by decide +kernel
theorem d_Tree_split_40 : decode b_Tree_split 40 = .ok (.iconst 4, 1) := by decide +kernel
theorem d_Tree_split_41 : decode b_Tree_split 41 = .ok (.invokevirtual 119, 3) := by decide +kernel
theorem d_Tree_split_44 : decode b_Tree_split 44 = .ok (.aload_n 0, 1) := by decide +kernel
theorem d_Tree_split_45 : decode b_Tree_split 45 = .ok (.getfield 15, 3) := by decide +kernel
theorem d_Tree_split_48 : decode b_Tree_split 48 = .ok (.iload_n 1, 1) := by decide +kernel
theorem d_Tree_split_49 : decode b_Tree_split 49 = .ok (.iconst 5, 1) := by decide +kernel
theorem d_Tree_split_50 : decode b_Tree_split 50 = .ok (.invokevirtual 119, 3) := by decide +kernel
theorem d_Tree_split_53 : decode b_Tree_split 53 = .ok (.invokevirtual 106, 3) := by decide +kernel
theorem d_Tree_split_56 : decode b_Tree_split 56 = .ok (.istore 4, 2) := by decide +kernel
theorem d_Tree_split_58 : decode b_Tree_split 58 = .ok (.iload 4, 2) := by decide +kernel
theorem d_Tree_split_60 : decode b_Tree_split 60 = .ok (.ifCond .eq 16, 3) := by decide +kernel
theorem d_Tree_split_63 : decode b_Tree_split 63 = .ok (.aload_n 0, 1) := by decide +kernel
theorem d_Tree_split_64 : decode b_Tree_split 64 = .ok (.getfield 15, 3) := by decide +kernel
theorem d_Tree_split_67 : decode b_Tree_split 67 = .ok (.iload_n 1, 1) := by decide +kernel
theorem d_Tree_split_68 : decode b_Tree_split 68 = .ok (.iload 4, 2) := by decide +kernel
theorem d_Tree_split_70 : decode b_Tree_split 70 = .ok (.invokevirtual 125, 3) := by decide +kernel
theorem d_Tree_split_73 : decode b_Tree_split 73 = .ok (.ifCond .ne 5, 3) := by decide +kernel
theorem d_Tree_split_76 : decode b_Tree_split 76 = .ok (.iconst 0, 1) := by decide +kernel
theorem d_Tree_split_77 : decode b_Tree_split 77 = .ok (.ireturn, 1) := by decide +kernel
theorem d_Tree_split_78 : decode b_Tree_split 78 = .ok (.iconst 5, 1) := by decide +kernel
theorem d_Tree_split_79 : decode b_Tree_split 79 = .ok (.istore 5, 2) := by decide +kernel
theorem d_Tree_split_81 : decode b_Tree_split 81 = .ok (.iload 5, 2) := by decide +kernel
theorem d_Tree_split_83 : decode b_Tree_split 83 = .ok (.iconst 3, 1) := by decide +kernel
theorem d_Tree_split_84 : decode b_Tree_split 84 = .ok (.if_icmp .lt 32, 3) := by decide +kernel
theorem d_Tree_split_87 : decode b_Tree_split 87 = .ok (.aload_n 0, 1) := by decide +kernel
theorem d_Tree_split_88 : decode b_Tree_split 88 = .ok (.getfield 9, 3) := by decide +kernel
theorem d_Tree_split_91 : decode b_Tree_split 91 = .ok (.aload_n 0, 1) := by decide +kernel
theorem d_Tree_split_92 : decode b_Tree_split 92 = .ok (.getfield 15, 3) := by decide +kernel
theorem d_Tree_split_95 : decode b_Tree_split 95 = .ok (.iload_n 1, 1) := by decide +kernel
theorem d_Tree_split_96 : decode b_Tree_split 96 = .ok (.iload 5, 2) := by decide +kernel
theorem d_Tree_split_98 : decode b_Tree_split 98 = .ok (.invokevirtual 41, 3) := by decide +kernel
theorem d_Tree_split_101 : decode b_Tree_split 101 = .ok (.lconst 0, 1) := by decide +kernel
theorem d_Tree_split_102 : decode b_Tree_split 102 = .ok (.invokevirtual 128, 3) := by decide +kernel
theorem d_Tree_split_105 : decode b_Tree_split 105 = .ok (.ifCond .ne 5, 3) := by decide +kernel
theorem d_Tree_split_108 : decode b_Tree_split 108 = .ok (.iconst 0, 1) := by decide +kernel
theorem d_Tree_split_109 : decode b_Tree_split 109 = .ok (.ireturn, 1) := by decide +kernel
theorem d_Tree_split_110 : decode b_Tree_split 110 = .ok (.iinc 5 (-1), 3) := by decide +kernel
theorem d_Tree_split_113 : decode b_Tree_split 113 = .ok (.goto (-32), 3) := by decide +kernel
theorem d_Tree_split_116 : decode b_Tree_split 116 = .ok (.aload_n 0, 1) := by decide +kernel
theorem d_Tree_split_117 : decode b_Tree_split 117 = .ok (.getfield 9, 3) := by decide +kernel
theorem d_Tree_split_120 : decode b_Tree_split 120 = .ok (.invokevirtual 131, 3) := by decide +kernel
theorem d_Tree_split_123 : decode b_Tree_split 123 = .ok (.iload 4, 2) := by decide +kernel
theorem d_Tree_split_125 : decode b_Tree_split 125 = .ok (.ireturn, 1) := by decide +kernel
set_option maxRecDepth 100000 in
set_option maxHeartbeats 4000000 in
theorem k_Tree_split (l : Launch) (D : va_G) (G : Nat → Nat) (Y : Nat → ClassId) {u : SM} {a1 : Int32} {r : Int32} {u' : SM} (hm : m_Tree_split u a1 = some (r, u')) : KI l D clz (tyz Y) (wdC G Y) y_Tree_split b_Tree_split 6 (some .int) 4 104 [.ref (G 6), .int a1] u r u' := by
  refine mkI (by decide) (Nat.le_of_ble_eq_true rfl) ?_
  intro p e s m below meth c A Z ls C0 hP hD hS hl hret
  obtain ⟨hx, hb, hml, hown, hts, hK, hN, hA⟩ := id C0
  have hl : lv_has ls 6 [(0, .ref (G 6)), (1, .int a1)] := hl
  have L81 : ∀ (x1 : Int32) (x4 : Int32) (o : (Int32 × SM) ⊕ (SM)) (kr : ∀ z, o = .inl z → z = (r, u')) (kx : ∀  (ub : SM), o = .inr ub → ∀ (H : Heap) (locs : List Loc) (ls : Array Slot), va_P D clz (wdC G Y ub) H → va_D A (wdC G Y ub) → va_S A s.heap H locs → lv_has ls 6 [(0, .ref (G 6)), (4, .int x4)] → W p l e (zRm 4 104) s m ([.ref (G 6), .int a1] : List Value).toArray below meth c H locs 0 0 Z (F0 m 116 ls [])) (n0 : Nat) (ua : SM) (x5 : Int32), m_Tree_split_L81 n0 ua x5 x1 x4 = some o → ∀ (H : Heap) (locs : List Loc) (ls : Array Slot), va_P D clz (wdC G Y ua) H → va_D A (wdC G Y ua) → va_S A s.heap H locs → lv_has ls 6 [(0, .ref (G 6)), (1, .int x1), (4, .int x4), (5, .int x5)] → W p l e (zRm 4 104) s m ([.ref (G 6), .int a1] : List Value).toArray below meth c H locs 0 0 Z (F0 m 81 ls []) := by
    intro x1 x4 o kr kx n0
    induction n0 with
    | zero => intro ua x5 hm; rw [m_Tree_split_L81] at hm; cases hm
    | succ n0 ih =>
      intro ua x5 hm H locs ls hP hD hS hl
      rw [m_Tree_split_L81] at hm
      refine lv_iload hx hb d_Tree_split_81 (lv_at hl 3 rfl) ?_
      refine lv_iconst (v := (3 : Int32)) hx hb d_Tree_split_83 (by decide) ?_
      refine lv_icmp_lt (tgt := 116) hx hb d_Tree_split_84 (by decide) (fun hc => ?_) (fun hc => ?_)
      · rw [if_pos hc] at hm
        exact kx  ua (Option.some.inj hm).symm _ _ _ hP hD hS (lv_sub hl [0, 2] rfl)
      · rw [if_neg hc] at hm
        refine lv_aload_n hx hb d_Tree_split_87 rfl (lv_at hl 0 rfl) ?_
        refine va_get (D := D) (ci := 3) (v := .ref (G 1)) (C := "FirmStore$Tree") (T := F_Tree) (N := 2) hx hb hts iz_Tree hown hK hP 6 rfl rfl 0 (by decide) (hts _ q_73) (fun _ h9 => h9) rfl d_Tree_split_88 ?_
        refine lv_aload_n hx hb d_Tree_split_91 rfl (lv_at hl 0 rfl) ?_
        refine va_get (D := D) (ci := 3) (v := .ref (G 5)) (C := "FirmStore$Tree") (T := F_Tree) (N := 2) hx hb hts iz_Tree hown hK hP 6 rfl rfl 1 (by decide) (hts _ q_74) (fun _ h9 => h9) rfl d_Tree_split_92 ?_
        refine lv_iload_n hx hb d_Tree_split_95 rfl (lv_at hl 1 rfl) ?_
        refine lv_iload hx hb d_Tree_split_96 (lv_at hl 3 rfl) ?_
        obtain ⟨r1, u2, h3, hm⟩ := ob_some hm
        refine goVI (As := [.int x1, .int x5]) (rest := [.ref (G 1)]) (b0 := G 5) 5 C0 (k_Blocks_addressOfPlace l D G Y h3) q_384 q_3 q_381 q_382 q_383 e_Blocks_addressOfPlace (by decide) rfl rfl hP hD hS hl.1 rfl (Nat.le_of_ble_eq_true rfl) d_Tree_split_98 (fun H locs hP hD hS => ?_)
        refine lv_lconst (v := (0 : Int64)) hx hb d_Tree_split_101 (by decide) ?_
        obtain ⟨r5, u6, h7, hm⟩ := ob_some hm
        refine goVZ (As := [.int r1, .long (0 : Int64)]) (rest := []) (b0 := G 1) 1 C0 (k_Memory_store l D G Y h7) q_350 q_2 q_403 q_348 q_349 e_Memory_store (by decide) rfl rfl hP hD hS hl.1 rfl (Nat.le_of_ble_eq_true rfl) d_Tree_split_102 (fun H locs hz8 hP hD hS => ?_)
        refine lv_if_ne (tgt := 110) hx hb d_Tree_split_105 (by decide) (fun hc => ?_) (fun hc => ?_)
        · rw [if_neg hc] at hm
          refine lv_iinc (v := (x5 + (-1 : Int32))) (lv' := [(5, .int (x5 + (-1 : Int32))), (0, .ref (G 6)), (1, .int x1), (4, .int x4)]) hx hb d_Tree_split_110 hl (k := 3) rfl rfl (by decide) rfl (fun ls hl => ?_)
          refine lv_goto (tgt := 81) hx hb d_Tree_split_113 (by decide) ?_
          exact ih u6 (x5 + (-1 : Int32)) hm _ _ _ hP hD hS (lv_sub hl [1, 2, 3, 0] rfl)
        · rw [if_pos hc] at hm
          refine lv_iconst (v := (0 : Int32)) hx hb d_Tree_split_108 (by decide) ?_
          exact hret _ _ _ _ (0 : Int32) u6 (kr _ (Option.some.inj hm).symm) hP hD hS d_Tree_split_109
  rw [m_Tree_split] at hm
  refine lv_aload_n hx hb d_Tree_split_0 rfl (lv_at hl 0 rfl) ?_
  refine va_get (D := D) (ci := 3) (v := .ref (G 5)) (C := "FirmStore$Tree") (T := F_Tree) (N := 2) hx hb hts iz_Tree hown hK hP 6 rfl rfl 1 (by decide) (hts _ q_74) (fun _ h9 => h9) rfl d_Tree_split_1 ?_
  refine lv_iload_n hx hb d_Tree_split_4 rfl (lv_at hl 1 rfl) ?_
  refine lv_iconst (v := (3 : Int32)) hx hb d_Tree_split_5 (by decide) ?_
  obtain ⟨r9, u10, h11, hm⟩ := ob_some hm
  refine goVL (As := [.int a1, .int (3 : Int32)]) (rest := []) (b0 := G 5) 5 C0 (k_Blocks_entryAt l D G Y h11) q_176 q_3 q_173 q_174 q_175 e_Blocks_entryAt (by decide) rfl rfl hP hD hS hl.1 rfl (Nat.le_of_ble_eq_true rfl) d_Tree_split_6 (fun H locs hP hD hS => ?_)
  refine lv_lstore_n (lv' := [(2, .long r9), (0, .ref (G 6)), (1, .int a1)]) hx hb d_Tree_split_9 rfl hl (by decide) rfl (fun ls hl => ?_)
  refine lv_aload_n hx hb d_Tree_split_10 rfl (lv_at hl 1 rfl) ?_
  refine va_get (D := D) (ci := 3) (v := .ref (G 5)) (C := "FirmStore$Tree") (T := F_Tree) (N := 2) hx hb hts iz_Tree hown hK hP 6 rfl rfl 1 (by decide) (hts _ q_74) (fun _ h9 => h9) rfl d_Tree_split_11 ?_
  refine lv_aload_n hx hb d_Tree_split_14 rfl (lv_at hl 1 rfl) ?_
  refine va_get (D := D) (ci := 3) (v := .ref (G 5)) (C := "FirmStore$Tree") (T := F_Tree) (N := 2) hx hb hts iz_Tree hown hK hP 6 rfl rfl 1 (by decide) (hts _ q_74) (fun _ h9 => h9) rfl d_Tree_split_15 ?_
  refine lv_iload_n hx hb d_Tree_split_18 rfl (lv_at hl 2 rfl) ?_
  obtain ⟨r13, u14, h15, hm⟩ := ob_some hm
  refine goVI (As := [.int a1]) (rest := [.ref (G 5)]) (b0 := G 5) 5 C0 (k_Blocks_levelOf l D G Y h15) q_145 q_3 q_142 q_143 q_144 e_Blocks_levelOf (by decide) rfl rfl hP hD hS hl.1 rfl (Nat.le_of_ble_eq_true rfl) d_Tree_split_19 (fun H locs hP hD hS => ?_)
  refine lv_aload_n hx hb d_Tree_split_22 rfl (lv_at hl 1 rfl) ?_
  refine va_get (D := D) (ci := 3) (v := .ref (G 5)) (C := "FirmStore$Tree") (T := F_Tree) (N := 2) hx hb hts iz_Tree hown hK hP 6 rfl rfl 1 (by decide) (hts _ q_74) (fun _ h9 => h9) rfl d_Tree_split_23 ?_
  refine lv_iload_n hx hb d_Tree_split_26 rfl (lv_at hl 2 rfl) ?_
  obtain ⟨r17, u18, h19, hm⟩ := ob_some hm
  refine goVI (As := [.int a1]) (rest := [.int r13, .ref (G 5)]) (b0 := G 5) 5 C0 (k_Blocks_nextOf l D G Y h19) q_160 q_3 q_157 q_158 q_159 e_Blocks_nextOf (by decide) rfl rfl hP hD hS hl.1 rfl (Nat.le_of_ble_eq_true rfl) d_Tree_split_27 (fun H locs hP hD hS => ?_)
  refine lv_lload_n hx hb d_Tree_split_30 rfl (lv_at hl 0 rfl) ?_
  obtain ⟨r21, u22, h23, hm⟩ := ob_some hm
  refine goNI (As := [.long r9]) (rest := [.int r17, .int r13, .ref (G 5)]) C0 (k_Firm_keyOf l D G Y h23) q_179 q_1 hN.2.1 q_178 e_Firm_keyOf (by decide) hP hD hS hl.1 rfl (Nat.le_of_ble_eq_true rfl) d_Tree_split_31 (fun H locs hP hD hS => ?_)
  refine lv_lload_n hx hb d_Tree_split_34 rfl (lv_at hl 0 rfl) ?_
  refine lv_aload_n hx hb d_Tree_split_35 rfl (lv_at hl 1 rfl) ?_
  refine va_get (D := D) (ci := 3) (v := .ref (G 5)) (C := "FirmStore$Tree") (T := F_Tree) (N := 2) hx hb hts iz_Tree hown hK hP 6 rfl rfl 1 (by decide) (hts _ q_74) (fun _ h9 => h9) rfl d_Tree_split_36 ?_
  refine lv_iload_n hx hb d_Tree_split_39 rfl (lv_at hl 2 rfl) ?_
  refine lv_iconst (v := (4 : Int32)) hx hb d_Tree_split_40 (by decide) ?_
  obtain ⟨r25, u26, h27, hm⟩ := ob_some hm
  refine goVL (As := [.int a1, .int (4 : Int32)]) (rest := [.long r9, .int r21, .int r17, .int r13, .ref (G 5)]) (b0 := G 5) 5 C0 (k_Blocks_entryAt l D G Y h27) q_176 q_3 q_173 q_174 q_175 e_Blocks_entryAt (by decide) rfl rfl hP hD hS hl.1 rfl (Nat.le_of_ble_eq_true rfl) d_Tree_split_41 (fun H locs hP hD hS => ?_)
  refine lv_aload_n hx hb d_Tree_split_44 rfl (lv_at hl 1 rfl) ?_
  refine va_get (D := D) (ci := 3) (v := .ref (G 5)) (C := "FirmStore$Tree") (T := F_Tree) (N := 2) hx hb hts iz_Tree hown hK hP 6 rfl rfl 1 (by decide) (hts _ q_74) (fun _ h9 => h9) rfl d_Tree_split_45 ?_
  refine lv_iload_n hx hb d_Tree_split_48 rfl (lv_at hl 2 rfl) ?_
  refine lv_iconst (v := (5 : Int32)) hx hb d_Tree_split_49 (by decide) ?_
  obtain ⟨r29, u30, h31, hm⟩ := ob_some hm
  refine goVL (As := [.int a1, .int (5 : Int32)]) (rest := [.long r25, .long r9, .int r21, .int r17, .int r13, .ref (G 5)]) (b0 := G 5) 5 C0 (k_Blocks_entryAt l D G Y h31) q_176 q_3 q_173 q_174 q_175 e_Blocks_entryAt (by decide) rfl rfl hP hD hS hl.1 rfl (Nat.le_of_ble_eq_true rfl) d_Tree_split_50 (fun H locs hP hD hS => ?_)
  obtain ⟨r33, u34, h35, hm⟩ := ob_some hm
  refine goVI (As := [.int r13, .int r17, .int r21, .long r9, .long r25, .long r29]) (rest := []) (b0 := G 5) 5 C0 (k_Blocks_make l D G Y h35) q_346 q_3 q_343 q_344 q_345 e_Blocks_make (by decide) rfl rfl hP hD hS hl.1 rfl (Nat.le_of_ble_eq_true rfl) d_Tree_split_53 (fun H locs hP hD hS => ?_)
  refine lv_istore (lv' := [(4, .int r33), (2, .long r9), (0, .ref (G 6)), (1, .int a1)]) hx hb d_Tree_split_56 hl (by decide) rfl (fun ls hl => ?_)
  refine lv_iload hx hb d_Tree_split_58 (lv_at hl 0 rfl) ?_
  refine lv_if_eq (tgt := 76) hx hb d_Tree_split_60 (by decide) (fun hc => ?_) (fun hc => ?_)
  · rw [if_pos hc] at hm
    refine lv_iconst (v := (0 : Int32)) hx hb d_Tree_split_76 (by decide) ?_
    exact hret _ _ _ _ (0 : Int32) u34 (Option.some.inj hm) hP hD hS d_Tree_split_77
  · rw [if_neg hc] at hm
    refine lv_aload_n hx hb d_Tree_split_63 rfl (lv_at hl 2 rfl) ?_
    refine va_get (D := D) (ci := 3) (v := .ref (G 5)) (C := "FirmStore$Tree") (T := F_Tree) (N := 2) hx hb hts iz_Tree hown hK hP 6 rfl rfl 1 (by decide) (hts _ q_74) (fun _ h9 => h9) rfl d_Tree_split_64 ?_
    refine lv_iload_n hx hb d_Tree_split_67 rfl (lv_at hl 3 rfl) ?_
    refine lv_iload hx hb d_Tree_split_68 (lv_at hl 0 rfl) ?_
    obtain ⟨r37, u38, h39, hm⟩ := ob_some hm
    refine goVZ (As := [.int a1, .int r33]) (rest := []) (b0 := G 5) 5 C0 (k_Blocks_linkNext l D G Y h39) q_401 q_3 q_398 q_399 q_400 e_Blocks_linkNext (by decide) rfl rfl hP hD hS hl.1 rfl (Nat.le_of_ble_eq_true rfl) d_Tree_split_70 (fun H locs hz40 hP hD hS => ?_)
    refine lv_if_ne (tgt := 78) hx hb d_Tree_split_73 (by decide) (fun hc => ?_) (fun hc => ?_)
    · rw [if_neg hc] at hm
      refine lv_iconst (v := (5 : Int32)) hx hb d_Tree_split_78 (by decide) ?_
      refine lv_istore (lv' := [(5, .int (5 : Int32)), (4, .int r33), (2, .long r9), (0, .ref (G 6)), (1, .int a1)]) hx hb d_Tree_split_79 hl (by decide) rfl (fun ls hl => ?_)
      obtain ⟨qq, hq, hi, ho⟩ := ol0_some hm
      refine L81 a1 r33 qq (fun z hz => hi z hz) (fun  u41 hz H locs ls hP hD hS hl => ?_) fz u38 (5 : Int32) hq _ _ _ hP hD hS (lv_sub hl [3, 4, 1, 0] rfl)
      have hm := ho  u41 hz
      refine lv_aload_n hx hb d_Tree_split_116 rfl (lv_at hl 0 rfl) ?_
      refine va_get (D := D) (ci := 3) (v := .ref (G 1)) (C := "FirmStore$Tree") (T := F_Tree) (N := 2) hx hb hts iz_Tree hown hK hP 6 rfl rfl 0 (by decide) (hts _ q_73) (fun _ h9 => h9) rfl d_Tree_split_117 ?_
      obtain ⟨r42, u43, h44, hm⟩ := ob_some hm
      refine goVV (As := []) (rest := []) (b0 := G 1) 1 C0 (k_Memory_fence l D G Y h44) q_358 q_2 q_404 q_356 q_357 e_Memory_fence (by decide) rfl rfl hP hD hS hl.1 rfl (Nat.le_of_ble_eq_true rfl) d_Tree_split_120 (fun H locs hP hD hS => ?_)
      refine lv_iload hx hb d_Tree_split_123 (lv_at hl 1 rfl) ?_
      exact hret _ _ _ _ r33 u43 (Option.some.inj hm) hP hD hS d_Tree_split_125
    · rw [if_pos hc] at hm
      refine lv_iconst (v := (0 : Int32)) hx hb d_Tree_split_76 (by decide) ?_
      exact hret _ _ _ _ (0 : Int32) u38 (Option.some.inj hm) hP hD hS d_Tree_split_77
theorem d_Tree_hang_0 : decode b_Tree_hang 0 = .ok (.iload_n 2, 1) := by decide +kernel
theorem d_Tree_hang_1 : decode b_Tree_hang 1 = .ok (.bipush 30, 2) := by decide +kernel
theorem d_Tree_hang_3 : decode b_Tree_hang 3 = .ok (.if_icmp .le 5, 3) := by decide +kernel
theorem d_Tree_hang_6 : decode b_Tree_hang 6 = .ok (.iconst 0, 1) := by decide +kernel
theorem d_Tree_hang_7 : decode b_Tree_hang 7 = .ok (.ireturn, 1) := by decide +kernel
theorem d_Tree_hang_8 : decode b_Tree_hang 8 = .ok (.aload_n 0, 1) := by decide +kernel
theorem d_Tree_hang_9 : decode b_Tree_hang 9 = .ok (.invokevirtual 94, 3) := by decide +kernel
theorem d_Tree_hang_12 : decode b_Tree_hang 12 = .ok (.iload_n 2, 1) := by decide +kernel
theorem d_Tree_hang_13 : decode b_Tree_hang 13 = .ok (.if_icmp .ge 10, 3) := by decide +kernel
theorem d_Tree_hang_16 : decode b_Tree_hang 16 = .ok (.aload_n 0, 1) := by decide +kernel
theorem d_Tree_hang_17 : decode b_Tree_hang 17 = .ok (.iload_n 1, 1) := by decide +kernel
theorem d_Tree_hang_18 : decode b_Tree_hang 18 = .ok (.iload_n 2, 1) := by decide +kernel
theorem d_Tree_hang_19 : decode b_Tree_hang 19 = .ok (.invokevirtual 134, 3) := by decide +kernel
theorem d_Tree_hang_22 : decode b_Tree_hang 22 = .ok (.ireturn, 1) := by decide +kernel
theorem d_Tree_hang_23 : decode b_Tree_hang 23 = .ok (.aload_n 0, 1) := by decide +kernel
theorem d_Tree_hang_24 : decode b_Tree_hang 24 = .ok (.getfield 15, 3) := by decide +kernel
theorem d_Tree_hang_27 : decode b_Tree_hang 27 = .ok (.iload_n 1, 1) := by decide +kernel
theorem d_Tree_hang_28 : decode b_Tree_hang 28 = .ok (.invokevirtual 110, 3) := by decide +kernel
theorem d_Tree_hang_31 : decode b_Tree_hang 31 = .ok (.istore_n 3, 1) := by decide +kernel
theorem d_Tree_hang_32 : decode b_Tree_hang 32 = .ok (.aload_n 0, 1) := by decide +kernel
theorem d_Tree_hang_33 : decode b_Tree_hang 33 = .ok (.iload_n 3, 1) := by decide +kernel
theorem d_Tree_hang_34 : decode b_Tree_hang 34 = .ok (.iload_n 2, 1) := by decide +kernel
theorem d_Tree_hang_35 : decode b_Tree_hang 35 = .ok (.invokevirtual 28, 3) := by decide +kernel
theorem d_Tree_hang_38 : decode b_Tree_hang 38 = .ok (.istore 4, 2) := by decide +kernel
theorem d_Tree_hang_40 : decode b_Tree_hang 40 = .ok (.aload_n 0, 1) := by decide +kernel
theorem d_Tree_hang_41 : decode b_Tree_hang 41 = .ok (.getfield 15, 3) := by decide +kernel
theorem d_Tree_hang_44 : decode b_Tree_hang 44 = .ok (.iload 4, 2) := by decide +kernel
theorem d_Tree_hang_46 : decode b_Tree_hang 46 = .ok (.invokevirtual 70, 3) := by decide +kernel
theorem d_Tree_hang_49 : decode b_Tree_hang 49 = .ok (.ifCond .eq 38, 3) := by decide +kernel
theorem d_Tree_hang_52 : decode b_Tree_hang 52 = .ok (.aload_n 0, 1) := by decide +kernel
theorem d_Tree_hang_53 : decode b_Tree_hang 53 = .ok (.iload 4, 2) := by decide +kernel
theorem d_Tree_hang_55 : decode b_Tree_hang 55 = .ok (.invokevirtual 81, 3) := by decide +kernel
theorem d_Tree_hang_58 : decode b_Tree_hang 58 = .ok (.istore 5, 2) := by decide +kernel
theorem d_Tree_hang_60 : decode b_Tree_hang 60 = .ok (.iload 5, 2) := by decide +kernel
theorem d_Tree_hang_62 : decode b_Tree_hang 62 = .ok (.ifCond .eq 15, 3) := by decide +kernel
theorem d_Tree_hang_65 : decode b_Tree_hang 65 = .ok (.aload_n 0, 1) := by decide +kernel
theorem d_Tree_hang_66 : decode b_Tree_hang 66 = .ok (.iload 5, 2) := by decide +kernel
theorem d_Tree_hang_68 : decode b_Tree_hang 68 = .ok (.iload_n 2, 1) := by decide +kernel
theorem d_Tree_hang_69 : decode b_Tree_hang 69 = .ok (.iconst 1, 1) := by decide +kernel
theorem d_Tree_hang_70 : decode b_Tree_hang 70 = .ok (.iadd, 1) := by decide +kernel
theorem d_Tree_hang_71 : decode b_Tree_hang 71 = .ok (.invokevirtual 84, 3) := by decide +kernel
theorem d_Tree_hang_74 : decode b_Tree_hang 74 = .ok (.ifCond .ne 5, 3) := by decide +kernel
theorem d_Tree_hang_77 : decode b_Tree_hang 77 = .ok (.iconst 0, 1) := by decide +kernel
theorem d_Tree_hang_78 : decode b_Tree_hang 78 = .ok (.ireturn, 1) := by decide +kernel
theorem d_Tree_hang_79 : decode b_Tree_hang 79 = .ok (.aload_n 0, 1) := by decide +kernel
theorem d_Tree_hang_80 : decode b_Tree_hang 80 = .ok (.iload_n 3, 1) := by decide +kernel
theorem d_Tree_hang_81 : decode b_Tree_hang 81 = .ok (.iload_n 2, 1) := by decide +kernel
theorem d_Tree_hang_82 : decode b_Tree_hang 82 = .ok (.invokevirtual 28, 3) := by decide +kernel
theorem d_Tree_hang_85 : decode b_Tree_hang 85 = .ok (.istore 4, 2) := by decide +kernel
theorem d_Tree_hang_87 : decode b_Tree_hang 87 = .ok (.aload_n 0, 1) := by decide +kernel
theorem d_Tree_hang_88 : decode b_Tree_hang 88 = .ok (.iload 4, 2) := by decide +kernel
theorem d_Tree_hang_90 : decode b_Tree_hang 90 = .ok (.iload_n 3, 1) := by decide +kernel
theorem d_Tree_hang_91 : decode b_Tree_hang 91 = .ok (.iload_n 1, 1) := by decide +kernel
theorem d_Tree_hang_92 : decode b_Tree_hang 92 = .ok (.invokestatic 53, 3) := by decide +kernel
theorem d_Tree_hang_95 : decode b_Tree_hang 95 = .ok (.invokevirtual 88, 3) := by decide +kernel
theorem d_Tree_hang_98 : decode b_Tree_hang 98 = .ok (.ireturn, 1) := by decide +kernel
set_option maxRecDepth 100000 in
set_option maxHeartbeats 4000000 in
theorem k_Tree_hang (l : Launch) (D : va_G) (G : Nat → Nat) (Y : Nat → ClassId) : ∀ (d : Nat) {u : SM} {a1 : Int32} {a2 : Int32} {r : Int32} {u' : SM}, m_Tree_hang d u a1 a2 = some (r, u') → KZ l D clz (tyz Y) (wdC G Y) y_Tree_hang b_Tree_hang 6 (some .boolean) (5 + d) (129 + d * 25) [.ref (G 6), .int a1, .int a2] u r u' := by
  intro d
  induction d with
  | zero => intro u a1 a2 r u' hm; rw [m_Tree_hang] at hm; cases hm
  | succ d ih =>
  intro u a1 a2 r u' hm
  refine mkZ (by decide) (Nat.le_of_ble_eq_true rfl) ?_
  intro p e s m below meth c A Z ls C0 hP hD hS hl hret
  obtain ⟨hx, hb, hml, hown, hts, hK, hN, hA⟩ := id C0
  have hl : lv_has ls 6 [(0, .ref (G 6)), (1, .int a1), (2, .int a2)] := hl
  rw [m_Tree_hang] at hm
  refine lv_iload_n hx hb d_Tree_hang_0 rfl (lv_at hl 2 rfl) ?_
  refine lv_bipush (v := (30 : Int32)) hx hb d_Tree_hang_1 (by decide) ?_
  refine lv_icmp_le (tgt := 8) hx hb d_Tree_hang_3 (by decide) (fun hc => ?_) (fun hc => ?_)
  · rw [if_pos hc] at hm
    refine lv_aload_n hx hb d_Tree_hang_8 rfl (lv_at hl 0 rfl) ?_
    obtain ⟨r1, u2, h3, hm⟩ := ob_some hm
    refine goVI (As := []) (rest := []) (b0 := G 6) 6 C0 (k_Tree_topLevel l D G Y h3) q_226 q_4 q_393 q_224 q_225 e_Tree_topLevel ⟨by omega, by omega⟩ rfl rfl hP hD hS hl.1 rfl (Nat.le_of_ble_eq_true rfl) d_Tree_hang_9 (fun H locs hP hD hS => ?_)
    refine lv_iload_n hx hb d_Tree_hang_12 rfl (lv_at hl 2 rfl) ?_
    refine lv_icmp_ge (tgt := 23) hx hb d_Tree_hang_13 (by decide) (fun hc => ?_) (fun hc => ?_)
    · rw [if_pos hc] at hm
      refine lv_aload_n hx hb d_Tree_hang_23 rfl (lv_at hl 0 rfl) ?_
      refine va_get (D := D) (ci := 3) (v := .ref (G 5)) (C := "FirmStore$Tree") (T := F_Tree) (N := 2) hx hb hts iz_Tree hown hK hP 6 rfl rfl 1 (by decide) (hts _ q_74) (fun _ h9 => h9) rfl d_Tree_hang_24 ?_
      refine lv_iload_n hx hb d_Tree_hang_27 rfl (lv_at hl 1 rfl) ?_
      obtain ⟨r5, u6, h7, hm⟩ := ob_some hm
      refine goVI (As := [.int a1]) (rest := []) (b0 := G 5) 5 C0 (k_Blocks_lowOf l D G Y h7) q_164 q_3 q_161 q_162 q_163 e_Blocks_lowOf ⟨by omega, by omega⟩ rfl rfl hP hD hS hl.1 rfl (Nat.le_of_ble_eq_true rfl) d_Tree_hang_28 (fun H locs hP hD hS => ?_)
      refine lv_istore_n (lv' := [(3, .int r5), (0, .ref (G 6)), (1, .int a1), (2, .int a2)]) hx hb d_Tree_hang_31 rfl hl (by decide) rfl (fun ls hl => ?_)
      refine lv_aload_n hx hb d_Tree_hang_32 rfl (lv_at hl 1 rfl) ?_
      refine lv_iload_n hx hb d_Tree_hang_33 rfl (lv_at hl 0 rfl) ?_
      refine lv_iload_n hx hb d_Tree_hang_34 rfl (lv_at hl 3 rfl) ?_
      obtain ⟨r9, u10, h11, hm⟩ := ob_some hm
      refine goVI (As := [.int r5, .int a2]) (rest := []) (b0 := G 6) 6 C0 (k_Tree_find l D G Y h11) q_372 q_4 q_369 q_371 qs_8 e_Tree_find ⟨by omega, by omega⟩ rfl rfl hP hD hS hl.1 rfl (Nat.le_of_ble_eq_true rfl) d_Tree_hang_35 (fun H locs hP hD hS => ?_)
      refine lv_istore (lv' := [(4, .int r9), (3, .int r5), (0, .ref (G 6)), (1, .int a1), (2, .int a2)]) hx hb d_Tree_hang_38 hl (by decide) rfl (fun ls hl => ?_)
      refine lv_aload_n hx hb d_Tree_hang_40 rfl (lv_at hl 2 rfl) ?_
      refine va_get (D := D) (ci := 3) (v := .ref (G 5)) (C := "FirmStore$Tree") (T := F_Tree) (N := 2) hx hb hts iz_Tree hown hK hP 6 rfl rfl 1 (by decide) (hts _ q_74) (fun _ h9 => h9) rfl d_Tree_hang_41 ?_
      refine lv_iload hx hb d_Tree_hang_44 (lv_at hl 0 rfl) ?_
      obtain ⟨r13, u14, h15, hm⟩ := ob_some hm
      refine goVZ (As := [.int r9]) (rest := []) (b0 := G 5) 5 C0 (k_Blocks_isFull l D G Y h15) q_388 q_3 q_385 q_386 q_387 e_Blocks_isFull ⟨by omega, by omega⟩ rfl rfl hP hD hS hl.1 rfl (Nat.le_of_ble_eq_true rfl) d_Tree_hang_46 (fun H locs hz16 hP hD hS => ?_)
      refine lv_if_eq (tgt := 87) hx hb d_Tree_hang_49 (by decide) (fun hc => ?_) (fun hc => ?_)
      · rw [if_pos hc] at hm
        refine lv_aload_n hx hb d_Tree_hang_87 rfl (lv_at hl 2 rfl) ?_
        refine lv_iload hx hb d_Tree_hang_88 (lv_at hl 0 rfl) ?_
        refine lv_iload_n hx hb d_Tree_hang_90 rfl (lv_at hl 1 rfl) ?_
        refine lv_iload_n hx hb d_Tree_hang_91 rfl (lv_at hl 3 rfl) ?_
        obtain ⟨r17, u18, h19, hm⟩ := ob_some hm
        refine goNL (As := [.int r5, .int a1]) (rest := [.int r9, .ref (G 6)]) C0 (k_Firm_entryOf l D G Y h19) q_336 q_1 hN.2.2.1 q_335 e_Firm_entryOf ⟨by omega, by omega⟩ hP hD hS hl.1 rfl (Nat.le_of_ble_eq_true rfl) d_Tree_hang_92 (fun H locs hP hD hS => ?_)
        obtain ⟨r21, u22, h23, hm⟩ := ob_some hm
        refine goVZ (As := [.int r9, .long r17]) (rest := []) (b0 := G 6) 6 C0 (k_Tree_insert l D G Y h23) q_416 q_4 q_413 q_415 qs_15 e_Tree_insert ⟨by omega, by omega⟩ rfl rfl hP hD hS hl.1 rfl (Nat.le_of_ble_eq_true rfl) d_Tree_hang_95 (fun H locs hz24 hP hD hS => ?_)
        exact hret _ _ _ _ r21 u22 (Option.some.inj hm) hz24 hP hD hS d_Tree_hang_98
      · rw [if_neg hc] at hm
        refine lv_aload_n hx hb d_Tree_hang_52 rfl (lv_at hl 2 rfl) ?_
        refine lv_iload hx hb d_Tree_hang_53 (lv_at hl 0 rfl) ?_
        obtain ⟨r25, u26, h27, hm⟩ := ob_some hm
        refine goVI (As := [.int r9]) (rest := []) (b0 := G 6) 6 C0 (k_Tree_split l D G Y h27) q_397 q_4 q_394 q_396 qs_12 e_Tree_split ⟨by omega, by omega⟩ rfl rfl hP hD hS hl.1 rfl (Nat.le_of_ble_eq_true rfl) d_Tree_hang_55 (fun H locs hP hD hS => ?_)
        refine lv_istore (lv' := [(5, .int r25), (4, .int r9), (3, .int r5), (0, .ref (G 6)), (1, .int a1), (2, .int a2)]) hx hb d_Tree_hang_58 hl (by decide) rfl (fun ls hl => ?_)
        refine lv_iload hx hb d_Tree_hang_60 (lv_at hl 0 rfl) ?_
        refine lv_if_eq (tgt := 77) hx hb d_Tree_hang_62 (by decide) (fun hc => ?_) (fun hc => ?_)
        · rw [if_pos hc] at hm
          refine lv_iconst (v := (0 : Int32)) hx hb d_Tree_hang_77 (by decide) ?_
          exact hret _ _ _ _ (0 : Int32) u26 (Option.some.inj hm) (Or.inl rfl) hP hD hS d_Tree_hang_78
        · rw [if_neg hc] at hm
          refine lv_aload_n hx hb d_Tree_hang_65 rfl (lv_at hl 3 rfl) ?_
          refine lv_iload hx hb d_Tree_hang_66 (lv_at hl 0 rfl) ?_
          refine lv_iload_n hx hb d_Tree_hang_68 rfl (lv_at hl 5 rfl) ?_
          refine lv_iconst (v := (1 : Int32)) hx hb d_Tree_hang_69 (by decide) ?_
          refine lv_iadd hx hb d_Tree_hang_70 ?_
          obtain ⟨r29, u30, h31, hm⟩ := ob_some hm
          refine goVZ (As := [.int r25, .int (a2 + (1 : Int32))]) (rest := []) (b0 := G 6) 6 C0 (ih h31) q_408 q_4 q_405 q_407 qs_13 e_Tree_hang ⟨by omega, by omega⟩ rfl rfl hP hD hS hl.1 rfl (Nat.le_of_ble_eq_true rfl) d_Tree_hang_71 (fun H locs hz32 hP hD hS => ?_)
          refine lv_if_ne (tgt := 79) hx hb d_Tree_hang_74 (by decide) (fun hc => ?_) (fun hc => ?_)
          · rw [if_neg hc] at hm
            refine lv_aload_n hx hb d_Tree_hang_79 rfl (lv_at hl 3 rfl) ?_
            refine lv_iload_n hx hb d_Tree_hang_80 rfl (lv_at hl 2 rfl) ?_
            refine lv_iload_n hx hb d_Tree_hang_81 rfl (lv_at hl 5 rfl) ?_
            obtain ⟨r33, u34, h35, hm⟩ := ob_some hm
            refine goVI (As := [.int r5, .int a2]) (rest := []) (b0 := G 6) 6 C0 (k_Tree_find l D G Y h35) q_372 q_4 q_369 q_371 qs_8 e_Tree_find ⟨by omega, by omega⟩ rfl rfl hP hD hS hl.1 rfl (Nat.le_of_ble_eq_true rfl) d_Tree_hang_82 (fun H locs hP hD hS => ?_)
            refine lv_istore (lv' := [(4, .int r33), (5, .int r25), (3, .int r5), (0, .ref (G 6)), (1, .int a1), (2, .int a2)]) hx hb d_Tree_hang_85 hl (by decide) rfl (fun ls hl => ?_)
            refine lv_aload_n hx hb d_Tree_hang_87 rfl (lv_at hl 3 rfl) ?_
            refine lv_iload hx hb d_Tree_hang_88 (lv_at hl 0 rfl) ?_
            refine lv_iload_n hx hb d_Tree_hang_90 rfl (lv_at hl 2 rfl) ?_
            refine lv_iload_n hx hb d_Tree_hang_91 rfl (lv_at hl 4 rfl) ?_
            obtain ⟨r37, u38, h39, hm⟩ := ob_some hm
            refine goNL (As := [.int r5, .int a1]) (rest := [.int r33, .ref (G 6)]) C0 (k_Firm_entryOf l D G Y h39) q_336 q_1 hN.2.2.1 q_335 e_Firm_entryOf ⟨by omega, by omega⟩ hP hD hS hl.1 rfl (Nat.le_of_ble_eq_true rfl) d_Tree_hang_92 (fun H locs hP hD hS => ?_)
            obtain ⟨r41, u42, h43, hm⟩ := ob_some hm
            refine goVZ (As := [.int r33, .long r37]) (rest := []) (b0 := G 6) 6 C0 (k_Tree_insert l D G Y h43) q_416 q_4 q_413 q_415 qs_15 e_Tree_insert ⟨by omega, by omega⟩ rfl rfl hP hD hS hl.1 rfl (Nat.le_of_ble_eq_true rfl) d_Tree_hang_95 (fun H locs hz44 hP hD hS => ?_)
            exact hret _ _ _ _ r41 u42 (Option.some.inj hm) hz44 hP hD hS d_Tree_hang_98
          · rw [if_pos hc] at hm
            refine lv_iconst (v := (0 : Int32)) hx hb d_Tree_hang_77 (by decide) ?_
            exact hret _ _ _ _ (0 : Int32) u30 (Option.some.inj hm) (Or.inl rfl) hP hD hS d_Tree_hang_78
    · rw [if_neg hc] at hm
      refine lv_aload_n hx hb d_Tree_hang_16 rfl (lv_at hl 0 rfl) ?_
      refine lv_iload_n hx hb d_Tree_hang_17 rfl (lv_at hl 1 rfl) ?_
      refine lv_iload_n hx hb d_Tree_hang_18 rfl (lv_at hl 2 rfl) ?_
      obtain ⟨r45, u46, h47, hm⟩ := ob_some hm
      refine goVZ (As := [.int a1, .int a2]) (rest := []) (b0 := G 6) 6 C0 (k_Tree_raise l D G Y h47) q_412 q_4 q_409 q_411 qs_14 e_Tree_raise ⟨by omega, by omega⟩ rfl rfl hP hD hS hl.1 rfl (Nat.le_of_ble_eq_true rfl) d_Tree_hang_19 (fun H locs hz48 hP hD hS => ?_)
      exact hret _ _ _ _ r45 u46 (Option.some.inj hm) hz48 hP hD hS d_Tree_hang_22
  · rw [if_neg hc] at hm
    refine lv_iconst (v := (0 : Int32)) hx hb d_Tree_hang_6 (by decide) ?_
    exact hret _ _ _ _ (0 : Int32) u (Option.some.inj hm) (Or.inl rfl) hP hD hS d_Tree_hang_7
theorem d_Tree_isHung_0 : decode b_Tree_isHung 0 = .ok (.iload_n 2, 1) := by decide +kernel
theorem d_Tree_isHung_1 : decode b_Tree_isHung 1 = .ok (.aload_n 0, 1) := by decide +kernel
theorem d_Tree_isHung_2 : decode b_Tree_isHung 2 = .ok (.invokevirtual 94, 3) := by decide +kernel
theorem d_Tree_isHung_5 : decode b_Tree_isHung 5 = .ok (.if_icmp .le 5, 3) := by decide +kernel
theorem d_Tree_isHung_8 : decode b_Tree_isHung 8 = .ok (.iconst 0, 1) := by decide +kernel
theorem d_Tree_isHung_9 : decode b_Tree_isHung 9 = .ok (.ireturn, 1) := by decide +kernel
theorem d_Tree_isHung_10 : decode b_Tree_isHung 10 = .ok (.aload_n 0, 1) := by decide +kernel
theorem d_Tree_isHung_11 : decode b_Tree_isHung 11 = .ok (.iload_n 2, 1) := by decide +kernel
theorem d_Tree_isHung_12 : decode b_Tree_isHung 12 = .ok (.invokevirtual 50, 3) := by decide +kernel
theorem d_Tree_isHung_15 : decode b_Tree_isHung 15 = .ok (.istore_n 3, 1) := by decide +kernel
theorem d_Tree_isHung_16 : decode b_Tree_isHung 16 = .ok (.iconst 0, 1) := by decide +kernel
theorem d_Tree_isHung_17 : decode b_Tree_isHung 17 = .ok (.istore 4, 2) := by decide +kernel
theorem d_Tree_isHung_19 : decode b_Tree_isHung 19 = .ok (.iload 4, 2) := by decide +kernel
theorem d_Tree_isHung_21 : decode b_Tree_isHung 21 = .ok (.bipush 30, 2) := by decide +kernel
theorem d_Tree_isHung_23 : decode b_Tree_isHung 23 = .ok (.if_icmp .ge 64, 3) := by decide +kernel
theorem d_Tree_isHung_26 : decode b_Tree_isHung 26 = .ok (.iload_n 3, 1) := by decide +kernel
theorem d_Tree_isHung_27 : decode b_Tree_isHung 27 = .ok (.ifCond .eq 60, 3) := by decide +kernel
theorem d_Tree_isHung_30 : decode b_Tree_isHung 30 = .ok (.aload_n 0, 1) := by decide +kernel
theorem d_Tree_isHung_31 : decode b_Tree_isHung 31 = .ok (.getfield 15, 3) := by decide +kernel
theorem d_Tree_isHung_34 : decode b_Tree_isHung 34 = .ok (.iload_n 3, 1) := by decide +kernel
theorem d_Tree_isHung_35 : decode b_Tree_isHung 35 = .ok (.invokevirtual 35, 3) := by decide +kernel
theorem d_Tree_isHung_38 : decode b_Tree_isHung 38 = .ok (.istore 5, 2) := by decide +kernel
theorem d_Tree_isHung_40 : decode b_Tree_isHung 40 = .ok (.iconst 0, 1) := by decide +kernel
theorem d_Tree_isHung_41 : decode b_Tree_isHung 41 = .ok (.istore 6, 2) := by decide +kernel
theorem d_Tree_isHung_43 : decode b_Tree_isHung 43 = .ok (.iload 6, 2) := by decide +kernel
theorem d_Tree_isHung_45 : decode b_Tree_isHung 45 = .ok (.iload 5, 2) := by decide +kernel
theorem d_Tree_isHung_47 : decode b_Tree_isHung 47 = .ok (.if_icmp .ge 25, 3) := by decide +kernel
theorem d_Tree_isHung_50 : decode b_Tree_isHung 50 = .ok (.aload_n 0, 1) := by decide +kernel
theorem d_Tree_isHung_51 : decode b_Tree_isHung 51 = .ok (.getfield 15, 3) := by decide +kernel
theorem d_Tree_isHung_54 : decode b_Tree_isHung 54 = .ok (.iload_n 3, 1) := by decide +kernel
theorem d_Tree_isHung_55 : decode b_Tree_isHung 55 = .ok (.iload 6, 2) := by decide +kernel
theorem d_Tree_isHung_57 : decode b_Tree_isHung 57 = .ok (.invokevirtual 116, 3) := by decide +kernel
theorem d_Tree_isHung_60 : decode b_Tree_isHung 60 = .ok (.iload_n 1, 1) := by decide +kernel
theorem d_Tree_isHung_61 : decode b_Tree_isHung 61 = .ok (.if_icmp .ne 5, 3) := by decide +kernel
theorem d_Tree_isHung_64 : decode b_Tree_isHung 64 = .ok (.iconst 1, 1) := by decide +kernel
theorem d_Tree_isHung_65 : decode b_Tree_isHung 65 = .ok (.ireturn, 1) := by decide +kernel
theorem d_Tree_isHung_66 : decode b_Tree_isHung 66 = .ok (.iinc 6 1, 3) := by decide +kernel
theorem d_Tree_isHung_69 : decode b_Tree_isHung 69 = .ok (.goto (-26), 3) := by decide +kernel
theorem d_Tree_isHung_72 : decode b_Tree_isHung 72 = .ok (.aload_n 0, 1) := by decide +kernel
theorem d_Tree_isHung_73 : decode b_Tree_isHung 73 = .ok (.getfield 15, 3) := by decide +kernel
theorem d_Tree_isHung_76 : decode b_Tree_isHung 76 = .ok (.iload_n 3, 1) := by decide +kernel
theorem d_Tree_isHung_77 : decode b_Tree_isHung 77 = .ok (.invokevirtual 47, 3) := by decide +kernel
theorem d_Tree_isHung_80 : decode b_Tree_isHung 80 = .ok (.istore_n 3, 1) := by decide +kernel
theorem d_Tree_isHung_81 : decode b_Tree_isHung 81 = .ok (.iinc 4 1, 3) := by decide +kernel
theorem d_Tree_isHung_84 : decode b_Tree_isHung 84 = .ok (.goto (-65), 3) := by decide +kernel
theorem d_Tree_isHung_87 : decode b_Tree_isHung 87 = .ok (.iconst 0, 1) := by decide +kernel
theorem d_Tree_isHung_88 : decode b_Tree_isHung 88 = .ok (.ireturn, 1) := by decide +kernel
set_option maxRecDepth 100000 in
set_option maxHeartbeats 4000000 in
theorem k_Tree_isHung (l : Launch) (D : va_G) (G : Nat → Nat) (Y : Nat → ClassId) {u : SM} {a1 : Int32} {a2 : Int32} {r : Int32} {u' : SM} (hm : m_Tree_isHung u a1 a2 = some (r, u')) : KZ l D clz (tyz Y) (wdC G Y) y_Tree_isHung b_Tree_isHung 7 (some .boolean) 3 67 [.ref (G 6), .int a1, .int a2] u r u' := by
  refine mkZ (by decide) (Nat.le_of_ble_eq_true rfl) ?_
  intro p e s m below meth c A Z ls C0 hP hD hS hl hret
  obtain ⟨hx, hb, hml, hown, hts, hK, hN, hA⟩ := id C0
  have hl : lv_has ls 7 [(0, .ref (G 6)), (1, .int a1), (2, .int a2)] := hl
  have L43 : ∀ (x1 : Int32) (x3 : Int32) (x4 : Int32) (x5 : Int32) (o : (Int32 × SM) ⊕ (SM)) (kr : ∀ z, o = .inl z → z = (r, u')) (kx : ∀  (ub : SM), o = .inr ub → ∀ (H : Heap) (locs : List Loc) (ls : Array Slot), va_P D clz (wdC G Y ub) H → va_D A (wdC G Y ub) → va_S A s.heap H locs → lv_has ls 7 [(0, .ref (G 6)), (1, .int x1), (3, .int x3), (4, .int x4)] → W p l e (zRm 3 67) s m ([.ref (G 6), .int a1, .int a2] : List Value).toArray below meth c H locs 0 0 Z (F0 m 72 ls [])) (n0 : Nat) (ua : SM) (x6 : Int32), m_Tree_isHung_L43 n0 ua x6 x1 x3 x4 x5 = some o → ∀ (H : Heap) (locs : List Loc) (ls : Array Slot), va_P D clz (wdC G Y ua) H → va_D A (wdC G Y ua) → va_S A s.heap H locs → lv_has ls 7 [(0, .ref (G 6)), (1, .int x1), (3, .int x3), (4, .int x4), (5, .int x5), (6, .int x6)] → W p l e (zRm 3 67) s m ([.ref (G 6), .int a1, .int a2] : List Value).toArray below meth c H locs 0 0 Z (F0 m 43 ls []) := by
    intro x1 x3 x4 x5 o kr kx n0
    induction n0 with
    | zero => intro ua x6 hm; rw [m_Tree_isHung_L43] at hm; cases hm
    | succ n0 ih =>
      intro ua x6 hm H locs ls hP hD hS hl
      rw [m_Tree_isHung_L43] at hm
      refine lv_iload hx hb d_Tree_isHung_43 (lv_at hl 5 rfl) ?_
      refine lv_iload hx hb d_Tree_isHung_45 (lv_at hl 4 rfl) ?_
      refine lv_icmp_ge (tgt := 72) hx hb d_Tree_isHung_47 (by decide) (fun hc => ?_) (fun hc => ?_)
      · rw [if_pos hc] at hm
        exact kx  ua (Option.some.inj hm).symm _ _ _ hP hD hS (lv_sub hl [0, 1, 2, 3] rfl)
      · rw [if_neg hc] at hm
        refine lv_aload_n hx hb d_Tree_isHung_50 rfl (lv_at hl 0 rfl) ?_
        refine va_get (D := D) (ci := 3) (v := .ref (G 5)) (C := "FirmStore$Tree") (T := F_Tree) (N := 2) hx hb hts iz_Tree hown hK hP 6 rfl rfl 1 (by decide) (hts _ q_74) (fun _ h9 => h9) rfl d_Tree_isHung_51 ?_
        refine lv_iload_n hx hb d_Tree_isHung_54 rfl (lv_at hl 2 rfl) ?_
        refine lv_iload hx hb d_Tree_isHung_55 (lv_at hl 5 rfl) ?_
        obtain ⟨r1, u2, h3, hm⟩ := ob_some hm
        refine goVI (As := [.int x3, .int x6]) (rest := []) (b0 := G 5) 5 C0 (k_Blocks_childAt l D G Y h3) q_149 q_3 q_146 q_147 q_148 e_Blocks_childAt (by decide) rfl rfl hP hD hS hl.1 rfl (Nat.le_of_ble_eq_true rfl) d_Tree_isHung_57 (fun H locs hP hD hS => ?_)
        refine lv_iload_n hx hb d_Tree_isHung_60 rfl (lv_at hl 1 rfl) ?_
        refine lv_icmp_ne (tgt := 66) hx hb d_Tree_isHung_61 (by decide) (fun hc => ?_) (fun hc => ?_)
        · rw [if_neg hc] at hm
          refine lv_iinc (v := (x6 + (1 : Int32))) (lv' := [(6, .int (x6 + (1 : Int32))), (0, .ref (G 6)), (1, .int x1), (3, .int x3), (4, .int x4), (5, .int x5)]) hx hb d_Tree_isHung_66 hl (k := 5) rfl rfl (by decide) rfl (fun ls hl => ?_)
          refine lv_goto (tgt := 43) hx hb d_Tree_isHung_69 (by decide) ?_
          exact ih u2 (x6 + (1 : Int32)) hm _ _ _ hP hD hS (lv_sub hl [1, 2, 3, 4, 5, 0] rfl)
        · rw [if_pos hc] at hm
          refine lv_iconst (v := (1 : Int32)) hx hb d_Tree_isHung_64 (by decide) ?_
          exact hret _ _ _ _ (1 : Int32) u2 (kr _ (Option.some.inj hm).symm) (Or.inr rfl) hP hD hS d_Tree_isHung_65
  have L19 : ∀ (x1 : Int32) (o : (Int32 × SM) ⊕ (SM)) (kr : ∀ z, o = .inl z → z = (r, u')) (kx : ∀  (ub : SM), o = .inr ub → ∀ (H : Heap) (locs : List Loc) (ls : Array Slot), va_P D clz (wdC G Y ub) H → va_D A (wdC G Y ub) → va_S A s.heap H locs → lv_has ls 7 [] → W p l e (zRm 3 67) s m ([.ref (G 6), .int a1, .int a2] : List Value).toArray below meth c H locs 0 0 Z (F0 m 87 ls [])) (n0 : Nat) (ua : SM) (x3 : Int32) (x4 : Int32), m_Tree_isHung_L19 n0 ua x3 x4 x1 = some o → ∀ (H : Heap) (locs : List Loc) (ls : Array Slot), va_P D clz (wdC G Y ua) H → va_D A (wdC G Y ua) → va_S A s.heap H locs → lv_has ls 7 [(0, .ref (G 6)), (1, .int x1), (3, .int x3), (4, .int x4)] → W p l e (zRm 3 67) s m ([.ref (G 6), .int a1, .int a2] : List Value).toArray below meth c H locs 0 0 Z (F0 m 19 ls []) := by
    intro x1 o kr kx n0
    induction n0 with
    | zero => intro ua x3 x4 hm; rw [m_Tree_isHung_L19] at hm; cases hm
    | succ n0 ih =>
      intro ua x3 x4 hm H locs ls hP hD hS hl
      rw [m_Tree_isHung_L19] at hm
      refine lv_iload hx hb d_Tree_isHung_19 (lv_at hl 3 rfl) ?_
      refine lv_bipush (v := (30 : Int32)) hx hb d_Tree_isHung_21 (by decide) ?_
      refine lv_icmp_ge (tgt := 87) hx hb d_Tree_isHung_23 (by decide) (fun hc => ?_) (fun hc => ?_)
      · rw [if_pos hc] at hm
        exact kx  ua (Option.some.inj hm).symm _ _ _ hP hD hS (lv_sub hl [] rfl)
      · rw [if_neg hc] at hm
        refine lv_iload_n hx hb d_Tree_isHung_26 rfl (lv_at hl 2 rfl) ?_
        refine lv_if_eq (tgt := 87) hx hb d_Tree_isHung_27 (by decide) (fun hc => ?_) (fun hc => ?_)
        · rw [if_pos hc] at hm
          exact kx  ua (Option.some.inj hm).symm _ _ _ hP hD hS (lv_sub hl [] rfl)
        · rw [if_neg hc] at hm
          refine lv_aload_n hx hb d_Tree_isHung_30 rfl (lv_at hl 0 rfl) ?_
          refine va_get (D := D) (ci := 3) (v := .ref (G 5)) (C := "FirmStore$Tree") (T := F_Tree) (N := 2) hx hb hts iz_Tree hown hK hP 6 rfl rfl 1 (by decide) (hts _ q_74) (fun _ h9 => h9) rfl d_Tree_isHung_31 ?_
          refine lv_iload_n hx hb d_Tree_isHung_34 rfl (lv_at hl 2 rfl) ?_
          obtain ⟨r5, u6, h7, hm⟩ := ob_some hm
          refine goVI (As := [.int x3]) (rest := []) (b0 := G 5) 5 C0 (k_Blocks_rowLength l D G Y h7) q_168 q_3 q_165 q_166 q_167 e_Blocks_rowLength (by decide) rfl rfl hP hD hS hl.1 rfl (Nat.le_of_ble_eq_true rfl) d_Tree_isHung_35 (fun H locs hP hD hS => ?_)
          refine lv_istore (lv' := [(5, .int r5), (0, .ref (G 6)), (1, .int x1), (3, .int x3), (4, .int x4)]) hx hb d_Tree_isHung_38 hl (by decide) rfl (fun ls hl => ?_)
          refine lv_iconst (v := (0 : Int32)) hx hb d_Tree_isHung_40 (by decide) ?_
          refine lv_istore (lv' := [(6, .int (0 : Int32)), (5, .int r5), (0, .ref (G 6)), (1, .int x1), (3, .int x3), (4, .int x4)]) hx hb d_Tree_isHung_41 hl (by decide) rfl (fun ls hl => ?_)
          obtain ⟨qq, hq, hi, ho⟩ := ol0_some hm
          refine L43 x1 x3 x4 r5 qq (fun z hz => kr z (hi z hz).symm) (fun  u9 hz H locs ls hP hD hS hl => ?_) fz u6 (0 : Int32) hq _ _ _ hP hD hS (lv_sub hl [2, 3, 4, 5, 1, 0] rfl)
          have hm := ho  u9 hz
          refine lv_aload_n hx hb d_Tree_isHung_72 rfl (lv_at hl 0 rfl) ?_
          refine va_get (D := D) (ci := 3) (v := .ref (G 5)) (C := "FirmStore$Tree") (T := F_Tree) (N := 2) hx hb hts iz_Tree hown hK hP 6 rfl rfl 1 (by decide) (hts _ q_74) (fun _ h9 => h9) rfl d_Tree_isHung_73 ?_
          refine lv_iload_n hx hb d_Tree_isHung_76 rfl (lv_at hl 2 rfl) ?_
          obtain ⟨r10, u11, h12, hm⟩ := ob_some hm
          refine goVI (As := [.int x3]) (rest := []) (b0 := G 5) 5 C0 (k_Blocks_nextOf l D G Y h12) q_160 q_3 q_157 q_158 q_159 e_Blocks_nextOf (by decide) rfl rfl hP hD hS hl.1 rfl (Nat.le_of_ble_eq_true rfl) d_Tree_isHung_77 (fun H locs hP hD hS => ?_)
          refine lv_istore_n (lv' := [(3, .int r10), (0, .ref (G 6)), (1, .int x1), (4, .int x4)]) hx hb d_Tree_isHung_80 rfl hl (by decide) rfl (fun ls hl => ?_)
          refine lv_iinc (v := (x4 + (1 : Int32))) (lv' := [(4, .int (x4 + (1 : Int32))), (3, .int r10), (0, .ref (G 6)), (1, .int x1)]) hx hb d_Tree_isHung_81 hl (k := 3) rfl rfl (by decide) rfl (fun ls hl => ?_)
          refine lv_goto (tgt := 19) hx hb d_Tree_isHung_84 (by decide) ?_
          exact ih u11 r10 (x4 + (1 : Int32)) hm _ _ _ hP hD hS (lv_sub hl [2, 3, 1, 0] rfl)
  rw [m_Tree_isHung] at hm
  refine lv_iload_n hx hb d_Tree_isHung_0 rfl (lv_at hl 2 rfl) ?_
  refine lv_aload_n hx hb d_Tree_isHung_1 rfl (lv_at hl 0 rfl) ?_
  obtain ⟨r14, u15, h16, hm⟩ := ob_some hm
  refine goVI (As := []) (rest := [.int a2]) (b0 := G 6) 6 C0 (k_Tree_topLevel l D G Y h16) q_226 q_4 q_393 q_224 q_225 e_Tree_topLevel (by decide) rfl rfl hP hD hS hl.1 rfl (Nat.le_of_ble_eq_true rfl) d_Tree_isHung_2 (fun H locs hP hD hS => ?_)
  refine lv_icmp_le (tgt := 10) hx hb d_Tree_isHung_5 (by decide) (fun hc => ?_) (fun hc => ?_)
  · rw [if_pos hc] at hm
    refine lv_aload_n hx hb d_Tree_isHung_10 rfl (lv_at hl 0 rfl) ?_
    refine lv_iload_n hx hb d_Tree_isHung_11 rfl (lv_at hl 2 rfl) ?_
    obtain ⟨r18, u19, h20, hm⟩ := ob_some hm
    refine goVI (As := [.int a2]) (rest := []) (b0 := G 6) 6 C0 (k_Tree_firstOf l D G Y h20) q_128 q_4 q_125 q_127 qs_0 e_Tree_firstOf (by decide) rfl rfl hP hD hS hl.1 rfl (Nat.le_of_ble_eq_true rfl) d_Tree_isHung_12 (fun H locs hP hD hS => ?_)
    refine lv_istore_n (lv' := [(3, .int r18), (0, .ref (G 6)), (1, .int a1), (2, .int a2)]) hx hb d_Tree_isHung_15 rfl hl (by decide) rfl (fun ls hl => ?_)
    refine lv_iconst (v := (0 : Int32)) hx hb d_Tree_isHung_16 (by decide) ?_
    refine lv_istore (lv' := [(4, .int (0 : Int32)), (3, .int r18), (0, .ref (G 6)), (1, .int a1), (2, .int a2)]) hx hb d_Tree_isHung_17 hl (by decide) rfl (fun ls hl => ?_)
    obtain ⟨qq, hq, hi, ho⟩ := ol0_some hm
    refine L19 a1 qq (fun z hz => hi z hz) (fun  u22 hz H locs ls hP hD hS hl => ?_) fz u19 r18 (0 : Int32) hq _ _ _ hP hD hS (lv_sub hl [2, 3, 1, 0] rfl)
    have hm := ho  u22 hz
    refine lv_iconst (v := (0 : Int32)) hx hb d_Tree_isHung_87 (by decide) ?_
    exact hret _ _ _ _ (0 : Int32) u22 (Option.some.inj hm) (Or.inl rfl) hP hD hS d_Tree_isHung_88
  · rw [if_neg hc] at hm
    refine lv_iconst (v := (0 : Int32)) hx hb d_Tree_isHung_8 (by decide) ?_
    exact hret _ _ _ _ (0 : Int32) u15 (Option.some.inj hm) (Or.inl rfl) hP hD hS d_Tree_isHung_9
theorem d_Tree_blocksToSplit_0 : decode b_Tree_blocksToSplit 0 = .ok (.aload_n 0, 1) := by decide +kernel
theorem d_Tree_blocksToSplit_1 : decode b_Tree_blocksToSplit 1 = .ok (.invokevirtual 94, 3) := by decide +kernel
theorem d_Tree_blocksToSplit_4 : decode b_Tree_blocksToSplit 4 = .ok (.istore_n 2, 1) := by decide +kernel
theorem d_Tree_blocksToSplit_5 : decode b_Tree_blocksToSplit 5 = .ok (.iconst 1, 1) := by decide +kernel
theorem d_Tree_blocksToSplit_6 : decode b_Tree_blocksToSplit 6 = .ok (.istore_n 3, 1) := by decide +kernel
theorem d_Tree_blocksToSplit_7 : decode b_Tree_blocksToSplit 7 = .ok (.iload_n 1, 1) := by decide +kernel
theorem d_Tree_blocksToSplit_8 : decode b_Tree_blocksToSplit 8 = .ok (.istore 4, 2) := by decide +kernel
theorem d_Tree_blocksToSplit_10 : decode b_Tree_blocksToSplit 10 = .ok (.iconst 1, 1) := by decide +kernel
theorem d_Tree_blocksToSplit_11 : decode b_Tree_blocksToSplit 11 = .ok (.istore 5, 2) := by decide +kernel
theorem d_Tree_blocksToSplit_13 : decode b_Tree_blocksToSplit 13 = .ok (.iload 5, 2) := by decide +kernel
theorem d_Tree_blocksToSplit_15 : decode b_Tree_blocksToSplit 15 = .ok (.bipush 30, 2) := by decide +kernel
theorem d_Tree_blocksToSplit_17 : decode b_Tree_blocksToSplit 17 = .ok (.if_icmp .ge 47, 3) := by decide +kernel
theorem d_Tree_blocksToSplit_20 : decode b_Tree_blocksToSplit 20 = .ok (.iload 5, 2) := by decide +kernel
theorem d_Tree_blocksToSplit_22 : decode b_Tree_blocksToSplit 22 = .ok (.iload_n 2, 1) := by decide +kernel
theorem d_Tree_blocksToSplit_23 : decode b_Tree_blocksToSplit 23 = .ok (.if_icmp .gt 41, 3) := by decide +kernel
theorem d_Tree_blocksToSplit_26 : decode b_Tree_blocksToSplit 26 = .ok (.aload_n 0, 1) := by decide +kernel
theorem d_Tree_blocksToSplit_27 : decode b_Tree_blocksToSplit 27 = .ok (.aload_n 0, 1) := by decide +kernel
theorem d_Tree_blocksToSplit_28 : decode b_Tree_blocksToSplit 28 = .ok (.iload 4, 2) := by decide +kernel
theorem d_Tree_blocksToSplit_30 : decode b_Tree_blocksToSplit 30 = .ok (.iconst 3, 1) := by decide +kernel
theorem d_Tree_blocksToSplit_31 : decode b_Tree_blocksToSplit 31 = .ok (.invokevirtual 38, 3) := by decide +kernel
theorem d_Tree_blocksToSplit_34 : decode b_Tree_blocksToSplit 34 = .ok (.iload 5, 2) := by decide +kernel
theorem d_Tree_blocksToSplit_36 : decode b_Tree_blocksToSplit 36 = .ok (.invokevirtual 28, 3) := by decide +kernel
theorem d_Tree_blocksToSplit_39 : decode b_Tree_blocksToSplit 39 = .ok (.istore 4, 2) := by decide +kernel
theorem d_Tree_blocksToSplit_41 : decode b_Tree_blocksToSplit 41 = .ok (.aload_n 0, 1) := by decide +kernel
theorem d_Tree_blocksToSplit_42 : decode b_Tree_blocksToSplit 42 = .ok (.getfield 15, 3) := by decide +kernel
theorem d_Tree_blocksToSplit_45 : decode b_Tree_blocksToSplit 45 = .ok (.iload 4, 2) := by decide +kernel
theorem d_Tree_blocksToSplit_47 : decode b_Tree_blocksToSplit 47 = .ok (.invokevirtual 70, 3) := by decide +kernel
theorem d_Tree_blocksToSplit_50 : decode b_Tree_blocksToSplit 50 = .ok (.ifCond .ne 5, 3) := by decide +kernel
theorem d_Tree_blocksToSplit_53 : decode b_Tree_blocksToSplit 53 = .ok (.iload_n 3, 1) := by decide +kernel
theorem d_Tree_blocksToSplit_54 : decode b_Tree_blocksToSplit 54 = .ok (.ireturn, 1) := by decide +kernel
theorem d_Tree_blocksToSplit_55 : decode b_Tree_blocksToSplit 55 = .ok (.iinc 3 1, 3) := by decide +kernel
theorem d_Tree_blocksToSplit_58 : decode b_Tree_blocksToSplit 58 = .ok (.iinc 5 1, 3) := by decide +kernel
theorem d_Tree_blocksToSplit_61 : decode b_Tree_blocksToSplit 61 = .ok (.goto (-48), 3) := by decide +kernel
theorem d_Tree_blocksToSplit_64 : decode b_Tree_blocksToSplit 64 = .ok (.iload_n 3, 1) := by decide +kernel
theorem d_Tree_blocksToSplit_65 : decode b_Tree_blocksToSplit 65 = .ok (.iconst 1, 1) := by decide +kernel
theorem d_Tree_blocksToSplit_66 : decode b_Tree_blocksToSplit 66 = .ok (.iadd, 1) := by decide +kernel
theorem d_Tree_blocksToSplit_67 : decode b_Tree_blocksToSplit 67 = .ok (.ireturn, 1) := by decide +kernel
set_option maxRecDepth 100000 in
set_option maxHeartbeats 4000000 in
theorem k_Tree_blocksToSplit (l : Launch) (D : va_G) (G : Nat → Nat) (Y : Nat → ClassId) {u : SM} {a1 : Int32} {r : Int32} {u' : SM} (hm : m_Tree_blocksToSplit u a1 = some (r, u')) : KI l D clz (tyz Y) (wdC G Y) y_Tree_blocksToSplit b_Tree_blocksToSplit 6 (some .int) 5 114 [.ref (G 6), .int a1] u r u' := by
  refine mkI (by decide) (Nat.le_of_ble_eq_true rfl) ?_
  intro p e s m below meth c A Z ls C0 hP hD hS hl hret
  obtain ⟨hx, hb, hml, hown, hts, hK, hN, hA⟩ := id C0
  have hl : lv_has ls 6 [(0, .ref (G 6)), (1, .int a1)] := hl
  have L13 : ∀ (x2 : Int32) (o : (Int32 × SM) ⊕ (Int32 × SM)) (kr : ∀ z, o = .inl z → z = (r, u')) (kx : ∀ (y3 : Int32) (ub : SM), o = .inr (y3, ub) → ∀ (H : Heap) (locs : List Loc) (ls : Array Slot), va_P D clz (wdC G Y ub) H → va_D A (wdC G Y ub) → va_S A s.heap H locs → lv_has ls 6 [(3, .int y3)] → W p l e (zRm 5 114) s m ([.ref (G 6), .int a1] : List Value).toArray below meth c H locs 0 0 Z (F0 m 64 ls [])) (n0 : Nat) (ua : SM) (x3 : Int32) (x4 : Int32) (x5 : Int32), m_Tree_blocksToSplit_L13 n0 ua x3 x4 x5 x2 = some o → ∀ (H : Heap) (locs : List Loc) (ls : Array Slot), va_P D clz (wdC G Y ua) H → va_D A (wdC G Y ua) → va_S A s.heap H locs → lv_has ls 6 [(0, .ref (G 6)), (2, .int x2), (3, .int x3), (4, .int x4), (5, .int x5)] → W p l e (zRm 5 114) s m ([.ref (G 6), .int a1] : List Value).toArray below meth c H locs 0 0 Z (F0 m 13 ls []) := by
    intro x2 o kr kx n0
    induction n0 with
    | zero => intro ua x3 x4 x5 hm; rw [m_Tree_blocksToSplit_L13] at hm; cases hm
    | succ n0 ih =>
      intro ua x3 x4 x5 hm H locs ls hP hD hS hl
      rw [m_Tree_blocksToSplit_L13] at hm
      refine lv_iload hx hb d_Tree_blocksToSplit_13 (lv_at hl 4 rfl) ?_
      refine lv_bipush (v := (30 : Int32)) hx hb d_Tree_blocksToSplit_15 (by decide) ?_
      refine lv_icmp_ge (tgt := 64) hx hb d_Tree_blocksToSplit_17 (by decide) (fun hc => ?_) (fun hc => ?_)
      · rw [if_pos hc] at hm
        exact kx x3 ua (Option.some.inj hm).symm _ _ _ hP hD hS (lv_sub hl [2] rfl)
      · rw [if_neg hc] at hm
        refine lv_iload hx hb d_Tree_blocksToSplit_20 (lv_at hl 4 rfl) ?_
        refine lv_iload_n hx hb d_Tree_blocksToSplit_22 rfl (lv_at hl 1 rfl) ?_
        refine lv_icmp_gt (tgt := 64) hx hb d_Tree_blocksToSplit_23 (by decide) (fun hc => ?_) (fun hc => ?_)
        · rw [if_pos hc] at hm
          exact kx x3 ua (Option.some.inj hm).symm _ _ _ hP hD hS (lv_sub hl [2] rfl)
        · rw [if_neg hc] at hm
          refine lv_aload_n hx hb d_Tree_blocksToSplit_26 rfl (lv_at hl 0 rfl) ?_
          refine lv_aload_n hx hb d_Tree_blocksToSplit_27 rfl (lv_at hl 0 rfl) ?_
          refine lv_iload hx hb d_Tree_blocksToSplit_28 (lv_at hl 3 rfl) ?_
          refine lv_iconst (v := (3 : Int32)) hx hb d_Tree_blocksToSplit_30 (by decide) ?_
          obtain ⟨r1, u2, h3, hm⟩ := ob_some hm
          refine goVI (As := [.int x4, .int (3 : Int32)]) (rest := [.ref (G 6)]) (b0 := G 6) 6 C0 (k_Tree_keyAt l D G Y h3) q_172 q_4 q_169 q_171 qs_2 e_Tree_keyAt (by decide) rfl rfl hP hD hS hl.1 rfl (Nat.le_of_ble_eq_true rfl) d_Tree_blocksToSplit_31 (fun H locs hP hD hS => ?_)
          refine lv_iload hx hb d_Tree_blocksToSplit_34 (lv_at hl 4 rfl) ?_
          obtain ⟨r5, u6, h7, hm⟩ := ob_some hm
          refine goVI (As := [.int r1, .int x5]) (rest := []) (b0 := G 6) 6 C0 (k_Tree_find l D G Y h7) q_372 q_4 q_369 q_371 qs_8 e_Tree_find (by decide) rfl rfl hP hD hS hl.1 rfl (Nat.le_of_ble_eq_true rfl) d_Tree_blocksToSplit_36 (fun H locs hP hD hS => ?_)
          refine lv_istore (lv' := [(4, .int r5), (0, .ref (G 6)), (2, .int x2), (3, .int x3), (5, .int x5)]) hx hb d_Tree_blocksToSplit_39 hl (by decide) rfl (fun ls hl => ?_)
          refine lv_aload_n hx hb d_Tree_blocksToSplit_41 rfl (lv_at hl 1 rfl) ?_
          refine va_get (D := D) (ci := 3) (v := .ref (G 5)) (C := "FirmStore$Tree") (T := F_Tree) (N := 2) hx hb hts iz_Tree hown hK hP 6 rfl rfl 1 (by decide) (hts _ q_74) (fun _ h9 => h9) rfl d_Tree_blocksToSplit_42 ?_
          refine lv_iload hx hb d_Tree_blocksToSplit_45 (lv_at hl 0 rfl) ?_
          obtain ⟨r9, u10, h11, hm⟩ := ob_some hm
          refine goVZ (As := [.int r5]) (rest := []) (b0 := G 5) 5 C0 (k_Blocks_isFull l D G Y h11) q_388 q_3 q_385 q_386 q_387 e_Blocks_isFull (by decide) rfl rfl hP hD hS hl.1 rfl (Nat.le_of_ble_eq_true rfl) d_Tree_blocksToSplit_47 (fun H locs hz12 hP hD hS => ?_)
          refine lv_if_ne (tgt := 55) hx hb d_Tree_blocksToSplit_50 (by decide) (fun hc => ?_) (fun hc => ?_)
          · rw [if_neg hc] at hm
            refine lv_iinc (v := (x3 + (1 : Int32))) (lv' := [(3, .int (x3 + (1 : Int32))), (4, .int r5), (0, .ref (G 6)), (2, .int x2), (5, .int x5)]) hx hb d_Tree_blocksToSplit_55 hl (k := 3) rfl rfl (by decide) rfl (fun ls hl => ?_)
            refine lv_iinc (v := (x5 + (1 : Int32))) (lv' := [(5, .int (x5 + (1 : Int32))), (3, .int (x3 + (1 : Int32))), (4, .int r5), (0, .ref (G 6)), (2, .int x2)]) hx hb d_Tree_blocksToSplit_58 hl (k := 4) rfl rfl (by decide) rfl (fun ls hl => ?_)
            refine lv_goto (tgt := 13) hx hb d_Tree_blocksToSplit_61 (by decide) ?_
            exact ih u10 (x3 + (1 : Int32)) r5 (x5 + (1 : Int32)) hm _ _ _ hP hD hS (lv_sub hl [3, 4, 1, 2, 0] rfl)
          · rw [if_pos hc] at hm
            refine lv_iload_n hx hb d_Tree_blocksToSplit_53 rfl (lv_at hl 3 rfl) ?_
            exact hret _ _ _ _ x3 u10 (kr _ (Option.some.inj hm).symm) hP hD hS d_Tree_blocksToSplit_54
  rw [m_Tree_blocksToSplit] at hm
  refine lv_aload_n hx hb d_Tree_blocksToSplit_0 rfl (lv_at hl 0 rfl) ?_
  obtain ⟨r13, u14, h15, hm⟩ := ob_some hm
  refine goVI (As := []) (rest := []) (b0 := G 6) 6 C0 (k_Tree_topLevel l D G Y h15) q_226 q_4 q_393 q_224 q_225 e_Tree_topLevel (by decide) rfl rfl hP hD hS hl.1 rfl (Nat.le_of_ble_eq_true rfl) d_Tree_blocksToSplit_1 (fun H locs hP hD hS => ?_)
  refine lv_istore_n (lv' := [(2, .int r13), (0, .ref (G 6)), (1, .int a1)]) hx hb d_Tree_blocksToSplit_4 rfl hl (by decide) rfl (fun ls hl => ?_)
  refine lv_iconst (v := (1 : Int32)) hx hb d_Tree_blocksToSplit_5 (by decide) ?_
  refine lv_istore_n (lv' := [(3, .int (1 : Int32)), (2, .int r13), (0, .ref (G 6)), (1, .int a1)]) hx hb d_Tree_blocksToSplit_6 rfl hl (by decide) rfl (fun ls hl => ?_)
  refine lv_iload_n hx hb d_Tree_blocksToSplit_7 rfl (lv_at hl 3 rfl) ?_
  refine lv_istore (lv' := [(4, .int a1), (3, .int (1 : Int32)), (2, .int r13), (0, .ref (G 6)), (1, .int a1)]) hx hb d_Tree_blocksToSplit_8 hl (by decide) rfl (fun ls hl => ?_)
  refine lv_iconst (v := (1 : Int32)) hx hb d_Tree_blocksToSplit_10 (by decide) ?_
  refine lv_istore (lv' := [(5, .int (1 : Int32)), (4, .int a1), (3, .int (1 : Int32)), (2, .int r13), (0, .ref (G 6)), (1, .int a1)]) hx hb d_Tree_blocksToSplit_11 hl (by decide) rfl (fun ls hl => ?_)
  obtain ⟨qq, hq, hi, ho⟩ := ol1_some hm
  refine L13 r13 qq (fun z hz => hi z hz) (fun x17 u18 hz H locs ls hP hD hS hl => ?_) fz u14 (1 : Int32) a1 (1 : Int32) hq _ _ _ hP hD hS (lv_sub hl [4, 3, 2, 1, 0] rfl)
  have hm := ho x17 u18 hz
  refine lv_iload_n hx hb d_Tree_blocksToSplit_64 rfl (lv_at hl 0 rfl) ?_
  refine lv_iconst (v := (1 : Int32)) hx hb d_Tree_blocksToSplit_65 (by decide) ?_
  refine lv_iadd hx hb d_Tree_blocksToSplit_66 ?_
  exact hret _ _ _ _ (x17 + (1 : Int32)) u18 (Option.some.inj hm) hP hD hS d_Tree_blocksToSplit_67
theorem d_Tree_plant_0 : decode b_Tree_plant 0 = .ok (.aload_n 0, 1) := by decide +kernel
theorem d_Tree_plant_1 : decode b_Tree_plant 1 = .ok (.getfield 15, 3) := by decide +kernel
theorem d_Tree_plant_4 : decode b_Tree_plant 4 = .ok (.invokevirtual 74, 3) := by decide +kernel
theorem d_Tree_plant_7 : decode b_Tree_plant 7 = .ok (.ifCond .ne 5, 3) := by decide +kernel
theorem d_Tree_plant_10 : decode b_Tree_plant 10 = .ok (.iconst (-1), 1) := by decide +kernel
theorem d_Tree_plant_11 : decode b_Tree_plant 11 = .ok (.ireturn, 1) := by decide +kernel
theorem d_Tree_plant_12 : decode b_Tree_plant 12 = .ok (.aload_n 0, 1) := by decide +kernel
theorem d_Tree_plant_13 : decode b_Tree_plant 13 = .ok (.getfield 15, 3) := by decide +kernel
theorem d_Tree_plant_16 : decode b_Tree_plant 16 = .ok (.iconst 0, 1) := by decide +kernel
theorem d_Tree_plant_17 : decode b_Tree_plant 17 = .ok (.iconst 0, 1) := by decide +kernel
theorem d_Tree_plant_18 : decode b_Tree_plant 18 = .ok (.iconst 0, 1) := by decide +kernel
theorem d_Tree_plant_19 : decode b_Tree_plant 19 = .ok (.lload_n 1, 1) := by decide +kernel
theorem d_Tree_plant_20 : decode b_Tree_plant 20 = .ok (.lconst 0, 1) := by decide +kernel
theorem d_Tree_plant_21 : decode b_Tree_plant 21 = .ok (.lconst 0, 1) := by decide +kernel
theorem d_Tree_plant_22 : decode b_Tree_plant 22 = .ok (.invokevirtual 106, 3) := by decide +kernel
theorem d_Tree_plant_25 : decode b_Tree_plant 25 = .ok (.istore_n 3, 1) := by decide +kernel
theorem d_Tree_plant_26 : decode b_Tree_plant 26 = .ok (.iload_n 3, 1) := by decide +kernel
theorem d_Tree_plant_27 : decode b_Tree_plant 27 = .ok (.ifCond .eq 20, 3) := by decide +kernel
theorem d_Tree_plant_30 : decode b_Tree_plant 30 = .ok (.aload_n 0, 1) := by decide +kernel
theorem d_Tree_plant_31 : decode b_Tree_plant 31 = .ok (.getfield 9, 3) := by decide +kernel
theorem d_Tree_plant_34 : decode b_Tree_plant 34 = .ok (.iconst 0, 1) := by decide +kernel
theorem d_Tree_plant_35 : decode b_Tree_plant 35 = .ok (.iload_n 3, 1) := by decide +kernel
theorem d_Tree_plant_36 : decode b_Tree_plant 36 = .ok (.i2l, 1) := by decide +kernel
theorem d_Tree_plant_37 : decode b_Tree_plant 37 = .ok (.invokevirtual 64, 3) := by decide +kernel
theorem d_Tree_plant_40 : decode b_Tree_plant 40 = .ok (.ifCond .eq 7, 3) := by decide +kernel
theorem d_Tree_plant_43 : decode b_Tree_plant 43 = .ok (.iconst 1, 1) := by decide +kernel
theorem d_Tree_plant_44 : decode b_Tree_plant 44 = .ok (.goto 5, 3) := by decide +kernel
theorem d_Tree_plant_47 : decode b_Tree_plant 47 = .ok (.bipush (-2), 2) := by decide +kernel
theorem d_Tree_plant_49 : decode b_Tree_plant 49 = .ok (.ireturn, 1) := by decide +kernel
set_option maxRecDepth 100000 in
set_option maxHeartbeats 4000000 in
theorem k_Tree_plant (l : Launch) (D : va_G) (G : Nat → Nat) (Y : Nat → ClassId) {u : SM} {a1 : Int64} {r : Int32} {u' : SM} (hm : m_Tree_plant u a1 = some (r, u')) : KI l D clz (tyz Y) (wdC G Y) y_Tree_plant b_Tree_plant 4 (some .int) 4 104 [.ref (G 6), .long a1] u r u' := by
  refine mkI (by decide) (Nat.le_of_ble_eq_true rfl) ?_
  intro p e s m below meth c A Z ls C0 hP hD hS hl hret
  obtain ⟨hx, hb, hml, hown, hts, hK, hN, hA⟩ := id C0
  have hl : lv_has ls 4 [(0, .ref (G 6)), (1, .long a1)] := hl
  rw [m_Tree_plant] at hm
  refine lv_aload_n hx hb d_Tree_plant_0 rfl (lv_at hl 0 rfl) ?_
  refine va_get (D := D) (ci := 3) (v := .ref (G 5)) (C := "FirmStore$Tree") (T := F_Tree) (N := 2) hx hb hts iz_Tree hown hK hP 6 rfl rfl 1 (by decide) (hts _ q_74) (fun _ h9 => h9) rfl d_Tree_plant_1 ?_
  obtain ⟨r1, u2, h3, hm⟩ := ob_some hm
  refine goVI (As := []) (rest := []) (b0 := G 5) 5 C0 (k_Blocks_countFree l D G Y h3) q_198 q_3 q_342 q_196 q_197 e_Blocks_countFree (by decide) rfl rfl hP hD hS hl.1 rfl (Nat.le_of_ble_eq_true rfl) d_Tree_plant_4 (fun H locs hP hD hS => ?_)
  refine lv_if_ne (tgt := 12) hx hb d_Tree_plant_7 (by decide) (fun hc => ?_) (fun hc => ?_)
  · rw [if_neg hc] at hm
    refine lv_aload_n hx hb d_Tree_plant_12 rfl (lv_at hl 0 rfl) ?_
    refine va_get (D := D) (ci := 3) (v := .ref (G 5)) (C := "FirmStore$Tree") (T := F_Tree) (N := 2) hx hb hts iz_Tree hown hK hP 6 rfl rfl 1 (by decide) (hts _ q_74) (fun _ h9 => h9) rfl d_Tree_plant_13 ?_
    refine lv_iconst (v := (0 : Int32)) hx hb d_Tree_plant_16 (by decide) ?_
    refine lv_iconst (v := (0 : Int32)) hx hb d_Tree_plant_17 (by decide) ?_
    refine lv_iconst (v := (0 : Int32)) hx hb d_Tree_plant_18 (by decide) ?_
    refine lv_lload_n hx hb d_Tree_plant_19 rfl (lv_at hl 1 rfl) ?_
    refine lv_lconst (v := (0 : Int64)) hx hb d_Tree_plant_20 (by decide) ?_
    refine lv_lconst (v := (0 : Int64)) hx hb d_Tree_plant_21 (by decide) ?_
    obtain ⟨r5, u6, h7, hm⟩ := ob_some hm
    refine goVI (As := [.int (0 : Int32), .int (0 : Int32), .int (0 : Int32), .long a1, .long (0 : Int64), .long (0 : Int64)]) (rest := []) (b0 := G 5) 5 C0 (k_Blocks_make l D G Y h7) q_346 q_3 q_343 q_344 q_345 e_Blocks_make (by decide) rfl rfl hP hD hS hl.1 rfl (Nat.le_of_ble_eq_true rfl) d_Tree_plant_22 (fun H locs hP hD hS => ?_)
    refine lv_istore_n (lv' := [(3, .int r5), (0, .ref (G 6)), (1, .long a1)]) hx hb d_Tree_plant_25 rfl hl (by decide) rfl (fun ls hl => ?_)
    refine lv_iload_n hx hb d_Tree_plant_26 rfl (lv_at hl 0 rfl) ?_
    refine lv_if_eq (tgt := 47) hx hb d_Tree_plant_27 (by decide) (fun hc => ?_) (fun hc => ?_)
    · rw [if_pos hc] at hm
      refine lv_bipush (v := (-2 : Int32)) hx hb d_Tree_plant_47 (by decide) ?_
      exact hret _ _ _ _ (-2 : Int32) u6 (Option.some.inj hm) hP hD hS d_Tree_plant_49
    · rw [if_neg hc] at hm
      refine lv_aload_n hx hb d_Tree_plant_30 rfl (lv_at hl 1 rfl) ?_
      refine va_get (D := D) (ci := 3) (v := .ref (G 1)) (C := "FirmStore$Tree") (T := F_Tree) (N := 2) hx hb hts iz_Tree hown hK hP 6 rfl rfl 0 (by decide) (hts _ q_73) (fun _ h9 => h9) rfl d_Tree_plant_31 ?_
      refine lv_iconst (v := (0 : Int32)) hx hb d_Tree_plant_34 (by decide) ?_
      refine lv_iload_n hx hb d_Tree_plant_35 rfl (lv_at hl 0 rfl) ?_
      refine lv_i2l (v := (r5.toInt64)) hx hb d_Tree_plant_36 rfl ?_
      obtain ⟨r9, u10, h11, hm⟩ := ob_some hm
      refine goVZ (As := [.int (0 : Int32), .long (r5.toInt64)]) (rest := []) (b0 := G 1) 1 C0 (k_Memory_firmStore l D G Y h11) q_362 q_2 q_359 q_360 q_361 e_Memory_firmStore (by decide) rfl rfl hP hD hS hl.1 rfl (Nat.le_of_ble_eq_true rfl) d_Tree_plant_37 (fun H locs hz12 hP hD hS => ?_)
      refine lv_if_eq (tgt := 47) hx hb d_Tree_plant_40 (by decide) (fun hc => ?_) (fun hc => ?_)
      · rw [if_pos hc] at hm
        refine lv_bipush (v := (-2 : Int32)) hx hb d_Tree_plant_47 (by decide) ?_
        exact hret _ _ _ _ (-2 : Int32) u10 (Option.some.inj hm) hP hD hS d_Tree_plant_49
      · rw [if_neg hc] at hm
        refine lv_iconst (v := (1 : Int32)) hx hb d_Tree_plant_43 (by decide) ?_
        refine lv_goto (tgt := 49) hx hb d_Tree_plant_44 (by decide) ?_
        exact hret _ _ _ _ (1 : Int32) u10 (Option.some.inj hm) hP hD hS d_Tree_plant_49
  · rw [if_pos hc] at hm
    refine lv_iconst (v := (-1 : Int32)) hx hb d_Tree_plant_10 (by decide) ?_
    exact hret _ _ _ _ (-1 : Int32) u2 (Option.some.inj hm) hP hD hS d_Tree_plant_11
theorem d_Tree_enter_0 : decode b_Tree_enter 0 = .ok (.iload_n 1, 1) := by decide +kernel
theorem d_Tree_enter_1 : decode b_Tree_enter 1 = .ok (.iload_n 2, 1) := by decide +kernel
theorem d_Tree_enter_2 : decode b_Tree_enter 2 = .ok (.invokestatic 53, 3) := by decide +kernel
theorem d_Tree_enter_5 : decode b_Tree_enter 5 = .ok (.lstore_n 3, 1) := by decide +kernel
theorem d_Tree_enter_6 : decode b_Tree_enter 6 = .ok (.aload_n 0, 1) := by decide +kernel
theorem d_Tree_enter_7 : decode b_Tree_enter 7 = .ok (.getfield 15, 3) := by decide +kernel
theorem d_Tree_enter_10 : decode b_Tree_enter 10 = .ok (.iconst 0, 1) := by decide +kernel
theorem d_Tree_enter_11 : decode b_Tree_enter 11 = .ok (.invokevirtual 19, 3) := by decide +kernel
theorem d_Tree_enter_14 : decode b_Tree_enter 14 = .ok (.ifCond .ne 9, 3) := by decide +kernel
theorem d_Tree_enter_17 : decode b_Tree_enter 17 = .ok (.aload_n 0, 1) := by decide +kernel
theorem d_Tree_enter_18 : decode b_Tree_enter 18 = .ok (.lload_n 3, 1) := by decide +kernel
theorem d_Tree_enter_19 : decode b_Tree_enter 19 = .ok (.invokevirtual 57, 3) := by decide +kernel
theorem d_Tree_enter_22 : decode b_Tree_enter 22 = .ok (.ireturn, 1) := by decide +kernel
theorem d_Tree_enter_23 : decode b_Tree_enter 23 = .ok (.aload_n 0, 1) := by decide +kernel
theorem d_Tree_enter_24 : decode b_Tree_enter 24 = .ok (.iload_n 1, 1) := by decide +kernel
theorem d_Tree_enter_25 : decode b_Tree_enter 25 = .ok (.invokevirtual 61, 3) := by decide +kernel
theorem d_Tree_enter_28 : decode b_Tree_enter 28 = .ok (.istore 5, 2) := by decide +kernel
theorem d_Tree_enter_30 : decode b_Tree_enter 30 = .ok (.iload 5, 2) := by decide +kernel
theorem d_Tree_enter_32 : decode b_Tree_enter 32 = .ok (.ifCond .eq 23, 3) := by decide +kernel
theorem d_Tree_enter_35 : decode b_Tree_enter 35 = .ok (.aload_n 0, 1) := by decide +kernel
theorem d_Tree_enter_36 : decode b_Tree_enter 36 = .ok (.getfield 9, 3) := by decide +kernel
theorem d_Tree_enter_39 : decode b_Tree_enter 39 = .ok (.iload 5, 2) := by decide +kernel
theorem d_Tree_enter_41 : decode b_Tree_enter 41 = .ok (.lload_n 3, 1) := by decide +kernel
theorem d_Tree_enter_42 : decode b_Tree_enter 42 = .ok (.invokevirtual 64, 3) := by decide +kernel
theorem d_Tree_enter_45 : decode b_Tree_enter 45 = .ok (.ifCond .eq 7, 3) := by decide +kernel
theorem d_Tree_enter_48 : decode b_Tree_enter 48 = .ok (.iconst 0, 1) := by decide +kernel
theorem d_Tree_enter_49 : decode b_Tree_enter 49 = .ok (.goto 5, 3) := by decide +kernel
theorem d_Tree_enter_52 : decode b_Tree_enter 52 = .ok (.bipush (-2), 2) := by decide +kernel
theorem d_Tree_enter_54 : decode b_Tree_enter 54 = .ok (.ireturn, 1) := by decide +kernel
theorem d_Tree_enter_55 : decode b_Tree_enter 55 = .ok (.aload_n 0, 1) := by decide +kernel
theorem d_Tree_enter_56 : decode b_Tree_enter 56 = .ok (.iload_n 1, 1) := by decide +kernel
theorem d_Tree_enter_57 : decode b_Tree_enter 57 = .ok (.iconst 0, 1) := by decide +kernel
theorem d_Tree_enter_58 : decode b_Tree_enter 58 = .ok (.invokevirtual 28, 3) := by decide +kernel
theorem d_Tree_enter_61 : decode b_Tree_enter 61 = .ok (.istore 6, 2) := by decide +kernel
theorem d_Tree_enter_63 : decode b_Tree_enter 63 = .ok (.aload_n 0, 1) := by decide +kernel
theorem d_Tree_enter_64 : decode b_Tree_enter 64 = .ok (.getfield 15, 3) := by decide +kernel
theorem d_Tree_enter_67 : decode b_Tree_enter 67 = .ok (.iload 6, 2) := by decide +kernel
theorem d_Tree_enter_69 : decode b_Tree_enter 69 = .ok (.invokevirtual 70, 3) := by decide +kernel
theorem d_Tree_enter_72 : decode b_Tree_enter 72 = .ok (.ifCond .eq 55, 3) := by decide +kernel
theorem d_Tree_enter_75 : decode b_Tree_enter 75 = .ok (.aload_n 0, 1) := by decide +kernel
theorem d_Tree_enter_76 : decode b_Tree_enter 76 = .ok (.getfield 15, 3) := by decide +kernel
theorem d_Tree_enter_79 : decode b_Tree_enter 79 = .ok (.invokevirtual 74, 3) := by decide +kernel
theorem d_Tree_enter_82 : decode b_Tree_enter 82 = .ok (.aload_n 0, 1) := by decide +kernel
theorem d_Tree_enter_83 : decode b_Tree_enter 83 = .ok (.iload 6, 2) := by decide +kernel
theorem d_Tree_enter_85 : decode b_Tree_enter 85 = .ok (.invokevirtual 78, 3) := by decide +kernel
theorem d_Tree_enter_88 : decode b_Tree_enter 88 = .ok (.if_icmp .ge 5, 3) := by decide +kernel
theorem d_Tree_enter_91 : decode b_Tree_enter 91 = .ok (.iconst (-1), 1) := by decide +kernel
theorem d_Tree_enter_92 : decode b_Tree_enter 92 = .ok (.ireturn, 1) := by decide +kernel
theorem d_Tree_enter_93 : decode b_Tree_enter 93 = .ok (.aload_n 0, 1) := by decide +kernel
theorem d_Tree_enter_94 : decode b_Tree_enter 94 = .ok (.iload 6, 2) := by decide +kernel
theorem d_Tree_enter_96 : decode b_Tree_enter 96 = .ok (.invokevirtual 81, 3) := by decide +kernel
theorem d_Tree_enter_99 : decode b_Tree_enter 99 = .ok (.istore 7, 2) := by decide +kernel
theorem d_Tree_enter_101 : decode b_Tree_enter 101 = .ok (.iload 7, 2) := by decide +kernel
theorem d_Tree_enter_103 : decode b_Tree_enter 103 = .ok (.ifCond .eq 13, 3) := by decide +kernel
theorem d_Tree_enter_106 : decode b_Tree_enter 106 = .ok (.aload_n 0, 1) := by decide +kernel
theorem d_Tree_enter_107 : decode b_Tree_enter 107 = .ok (.iload 7, 2) := by decide +kernel
theorem d_Tree_enter_109 : decode b_Tree_enter 109 = .ok (.iconst 1, 1) := by decide +kernel
theorem d_Tree_enter_110 : decode b_Tree_enter 110 = .ok (.invokevirtual 84, 3) := by decide +kernel
theorem d_Tree_enter_113 : decode b_Tree_enter 113 = .ok (.ifCond .ne 6, 3) := by decide +kernel
theorem d_Tree_enter_116 : decode b_Tree_enter 116 = .ok (.bipush (-2), 2) := by decide +kernel
theorem d_Tree_enter_118 : decode b_Tree_enter 118 = .ok (.ireturn, 1) := by decide +kernel
theorem d_Tree_enter_119 : decode b_Tree_enter 119 = .ok (.aload_n 0, 1) := by decide +kernel
theorem d_Tree_enter_120 : decode b_Tree_enter 120 = .ok (.iload_n 1, 1) := by decide +kernel
theorem d_Tree_enter_121 : decode b_Tree_enter 121 = .ok (.iconst 0, 1) := by decide +kernel
theorem d_Tree_enter_122 : decode b_Tree_enter 122 = .ok (.invokevirtual 28, 3) := by decide +kernel
theorem d_Tree_enter_125 : decode b_Tree_enter 125 = .ok (.istore 6, 2) := by decide +kernel
theorem d_Tree_enter_127 : decode b_Tree_enter 127 = .ok (.aload_n 0, 1) := by decide +kernel
theorem d_Tree_enter_128 : decode b_Tree_enter 128 = .ok (.iload 6, 2) := by decide +kernel
theorem d_Tree_enter_130 : decode b_Tree_enter 130 = .ok (.lload_n 3, 1) := by decide +kernel
theorem d_Tree_enter_131 : decode b_Tree_enter 131 = .ok (.invokevirtual 88, 3) := by decide +kernel
theorem d_Tree_enter_134 : decode b_Tree_enter 134 = .ok (.ifCond .eq 7, 3) := by decide +kernel
theorem d_Tree_enter_137 : decode b_Tree_enter 137 = .ok (.iconst 1, 1) := by decide +kernel
theorem d_Tree_enter_138 : decode b_Tree_enter 138 = .ok (.goto 5, 3) := by decide +kernel
theorem d_Tree_enter_141 : decode b_Tree_enter 141 = .ok (.bipush (-2), 2) := by decide +kernel
theorem d_Tree_enter_143 : decode b_Tree_enter 143 = .ok (.ireturn, 1) := by decide +kernel
set_option maxRecDepth 100000 in
set_option maxHeartbeats 4000000 in
theorem k_Tree_enter (l : Launch) (D : va_G) (G : Nat → Nat) (Y : Nat → ClassId) {u : SM} {a1 : Int32} {a2 : Int32} {r : Int32} {u' : SM} (hm : m_Tree_enter u a1 a2 = some (r, u')) : KI l D clz (tyz Y) (wdC G Y) y_Tree_enter b_Tree_enter 8 (some .int) 46 1154 [.ref (G 6), .int a1, .int a2] u r u' := by
  refine mkI (by decide) (Nat.le_of_ble_eq_true rfl) ?_
  intro p e s m below meth c A Z ls C0 hP hD hS hl hret
  obtain ⟨hx, hb, hml, hown, hts, hK, hN, hA⟩ := id C0
  have hl : lv_has ls 8 [(0, .ref (G 6)), (1, .int a1), (2, .int a2)] := hl
  have J127 : ∀ (ua : SM) (x3 : Int64) (x6 : Int32), m_Tree_enter_J127 ua x3 x6 = some (r, u') → ∀ (H : Heap) (locs : List Loc) (ls : Array Slot), va_P D clz (wdC G Y ua) H → va_D A (wdC G Y ua) → va_S A s.heap H locs → lv_has ls 8 [(0, .ref (G 6)), (3, .long x3), (6, .int x6)] → W p l e (zRm 46 1154) s m ([.ref (G 6), .int a1, .int a2] : List Value).toArray below meth c H locs 0 0 Z (F0 m 127 ls []) := by
    intro ua x3 x6 hm H locs ls hP hD hS hl
    rw [m_Tree_enter_J127] at hm
    refine lv_aload_n hx hb d_Tree_enter_127 rfl (lv_at hl 0 rfl) ?_
    refine lv_iload hx hb d_Tree_enter_128 (lv_at hl 2 rfl) ?_
    refine lv_lload_n hx hb d_Tree_enter_130 rfl (lv_at hl 1 rfl) ?_
    obtain ⟨r49, u50, h51, hm⟩ := ob_some hm
    refine goVZ (As := [.int x6, .long x3]) (rest := []) (b0 := G 6) 6 C0 (k_Tree_insert l D G Y h51) q_416 q_4 q_413 q_415 qs_15 e_Tree_insert (by decide) rfl rfl hP hD hS hl.1 rfl (Nat.le_of_ble_eq_true rfl) d_Tree_enter_131 (fun H locs hz52 hP hD hS => ?_)
    refine lv_if_eq (tgt := 141) hx hb d_Tree_enter_134 (by decide) (fun hc => ?_) (fun hc => ?_)
    · rw [if_pos hc] at hm
      refine lv_bipush (v := (-2 : Int32)) hx hb d_Tree_enter_141 (by decide) ?_
      exact hret _ _ _ _ (-2 : Int32) u50 (Option.some.inj hm) hP hD hS d_Tree_enter_143
    · rw [if_neg hc] at hm
      refine lv_iconst (v := (1 : Int32)) hx hb d_Tree_enter_137 (by decide) ?_
      refine lv_goto (tgt := 143) hx hb d_Tree_enter_138 (by decide) ?_
      exact hret _ _ _ _ (1 : Int32) u50 (Option.some.inj hm) hP hD hS d_Tree_enter_143
  rw [m_Tree_enter] at hm
  refine lv_iload_n hx hb d_Tree_enter_0 rfl (lv_at hl 1 rfl) ?_
  refine lv_iload_n hx hb d_Tree_enter_1 rfl (lv_at hl 2 rfl) ?_
  obtain ⟨r1, u2, h3, hm⟩ := ob_some hm
  refine goNL (As := [.int a1, .int a2]) (rest := []) C0 (k_Firm_entryOf l D G Y h3) q_336 q_1 hN.2.2.1 q_335 e_Firm_entryOf (by decide) hP hD hS hl.1 rfl (Nat.le_of_ble_eq_true rfl) d_Tree_enter_2 (fun H locs hP hD hS => ?_)
  refine lv_lstore_n (lv' := [(3, .long r1), (0, .ref (G 6)), (1, .int a1), (2, .int a2)]) hx hb d_Tree_enter_5 rfl hl (by decide) rfl (fun ls hl => ?_)
  refine lv_aload_n hx hb d_Tree_enter_6 rfl (lv_at hl 1 rfl) ?_
  refine va_get (D := D) (ci := 3) (v := .ref (G 5)) (C := "FirmStore$Tree") (T := F_Tree) (N := 2) hx hb hts iz_Tree hown hK hP 6 rfl rfl 1 (by decide) (hts _ q_74) (fun _ h9 => h9) rfl d_Tree_enter_7 ?_
  refine lv_iconst (v := (0 : Int32)) hx hb d_Tree_enter_10 (by decide) ?_
  obtain ⟨r5, u6, h7, hm⟩ := ob_some hm
  refine goVI (As := [.int (0 : Int32)]) (rest := []) (b0 := G 5) 5 C0 (k_Blocks_blockIn l D G Y h7) q_132 q_3 q_129 q_130 q_131 e_Blocks_blockIn (by decide) rfl rfl hP hD hS hl.1 rfl (Nat.le_of_ble_eq_true rfl) d_Tree_enter_11 (fun H locs hP hD hS => ?_)
  refine lv_if_ne (tgt := 23) hx hb d_Tree_enter_14 (by decide) (fun hc => ?_) (fun hc => ?_)
  · rw [if_neg hc] at hm
    refine lv_aload_n hx hb d_Tree_enter_23 rfl (lv_at hl 1 rfl) ?_
    refine lv_iload_n hx hb d_Tree_enter_24 rfl (lv_at hl 2 rfl) ?_
    obtain ⟨r9, u10, h11, hm⟩ := ob_some hm
    refine goVI (As := [.int a1]) (rest := []) (b0 := G 6) 6 C0 (k_Tree_seek l D G Y h11) q_368 q_4 q_365 q_366 q_367 e_Tree_seek (by decide) rfl rfl hP hD hS hl.1 rfl (Nat.le_of_ble_eq_true rfl) d_Tree_enter_25 (fun H locs hP hD hS => ?_)
    refine lv_istore (lv' := [(5, .int r9), (3, .long r1), (0, .ref (G 6)), (1, .int a1), (2, .int a2)]) hx hb d_Tree_enter_28 hl (by decide) rfl (fun ls hl => ?_)
    refine lv_iload hx hb d_Tree_enter_30 (lv_at hl 0 rfl) ?_
    refine lv_if_eq (tgt := 55) hx hb d_Tree_enter_32 (by decide) (fun hc => ?_) (fun hc => ?_)
    · rw [if_pos hc] at hm
      refine lv_aload_n hx hb d_Tree_enter_55 rfl (lv_at hl 2 rfl) ?_
      refine lv_iload_n hx hb d_Tree_enter_56 rfl (lv_at hl 3 rfl) ?_
      refine lv_iconst (v := (0 : Int32)) hx hb d_Tree_enter_57 (by decide) ?_
      obtain ⟨r13, u14, h15, hm⟩ := ob_some hm
      refine goVI (As := [.int a1, .int (0 : Int32)]) (rest := []) (b0 := G 6) 6 C0 (k_Tree_find l D G Y h15) q_372 q_4 q_369 q_371 qs_8 e_Tree_find (by decide) rfl rfl hP hD hS hl.1 rfl (Nat.le_of_ble_eq_true rfl) d_Tree_enter_58 (fun H locs hP hD hS => ?_)
      refine lv_istore (lv' := [(6, .int r13), (5, .int r9), (3, .long r1), (0, .ref (G 6)), (1, .int a1), (2, .int a2)]) hx hb d_Tree_enter_61 hl (by decide) rfl (fun ls hl => ?_)
      refine lv_aload_n hx hb d_Tree_enter_63 rfl (lv_at hl 3 rfl) ?_
      refine va_get (D := D) (ci := 3) (v := .ref (G 5)) (C := "FirmStore$Tree") (T := F_Tree) (N := 2) hx hb hts iz_Tree hown hK hP 6 rfl rfl 1 (by decide) (hts _ q_74) (fun _ h9 => h9) rfl d_Tree_enter_64 ?_
      refine lv_iload hx hb d_Tree_enter_67 (lv_at hl 0 rfl) ?_
      obtain ⟨r17, u18, h19, hm⟩ := ob_some hm
      refine goVZ (As := [.int r13]) (rest := []) (b0 := G 5) 5 C0 (k_Blocks_isFull l D G Y h19) q_388 q_3 q_385 q_386 q_387 e_Blocks_isFull (by decide) rfl rfl hP hD hS hl.1 rfl (Nat.le_of_ble_eq_true rfl) d_Tree_enter_69 (fun H locs hz20 hP hD hS => ?_)
      refine lv_if_eq (tgt := 127) hx hb d_Tree_enter_72 (by decide) (fun hc => ?_) (fun hc => ?_)
      · rw [if_pos hc] at hm
        exact J127 u18 r1 r13 hm _ _ _ hP hD hS (lv_sub hl [3, 2, 0] rfl)
      · rw [if_neg hc] at hm
        refine lv_aload_n hx hb d_Tree_enter_75 rfl (lv_at hl 3 rfl) ?_
        refine va_get (D := D) (ci := 3) (v := .ref (G 5)) (C := "FirmStore$Tree") (T := F_Tree) (N := 2) hx hb hts iz_Tree hown hK hP 6 rfl rfl 1 (by decide) (hts _ q_74) (fun _ h9 => h9) rfl d_Tree_enter_76 ?_
        obtain ⟨r21, u22, h23, hm⟩ := ob_some hm
        refine goVI (As := []) (rest := []) (b0 := G 5) 5 C0 (k_Blocks_countFree l D G Y h23) q_198 q_3 q_342 q_196 q_197 e_Blocks_countFree (by decide) rfl rfl hP hD hS hl.1 rfl (Nat.le_of_ble_eq_true rfl) d_Tree_enter_79 (fun H locs hP hD hS => ?_)
        refine lv_aload_n hx hb d_Tree_enter_82 rfl (lv_at hl 3 rfl) ?_
        refine lv_iload hx hb d_Tree_enter_83 (lv_at hl 0 rfl) ?_
        obtain ⟨r25, u26, h27, hm⟩ := ob_some hm
        refine goVI (As := [.int r13]) (rest := [.int r21]) (b0 := G 6) 6 C0 (k_Tree_blocksToSplit l D G Y h27) q_392 q_4 q_389 q_391 qs_11 e_Tree_blocksToSplit (by decide) rfl rfl hP hD hS hl.1 rfl (Nat.le_of_ble_eq_true rfl) d_Tree_enter_85 (fun H locs hP hD hS => ?_)
        refine lv_icmp_ge (tgt := 93) hx hb d_Tree_enter_88 (by decide) (fun hc => ?_) (fun hc => ?_)
        · rw [if_pos hc] at hm
          refine lv_aload_n hx hb d_Tree_enter_93 rfl (lv_at hl 3 rfl) ?_
          refine lv_iload hx hb d_Tree_enter_94 (lv_at hl 0 rfl) ?_
          obtain ⟨r29, u30, h31, hm⟩ := ob_some hm
          refine goVI (As := [.int r13]) (rest := []) (b0 := G 6) 6 C0 (k_Tree_split l D G Y h31) q_397 q_4 q_394 q_396 qs_12 e_Tree_split (by decide) rfl rfl hP hD hS hl.1 rfl (Nat.le_of_ble_eq_true rfl) d_Tree_enter_96 (fun H locs hP hD hS => ?_)
          refine lv_istore (lv' := [(7, .int r29), (6, .int r13), (5, .int r9), (3, .long r1), (0, .ref (G 6)), (1, .int a1), (2, .int a2)]) hx hb d_Tree_enter_99 hl (by decide) rfl (fun ls hl => ?_)
          refine lv_iload hx hb d_Tree_enter_101 (lv_at hl 0 rfl) ?_
          refine lv_if_eq (tgt := 116) hx hb d_Tree_enter_103 (by decide) (fun hc => ?_) (fun hc => ?_)
          · rw [if_pos hc] at hm
            refine lv_bipush (v := (-2 : Int32)) hx hb d_Tree_enter_116 (by decide) ?_
            exact hret _ _ _ _ (-2 : Int32) u30 (Option.some.inj hm) hP hD hS d_Tree_enter_118
          · rw [if_neg hc] at hm
            refine lv_aload_n hx hb d_Tree_enter_106 rfl (lv_at hl 4 rfl) ?_
            refine lv_iload hx hb d_Tree_enter_107 (lv_at hl 0 rfl) ?_
            refine lv_iconst (v := (1 : Int32)) hx hb d_Tree_enter_109 (by decide) ?_
            obtain ⟨r33, u34, h35, hm⟩ := ob_some hm
            refine goVZ (As := [.int r29, .int (1 : Int32)]) (rest := []) (b0 := G 6) 6 C0 (k_Tree_hang l D G Y 40 h35) q_408 q_4 q_405 q_407 qs_13 e_Tree_hang (by decide) rfl rfl hP hD hS hl.1 rfl (Nat.le_of_ble_eq_true rfl) d_Tree_enter_110 (fun H locs hz36 hP hD hS => ?_)
            refine lv_if_ne (tgt := 119) hx hb d_Tree_enter_113 (by decide) (fun hc => ?_) (fun hc => ?_)
            · rw [if_neg hc] at hm
              refine lv_aload_n hx hb d_Tree_enter_119 rfl (lv_at hl 4 rfl) ?_
              refine lv_iload_n hx hb d_Tree_enter_120 rfl (lv_at hl 5 rfl) ?_
              refine lv_iconst (v := (0 : Int32)) hx hb d_Tree_enter_121 (by decide) ?_
              obtain ⟨r37, u38, h39, hm⟩ := ob_some hm
              refine goVI (As := [.int a1, .int (0 : Int32)]) (rest := []) (b0 := G 6) 6 C0 (k_Tree_find l D G Y h39) q_372 q_4 q_369 q_371 qs_8 e_Tree_find (by decide) rfl rfl hP hD hS hl.1 rfl (Nat.le_of_ble_eq_true rfl) d_Tree_enter_122 (fun H locs hP hD hS => ?_)
              refine lv_istore (lv' := [(6, .int r37), (7, .int r29), (5, .int r9), (3, .long r1), (0, .ref (G 6)), (1, .int a1), (2, .int a2)]) hx hb d_Tree_enter_125 hl (by decide) rfl (fun ls hl => ?_)
              exact J127 u38 r1 r37 hm _ _ _ hP hD hS (lv_sub hl [4, 3, 0] rfl)
            · rw [if_pos hc] at hm
              refine lv_bipush (v := (-2 : Int32)) hx hb d_Tree_enter_116 (by decide) ?_
              exact hret _ _ _ _ (-2 : Int32) u34 (Option.some.inj hm) hP hD hS d_Tree_enter_118
        · rw [if_neg hc] at hm
          refine lv_iconst (v := (-1 : Int32)) hx hb d_Tree_enter_91 (by decide) ?_
          exact hret _ _ _ _ (-1 : Int32) u26 (Option.some.inj hm) hP hD hS d_Tree_enter_92
    · rw [if_neg hc] at hm
      refine lv_aload_n hx hb d_Tree_enter_35 rfl (lv_at hl 2 rfl) ?_
      refine va_get (D := D) (ci := 3) (v := .ref (G 1)) (C := "FirmStore$Tree") (T := F_Tree) (N := 2) hx hb hts iz_Tree hown hK hP 6 rfl rfl 0 (by decide) (hts _ q_73) (fun _ h9 => h9) rfl d_Tree_enter_36 ?_
      refine lv_iload hx hb d_Tree_enter_39 (lv_at hl 0 rfl) ?_
      refine lv_lload_n hx hb d_Tree_enter_41 rfl (lv_at hl 1 rfl) ?_
      obtain ⟨r41, u42, h43, hm⟩ := ob_some hm
      refine goVZ (As := [.int r9, .long r1]) (rest := []) (b0 := G 1) 1 C0 (k_Memory_firmStore l D G Y h43) q_362 q_2 q_359 q_360 q_361 e_Memory_firmStore (by decide) rfl rfl hP hD hS hl.1 rfl (Nat.le_of_ble_eq_true rfl) d_Tree_enter_42 (fun H locs hz44 hP hD hS => ?_)
      refine lv_if_eq (tgt := 52) hx hb d_Tree_enter_45 (by decide) (fun hc => ?_) (fun hc => ?_)
      · rw [if_pos hc] at hm
        refine lv_bipush (v := (-2 : Int32)) hx hb d_Tree_enter_52 (by decide) ?_
        exact hret _ _ _ _ (-2 : Int32) u42 (Option.some.inj hm) hP hD hS d_Tree_enter_54
      · rw [if_neg hc] at hm
        refine lv_iconst (v := (0 : Int32)) hx hb d_Tree_enter_48 (by decide) ?_
        refine lv_goto (tgt := 54) hx hb d_Tree_enter_49 (by decide) ?_
        exact hret _ _ _ _ (0 : Int32) u42 (Option.some.inj hm) hP hD hS d_Tree_enter_54
  · rw [if_pos hc] at hm
    refine lv_aload_n hx hb d_Tree_enter_17 rfl (lv_at hl 1 rfl) ?_
    refine lv_lload_n hx hb d_Tree_enter_18 rfl (lv_at hl 0 rfl) ?_
    obtain ⟨r45, u46, h47, hm⟩ := ob_some hm
    refine goVI (As := [.long r1]) (rest := []) (b0 := G 6) 6 C0 (k_Tree_plant l D G Y h47) q_341 q_4 q_338 q_340 qs_6 e_Tree_plant (by decide) rfl rfl hP hD hS hl.1 rfl (Nat.le_of_ble_eq_true rfl) d_Tree_enter_19 (fun H locs hP hD hS => ?_)
    exact hret _ _ _ _ r45 u46 (Option.some.inj hm) hP hD hS d_Tree_enter_22
theorem d_Tree_secondTwin_0 : decode b_Tree_secondTwin 0 = .ok (.aload_n 0, 1) := by decide +kernel
theorem d_Tree_secondTwin_1 : decode b_Tree_secondTwin 1 = .ok (.getfield 15, 3) := by decide +kernel
theorem d_Tree_secondTwin_4 : decode b_Tree_secondTwin 4 = .ok (.iload_n 1, 1) := by decide +kernel
theorem d_Tree_secondTwin_5 : decode b_Tree_secondTwin 5 = .ok (.invokevirtual 35, 3) := by decide +kernel
theorem d_Tree_secondTwin_8 : decode b_Tree_secondTwin 8 = .ok (.istore_n 2, 1) := by decide +kernel
theorem d_Tree_secondTwin_9 : decode b_Tree_secondTwin 9 = .ok (.iconst 1, 1) := by decide +kernel
theorem d_Tree_secondTwin_10 : decode b_Tree_secondTwin 10 = .ok (.istore_n 3, 1) := by decide +kernel
theorem d_Tree_secondTwin_11 : decode b_Tree_secondTwin 11 = .ok (.iload_n 3, 1) := by decide +kernel
theorem d_Tree_secondTwin_12 : decode b_Tree_secondTwin 12 = .ok (.iload_n 2, 1) := by decide +kernel
theorem d_Tree_secondTwin_13 : decode b_Tree_secondTwin 13 = .ok (.if_icmp .ge 28, 3) := by decide +kernel
theorem d_Tree_secondTwin_16 : decode b_Tree_secondTwin 16 = .ok (.aload_n 0, 1) := by decide +kernel
theorem d_Tree_secondTwin_17 : decode b_Tree_secondTwin 17 = .ok (.iload_n 1, 1) := by decide +kernel
theorem d_Tree_secondTwin_18 : decode b_Tree_secondTwin 18 = .ok (.iload_n 3, 1) := by decide +kernel
theorem d_Tree_secondTwin_19 : decode b_Tree_secondTwin 19 = .ok (.invokevirtual 38, 3) := by decide +kernel
theorem d_Tree_secondTwin_22 : decode b_Tree_secondTwin 22 = .ok (.aload_n 0, 1) := by decide +kernel
theorem d_Tree_secondTwin_23 : decode b_Tree_secondTwin 23 = .ok (.iload_n 1, 1) := by decide +kernel
theorem d_Tree_secondTwin_24 : decode b_Tree_secondTwin 24 = .ok (.iload_n 3, 1) := by decide +kernel
theorem d_Tree_secondTwin_25 : decode b_Tree_secondTwin 25 = .ok (.iconst 1, 1) := by decide +kernel
theorem d_Tree_secondTwin_26 : decode b_Tree_secondTwin 26 = .ok (.isub, 1) := by decide +kernel
theorem d_Tree_secondTwin_27 : decode b_Tree_secondTwin 27 = .ok (.invokevirtual 38, 3) := by decide +kernel
theorem d_Tree_secondTwin_30 : decode b_Tree_secondTwin 30 = .ok (.if_icmp .ne 5, 3) := by decide +kernel
theorem d_Tree_secondTwin_33 : decode b_Tree_secondTwin 33 = .ok (.iload_n 3, 1) := by decide +kernel
theorem d_Tree_secondTwin_34 : decode b_Tree_secondTwin 34 = .ok (.ireturn, 1) := by decide +kernel
theorem d_Tree_secondTwin_35 : decode b_Tree_secondTwin 35 = .ok (.iinc 3 1, 3) := by decide +kernel
theorem d_Tree_secondTwin_38 : decode b_Tree_secondTwin 38 = .ok (.goto (-27), 3) := by decide +kernel
theorem d_Tree_secondTwin_41 : decode b_Tree_secondTwin 41 = .ok (.iconst 0, 1) := by decide +kernel
theorem d_Tree_secondTwin_42 : decode b_Tree_secondTwin 42 = .ok (.ireturn, 1) := by decide +kernel
set_option maxRecDepth 100000 in
set_option maxHeartbeats 4000000 in
theorem k_Tree_secondTwin (l : Launch) (D : va_G) (G : Nat → Nat) (Y : Nat → ClassId) {u : SM} {a1 : Int32} {r : Int32} {u' : SM} (hm : m_Tree_secondTwin u a1 = some (r, u')) : KI l D clz (tyz Y) (wdC G Y) y_Tree_secondTwin b_Tree_secondTwin 4 (some .int) 3 65 [.ref (G 6), .int a1] u r u' := by
  refine mkI (by decide) (Nat.le_of_ble_eq_true rfl) ?_
  intro p e s m below meth c A Z ls C0 hP hD hS hl hret
  obtain ⟨hx, hb, hml, hown, hts, hK, hN, hA⟩ := id C0
  have hl : lv_has ls 4 [(0, .ref (G 6)), (1, .int a1)] := hl
  have L11 : ∀ (x1 : Int32) (x2 : Int32) (o : (Int32 × SM) ⊕ (SM)) (kr : ∀ z, o = .inl z → z = (r, u')) (kx : ∀  (ub : SM), o = .inr ub → ∀ (H : Heap) (locs : List Loc) (ls : Array Slot), va_P D clz (wdC G Y ub) H → va_D A (wdC G Y ub) → va_S A s.heap H locs → lv_has ls 4 [] → W p l e (zRm 3 65) s m ([.ref (G 6), .int a1] : List Value).toArray below meth c H locs 0 0 Z (F0 m 41 ls [])) (n0 : Nat) (ua : SM) (x3 : Int32), m_Tree_secondTwin_L11 n0 ua x3 x1 x2 = some o → ∀ (H : Heap) (locs : List Loc) (ls : Array Slot), va_P D clz (wdC G Y ua) H → va_D A (wdC G Y ua) → va_S A s.heap H locs → lv_has ls 4 [(0, .ref (G 6)), (1, .int x1), (2, .int x2), (3, .int x3)] → W p l e (zRm 3 65) s m ([.ref (G 6), .int a1] : List Value).toArray below meth c H locs 0 0 Z (F0 m 11 ls []) := by
    intro x1 x2 o kr kx n0
    induction n0 with
    | zero => intro ua x3 hm; rw [m_Tree_secondTwin_L11] at hm; cases hm
    | succ n0 ih =>
      intro ua x3 hm H locs ls hP hD hS hl
      rw [m_Tree_secondTwin_L11] at hm
      refine lv_iload_n hx hb d_Tree_secondTwin_11 rfl (lv_at hl 3 rfl) ?_
      refine lv_iload_n hx hb d_Tree_secondTwin_12 rfl (lv_at hl 2 rfl) ?_
      refine lv_icmp_ge (tgt := 41) hx hb d_Tree_secondTwin_13 (by decide) (fun hc => ?_) (fun hc => ?_)
      · rw [if_pos hc] at hm
        exact kx  ua (Option.some.inj hm).symm _ _ _ hP hD hS (lv_sub hl [] rfl)
      · rw [if_neg hc] at hm
        refine lv_aload_n hx hb d_Tree_secondTwin_16 rfl (lv_at hl 0 rfl) ?_
        refine lv_iload_n hx hb d_Tree_secondTwin_17 rfl (lv_at hl 1 rfl) ?_
        refine lv_iload_n hx hb d_Tree_secondTwin_18 rfl (lv_at hl 3 rfl) ?_
        obtain ⟨r1, u2, h3, hm⟩ := ob_some hm
        refine goVI (As := [.int x1, .int x3]) (rest := []) (b0 := G 6) 6 C0 (k_Tree_keyAt l D G Y h3) q_172 q_4 q_169 q_171 qs_2 e_Tree_keyAt (by decide) rfl rfl hP hD hS hl.1 rfl (Nat.le_of_ble_eq_true rfl) d_Tree_secondTwin_19 (fun H locs hP hD hS => ?_)
        refine lv_aload_n hx hb d_Tree_secondTwin_22 rfl (lv_at hl 0 rfl) ?_
        refine lv_iload_n hx hb d_Tree_secondTwin_23 rfl (lv_at hl 1 rfl) ?_
        refine lv_iload_n hx hb d_Tree_secondTwin_24 rfl (lv_at hl 3 rfl) ?_
        refine lv_iconst (v := (1 : Int32)) hx hb d_Tree_secondTwin_25 (by decide) ?_
        refine lv_isub hx hb d_Tree_secondTwin_26 ?_
        obtain ⟨r5, u6, h7, hm⟩ := ob_some hm
        refine goVI (As := [.int x1, .int (x3 - (1 : Int32))]) (rest := [.int r1]) (b0 := G 6) 6 C0 (k_Tree_keyAt l D G Y h7) q_172 q_4 q_169 q_171 qs_2 e_Tree_keyAt (by decide) rfl rfl hP hD hS hl.1 rfl (Nat.le_of_ble_eq_true rfl) d_Tree_secondTwin_27 (fun H locs hP hD hS => ?_)
        refine lv_icmp_ne (tgt := 35) hx hb d_Tree_secondTwin_30 (by decide) (fun hc => ?_) (fun hc => ?_)
        · rw [if_neg hc] at hm
          refine lv_iinc (v := (x3 + (1 : Int32))) (lv' := [(3, .int (x3 + (1 : Int32))), (0, .ref (G 6)), (1, .int x1), (2, .int x2)]) hx hb d_Tree_secondTwin_35 hl (k := 3) rfl rfl (by decide) rfl (fun ls hl => ?_)
          refine lv_goto (tgt := 11) hx hb d_Tree_secondTwin_38 (by decide) ?_
          exact ih u6 (x3 + (1 : Int32)) hm _ _ _ hP hD hS (lv_sub hl [1, 2, 3, 0] rfl)
        · rw [if_pos hc] at hm
          refine lv_iload_n hx hb d_Tree_secondTwin_33 rfl (lv_at hl 3 rfl) ?_
          exact hret _ _ _ _ x3 u6 (kr _ (Option.some.inj hm).symm) hP hD hS d_Tree_secondTwin_34
  rw [m_Tree_secondTwin] at hm
  refine lv_aload_n hx hb d_Tree_secondTwin_0 rfl (lv_at hl 0 rfl) ?_
  refine va_get (D := D) (ci := 3) (v := .ref (G 5)) (C := "FirmStore$Tree") (T := F_Tree) (N := 2) hx hb hts iz_Tree hown hK hP 6 rfl rfl 1 (by decide) (hts _ q_74) (fun _ h9 => h9) rfl d_Tree_secondTwin_1 ?_
  refine lv_iload_n hx hb d_Tree_secondTwin_4 rfl (lv_at hl 1 rfl) ?_
  obtain ⟨r9, u10, h11, hm⟩ := ob_some hm
  refine goVI (As := [.int a1]) (rest := []) (b0 := G 5) 5 C0 (k_Blocks_rowLength l D G Y h11) q_168 q_3 q_165 q_166 q_167 e_Blocks_rowLength (by decide) rfl rfl hP hD hS hl.1 rfl (Nat.le_of_ble_eq_true rfl) d_Tree_secondTwin_5 (fun H locs hP hD hS => ?_)
  refine lv_istore_n (lv' := [(2, .int r9), (0, .ref (G 6)), (1, .int a1)]) hx hb d_Tree_secondTwin_8 rfl hl (by decide) rfl (fun ls hl => ?_)
  refine lv_iconst (v := (1 : Int32)) hx hb d_Tree_secondTwin_9 (by decide) ?_
  refine lv_istore_n (lv' := [(3, .int (1 : Int32)), (2, .int r9), (0, .ref (G 6)), (1, .int a1)]) hx hb d_Tree_secondTwin_10 rfl hl (by decide) rfl (fun ls hl => ?_)
  obtain ⟨qq, hq, hi, ho⟩ := ol0_some hm
  refine L11 a1 r9 qq (fun z hz => hi z hz) (fun  u13 hz H locs ls hP hD hS hl => ?_) fz u10 (1 : Int32) hq _ _ _ hP hD hS (lv_sub hl [2, 3, 1, 0] rfl)
  have hm := ho  u13 hz
  refine lv_iconst (v := (0 : Int32)) hx hb d_Tree_secondTwin_41 (by decide) ?_
  exact hret _ _ _ _ (0 : Int32) u13 (Option.some.inj hm) hP hD hS d_Tree_secondTwin_42
theorem d_Tree_dropTwins_0 : decode b_Tree_dropTwins 0 = .ok (.iconst 0, 1) := by decide +kernel
theorem d_Tree_dropTwins_1 : decode b_Tree_dropTwins 1 = .ok (.istore_n 2, 1) := by decide +kernel
theorem d_Tree_dropTwins_2 : decode b_Tree_dropTwins 2 = .ok (.iload_n 2, 1) := by decide +kernel
theorem d_Tree_dropTwins_3 : decode b_Tree_dropTwins 3 = .ok (.bipush 6, 2) := by decide +kernel
theorem d_Tree_dropTwins_5 : decode b_Tree_dropTwins 5 = .ok (.if_icmp .ge 32, 3) := by decide +kernel
theorem d_Tree_dropTwins_8 : decode b_Tree_dropTwins 8 = .ok (.aload_n 0, 1) := by decide +kernel
theorem d_Tree_dropTwins_9 : decode b_Tree_dropTwins 9 = .ok (.iload_n 1, 1) := by decide +kernel
theorem d_Tree_dropTwins_10 : decode b_Tree_dropTwins 10 = .ok (.invokevirtual 140, 3) := by decide +kernel
theorem d_Tree_dropTwins_13 : decode b_Tree_dropTwins 13 = .ok (.istore_n 3, 1) := by decide +kernel
theorem d_Tree_dropTwins_14 : decode b_Tree_dropTwins 14 = .ok (.iload_n 3, 1) := by decide +kernel
theorem d_Tree_dropTwins_15 : decode b_Tree_dropTwins 15 = .ok (.ifCond .ne 5, 3) := by decide +kernel
theorem d_Tree_dropTwins_18 : decode b_Tree_dropTwins 18 = .ok (.iconst 1, 1) := by decide +kernel
theorem d_Tree_dropTwins_19 : decode b_Tree_dropTwins 19 = .ok (.ireturn, 1) := by decide +kernel
theorem d_Tree_dropTwins_20 : decode b_Tree_dropTwins 20 = .ok (.aload_n 0, 1) := by decide +kernel
theorem d_Tree_dropTwins_21 : decode b_Tree_dropTwins 21 = .ok (.iload_n 1, 1) := by decide +kernel
theorem d_Tree_dropTwins_22 : decode b_Tree_dropTwins 22 = .ok (.iload_n 3, 1) := by decide +kernel
theorem d_Tree_dropTwins_23 : decode b_Tree_dropTwins 23 = .ok (.invokevirtual 91, 3) := by decide +kernel
theorem d_Tree_dropTwins_26 : decode b_Tree_dropTwins 26 = .ok (.ifCond .ne 5, 3) := by decide +kernel
theorem d_Tree_dropTwins_29 : decode b_Tree_dropTwins 29 = .ok (.iconst 0, 1) := by decide +kernel
theorem d_Tree_dropTwins_30 : decode b_Tree_dropTwins 30 = .ok (.ireturn, 1) := by decide +kernel
theorem d_Tree_dropTwins_31 : decode b_Tree_dropTwins 31 = .ok (.iinc 2 1, 3) := by decide +kernel
theorem d_Tree_dropTwins_34 : decode b_Tree_dropTwins 34 = .ok (.goto (-32), 3) := by decide +kernel
theorem d_Tree_dropTwins_37 : decode b_Tree_dropTwins 37 = .ok (.iconst 1, 1) := by decide +kernel
theorem d_Tree_dropTwins_38 : decode b_Tree_dropTwins 38 = .ok (.ireturn, 1) := by decide +kernel
set_option maxRecDepth 100000 in
set_option maxHeartbeats 4000000 in
theorem k_Tree_dropTwins (l : Launch) (D : va_G) (G : Nat → Nat) (Y : Nat → ClassId) {u : SM} {a1 : Int32} {r : Int32} {u' : SM} (hm : m_Tree_dropTwins u a1 = some (r, u')) : KZ l D clz (tyz Y) (wdC G Y) y_Tree_dropTwins b_Tree_dropTwins 4 (some .boolean) 4 92 [.ref (G 6), .int a1] u r u' := by
  refine mkZ (by decide) (Nat.le_of_ble_eq_true rfl) ?_
  intro p e s m below meth c A Z ls C0 hP hD hS hl hret
  obtain ⟨hx, hb, hml, hown, hts, hK, hN, hA⟩ := id C0
  have hl : lv_has ls 4 [(0, .ref (G 6)), (1, .int a1)] := hl
  have L2 : ∀ (x1 : Int32) (o : (Int32 × SM) ⊕ (SM)) (kr : ∀ z, o = .inl z → z = (r, u')) (kx : ∀  (ub : SM), o = .inr ub → ∀ (H : Heap) (locs : List Loc) (ls : Array Slot), va_P D clz (wdC G Y ub) H → va_D A (wdC G Y ub) → va_S A s.heap H locs → lv_has ls 4 [] → W p l e (zRm 4 92) s m ([.ref (G 6), .int a1] : List Value).toArray below meth c H locs 0 0 Z (F0 m 37 ls [])) (n0 : Nat) (ua : SM) (x2 : Int32), m_Tree_dropTwins_L2 n0 ua x2 x1 = some o → ∀ (H : Heap) (locs : List Loc) (ls : Array Slot), va_P D clz (wdC G Y ua) H → va_D A (wdC G Y ua) → va_S A s.heap H locs → lv_has ls 4 [(0, .ref (G 6)), (1, .int x1), (2, .int x2)] → W p l e (zRm 4 92) s m ([.ref (G 6), .int a1] : List Value).toArray below meth c H locs 0 0 Z (F0 m 2 ls []) := by
    intro x1 o kr kx n0
    induction n0 with
    | zero => intro ua x2 hm; rw [m_Tree_dropTwins_L2] at hm; cases hm
    | succ n0 ih =>
      intro ua x2 hm H locs ls hP hD hS hl
      rw [m_Tree_dropTwins_L2] at hm
      refine lv_iload_n hx hb d_Tree_dropTwins_2 rfl (lv_at hl 2 rfl) ?_
      refine lv_bipush (v := (6 : Int32)) hx hb d_Tree_dropTwins_3 (by decide) ?_
      refine lv_icmp_ge (tgt := 37) hx hb d_Tree_dropTwins_5 (by decide) (fun hc => ?_) (fun hc => ?_)
      · rw [if_pos hc] at hm
        exact kx  ua (Option.some.inj hm).symm _ _ _ hP hD hS (lv_sub hl [] rfl)
      · rw [if_neg hc] at hm
        refine lv_aload_n hx hb d_Tree_dropTwins_8 rfl (lv_at hl 0 rfl) ?_
        refine lv_iload_n hx hb d_Tree_dropTwins_9 rfl (lv_at hl 1 rfl) ?_
        obtain ⟨r1, u2, h3, hm⟩ := ob_some hm
        refine goVI (As := [.int x1]) (rest := []) (b0 := G 6) 6 C0 (k_Tree_secondTwin l D G Y h3) q_522 q_4 q_519 q_521 qs_23 e_Tree_secondTwin (by decide) rfl rfl hP hD hS hl.1 rfl (Nat.le_of_ble_eq_true rfl) d_Tree_dropTwins_10 (fun H locs hP hD hS => ?_)
        refine lv_istore_n (lv' := [(3, .int r1), (0, .ref (G 6)), (1, .int x1), (2, .int x2)]) hx hb d_Tree_dropTwins_13 rfl hl (by decide) rfl (fun ls hl => ?_)
        refine lv_iload_n hx hb d_Tree_dropTwins_14 rfl (lv_at hl 0 rfl) ?_
        refine lv_if_ne (tgt := 20) hx hb d_Tree_dropTwins_15 (by decide) (fun hc => ?_) (fun hc => ?_)
        · rw [if_neg hc] at hm
          refine lv_aload_n hx hb d_Tree_dropTwins_20 rfl (lv_at hl 1 rfl) ?_
          refine lv_iload_n hx hb d_Tree_dropTwins_21 rfl (lv_at hl 2 rfl) ?_
          refine lv_iload_n hx hb d_Tree_dropTwins_22 rfl (lv_at hl 0 rfl) ?_
          obtain ⟨r5, u6, h7, hm⟩ := ob_some hm
          refine goVZ (As := [.int x1, .int r1]) (rest := []) (b0 := G 6) 6 C0 (k_Tree_dropPlace l D G Y h7) q_475 q_4 q_472 q_474 qs_19 e_Tree_dropPlace (by decide) rfl rfl hP hD hS hl.1 rfl (Nat.le_of_ble_eq_true rfl) d_Tree_dropTwins_23 (fun H locs hz8 hP hD hS => ?_)
          refine lv_if_ne (tgt := 31) hx hb d_Tree_dropTwins_26 (by decide) (fun hc => ?_) (fun hc => ?_)
          · rw [if_neg hc] at hm
            refine lv_iinc (v := (x2 + (1 : Int32))) (lv' := [(2, .int (x2 + (1 : Int32))), (3, .int r1), (0, .ref (G 6)), (1, .int x1)]) hx hb d_Tree_dropTwins_31 hl (k := 3) rfl rfl (by decide) rfl (fun ls hl => ?_)
            refine lv_goto (tgt := 2) hx hb d_Tree_dropTwins_34 (by decide) ?_
            exact ih u6 (x2 + (1 : Int32)) hm _ _ _ hP hD hS (lv_sub hl [2, 3, 0] rfl)
          · rw [if_pos hc] at hm
            refine lv_iconst (v := (0 : Int32)) hx hb d_Tree_dropTwins_29 (by decide) ?_
            exact hret _ _ _ _ (0 : Int32) u6 (kr _ (Option.some.inj hm).symm) (Or.inl rfl) hP hD hS d_Tree_dropTwins_30
        · rw [if_pos hc] at hm
          refine lv_iconst (v := (1 : Int32)) hx hb d_Tree_dropTwins_18 (by decide) ?_
          exact hret _ _ _ _ (1 : Int32) u2 (kr _ (Option.some.inj hm).symm) (Or.inr rfl) hP hD hS d_Tree_dropTwins_19
  rw [m_Tree_dropTwins] at hm
  refine lv_iconst (v := (0 : Int32)) hx hb d_Tree_dropTwins_0 (by decide) ?_
  refine lv_istore_n (lv' := [(2, .int (0 : Int32)), (0, .ref (G 6)), (1, .int a1)]) hx hb d_Tree_dropTwins_1 rfl hl (by decide) rfl (fun ls hl => ?_)
  obtain ⟨qq, hq, hi, ho⟩ := ol0_some hm
  refine L2 a1 qq (fun z hz => hi z hz) (fun  u9 hz H locs ls hP hD hS hl => ?_) fz u (0 : Int32) hq _ _ _ hP hD hS (lv_sub hl [1, 2, 0] rfl)
  have hm := ho  u9 hz
  refine lv_iconst (v := (1 : Int32)) hx hb d_Tree_dropTwins_37 (by decide) ?_
  exact hret _ _ _ _ (1 : Int32) u9 (Option.some.inj hm) (Or.inr rfl) hP hD hS d_Tree_dropTwins_38
theorem d_Tree_isWrong_0 : decode b_Tree_isWrong 0 = .ok (.aload_n 0, 1) := by decide +kernel
theorem d_Tree_isWrong_1 : decode b_Tree_isWrong 1 = .ok (.getfield 15, 3) := by decide +kernel
theorem d_Tree_isWrong_4 : decode b_Tree_isWrong 4 = .ok (.iload_n 1, 1) := by decide +kernel
theorem d_Tree_isWrong_5 : decode b_Tree_isWrong 5 = .ok (.iload_n 2, 1) := by decide +kernel
theorem d_Tree_isWrong_6 : decode b_Tree_isWrong 6 = .ok (.invokevirtual 119, 3) := by decide +kernel
theorem d_Tree_isWrong_9 : decode b_Tree_isWrong 9 = .ok (.lstore_n 3, 1) := by decide +kernel
theorem d_Tree_isWrong_10 : decode b_Tree_isWrong 10 = .ok (.lload_n 3, 1) := by decide +kernel
theorem d_Tree_isWrong_11 : decode b_Tree_isWrong 11 = .ok (.lconst 0, 1) := by decide +kernel
theorem d_Tree_isWrong_12 : decode b_Tree_isWrong 12 = .ok (.lcmp, 1) := by decide +kernel
theorem d_Tree_isWrong_13 : decode b_Tree_isWrong 13 = .ok (.ifCond .ne 5, 3) := by decide +kernel
theorem d_Tree_isWrong_16 : decode b_Tree_isWrong 16 = .ok (.iconst 0, 1) := by decide +kernel
theorem d_Tree_isWrong_17 : decode b_Tree_isWrong 17 = .ok (.ireturn, 1) := by decide +kernel
theorem d_Tree_isWrong_18 : decode b_Tree_isWrong 18 = .ok (.aload_n 0, 1) := by decide +kernel
theorem d_Tree_isWrong_19 : decode b_Tree_isWrong 19 = .ok (.getfield 15, 3) := by decide +kernel
theorem d_Tree_isWrong_22 : decode b_Tree_isWrong 22 = .ok (.iload_n 1, 1) := by decide +kernel
theorem d_Tree_isWrong_23 : decode b_Tree_isWrong 23 = .ok (.invokevirtual 47, 3) := by decide +kernel
theorem d_Tree_isWrong_26 : decode b_Tree_isWrong 26 = .ok (.istore 5, 2) := by decide +kernel
theorem d_Tree_isWrong_28 : decode b_Tree_isWrong 28 = .ok (.aload_n 0, 1) := by decide +kernel
theorem d_Tree_isWrong_29 : decode b_Tree_isWrong 29 = .ok (.getfield 15, 3) := by decide +kernel
theorem d_Tree_isWrong_32 : decode b_Tree_isWrong 32 = .ok (.iload_n 1, 1) := by decide +kernel
theorem d_Tree_isWrong_33 : decode b_Tree_isWrong 33 = .ok (.invokevirtual 35, 3) := by decide +kernel
theorem d_Tree_isWrong_36 : decode b_Tree_isWrong 36 = .ok (.iload_n 2, 1) := by decide +kernel
theorem d_Tree_isWrong_37 : decode b_Tree_isWrong 37 = .ok (.if_icmp .lt 24, 3) := by decide +kernel
theorem d_Tree_isWrong_40 : decode b_Tree_isWrong 40 = .ok (.iload 5, 2) := by decide +kernel
theorem d_Tree_isWrong_42 : decode b_Tree_isWrong 42 = .ok (.ifCond .eq 23, 3) := by decide +kernel
theorem d_Tree_isWrong_45 : decode b_Tree_isWrong 45 = .ok (.lload_n 3, 1) := by decide +kernel
theorem d_Tree_isWrong_46 : decode b_Tree_isWrong 46 = .ok (.invokestatic 122, 3) := by decide +kernel
theorem d_Tree_isWrong_49 : decode b_Tree_isWrong 49 = .ok (.aload_n 0, 1) := by decide +kernel
theorem d_Tree_isWrong_50 : decode b_Tree_isWrong 50 = .ok (.getfield 15, 3) := by decide +kernel
theorem d_Tree_isWrong_53 : decode b_Tree_isWrong 53 = .ok (.iload 5, 2) := by decide +kernel
theorem d_Tree_isWrong_55 : decode b_Tree_isWrong 55 = .ok (.invokevirtual 110, 3) := by decide +kernel
theorem d_Tree_isWrong_58 : decode b_Tree_isWrong 58 = .ok (.if_icmp .lt 7, 3) := by decide +kernel
theorem d_Tree_isWrong_61 : decode b_Tree_isWrong 61 = .ok (.iconst 1, 1) := by decide +kernel
theorem d_Tree_isWrong_62 : decode b_Tree_isWrong 62 = .ok (.goto 4, 3) := by decide +kernel
theorem d_Tree_isWrong_65 : decode b_Tree_isWrong 65 = .ok (.iconst 0, 1) := by decide +kernel
theorem d_Tree_isWrong_66 : decode b_Tree_isWrong 66 = .ok (.ireturn, 1) := by decide +kernel
set_option maxRecDepth 100000 in
set_option maxHeartbeats 4000000 in
theorem k_Tree_isWrong (l : Launch) (D : va_G) (G : Nat → Nat) (Y : Nat → ClassId) {u : SM} {a1 : Int32} {a2 : Int32} {r : Int32} {u' : SM} (hm : m_Tree_isWrong u a1 a2 = some (r, u')) : KZ l D clz (tyz Y) (wdC G Y) y_Tree_isWrong b_Tree_isWrong 6 (some .boolean) 2 43 [.ref (G 6), .int a1, .int a2] u r u' := by
  refine mkZ (by decide) (Nat.le_of_ble_eq_true rfl) ?_
  intro p e s m below meth c A Z ls C0 hP hD hS hl hret
  obtain ⟨hx, hb, hml, hown, hts, hK, hN, hA⟩ := id C0
  have hl : lv_has ls 6 [(0, .ref (G 6)), (1, .int a1), (2, .int a2)] := hl
  rw [m_Tree_isWrong] at hm
  refine lv_aload_n hx hb d_Tree_isWrong_0 rfl (lv_at hl 0 rfl) ?_
  refine va_get (D := D) (ci := 3) (v := .ref (G 5)) (C := "FirmStore$Tree") (T := F_Tree) (N := 2) hx hb hts iz_Tree hown hK hP 6 rfl rfl 1 (by decide) (hts _ q_74) (fun _ h9 => h9) rfl d_Tree_isWrong_1 ?_
  refine lv_iload_n hx hb d_Tree_isWrong_4 rfl (lv_at hl 1 rfl) ?_
  refine lv_iload_n hx hb d_Tree_isWrong_5 rfl (lv_at hl 2 rfl) ?_
  obtain ⟨r1, u2, h3, hm⟩ := ob_some hm
  refine goVL (As := [.int a1, .int a2]) (rest := []) (b0 := G 5) 5 C0 (k_Blocks_entryAt l D G Y h3) q_176 q_3 q_173 q_174 q_175 e_Blocks_entryAt (by decide) rfl rfl hP hD hS hl.1 rfl (Nat.le_of_ble_eq_true rfl) d_Tree_isWrong_6 (fun H locs hP hD hS => ?_)
  refine lv_lstore_n (lv' := [(3, .long r1), (0, .ref (G 6)), (1, .int a1), (2, .int a2)]) hx hb d_Tree_isWrong_9 rfl hl (by decide) rfl (fun ls hl => ?_)
  refine lv_lload_n hx hb d_Tree_isWrong_10 rfl (lv_at hl 0 rfl) ?_
  refine lv_lconst (v := (0 : Int64)) hx hb d_Tree_isWrong_11 (by decide) ?_
  refine W.lcmp hx hb d_Tree_isWrong_12 ?_
  refine lv_if_ne (tgt := 18) hx hb d_Tree_isWrong_13 (by decide) (fun hc => ?_) (fun hc => ?_)
  · rw [if_neg hc] at hm
    refine lv_aload_n hx hb d_Tree_isWrong_18 rfl (lv_at hl 1 rfl) ?_
    refine va_get (D := D) (ci := 3) (v := .ref (G 5)) (C := "FirmStore$Tree") (T := F_Tree) (N := 2) hx hb hts iz_Tree hown hK hP 6 rfl rfl 1 (by decide) (hts _ q_74) (fun _ h9 => h9) rfl d_Tree_isWrong_19 ?_
    refine lv_iload_n hx hb d_Tree_isWrong_22 rfl (lv_at hl 2 rfl) ?_
    obtain ⟨r5, u6, h7, hm⟩ := ob_some hm
    refine goVI (As := [.int a1]) (rest := []) (b0 := G 5) 5 C0 (k_Blocks_nextOf l D G Y h7) q_160 q_3 q_157 q_158 q_159 e_Blocks_nextOf (by decide) rfl rfl hP hD hS hl.1 rfl (Nat.le_of_ble_eq_true rfl) d_Tree_isWrong_23 (fun H locs hP hD hS => ?_)
    refine lv_istore (lv' := [(5, .int r5), (3, .long r1), (0, .ref (G 6)), (1, .int a1), (2, .int a2)]) hx hb d_Tree_isWrong_26 hl (by decide) rfl (fun ls hl => ?_)
    refine lv_aload_n hx hb d_Tree_isWrong_28 rfl (lv_at hl 2 rfl) ?_
    refine va_get (D := D) (ci := 3) (v := .ref (G 5)) (C := "FirmStore$Tree") (T := F_Tree) (N := 2) hx hb hts iz_Tree hown hK hP 6 rfl rfl 1 (by decide) (hts _ q_74) (fun _ h9 => h9) rfl d_Tree_isWrong_29 ?_
    refine lv_iload_n hx hb d_Tree_isWrong_32 rfl (lv_at hl 3 rfl) ?_
    obtain ⟨r9, u10, h11, hm⟩ := ob_some hm
    refine goVI (As := [.int a1]) (rest := []) (b0 := G 5) 5 C0 (k_Blocks_rowLength l D G Y h11) q_168 q_3 q_165 q_166 q_167 e_Blocks_rowLength (by decide) rfl rfl hP hD hS hl.1 rfl (Nat.le_of_ble_eq_true rfl) d_Tree_isWrong_33 (fun H locs hP hD hS => ?_)
    refine lv_iload_n hx hb d_Tree_isWrong_36 rfl (lv_at hl 4 rfl) ?_
    refine lv_icmp_lt (tgt := 61) hx hb d_Tree_isWrong_37 (by decide) (fun hc => ?_) (fun hc => ?_)
    · rw [if_pos hc] at hm
      refine lv_iconst (v := (1 : Int32)) hx hb d_Tree_isWrong_61 (by decide) ?_
      refine lv_goto (tgt := 66) hx hb d_Tree_isWrong_62 (by decide) ?_
      exact hret _ _ _ _ (1 : Int32) u10 (Option.some.inj hm) (Or.inr rfl) hP hD hS d_Tree_isWrong_66
    · rw [if_neg hc] at hm
      refine lv_iload hx hb d_Tree_isWrong_40 (lv_at hl 0 rfl) ?_
      refine lv_if_eq (tgt := 65) hx hb d_Tree_isWrong_42 (by decide) (fun hc => ?_) (fun hc => ?_)
      · rw [if_pos hc] at hm
        refine lv_iconst (v := (0 : Int32)) hx hb d_Tree_isWrong_65 (by decide) ?_
        exact hret _ _ _ _ (0 : Int32) u10 (Option.some.inj hm) (Or.inl rfl) hP hD hS d_Tree_isWrong_66
      · rw [if_neg hc] at hm
        refine lv_lload_n hx hb d_Tree_isWrong_45 rfl (lv_at hl 1 rfl) ?_
        obtain ⟨r13, u14, h15, hm⟩ := ob_some hm
        refine goNI (As := [.long r1]) (rest := []) C0 (k_Firm_keyOf l D G Y h15) q_179 q_1 hN.2.1 q_178 e_Firm_keyOf (by decide) hP hD hS hl.1 rfl (Nat.le_of_ble_eq_true rfl) d_Tree_isWrong_46 (fun H locs hP hD hS => ?_)
        refine lv_aload_n hx hb d_Tree_isWrong_49 rfl (lv_at hl 2 rfl) ?_
        refine va_get (D := D) (ci := 3) (v := .ref (G 5)) (C := "FirmStore$Tree") (T := F_Tree) (N := 2) hx hb hts iz_Tree hown hK hP 6 rfl rfl 1 (by decide) (hts _ q_74) (fun _ h9 => h9) rfl d_Tree_isWrong_50 ?_
        refine lv_iload hx hb d_Tree_isWrong_53 (lv_at hl 0 rfl) ?_
        obtain ⟨r17, u18, h19, hm⟩ := ob_some hm
        refine goVI (As := [.int r5]) (rest := [.int r13]) (b0 := G 5) 5 C0 (k_Blocks_lowOf l D G Y h19) q_164 q_3 q_161 q_162 q_163 e_Blocks_lowOf (by decide) rfl rfl hP hD hS hl.1 rfl (Nat.le_of_ble_eq_true rfl) d_Tree_isWrong_55 (fun H locs hP hD hS => ?_)
        refine lv_icmp_lt (tgt := 65) hx hb d_Tree_isWrong_58 (by decide) (fun hc => ?_) (fun hc => ?_)
        · rw [if_pos hc] at hm
          refine lv_iconst (v := (0 : Int32)) hx hb d_Tree_isWrong_65 (by decide) ?_
          exact hret _ _ _ _ (0 : Int32) u18 (Option.some.inj hm) (Or.inl rfl) hP hD hS d_Tree_isWrong_66
        · rw [if_neg hc] at hm
          refine lv_iconst (v := (1 : Int32)) hx hb d_Tree_isWrong_61 (by decide) ?_
          refine lv_goto (tgt := 66) hx hb d_Tree_isWrong_62 (by decide) ?_
          exact hret _ _ _ _ (1 : Int32) u18 (Option.some.inj hm) (Or.inr rfl) hP hD hS d_Tree_isWrong_66
  · rw [if_pos hc] at hm
    refine lv_iconst (v := (0 : Int32)) hx hb d_Tree_isWrong_16 (by decide) ?_
    exact hret _ _ _ _ (0 : Int32) u2 (Option.some.inj hm) (Or.inl rfl) hP hD hS d_Tree_isWrong_17
theorem d_Tree_clearWrong_0 : decode b_Tree_clearWrong 0 = .ok (.iconst 5, 1) := by decide +kernel
theorem d_Tree_clearWrong_1 : decode b_Tree_clearWrong 1 = .ok (.istore_n 2, 1) := by decide +kernel
theorem d_Tree_clearWrong_2 : decode b_Tree_clearWrong 2 = .ok (.iload_n 2, 1) := by decide +kernel
theorem d_Tree_clearWrong_3 : decode b_Tree_clearWrong 3 = .ok (.ifCond .lt 40, 3) := by decide +kernel
theorem d_Tree_clearWrong_6 : decode b_Tree_clearWrong 6 = .ok (.aload_n 0, 1) := by decide +kernel
theorem d_Tree_clearWrong_7 : decode b_Tree_clearWrong 7 = .ok (.iload_n 1, 1) := by decide +kernel
theorem d_Tree_clearWrong_8 : decode b_Tree_clearWrong 8 = .ok (.iload_n 2, 1) := by decide +kernel
theorem d_Tree_clearWrong_9 : decode b_Tree_clearWrong 9 = .ok (.invokevirtual 137, 3) := by decide +kernel
theorem d_Tree_clearWrong_12 : decode b_Tree_clearWrong 12 = .ok (.ifCond .eq 25, 3) := by decide +kernel
theorem d_Tree_clearWrong_15 : decode b_Tree_clearWrong 15 = .ok (.aload_n 0, 1) := by decide +kernel
theorem d_Tree_clearWrong_16 : decode b_Tree_clearWrong 16 = .ok (.getfield 9, 3) := by decide +kernel
theorem d_Tree_clearWrong_19 : decode b_Tree_clearWrong 19 = .ok (.aload_n 0, 1) := by decide +kernel
theorem d_Tree_clearWrong_20 : decode b_Tree_clearWrong 20 = .ok (.getfield 15, 3) := by decide +kernel
theorem d_Tree_clearWrong_23 : decode b_Tree_clearWrong 23 = .ok (.iload_n 1, 1) := by decide +kernel
theorem d_Tree_clearWrong_24 : decode b_Tree_clearWrong 24 = .ok (.iload_n 2, 1) := by decide +kernel
theorem d_Tree_clearWrong_25 : decode b_Tree_clearWrong 25 = .ok (.invokevirtual 41, 3) := by decide +kernel
theorem d_Tree_clearWrong_28 : decode b_Tree_clearWrong 28 = .ok (.lconst 0, 1) := by decide +kernel
theorem d_Tree_clearWrong_29 : decode b_Tree_clearWrong 29 = .ok (.invokevirtual 128, 3) := by decide +kernel
theorem d_Tree_clearWrong_32 : decode b_Tree_clearWrong 32 = .ok (.ifCond .ne 5, 3) := by decide +kernel
theorem d_Tree_clearWrong_35 : decode b_Tree_clearWrong 35 = .ok (.iconst 0, 1) := by decide +kernel
theorem d_Tree_clearWrong_36 : decode b_Tree_clearWrong 36 = .ok (.ireturn, 1) := by decide +kernel
theorem d_Tree_clearWrong_37 : decode b_Tree_clearWrong 37 = .ok (.iinc 2 (-1), 3) := by decide +kernel
theorem d_Tree_clearWrong_40 : decode b_Tree_clearWrong 40 = .ok (.goto (-38), 3) := by decide +kernel
theorem d_Tree_clearWrong_43 : decode b_Tree_clearWrong 43 = .ok (.aload_n 0, 1) := by decide +kernel
theorem d_Tree_clearWrong_44 : decode b_Tree_clearWrong 44 = .ok (.getfield 9, 3) := by decide +kernel
theorem d_Tree_clearWrong_47 : decode b_Tree_clearWrong 47 = .ok (.invokevirtual 131, 3) := by decide +kernel
theorem d_Tree_clearWrong_50 : decode b_Tree_clearWrong 50 = .ok (.iconst 1, 1) := by decide +kernel
theorem d_Tree_clearWrong_51 : decode b_Tree_clearWrong 51 = .ok (.ireturn, 1) := by decide +kernel
set_option maxRecDepth 100000 in
set_option maxHeartbeats 4000000 in
theorem k_Tree_clearWrong (l : Launch) (D : va_G) (G : Nat → Nat) (Y : Nat → ClassId) {u : SM} {a1 : Int32} {r : Int32} {u' : SM} (hm : m_Tree_clearWrong u a1 = some (r, u')) : KZ l D clz (tyz Y) (wdC G Y) y_Tree_clearWrong b_Tree_clearWrong 3 (some .boolean) 3 68 [.ref (G 6), .int a1] u r u' := by
  refine mkZ (by decide) (Nat.le_of_ble_eq_true rfl) ?_
  intro p e s m below meth c A Z ls C0 hP hD hS hl hret
  obtain ⟨hx, hb, hml, hown, hts, hK, hN, hA⟩ := id C0
  have hl : lv_has ls 3 [(0, .ref (G 6)), (1, .int a1)] := hl
  have L2 : ∀ (x1 : Int32) (o : (Int32 × SM) ⊕ (SM)) (kr : ∀ z, o = .inl z → z = (r, u')) (kx : ∀  (ub : SM), o = .inr ub → ∀ (H : Heap) (locs : List Loc) (ls : Array Slot), va_P D clz (wdC G Y ub) H → va_D A (wdC G Y ub) → va_S A s.heap H locs → lv_has ls 3 [(0, .ref (G 6))] → W p l e (zRm 3 68) s m ([.ref (G 6), .int a1] : List Value).toArray below meth c H locs 0 0 Z (F0 m 43 ls [])) (n0 : Nat) (ua : SM) (x2 : Int32), m_Tree_clearWrong_L2 n0 ua x2 x1 = some o → ∀ (H : Heap) (locs : List Loc) (ls : Array Slot), va_P D clz (wdC G Y ua) H → va_D A (wdC G Y ua) → va_S A s.heap H locs → lv_has ls 3 [(0, .ref (G 6)), (1, .int x1), (2, .int x2)] → W p l e (zRm 3 68) s m ([.ref (G 6), .int a1] : List Value).toArray below meth c H locs 0 0 Z (F0 m 2 ls []) := by
    intro x1 o kr kx n0
    induction n0 with
    | zero => intro ua x2 hm; rw [m_Tree_clearWrong_L2] at hm; cases hm
    | succ n0 ih =>
      intro ua x2 hm H locs ls hP hD hS hl
      rw [m_Tree_clearWrong_L2] at hm
      refine lv_iload_n hx hb d_Tree_clearWrong_2 rfl (lv_at hl 2 rfl) ?_
      refine lv_if_lt (tgt := 43) hx hb d_Tree_clearWrong_3 (by decide) (fun hc => ?_) (fun hc => ?_)
      · rw [if_pos hc] at hm
        exact kx  ua (Option.some.inj hm).symm _ _ _ hP hD hS (lv_sub hl [0] rfl)
      · rw [if_neg hc] at hm
        refine lv_aload_n hx hb d_Tree_clearWrong_6 rfl (lv_at hl 0 rfl) ?_
        refine lv_iload_n hx hb d_Tree_clearWrong_7 rfl (lv_at hl 1 rfl) ?_
        refine lv_iload_n hx hb d_Tree_clearWrong_8 rfl (lv_at hl 2 rfl) ?_
        obtain ⟨r1, u2, h3, hm⟩ := ob_some hm
        refine goVZ (As := [.int x1, .int x2]) (rest := []) (b0 := G 6) 6 C0 (k_Tree_isWrong l D G Y h3) q_514 q_4 q_511 q_513 qs_21 e_Tree_isWrong (by decide) rfl rfl hP hD hS hl.1 rfl (Nat.le_of_ble_eq_true rfl) d_Tree_clearWrong_9 (fun H locs hz4 hP hD hS => ?_)
        refine lv_if_eq (tgt := 37) hx hb d_Tree_clearWrong_12 (by decide) (fun hc => ?_) (fun hc => ?_)
        · rw [if_pos hc] at hm
          refine lv_iinc (v := (x2 + (-1 : Int32))) (lv' := [(2, .int (x2 + (-1 : Int32))), (0, .ref (G 6)), (1, .int x1)]) hx hb d_Tree_clearWrong_37 hl (k := 2) rfl rfl (by decide) rfl (fun ls hl => ?_)
          refine lv_goto (tgt := 2) hx hb d_Tree_clearWrong_40 (by decide) ?_
          exact ih u2 (x2 + (-1 : Int32)) hm _ _ _ hP hD hS (lv_sub hl [1, 2, 0] rfl)
        · rw [if_neg hc] at hm
          refine lv_aload_n hx hb d_Tree_clearWrong_15 rfl (lv_at hl 0 rfl) ?_
          refine va_get (D := D) (ci := 3) (v := .ref (G 1)) (C := "FirmStore$Tree") (T := F_Tree) (N := 2) hx hb hts iz_Tree hown hK hP 6 rfl rfl 0 (by decide) (hts _ q_73) (fun _ h9 => h9) rfl d_Tree_clearWrong_16 ?_
          refine lv_aload_n hx hb d_Tree_clearWrong_19 rfl (lv_at hl 0 rfl) ?_
          refine va_get (D := D) (ci := 3) (v := .ref (G 5)) (C := "FirmStore$Tree") (T := F_Tree) (N := 2) hx hb hts iz_Tree hown hK hP 6 rfl rfl 1 (by decide) (hts _ q_74) (fun _ h9 => h9) rfl d_Tree_clearWrong_20 ?_
          refine lv_iload_n hx hb d_Tree_clearWrong_23 rfl (lv_at hl 1 rfl) ?_
          refine lv_iload_n hx hb d_Tree_clearWrong_24 rfl (lv_at hl 2 rfl) ?_
          obtain ⟨r5, u6, h7, hm⟩ := ob_some hm
          refine goVI (As := [.int x1, .int x2]) (rest := [.ref (G 1)]) (b0 := G 5) 5 C0 (k_Blocks_addressOfPlace l D G Y h7) q_384 q_3 q_381 q_382 q_383 e_Blocks_addressOfPlace (by decide) rfl rfl hP hD hS hl.1 rfl (Nat.le_of_ble_eq_true rfl) d_Tree_clearWrong_25 (fun H locs hP hD hS => ?_)
          refine lv_lconst (v := (0 : Int64)) hx hb d_Tree_clearWrong_28 (by decide) ?_
          obtain ⟨r9, u10, h11, hm⟩ := ob_some hm
          refine goVZ (As := [.int r5, .long (0 : Int64)]) (rest := []) (b0 := G 1) 1 C0 (k_Memory_store l D G Y h11) q_350 q_2 q_403 q_348 q_349 e_Memory_store (by decide) rfl rfl hP hD hS hl.1 rfl (Nat.le_of_ble_eq_true rfl) d_Tree_clearWrong_29 (fun H locs hz12 hP hD hS => ?_)
          refine lv_if_ne (tgt := 37) hx hb d_Tree_clearWrong_32 (by decide) (fun hc => ?_) (fun hc => ?_)
          · rw [if_neg hc] at hm
            refine lv_iinc (v := (x2 + (-1 : Int32))) (lv' := [(2, .int (x2 + (-1 : Int32))), (0, .ref (G 6)), (1, .int x1)]) hx hb d_Tree_clearWrong_37 hl (k := 2) rfl rfl (by decide) rfl (fun ls hl => ?_)
            refine lv_goto (tgt := 2) hx hb d_Tree_clearWrong_40 (by decide) ?_
            exact ih u10 (x2 + (-1 : Int32)) hm _ _ _ hP hD hS (lv_sub hl [1, 2, 0] rfl)
          · rw [if_pos hc] at hm
            refine lv_iconst (v := (0 : Int32)) hx hb d_Tree_clearWrong_35 (by decide) ?_
            exact hret _ _ _ _ (0 : Int32) u10 (kr _ (Option.some.inj hm).symm) (Or.inl rfl) hP hD hS d_Tree_clearWrong_36
  rw [m_Tree_clearWrong] at hm
  refine lv_iconst (v := (5 : Int32)) hx hb d_Tree_clearWrong_0 (by decide) ?_
  refine lv_istore_n (lv' := [(2, .int (5 : Int32)), (0, .ref (G 6)), (1, .int a1)]) hx hb d_Tree_clearWrong_1 rfl hl (by decide) rfl (fun ls hl => ?_)
  obtain ⟨qq, hq, hi, ho⟩ := ol0_some hm
  refine L2 a1 qq (fun z hz => hi z hz) (fun  u13 hz H locs ls hP hD hS hl => ?_) fz u (5 : Int32) hq _ _ _ hP hD hS (lv_sub hl [1, 2, 0] rfl)
  have hm := ho  u13 hz
  refine lv_aload_n hx hb d_Tree_clearWrong_43 rfl (lv_at hl 0 rfl) ?_
  refine va_get (D := D) (ci := 3) (v := .ref (G 1)) (C := "FirmStore$Tree") (T := F_Tree) (N := 2) hx hb hts iz_Tree hown hK hP 6 rfl rfl 0 (by decide) (hts _ q_73) (fun _ h9 => h9) rfl d_Tree_clearWrong_44 ?_
  obtain ⟨r14, u15, h16, hm⟩ := ob_some hm
  refine goVV (As := []) (rest := []) (b0 := G 1) 1 C0 (k_Memory_fence l D G Y h16) q_358 q_2 q_404 q_356 q_357 e_Memory_fence (by decide) rfl rfl hP hD hS hl.1 rfl (Nat.le_of_ble_eq_true rfl) d_Tree_clearWrong_47 (fun H locs hP hD hS => ?_)
  refine lv_iconst (v := (1 : Int32)) hx hb d_Tree_clearWrong_50 (by decide) ?_
  exact hret _ _ _ _ (1 : Int32) u15 (Option.some.inj hm) (Or.inr rfl) hP hD hS d_Tree_clearWrong_51
theorem d_Tree_putRight_0 : decode b_Tree_putRight 0 = .ok (.aload_n 0, 1) := by decide +kernel
theorem d_Tree_putRight_1 : decode b_Tree_putRight 1 = .ok (.invokevirtual 94, 3) := by decide +kernel
theorem d_Tree_putRight_4 : decode b_Tree_putRight 4 = .ok (.istore_n 1, 1) := by decide +kernel
theorem d_Tree_putRight_5 : decode b_Tree_putRight 5 = .ok (.iconst 0, 1) := by decide +kernel
theorem d_Tree_putRight_6 : decode b_Tree_putRight 6 = .ok (.istore_n 2, 1) := by decide +kernel
theorem d_Tree_putRight_7 : decode b_Tree_putRight 7 = .ok (.iload_n 2, 1) := by decide +kernel
theorem d_Tree_putRight_8 : decode b_Tree_putRight 8 = .ok (.bipush 30, 2) := by decide +kernel
theorem d_Tree_putRight_10 : decode b_Tree_putRight 10 = .ok (.if_icmp .ge 67, 3) := by decide +kernel
theorem d_Tree_putRight_13 : decode b_Tree_putRight 13 = .ok (.iload_n 2, 1) := by decide +kernel
theorem d_Tree_putRight_14 : decode b_Tree_putRight 14 = .ok (.iload_n 1, 1) := by decide +kernel
theorem d_Tree_putRight_15 : decode b_Tree_putRight 15 = .ok (.if_icmp .gt 62, 3) := by decide +kernel
theorem d_Tree_putRight_18 : decode b_Tree_putRight 18 = .ok (.aload_n 0, 1) := by decide +kernel
theorem d_Tree_putRight_19 : decode b_Tree_putRight 19 = .ok (.iload_n 2, 1) := by decide +kernel
theorem d_Tree_putRight_20 : decode b_Tree_putRight 20 = .ok (.invokevirtual 50, 3) := by decide +kernel
theorem d_Tree_putRight_23 : decode b_Tree_putRight 23 = .ok (.istore_n 3, 1) := by decide +kernel
theorem d_Tree_putRight_24 : decode b_Tree_putRight 24 = .ok (.iconst 0, 1) := by decide +kernel
theorem d_Tree_putRight_25 : decode b_Tree_putRight 25 = .ok (.istore 4, 2) := by decide +kernel
theorem d_Tree_putRight_27 : decode b_Tree_putRight 27 = .ok (.iload 4, 2) := by decide +kernel
theorem d_Tree_putRight_29 : decode b_Tree_putRight 29 = .ok (.bipush 30, 2) := by decide +kernel
theorem d_Tree_putRight_31 : decode b_Tree_putRight 31 = .ok (.if_icmp .ge 40, 3) := by decide +kernel
theorem d_Tree_putRight_34 : decode b_Tree_putRight 34 = .ok (.iload_n 3, 1) := by decide +kernel
theorem d_Tree_putRight_35 : decode b_Tree_putRight 35 = .ok (.ifCond .eq 36, 3) := by decide +kernel
theorem d_Tree_putRight_38 : decode b_Tree_putRight 38 = .ok (.aload_n 0, 1) := by decide +kernel
theorem d_Tree_putRight_39 : decode b_Tree_putRight 39 = .ok (.iload_n 3, 1) := by decide +kernel
theorem d_Tree_putRight_40 : decode b_Tree_putRight 40 = .ok (.invokevirtual 97, 3) := by decide +kernel
theorem d_Tree_putRight_43 : decode b_Tree_putRight 43 = .ok (.ifCond .eq 11, 3) := by decide +kernel
theorem d_Tree_putRight_46 : decode b_Tree_putRight 46 = .ok (.aload_n 0, 1) := by decide +kernel
theorem d_Tree_putRight_47 : decode b_Tree_putRight 47 = .ok (.iload_n 3, 1) := by decide +kernel
theorem d_Tree_putRight_48 : decode b_Tree_putRight 48 = .ok (.invokevirtual 100, 3) := by decide +kernel
theorem d_Tree_putRight_51 : decode b_Tree_putRight 51 = .ok (.ifCond .ne 5, 3) := by decide +kernel
theorem d_Tree_putRight_54 : decode b_Tree_putRight 54 = .ok (.iconst 0, 1) := by decide +kernel
theorem d_Tree_putRight_55 : decode b_Tree_putRight 55 = .ok (.ireturn, 1) := by decide +kernel
theorem d_Tree_putRight_56 : decode b_Tree_putRight 56 = .ok (.aload_n 0, 1) := by decide +kernel
theorem d_Tree_putRight_57 : decode b_Tree_putRight 57 = .ok (.getfield 15, 3) := by decide +kernel
theorem d_Tree_putRight_60 : decode b_Tree_putRight 60 = .ok (.iload_n 3, 1) := by decide +kernel
theorem d_Tree_putRight_61 : decode b_Tree_putRight 61 = .ok (.invokevirtual 47, 3) := by decide +kernel
theorem d_Tree_putRight_64 : decode b_Tree_putRight 64 = .ok (.istore_n 3, 1) := by decide +kernel
theorem d_Tree_putRight_65 : decode b_Tree_putRight 65 = .ok (.iinc 4 1, 3) := by decide +kernel
theorem d_Tree_putRight_68 : decode b_Tree_putRight 68 = .ok (.goto (-41), 3) := by decide +kernel
theorem d_Tree_putRight_71 : decode b_Tree_putRight 71 = .ok (.iinc 2 1, 3) := by decide +kernel
theorem d_Tree_putRight_74 : decode b_Tree_putRight 74 = .ok (.goto (-67), 3) := by decide +kernel
theorem d_Tree_putRight_77 : decode b_Tree_putRight 77 = .ok (.iconst 1, 1) := by decide +kernel
theorem d_Tree_putRight_78 : decode b_Tree_putRight 78 = .ok (.ireturn, 1) := by decide +kernel
set_option maxRecDepth 100000 in
set_option maxHeartbeats 4000000 in
theorem k_Tree_putRight (l : Launch) (D : va_G) (G : Nat → Nat) (Y : Nat → ClassId) {u : SM}  {r : Int32} {u' : SM} (hm : m_Tree_putRight u  = some (r, u')) : KZ l D clz (tyz Y) (wdC G Y) y_Tree_putRight b_Tree_putRight 5 (some .boolean) 5 115 [.ref (G 6)] u r u' := by
  refine mkZ (by decide) (Nat.le_of_ble_eq_true rfl) ?_
  intro p e s m below meth c A Z ls C0 hP hD hS hl hret
  obtain ⟨hx, hb, hml, hown, hts, hK, hN, hA⟩ := id C0
  have hl : lv_has ls 5 [(0, .ref (G 6))] := hl
  have L27 : ∀ (x1 : Int32) (x2 : Int32) (o : (Int32 × SM) ⊕ (SM)) (kr : ∀ z, o = .inl z → z = (r, u')) (kx : ∀  (ub : SM), o = .inr ub → ∀ (H : Heap) (locs : List Loc) (ls : Array Slot), va_P D clz (wdC G Y ub) H → va_D A (wdC G Y ub) → va_S A s.heap H locs → lv_has ls 5 [(0, .ref (G 6)), (1, .int x1), (2, .int x2)] → W p l e (zRm 5 115) s m ([.ref (G 6)] : List Value).toArray below meth c H locs 0 0 Z (F0 m 71 ls [])) (n0 : Nat) (ua : SM) (x3 : Int32) (x4 : Int32), m_Tree_putRight_L27 n0 ua x3 x4 x1 x2 = some o → ∀ (H : Heap) (locs : List Loc) (ls : Array Slot), va_P D clz (wdC G Y ua) H → va_D A (wdC G Y ua) → va_S A s.heap H locs → lv_has ls 5 [(0, .ref (G 6)), (1, .int x1), (2, .int x2), (3, .int x3), (4, .int x4)] → W p l e (zRm 5 115) s m ([.ref (G 6)] : List Value).toArray below meth c H locs 0 0 Z (F0 m 27 ls []) := by
    intro x1 x2 o kr kx n0
    induction n0 with
    | zero => intro ua x3 x4 hm; rw [m_Tree_putRight_L27] at hm; cases hm
    | succ n0 ih =>
      intro ua x3 x4 hm H locs ls hP hD hS hl
      rw [m_Tree_putRight_L27] at hm
      refine lv_iload hx hb d_Tree_putRight_27 (lv_at hl 4 rfl) ?_
      refine lv_bipush (v := (30 : Int32)) hx hb d_Tree_putRight_29 (by decide) ?_
      refine lv_icmp_ge (tgt := 71) hx hb d_Tree_putRight_31 (by decide) (fun hc => ?_) (fun hc => ?_)
      · rw [if_pos hc] at hm
        exact kx  ua (Option.some.inj hm).symm _ _ _ hP hD hS (lv_sub hl [0, 1, 2] rfl)
      · rw [if_neg hc] at hm
        refine lv_iload_n hx hb d_Tree_putRight_34 rfl (lv_at hl 3 rfl) ?_
        refine lv_if_eq (tgt := 71) hx hb d_Tree_putRight_35 (by decide) (fun hc => ?_) (fun hc => ?_)
        · rw [if_pos hc] at hm
          exact kx  ua (Option.some.inj hm).symm _ _ _ hP hD hS (lv_sub hl [0, 1, 2] rfl)
        · rw [if_neg hc] at hm
          refine lv_aload_n hx hb d_Tree_putRight_38 rfl (lv_at hl 0 rfl) ?_
          refine lv_iload_n hx hb d_Tree_putRight_39 rfl (lv_at hl 3 rfl) ?_
          obtain ⟨r1, u2, h3, hm⟩ := ob_some hm
          refine goVZ (As := [.int x3]) (rest := []) (b0 := G 6) 6 C0 (k_Tree_clearWrong l D G Y h3) q_510 q_4 q_507 q_509 qs_20 e_Tree_clearWrong (by decide) rfl rfl hP hD hS hl.1 rfl (Nat.le_of_ble_eq_true rfl) d_Tree_putRight_40 (fun H locs hz4 hP hD hS => ?_)
          refine lv_if_eq (tgt := 54) hx hb d_Tree_putRight_43 (by decide) (fun hc => ?_) (fun hc => ?_)
          · rw [if_pos hc] at hm
            refine lv_iconst (v := (0 : Int32)) hx hb d_Tree_putRight_54 (by decide) ?_
            exact hret _ _ _ _ (0 : Int32) u2 (kr _ (Option.some.inj hm).symm) (Or.inl rfl) hP hD hS d_Tree_putRight_55
          · rw [if_neg hc] at hm
            refine lv_aload_n hx hb d_Tree_putRight_46 rfl (lv_at hl 0 rfl) ?_
            refine lv_iload_n hx hb d_Tree_putRight_47 rfl (lv_at hl 3 rfl) ?_
            obtain ⟨r5, u6, h7, hm⟩ := ob_some hm
            refine goVZ (As := [.int x3]) (rest := []) (b0 := G 6) 6 C0 (k_Tree_dropTwins l D G Y h7) q_518 q_4 q_515 q_517 qs_22 e_Tree_dropTwins (by decide) rfl rfl hP hD hS hl.1 rfl (Nat.le_of_ble_eq_true rfl) d_Tree_putRight_48 (fun H locs hz8 hP hD hS => ?_)
            refine lv_if_ne (tgt := 56) hx hb d_Tree_putRight_51 (by decide) (fun hc => ?_) (fun hc => ?_)
            · rw [if_neg hc] at hm
              refine lv_aload_n hx hb d_Tree_putRight_56 rfl (lv_at hl 0 rfl) ?_
              refine va_get (D := D) (ci := 3) (v := .ref (G 5)) (C := "FirmStore$Tree") (T := F_Tree) (N := 2) hx hb hts iz_Tree hown hK hP 6 rfl rfl 1 (by decide) (hts _ q_74) (fun _ h9 => h9) rfl d_Tree_putRight_57 ?_
              refine lv_iload_n hx hb d_Tree_putRight_60 rfl (lv_at hl 3 rfl) ?_
              obtain ⟨r9, u10, h11, hm⟩ := ob_some hm
              refine goVI (As := [.int x3]) (rest := []) (b0 := G 5) 5 C0 (k_Blocks_nextOf l D G Y h11) q_160 q_3 q_157 q_158 q_159 e_Blocks_nextOf (by decide) rfl rfl hP hD hS hl.1 rfl (Nat.le_of_ble_eq_true rfl) d_Tree_putRight_61 (fun H locs hP hD hS => ?_)
              refine lv_istore_n (lv' := [(3, .int r9), (0, .ref (G 6)), (1, .int x1), (2, .int x2), (4, .int x4)]) hx hb d_Tree_putRight_64 rfl hl (by decide) rfl (fun ls hl => ?_)
              refine lv_iinc (v := (x4 + (1 : Int32))) (lv' := [(4, .int (x4 + (1 : Int32))), (3, .int r9), (0, .ref (G 6)), (1, .int x1), (2, .int x2)]) hx hb d_Tree_putRight_65 hl (k := 4) rfl rfl (by decide) rfl (fun ls hl => ?_)
              refine lv_goto (tgt := 27) hx hb d_Tree_putRight_68 (by decide) ?_
              exact ih u10 r9 (x4 + (1 : Int32)) hm _ _ _ hP hD hS (lv_sub hl [2, 3, 4, 1, 0] rfl)
            · rw [if_pos hc] at hm
              refine lv_iconst (v := (0 : Int32)) hx hb d_Tree_putRight_54 (by decide) ?_
              exact hret _ _ _ _ (0 : Int32) u6 (kr _ (Option.some.inj hm).symm) (Or.inl rfl) hP hD hS d_Tree_putRight_55
  have L7 : ∀ (x1 : Int32) (o : (Int32 × SM) ⊕ (SM)) (kr : ∀ z, o = .inl z → z = (r, u')) (kx : ∀  (ub : SM), o = .inr ub → ∀ (H : Heap) (locs : List Loc) (ls : Array Slot), va_P D clz (wdC G Y ub) H → va_D A (wdC G Y ub) → va_S A s.heap H locs → lv_has ls 5 [] → W p l e (zRm 5 115) s m ([.ref (G 6)] : List Value).toArray below meth c H locs 0 0 Z (F0 m 77 ls [])) (n0 : Nat) (ua : SM) (x2 : Int32), m_Tree_putRight_L7 n0 ua x2 x1 = some o → ∀ (H : Heap) (locs : List Loc) (ls : Array Slot), va_P D clz (wdC G Y ua) H → va_D A (wdC G Y ua) → va_S A s.heap H locs → lv_has ls 5 [(0, .ref (G 6)), (1, .int x1), (2, .int x2)] → W p l e (zRm 5 115) s m ([.ref (G 6)] : List Value).toArray below meth c H locs 0 0 Z (F0 m 7 ls []) := by
    intro x1 o kr kx n0
    induction n0 with
    | zero => intro ua x2 hm; rw [m_Tree_putRight_L7] at hm; cases hm
    | succ n0 ih =>
      intro ua x2 hm H locs ls hP hD hS hl
      rw [m_Tree_putRight_L7] at hm
      refine lv_iload_n hx hb d_Tree_putRight_7 rfl (lv_at hl 2 rfl) ?_
      refine lv_bipush (v := (30 : Int32)) hx hb d_Tree_putRight_8 (by decide) ?_
      refine lv_icmp_ge (tgt := 77) hx hb d_Tree_putRight_10 (by decide) (fun hc => ?_) (fun hc => ?_)
      · rw [if_pos hc] at hm
        exact kx  ua (Option.some.inj hm).symm _ _ _ hP hD hS (lv_sub hl [] rfl)
      · rw [if_neg hc] at hm
        refine lv_iload_n hx hb d_Tree_putRight_13 rfl (lv_at hl 2 rfl) ?_
        refine lv_iload_n hx hb d_Tree_putRight_14 rfl (lv_at hl 1 rfl) ?_
        refine lv_icmp_gt (tgt := 77) hx hb d_Tree_putRight_15 (by decide) (fun hc => ?_) (fun hc => ?_)
        · rw [if_pos hc] at hm
          exact kx  ua (Option.some.inj hm).symm _ _ _ hP hD hS (lv_sub hl [] rfl)
        · rw [if_neg hc] at hm
          refine lv_aload_n hx hb d_Tree_putRight_18 rfl (lv_at hl 0 rfl) ?_
          refine lv_iload_n hx hb d_Tree_putRight_19 rfl (lv_at hl 2 rfl) ?_
          obtain ⟨r13, u14, h15, hm⟩ := ob_some hm
          refine goVI (As := [.int x2]) (rest := []) (b0 := G 6) 6 C0 (k_Tree_firstOf l D G Y h15) q_128 q_4 q_125 q_127 qs_0 e_Tree_firstOf (by decide) rfl rfl hP hD hS hl.1 rfl (Nat.le_of_ble_eq_true rfl) d_Tree_putRight_20 (fun H locs hP hD hS => ?_)
          refine lv_istore_n (lv' := [(3, .int r13), (0, .ref (G 6)), (1, .int x1), (2, .int x2)]) hx hb d_Tree_putRight_23 rfl hl (by decide) rfl (fun ls hl => ?_)
          refine lv_iconst (v := (0 : Int32)) hx hb d_Tree_putRight_24 (by decide) ?_
          refine lv_istore (lv' := [(4, .int (0 : Int32)), (3, .int r13), (0, .ref (G 6)), (1, .int x1), (2, .int x2)]) hx hb d_Tree_putRight_25 hl (by decide) rfl (fun ls hl => ?_)
          obtain ⟨qq, hq, hi, ho⟩ := ol0_some hm
          refine L27 x1 x2 qq (fun z hz => kr z (hi z hz).symm) (fun  u17 hz H locs ls hP hD hS hl => ?_) fz u14 r13 (0 : Int32) hq _ _ _ hP hD hS (lv_sub hl [2, 3, 4, 1, 0] rfl)
          have hm := ho  u17 hz
          refine lv_iinc (v := (x2 + (1 : Int32))) (lv' := [(2, .int (x2 + (1 : Int32))), (0, .ref (G 6)), (1, .int x1)]) hx hb d_Tree_putRight_71 hl (k := 2) rfl rfl (by decide) rfl (fun ls hl => ?_)
          refine lv_goto (tgt := 7) hx hb d_Tree_putRight_74 (by decide) ?_
          exact ih u17 (x2 + (1 : Int32)) hm _ _ _ hP hD hS (lv_sub hl [1, 2, 0] rfl)
  rw [m_Tree_putRight] at hm
  refine lv_aload_n hx hb d_Tree_putRight_0 rfl (lv_at hl 0 rfl) ?_
  obtain ⟨r18, u19, h20, hm⟩ := ob_some hm
  refine goVI (As := []) (rest := []) (b0 := G 6) 6 C0 (k_Tree_topLevel l D G Y h20) q_226 q_4 q_393 q_224 q_225 e_Tree_topLevel (by decide) rfl rfl hP hD hS hl.1 rfl (Nat.le_of_ble_eq_true rfl) d_Tree_putRight_1 (fun H locs hP hD hS => ?_)
  refine lv_istore_n (lv' := [(1, .int r18), (0, .ref (G 6))]) hx hb d_Tree_putRight_4 rfl hl (by decide) rfl (fun ls hl => ?_)
  refine lv_iconst (v := (0 : Int32)) hx hb d_Tree_putRight_5 (by decide) ?_
  refine lv_istore_n (lv' := [(2, .int (0 : Int32)), (1, .int r18), (0, .ref (G 6))]) hx hb d_Tree_putRight_6 rfl hl (by decide) rfl (fun ls hl => ?_)
  obtain ⟨qq, hq, hi, ho⟩ := ol0_some hm
  refine L7 r18 qq (fun z hz => hi z hz) (fun  u22 hz H locs ls hP hD hS hl => ?_) fz u19 (0 : Int32) hq _ _ _ hP hD hS (lv_sub hl [2, 1, 0] rfl)
  have hm := ho  u22 hz
  refine lv_iconst (v := (1 : Int32)) hx hb d_Tree_putRight_77 (by decide) ?_
  exact hret _ _ _ _ (1 : Int32) u22 (Option.some.inj hm) (Or.inr rfl) hP hD hS d_Tree_putRight_78
theorem d_Tree_hangStrays_0 : decode b_Tree_hangStrays 0 = .ok (.iconst 0, 1) := by decide +kernel
theorem d_Tree_hangStrays_1 : decode b_Tree_hangStrays 1 = .ok (.istore_n 1, 1) := by decide +kernel
theorem d_Tree_hangStrays_2 : decode b_Tree_hangStrays 2 = .ok (.iload_n 1, 1) := by decide +kernel
theorem d_Tree_hangStrays_3 : decode b_Tree_hangStrays 3 = .ok (.bipush 30, 2) := by decide +kernel
theorem d_Tree_hangStrays_5 : decode b_Tree_hangStrays 5 = .ok (.if_icmp .ge 81, 3) := by decide +kernel
theorem d_Tree_hangStrays_8 : decode b_Tree_hangStrays 8 = .ok (.iload_n 1, 1) := by decide +kernel
theorem d_Tree_hangStrays_9 : decode b_Tree_hangStrays 9 = .ok (.aload_n 0, 1) := by decide +kernel
theorem d_Tree_hangStrays_10 : decode b_Tree_hangStrays 10 = .ok (.invokevirtual 94, 3) := by decide +kernel
theorem d_Tree_hangStrays_13 : decode b_Tree_hangStrays 13 = .ok (.if_icmp .gt 73, 3) := by decide +kernel
theorem d_Tree_hangStrays_16 : decode b_Tree_hangStrays 16 = .ok (.aload_n 0, 1) := by decide +kernel
theorem d_Tree_hangStrays_17 : decode b_Tree_hangStrays 17 = .ok (.getfield 15, 3) := by decide +kernel
theorem d_Tree_hangStrays_20 : decode b_Tree_hangStrays 20 = .ok (.aload_n 0, 1) := by decide +kernel
theorem d_Tree_hangStrays_21 : decode b_Tree_hangStrays 21 = .ok (.iload_n 1, 1) := by decide +kernel
theorem d_Tree_hangStrays_22 : decode b_Tree_hangStrays 22 = .ok (.invokevirtual 50, 3) := by decide +kernel
theorem d_Tree_hangStrays_25 : decode b_Tree_hangStrays 25 = .ok (.invokevirtual 47, 3) := by decide +kernel
theorem d_Tree_hangStrays_28 : decode b_Tree_hangStrays 28 = .ok (.istore_n 2, 1) := by decide +kernel
theorem d_Tree_hangStrays_29 : decode b_Tree_hangStrays 29 = .ok (.iconst 0, 1) := by decide +kernel
theorem d_Tree_hangStrays_30 : decode b_Tree_hangStrays 30 = .ok (.istore_n 3, 1) := by decide +kernel
theorem d_Tree_hangStrays_31 : decode b_Tree_hangStrays 31 = .ok (.iload_n 3, 1) := by decide +kernel
theorem d_Tree_hangStrays_32 : decode b_Tree_hangStrays 32 = .ok (.bipush 30, 2) := by decide +kernel
theorem d_Tree_hangStrays_34 : decode b_Tree_hangStrays 34 = .ok (.if_icmp .ge 46, 3) := by decide +kernel
theorem d_Tree_hangStrays_37 : decode b_Tree_hangStrays 37 = .ok (.iload_n 2, 1) := by decide +kernel
theorem d_Tree_hangStrays_38 : decode b_Tree_hangStrays 38 = .ok (.ifCond .eq 42, 3) := by decide +kernel
theorem d_Tree_hangStrays_41 : decode b_Tree_hangStrays 41 = .ok (.aload_n 0, 1) := by decide +kernel
theorem d_Tree_hangStrays_42 : decode b_Tree_hangStrays 42 = .ok (.iload_n 2, 1) := by decide +kernel
theorem d_Tree_hangStrays_43 : decode b_Tree_hangStrays 43 = .ok (.iload_n 1, 1) := by decide +kernel
theorem d_Tree_hangStrays_44 : decode b_Tree_hangStrays 44 = .ok (.iconst 1, 1) := by decide +kernel
theorem d_Tree_hangStrays_45 : decode b_Tree_hangStrays 45 = .ok (.iadd, 1) := by decide +kernel
theorem d_Tree_hangStrays_46 : decode b_Tree_hangStrays 46 = .ok (.invokevirtual 103, 3) := by decide +kernel
theorem d_Tree_hangStrays_49 : decode b_Tree_hangStrays 49 = .ok (.ifCond .ne 16, 3) := by decide +kernel
theorem d_Tree_hangStrays_52 : decode b_Tree_hangStrays 52 = .ok (.aload_n 0, 1) := by decide +kernel
theorem d_Tree_hangStrays_53 : decode b_Tree_hangStrays 53 = .ok (.iload_n 2, 1) := by decide +kernel
theorem d_Tree_hangStrays_54 : decode b_Tree_hangStrays 54 = .ok (.iload_n 1, 1) := by decide +kernel
theorem d_Tree_hangStrays_55 : decode b_Tree_hangStrays 55 = .ok (.iconst 1, 1) := by decide +kernel
theorem d_Tree_hangStrays_56 : decode b_Tree_hangStrays 56 = .ok (.iadd, 1) := by decide +kernel
theorem d_Tree_hangStrays_57 : decode b_Tree_hangStrays 57 = .ok (.invokevirtual 84, 3) := by decide +kernel
theorem d_Tree_hangStrays_60 : decode b_Tree_hangStrays 60 = .ok (.ifCond .ne 5, 3) := by decide +kernel
theorem d_Tree_hangStrays_63 : decode b_Tree_hangStrays 63 = .ok (.iconst 0, 1) := by decide +kernel
theorem d_Tree_hangStrays_64 : decode b_Tree_hangStrays 64 = .ok (.ireturn, 1) := by decide +kernel
theorem d_Tree_hangStrays_65 : decode b_Tree_hangStrays 65 = .ok (.aload_n 0, 1) := by decide +kernel
theorem d_Tree_hangStrays_66 : decode b_Tree_hangStrays 66 = .ok (.getfield 15, 3) := by decide +kernel
theorem d_Tree_hangStrays_69 : decode b_Tree_hangStrays 69 = .ok (.iload_n 2, 1) := by decide +kernel
theorem d_Tree_hangStrays_70 : decode b_Tree_hangStrays 70 = .ok (.invokevirtual 47, 3) := by decide +kernel
theorem d_Tree_hangStrays_73 : decode b_Tree_hangStrays 73 = .ok (.istore_n 2, 1) := by decide +kernel
theorem d_Tree_hangStrays_74 : decode b_Tree_hangStrays 74 = .ok (.iinc 3 1, 3) := by decide +kernel
theorem d_Tree_hangStrays_77 : decode b_Tree_hangStrays 77 = .ok (.goto (-46), 3) := by decide +kernel
theorem d_Tree_hangStrays_80 : decode b_Tree_hangStrays 80 = .ok (.iinc 1 1, 3) := by decide +kernel
theorem d_Tree_hangStrays_83 : decode b_Tree_hangStrays 83 = .ok (.goto (-81), 3) := by decide +kernel
theorem d_Tree_hangStrays_86 : decode b_Tree_hangStrays 86 = .ok (.iconst 1, 1) := by decide +kernel
theorem d_Tree_hangStrays_87 : decode b_Tree_hangStrays 87 = .ok (.ireturn, 1) := by decide +kernel
set_option maxRecDepth 100000 in
set_option maxHeartbeats 4000000 in
theorem k_Tree_hangStrays (l : Launch) (D : va_G) (G : Nat → Nat) (Y : Nat → ClassId) {u : SM}  {r : Int32} {u' : SM} (hm : m_Tree_hangStrays u  = some (r, u')) : KZ l D clz (tyz Y) (wdC G Y) y_Tree_hangStrays b_Tree_hangStrays 4 (some .boolean) 46 1154 [.ref (G 6)] u r u' := by
  refine mkZ (by decide) (Nat.le_of_ble_eq_true rfl) ?_
  intro p e s m below meth c A Z ls C0 hP hD hS hl hret
  obtain ⟨hx, hb, hml, hown, hts, hK, hN, hA⟩ := id C0
  have hl : lv_has ls 4 [(0, .ref (G 6))] := hl
  have L31 : ∀ (x1 : Int32) (o : (Int32 × SM) ⊕ (SM)) (kr : ∀ z, o = .inl z → z = (r, u')) (kx : ∀  (ub : SM), o = .inr ub → ∀ (H : Heap) (locs : List Loc) (ls : Array Slot), va_P D clz (wdC G Y ub) H → va_D A (wdC G Y ub) → va_S A s.heap H locs → lv_has ls 4 [(0, .ref (G 6)), (1, .int x1)] → W p l e (zRm 46 1154) s m ([.ref (G 6)] : List Value).toArray below meth c H locs 0 0 Z (F0 m 80 ls [])) (n0 : Nat) (ua : SM) (x2 : Int32) (x3 : Int32), m_Tree_hangStrays_L31 n0 ua x2 x3 x1 = some o → ∀ (H : Heap) (locs : List Loc) (ls : Array Slot), va_P D clz (wdC G Y ua) H → va_D A (wdC G Y ua) → va_S A s.heap H locs → lv_has ls 4 [(0, .ref (G 6)), (1, .int x1), (2, .int x2), (3, .int x3)] → W p l e (zRm 46 1154) s m ([.ref (G 6)] : List Value).toArray below meth c H locs 0 0 Z (F0 m 31 ls []) := by
    intro x1 o kr kx n0
    induction n0 with
    | zero => intro ua x2 x3 hm; rw [m_Tree_hangStrays_L31] at hm; cases hm
    | succ n0 ih =>
      intro ua x2 x3 hm H locs ls hP hD hS hl
      rw [m_Tree_hangStrays_L31] at hm
      refine lv_iload_n hx hb d_Tree_hangStrays_31 rfl (lv_at hl 3 rfl) ?_
      refine lv_bipush (v := (30 : Int32)) hx hb d_Tree_hangStrays_32 (by decide) ?_
      refine lv_icmp_ge (tgt := 80) hx hb d_Tree_hangStrays_34 (by decide) (fun hc => ?_) (fun hc => ?_)
      · rw [if_pos hc] at hm
        exact kx  ua (Option.some.inj hm).symm _ _ _ hP hD hS (lv_sub hl [0, 1] rfl)
      · rw [if_neg hc] at hm
        refine lv_iload_n hx hb d_Tree_hangStrays_37 rfl (lv_at hl 2 rfl) ?_
        refine lv_if_eq (tgt := 80) hx hb d_Tree_hangStrays_38 (by decide) (fun hc => ?_) (fun hc => ?_)
        · rw [if_pos hc] at hm
          exact kx  ua (Option.some.inj hm).symm _ _ _ hP hD hS (lv_sub hl [0, 1] rfl)
        · rw [if_neg hc] at hm
          refine lv_aload_n hx hb d_Tree_hangStrays_41 rfl (lv_at hl 0 rfl) ?_
          refine lv_iload_n hx hb d_Tree_hangStrays_42 rfl (lv_at hl 2 rfl) ?_
          refine lv_iload_n hx hb d_Tree_hangStrays_43 rfl (lv_at hl 1 rfl) ?_
          refine lv_iconst (v := (1 : Int32)) hx hb d_Tree_hangStrays_44 (by decide) ?_
          refine lv_iadd hx hb d_Tree_hangStrays_45 ?_
          obtain ⟨r1, u2, h3, hm⟩ := ob_some hm
          refine goVZ (As := [.int x2, .int (x1 + (1 : Int32))]) (rest := []) (b0 := G 6) 6 C0 (k_Tree_isHung l D G Y h3) q_530 q_4 q_527 q_529 qs_24 e_Tree_isHung (by decide) rfl rfl hP hD hS hl.1 rfl (Nat.le_of_ble_eq_true rfl) d_Tree_hangStrays_46 (fun H locs hz4 hP hD hS => ?_)
          refine lv_if_ne (tgt := 65) hx hb d_Tree_hangStrays_49 (by decide) (fun hc => ?_) (fun hc => ?_)
          · rw [if_neg hc] at hm
            refine lv_aload_n hx hb d_Tree_hangStrays_65 rfl (lv_at hl 0 rfl) ?_
            refine va_get (D := D) (ci := 3) (v := .ref (G 5)) (C := "FirmStore$Tree") (T := F_Tree) (N := 2) hx hb hts iz_Tree hown hK hP 6 rfl rfl 1 (by decide) (hts _ q_74) (fun _ h9 => h9) rfl d_Tree_hangStrays_66 ?_
            refine lv_iload_n hx hb d_Tree_hangStrays_69 rfl (lv_at hl 2 rfl) ?_
            obtain ⟨r5, u6, h7, hm⟩ := ob_some hm
            refine goVI (As := [.int x2]) (rest := []) (b0 := G 5) 5 C0 (k_Blocks_nextOf l D G Y h7) q_160 q_3 q_157 q_158 q_159 e_Blocks_nextOf (by decide) rfl rfl hP hD hS hl.1 rfl (Nat.le_of_ble_eq_true rfl) d_Tree_hangStrays_70 (fun H locs hP hD hS => ?_)
            refine lv_istore_n (lv' := [(2, .int r5), (0, .ref (G 6)), (1, .int x1), (3, .int x3)]) hx hb d_Tree_hangStrays_73 rfl hl (by decide) rfl (fun ls hl => ?_)
            refine lv_iinc (v := (x3 + (1 : Int32))) (lv' := [(3, .int (x3 + (1 : Int32))), (2, .int r5), (0, .ref (G 6)), (1, .int x1)]) hx hb d_Tree_hangStrays_74 hl (k := 3) rfl rfl (by decide) rfl (fun ls hl => ?_)
            refine lv_goto (tgt := 31) hx hb d_Tree_hangStrays_77 (by decide) ?_
            exact ih u6 r5 (x3 + (1 : Int32)) hm _ _ _ hP hD hS (lv_sub hl [2, 3, 1, 0] rfl)
          · rw [if_pos hc] at hm
            refine lv_aload_n hx hb d_Tree_hangStrays_52 rfl (lv_at hl 0 rfl) ?_
            refine lv_iload_n hx hb d_Tree_hangStrays_53 rfl (lv_at hl 2 rfl) ?_
            refine lv_iload_n hx hb d_Tree_hangStrays_54 rfl (lv_at hl 1 rfl) ?_
            refine lv_iconst (v := (1 : Int32)) hx hb d_Tree_hangStrays_55 (by decide) ?_
            refine lv_iadd hx hb d_Tree_hangStrays_56 ?_
            obtain ⟨r9, u10, h11, hm⟩ := ob_some hm
            refine goVZ (As := [.int x2, .int (x1 + (1 : Int32))]) (rest := []) (b0 := G 6) 6 C0 (k_Tree_hang l D G Y 40 h11) q_408 q_4 q_405 q_407 qs_13 e_Tree_hang (by decide) rfl rfl hP hD hS hl.1 rfl (Nat.le_of_ble_eq_true rfl) d_Tree_hangStrays_57 (fun H locs hz12 hP hD hS => ?_)
            refine lv_if_ne (tgt := 65) hx hb d_Tree_hangStrays_60 (by decide) (fun hc => ?_) (fun hc => ?_)
            · rw [if_neg hc] at hm
              refine lv_aload_n hx hb d_Tree_hangStrays_65 rfl (lv_at hl 0 rfl) ?_
              refine va_get (D := D) (ci := 3) (v := .ref (G 5)) (C := "FirmStore$Tree") (T := F_Tree) (N := 2) hx hb hts iz_Tree hown hK hP 6 rfl rfl 1 (by decide) (hts _ q_74) (fun _ h9 => h9) rfl d_Tree_hangStrays_66 ?_
              refine lv_iload_n hx hb d_Tree_hangStrays_69 rfl (lv_at hl 2 rfl) ?_
              obtain ⟨r13, u14, h15, hm⟩ := ob_some hm
              refine goVI (As := [.int x2]) (rest := []) (b0 := G 5) 5 C0 (k_Blocks_nextOf l D G Y h15) q_160 q_3 q_157 q_158 q_159 e_Blocks_nextOf (by decide) rfl rfl hP hD hS hl.1 rfl (Nat.le_of_ble_eq_true rfl) d_Tree_hangStrays_70 (fun H locs hP hD hS => ?_)
              refine lv_istore_n (lv' := [(2, .int r13), (0, .ref (G 6)), (1, .int x1), (3, .int x3)]) hx hb d_Tree_hangStrays_73 rfl hl (by decide) rfl (fun ls hl => ?_)
              refine lv_iinc (v := (x3 + (1 : Int32))) (lv' := [(3, .int (x3 + (1 : Int32))), (2, .int r13), (0, .ref (G 6)), (1, .int x1)]) hx hb d_Tree_hangStrays_74 hl (k := 3) rfl rfl (by decide) rfl (fun ls hl => ?_)
              refine lv_goto (tgt := 31) hx hb d_Tree_hangStrays_77 (by decide) ?_
              exact ih u14 r13 (x3 + (1 : Int32)) hm _ _ _ hP hD hS (lv_sub hl [2, 3, 1, 0] rfl)
            · rw [if_pos hc] at hm
              refine lv_iconst (v := (0 : Int32)) hx hb d_Tree_hangStrays_63 (by decide) ?_
              exact hret _ _ _ _ (0 : Int32) u10 (kr _ (Option.some.inj hm).symm) (Or.inl rfl) hP hD hS d_Tree_hangStrays_64
  have L2 : ∀  (o : (Int32 × SM) ⊕ (SM)) (kr : ∀ z, o = .inl z → z = (r, u')) (kx : ∀  (ub : SM), o = .inr ub → ∀ (H : Heap) (locs : List Loc) (ls : Array Slot), va_P D clz (wdC G Y ub) H → va_D A (wdC G Y ub) → va_S A s.heap H locs → lv_has ls 4 [] → W p l e (zRm 46 1154) s m ([.ref (G 6)] : List Value).toArray below meth c H locs 0 0 Z (F0 m 86 ls [])) (n0 : Nat) (ua : SM) (x1 : Int32), m_Tree_hangStrays_L2 n0 ua x1 = some o → ∀ (H : Heap) (locs : List Loc) (ls : Array Slot), va_P D clz (wdC G Y ua) H → va_D A (wdC G Y ua) → va_S A s.heap H locs → lv_has ls 4 [(0, .ref (G 6)), (1, .int x1)] → W p l e (zRm 46 1154) s m ([.ref (G 6)] : List Value).toArray below meth c H locs 0 0 Z (F0 m 2 ls []) := by
    intro  o kr kx n0
    induction n0 with
    | zero => intro ua x1 hm; rw [m_Tree_hangStrays_L2] at hm; cases hm
    | succ n0 ih =>
      intro ua x1 hm H locs ls hP hD hS hl
      rw [m_Tree_hangStrays_L2] at hm
      refine lv_iload_n hx hb d_Tree_hangStrays_2 rfl (lv_at hl 1 rfl) ?_
      refine lv_bipush (v := (30 : Int32)) hx hb d_Tree_hangStrays_3 (by decide) ?_
      refine lv_icmp_ge (tgt := 86) hx hb d_Tree_hangStrays_5 (by decide) (fun hc => ?_) (fun hc => ?_)
      · rw [if_pos hc] at hm
        exact kx  ua (Option.some.inj hm).symm _ _ _ hP hD hS (lv_sub hl [] rfl)
      · rw [if_neg hc] at hm
        refine lv_iload_n hx hb d_Tree_hangStrays_8 rfl (lv_at hl 1 rfl) ?_
        refine lv_aload_n hx hb d_Tree_hangStrays_9 rfl (lv_at hl 0 rfl) ?_
        obtain ⟨r17, u18, h19, hm⟩ := ob_some hm
        refine goVI (As := []) (rest := [.int x1]) (b0 := G 6) 6 C0 (k_Tree_topLevel l D G Y h19) q_226 q_4 q_393 q_224 q_225 e_Tree_topLevel (by decide) rfl rfl hP hD hS hl.1 rfl (Nat.le_of_ble_eq_true rfl) d_Tree_hangStrays_10 (fun H locs hP hD hS => ?_)
        refine lv_icmp_gt (tgt := 86) hx hb d_Tree_hangStrays_13 (by decide) (fun hc => ?_) (fun hc => ?_)
        · rw [if_pos hc] at hm
          exact kx  u18 (Option.some.inj hm).symm _ _ _ hP hD hS (lv_sub hl [] rfl)
        · rw [if_neg hc] at hm
          refine lv_aload_n hx hb d_Tree_hangStrays_16 rfl (lv_at hl 0 rfl) ?_
          refine va_get (D := D) (ci := 3) (v := .ref (G 5)) (C := "FirmStore$Tree") (T := F_Tree) (N := 2) hx hb hts iz_Tree hown hK hP 6 rfl rfl 1 (by decide) (hts _ q_74) (fun _ h9 => h9) rfl d_Tree_hangStrays_17 ?_
          refine lv_aload_n hx hb d_Tree_hangStrays_20 rfl (lv_at hl 0 rfl) ?_
          refine lv_iload_n hx hb d_Tree_hangStrays_21 rfl (lv_at hl 1 rfl) ?_
          obtain ⟨r21, u22, h23, hm⟩ := ob_some hm
          refine goVI (As := [.int x1]) (rest := [.ref (G 5)]) (b0 := G 6) 6 C0 (k_Tree_firstOf l D G Y h23) q_128 q_4 q_125 q_127 qs_0 e_Tree_firstOf (by decide) rfl rfl hP hD hS hl.1 rfl (Nat.le_of_ble_eq_true rfl) d_Tree_hangStrays_22 (fun H locs hP hD hS => ?_)
          obtain ⟨r25, u26, h27, hm⟩ := ob_some hm
          refine goVI (As := [.int r21]) (rest := []) (b0 := G 5) 5 C0 (k_Blocks_nextOf l D G Y h27) q_160 q_3 q_157 q_158 q_159 e_Blocks_nextOf (by decide) rfl rfl hP hD hS hl.1 rfl (Nat.le_of_ble_eq_true rfl) d_Tree_hangStrays_25 (fun H locs hP hD hS => ?_)
          refine lv_istore_n (lv' := [(2, .int r25), (0, .ref (G 6)), (1, .int x1)]) hx hb d_Tree_hangStrays_28 rfl hl (by decide) rfl (fun ls hl => ?_)
          refine lv_iconst (v := (0 : Int32)) hx hb d_Tree_hangStrays_29 (by decide) ?_
          refine lv_istore_n (lv' := [(3, .int (0 : Int32)), (2, .int r25), (0, .ref (G 6)), (1, .int x1)]) hx hb d_Tree_hangStrays_30 rfl hl (by decide) rfl (fun ls hl => ?_)
          obtain ⟨qq, hq, hi, ho⟩ := ol0_some hm
          refine L31 x1 qq (fun z hz => kr z (hi z hz).symm) (fun  u29 hz H locs ls hP hD hS hl => ?_) fz u26 r25 (0 : Int32) hq _ _ _ hP hD hS (lv_sub hl [2, 3, 1, 0] rfl)
          have hm := ho  u29 hz
          refine lv_iinc (v := (x1 + (1 : Int32))) (lv' := [(1, .int (x1 + (1 : Int32))), (0, .ref (G 6))]) hx hb d_Tree_hangStrays_80 hl (k := 1) rfl rfl (by decide) rfl (fun ls hl => ?_)
          refine lv_goto (tgt := 2) hx hb d_Tree_hangStrays_83 (by decide) ?_
          exact ih u29 (x1 + (1 : Int32)) hm _ _ _ hP hD hS (lv_sub hl [1, 0] rfl)
  rw [m_Tree_hangStrays] at hm
  refine lv_iconst (v := (0 : Int32)) hx hb d_Tree_hangStrays_0 (by decide) ?_
  refine lv_istore_n (lv' := [(1, .int (0 : Int32)), (0, .ref (G 6))]) hx hb d_Tree_hangStrays_1 rfl hl (by decide) rfl (fun ls hl => ?_)
  obtain ⟨qq, hq, hi, ho⟩ := ol0_some hm
  refine L2  qq (fun z hz => hi z hz) (fun  u30 hz H locs ls hP hD hS hl => ?_) fz u (0 : Int32) hq _ _ _ hP hD hS (lv_sub hl [1, 0] rfl)
  have hm := ho  u30 hz
  refine lv_iconst (v := (1 : Int32)) hx hb d_Tree_hangStrays_86 (by decide) ?_
  exact hret _ _ _ _ (1 : Int32) u30 (Option.some.inj hm) (Or.inr rfl) hP hD hS d_Tree_hangStrays_87
