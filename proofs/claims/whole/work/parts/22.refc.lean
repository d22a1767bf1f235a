/-! models and contracts; written by wip/whole/gen.py -/
def m_Ref_needed_L12 : Nat → SR → Int32 → Int32 → Int32 → Option ((Int32 × SR) ⊕ (Int32 × SR))
  | 0, _, _, _, _ => none
  | n0 + 1, ua, x2, x3, x4 => ob (m_Ref_root ua) (fun r1 u2 => ob (m_Ref_level u2 r1) (fun r5 u6 => if r5 < x4 then (some (.inr (x2, u6))) else (ob (m_Ref_find u6 x3 x4) (fun r9 u10 => ob (m_Ref_length u10 r9) (fun r13 u14 => if (6 : Int32) ≤ r13 then (ob (m_Ref_keyAt u14 r9 (3 : Int32)) (fun r17 u18 => m_Ref_needed_L12 n0 u18 (x2 + (1 : Int32)) r17 (x4 + (1 : Int32)))) else (some (.inl (x2, u14))))))))
def m_Ref_needed (u : SR) (a1 : Int32) : Option (Int32 × SR) := ob (m_Ref_keyAt u a1 (3 : Int32)) (fun r21 u22 => ol1 (m_Ref_needed_L12 fz u22 (1 : Int32) r21 (1 : Int32)) id (fun x25 u26 => some ((x25 + (1 : Int32)), u26)))
def m_Ref_putTree_J118 (ua : SR) (x1 : Int32) (x2 : Int32) : Option (Int32 × SR) := if (rg_br ua) = 0 then (ob (m_Ref_find ua x1 (0 : Int32)) (fun r57 u58 => ob (m_Ref_entry u58 x1 x2) (fun r61 u62 => ob (m_Ref_insert u62 r57 r61) (fun _ u66 => some ((1 : Int32), u66))))) else (some ((1 : Int32), ua))
def m_Ref_putTree (u : SR) (a1 : Int32) (a2 : Int32) : Option (Int32 × SR) := ob (m_Ref_root u) (fun r1 u2 => if r1 = 0 then (ob (m_Ref_countFree u2) (fun r41 u42 => if r41 = 0 then (some ((-1 : Int32), u42)) else (ob (m_Ref_entry u42 a1 a2) (fun r45 u46 => ob (m_Ref_make u46 (0 : Int32) (0 : Int32) (0 : Int32) r45 (0 : Int64) (0 : Int64)) (fun r49 u50 => ob (m_Ref_firm u50 (0 : Int32) (r49.toInt64)) (fun _ u54 => some ((1 : Int32), u54))))))) else (ob (m_Ref_find u2 a1 (0 : Int32)) (fun r5 u6 => ob (m_Ref_placeIn u6 r5 a1) (fun r9 u10 => if r9 < 0 then (ob (m_Ref_length u10 r5) (fun r13 u14 => if r13 = (6 : Int32) then (ob (m_Ref_countFree u14) (fun r17 u18 => ob (m_Ref_needed u18 r5) (fun r21 u22 => if r21 ≤ r17 then (ob (m_Ref_split u22 r5) (fun r25 u26 => ob (m_Ref_hang u26 r25 (1 : Int32)) (fun _ u30 => m_Ref_putTree_J118 u30 a1 a2))) else (some ((-1 : Int32), u22))))) else (m_Ref_putTree_J118 u14 a1 a2))) else (ob (m_Ref_entry u10 a1 a2) (fun r33 u34 => ob (m_Ref_firm u34 ((((9 : Int32) * r5) + (3 : Int32)) + r9) r33) (fun _ u38 => some ((0 : Int32), u38))))))))
def m_Ref_placeOf_L19 : Nat → SR → Int32 → Int32 → Int32 → Option ((Int32 × SR) ⊕ (SR))
  | 0, _, _, _, _ => none
  | n0 + 1, ua, x3, x1, x2 => if (6 : Int32) ≤ x3 then (some (.inr ua)) else (ob (m_Ref_at ua x2 x3) (fun r1 u2 => if (lg_cmp r1 (0 : Int64)) = 0 then (m_Ref_placeOf_L19 n0 u2 (x3 + (1 : Int32)) x1 x2) else (ob (m_Ref_keyAt u2 x2 x3) (fun r5 u6 => if r5 = x1 then (some (.inl (((((9 : Int32) * x2) + (3 : Int32)) + x3), u6))) else (m_Ref_placeOf_L19 n0 u6 (x3 + (1 : Int32)) x1 x2)))))
def m_Ref_placeOf_L13 : Nat → SR → Int32 → Int32 → Option ((Int32 × SR) ⊕ (SR))
  | 0, _, _, _ => none
  | n0 + 1, ua, x2, x1 => if x2 = 0 then (some (.inr ua)) else (ol0 (m_Ref_placeOf_L19 fz ua (0 : Int32) x1 x2) Sum.inl (fun u9 => ob (m_Ref_next u9 x2) (fun r10 u11 => m_Ref_placeOf_L13 n0 u11 r10 x1)))
def m_Ref_placeOf (u : SR) (a1 : Int32) : Option (Int32 × SR) := if inb ((1 : Int32) + (a1 - a1 / (8 : Int32) * (8 : Int32))) 279 = true then ol0 (m_Ref_placeOf_L13 fz u (((rg_mem u) ((1 : Int32) + (a1 - a1 / (8 : Int32) * (8 : Int32))).toNatClampNeg).toInt32) a1) id (fun u14 => some ((-1 : Int32), u14)) else none
def m_Ref_gapOf_L19 : Nat → SR → Int32 → Int32 → Option ((Int32 × SR) ⊕ (SR))
  | 0, _, _, _ => none
  | n0 + 1, ua, x3, x2 => if (6 : Int32) ≤ x3 then (some (.inr ua)) else (ob (m_Ref_at ua x2 x3) (fun r1 u2 => if (lg_cmp r1 (0 : Int64)) = 0 then (some (.inl (((((9 : Int32) * x2) + (3 : Int32)) + x3), u2))) else (m_Ref_gapOf_L19 n0 u2 (x3 + (1 : Int32)) x2)))
def m_Ref_gapOf_L13 : Nat → SR → Int32 → Option ((Int32 × SR) ⊕ (SR))
  | 0, _, _ => none
  | n0 + 1, ua, x2 => if x2 = 0 then (some (.inr ua)) else (ol0 (m_Ref_gapOf_L19 fz ua (0 : Int32) x2) Sum.inl (fun u5 => ob (m_Ref_next u5 x2) (fun r6 u7 => m_Ref_gapOf_L13 n0 u7 r6)))
def m_Ref_gapOf (u : SR) (a1 : Int32) : Option (Int32 × SR) := if inb ((1 : Int32) + (a1 - a1 / (8 : Int32) * (8 : Int32))) 279 = true then ol0 (m_Ref_gapOf_L13 fz u (((rg_mem u) ((1 : Int32) + (a1 - a1 / (8 : Int32) * (8 : Int32))).toNatClampNeg).toInt32)) id (fun u10 => some ((-1 : Int32), u10)) else none
def m_Ref_putTable (u : SR) (a1 : Int32) (a2 : Int32) : Option (Int32 × SR) := ob (m_Ref_placeOf u a1) (fun r1 u2 => if r1 < 0 then (ob (m_Ref_gapOf u2 a1) (fun r5 u6 => if r5 < 0 then (ob (m_Ref_countFree u6) (fun r9 u10 => if r9 = 0 then (some ((-1 : Int32), u10)) else (if inb ((1 : Int32) + (a1 - a1 / (8 : Int32) * (8 : Int32))) 279 = true then ob (m_Ref_entry u10 a1 a2) (fun r13 u14 => ob (m_Ref_make u14 (-1 : Int32) (((rg_mem u10) ((1 : Int32) + (a1 - a1 / (8 : Int32) * (8 : Int32))).toNatClampNeg).toInt32) (0 : Int32) r13 (0 : Int64) (0 : Int64)) (fun r17 u18 => ob (m_Ref_firm u18 ((1 : Int32) + (a1 - a1 / (8 : Int32) * (8 : Int32))) (r17.toInt64)) (fun _ u22 => some ((1 : Int32), u22)))) else none))) else (ob (m_Ref_entry u6 a1 a2) (fun r25 u26 => ob (m_Ref_firm u26 r5 r25) (fun _ u30 => some ((1 : Int32), u30)))))) else (ob (m_Ref_entry u2 a1 a2) (fun r33 u34 => ob (m_Ref_firm u34 r1 r33) (fun _ u38 => some ((0 : Int32), u38)))))
def m_Ref_isGood_J9 (ua : SR) (x1 : Int32) : Option (Int32 × SR) := if x1 < 0 then (some ((0 : Int32), ua)) else (if (999 : Int32) < x1 then (some ((0 : Int32), ua)) else (some ((1 : Int32), ua)))
def m_Ref_isGood (u : SR) (a1 : Int32) (a2 : Int32) : Option (Int32 × SR) := if a1 = 0 then (m_Ref_isGood_J9 u a2) else (if a1 = (1 : Int32) then (m_Ref_isGood_J9 u a2) else (some ((0 : Int32), u)))
def m_Ref_put_J25 (ua : SR) (x1 : Int32) (x2 : Int32) (x3 : Int32) (s0 : Int32) : Option (Int32 × SR) := if s0 ≤ 0 then (if x1 = 0 then (ob (m_Ref_putTree (rs_br (rs_cd ua s0) (0 : Int32)) x2 x3) (fun r9 u10 => if (rg_br u10) = 0 then (some (r9, u10)) else (some ((-2 : Int32), u10)))) else (ob (m_Ref_putTable (rs_br (rs_cd ua s0) (0 : Int32)) x2 x3) (fun r5 u6 => if (rg_br u6) = 0 then (some (r5, u6)) else (some ((-2 : Int32), u6))))) else (some ((0 : Int32), (rs_cd ua s0)))
def m_Ref_put (u : SR) (a1 : Int32) (a2 : Int32) (a3 : Int32) : Option (Int32 × SR) := ob (m_Ref_isGood u a1 a2) (fun r1 u2 => if r1 = 0 then (m_Ref_put_J25 u2 a1 a2 a3 (1 : Int32)) else (if (rg_dn u2) = 0 then (m_Ref_put_J25 u2 a1 a2 a3 (0 : Int32)) else (m_Ref_put_J25 u2 a1 a2 a3 (2 : Int32))))
def m_Ref_read (u : SR) (a1 : Int32) (a2 : Int32) : Option (Int32 × SR) := if a1 = (1 : Int32) then (ob (m_Ref_placeOf u a2) (fun r13 u14 => some (r13, u14))) else (ob (m_Ref_root u) (fun r1 u2 => if r1 = 0 then (some ((-1 : Int32), u2)) else (ob (m_Ref_find u2 a2 (0 : Int32)) (fun r5 u6 => ob (m_Ref_placeIn u6 r5 a2) (fun r9 u10 => if 0 ≤ r9 then (some (((((9 : Int32) * r5) + (3 : Int32)) + r9), u10)) else (some ((-1 : Int32), u10)))))))
def m_Ref_remove_J38 (ua : SR) (x1 : Int32) (x2 : Int32) (s0 : Int32) : Option (Int32 × SR) := if s0 ≤ 0 then (ob (m_Ref_read (rs_br (rs_cd ua s0) (0 : Int32)) x1 x2) (fun r9 u10 => if x1 = (1 : Int32) then (ob (m_Ref_firm u10 r9 (0 : Int64)) (fun _ u18 => if (rg_br u18) = 0 then (some ((1 : Int32), u18)) else (some ((-2 : Int32), u18)))) else (ob (m_Ref_drop u10 (r9 / (9 : Int32)) ((r9 - r9 / (9 : Int32) * (9 : Int32)) - (3 : Int32))) (fun _ u14 => if (rg_br u14) = 0 then (some ((1 : Int32), u14)) else (some ((-2 : Int32), u14)))))) else (some ((0 : Int32), (rs_cd ua s0)))
def m_Ref_remove (u : SR) (a1 : Int32) (a2 : Int32) : Option (Int32 × SR) := ob (m_Ref_isGood u a1 a2) (fun r1 u2 => if r1 = 0 then (m_Ref_remove_J38 u2 a1 a2 (1 : Int32)) else (if (rg_dn u2) = 0 then (ob (m_Ref_read u2 a1 a2) (fun r5 u6 => if 0 ≤ r5 then (m_Ref_remove_J38 u6 a1 a2 (0 : Int32)) else (m_Ref_remove_J38 u6 a1 a2 (3 : Int32)))) else (m_Ref_remove_J38 u2 a1 a2 (2 : Int32))))
def m_Ref_get_J27 (ua : SR) (x1 : Int32) (x2 : Int32) (s0 : Int32) : Option (Int32 × SR) := if s0 ≤ 0 then (ob (m_Ref_read (rs_cd ua s0) x1 x2) (fun r9 u10 => if inb r9 279 = true then some ((((rg_mem u10) r9.toNatClampNeg).toInt32), u10) else none)) else (some ((0 : Int32), (rs_cd ua s0)))
def m_Ref_get (u : SR) (a1 : Int32) (a2 : Int32) : Option (Int32 × SR) := ob (m_Ref_isGood u a1 a2) (fun r1 u2 => if r1 = 0 then (m_Ref_get_J27 u2 a1 a2 (1 : Int32)) else (ob (m_Ref_read u2 a1 a2) (fun r5 u6 => if 0 ≤ r5 then (m_Ref_get_J27 u6 a1 a2 (0 : Int32)) else (m_Ref_get_J27 u6 a1 a2 (2 : Int32)))))
def m_Ref_isRead (u : SR) (a1 : Int32) (a2 : Int32) : Option (Int32 × SR) := if inb a2 279 = true then if (lg_cmp ((rg_mem u) a2.toNatClampNeg) (0 : Int64)) = 0 then (some ((0 : Int32), u)) else (if inb a2 279 = true then ob (m_Ref_keyOf u ((rg_mem u) a2.toNatClampNeg)) (fun r1 u2 => if r1 < 0 then (some ((0 : Int32), u2)) else (if (999 : Int32) < r1 then (some ((0 : Int32), u2)) else (ob (m_Ref_read u2 a1 r1) (fun r5 u6 => if r5 = a2 then (some ((1 : Int32), u6)) else (some ((0 : Int32), u6)))))) else none) else none
def m_Ref_from_L42 : Nat → SR → Int32 → Int32 → Int32 → Int32 → Option ((Int32 × SR) ⊕ (Int32 × SR))
  | 0, _, _, _, _, _ => none
  | n0 + 1, ua, x2, x4, x1, x3 => if (6 : Int32) ≤ x4 then (some (.inr (x2, ua))) else (ob (m_Ref_level ua x3) (fun r1 u2 => if r1 = 0 then (ob (m_Ref_isRead u2 (0 : Int32) ((((9 : Int32) * x3) + (3 : Int32)) + x4)) (fun r5 u6 => if r5 = 0 then (m_Ref_from_L42 n0 u6 x2 (x4 + (1 : Int32)) x1 x3) else (if inb ((((9 : Int32) * x3) + (3 : Int32)) + x4) 279 = true then ob (m_Ref_keyOf u6 ((rg_mem u6) ((((9 : Int32) * x3) + (3 : Int32)) + x4).toNatClampNeg)) (fun r9 u10 => if r9 < x1 then (m_Ref_from_L42 n0 u10 x2 (x4 + (1 : Int32)) x1 x3) else (if inb ((((9 : Int32) * x3) + (3 : Int32)) + x4) 279 = true then ob (m_Ref_keyOf u10 ((rg_mem u10) ((((9 : Int32) * x3) + (3 : Int32)) + x4).toNatClampNeg)) (fun r13 u14 => if x2 ≤ r13 then (m_Ref_from_L42 n0 u14 x2 (x4 + (1 : Int32)) x1 x3) else (if inb ((((9 : Int32) * x3) + (3 : Int32)) + x4) 279 = true then ob (m_Ref_keyOf u14 ((rg_mem u14) ((((9 : Int32) * x3) + (3 : Int32)) + x4).toNatClampNeg)) (fun r17 u18 => m_Ref_from_L42 n0 u18 r17 (x4 + (1 : Int32)) x1 x3) else none)) else none)) else none))) else (some (.inr (x2, u2)))))
def m_Ref_from_L26 : Nat → SR → Int32 → Int32 → Int32 → Option ((Int32 × SR) ⊕ (Int32 × SR))
  | 0, _, _, _, _ => none
  | n0 + 1, ua, x2, x3, x1 => if (30 : Int32) < x3 then (some (.inr (x2, ua))) else (if (rg_cd ua) = 0 then (ol1 (m_Ref_from_L42 fz ua x2 (0 : Int32) x1 x3) Sum.inl (fun x21 u22 => m_Ref_from_L26 n0 u22 x21 (x3 + (1 : Int32)) x1)) else (some (.inr (x2, ua))))
def m_Ref_from_J152 (ua : SR) (x2 : Int32) : Option (Int32 × SR) := if (rg_cd ua) ≤ 0 then (some (x2, (rs_cd ua (rg_cd ua)))) else (some ((0 : Int32), (rs_cd ua (rg_cd ua))))
def m_Ref_from_J17 (ua : SR) (x1 : Int32) (s0 : Int32) : Option (Int32 × SR) := ol1 (m_Ref_from_L26 fz (rs_cd ua s0) (1000 : Int32) (1 : Int32) x1) id (fun x23 u24 => if (rg_cd u24) = 0 then (if x23 = (1000 : Int32) then (some ((0 : Int32), (rs_cd u24 (2 : Int32)))) else (m_Ref_from_J152 u24 x23)) else (m_Ref_from_J152 u24 x23))
def m_Ref_from_J12 (ua : SR) (x1 : Int32) : Option (Int32 × SR) := m_Ref_from_J17 ua x1 (1 : Int32)
def m_Ref_from (u : SR) (a1 : Int32) : Option (Int32 × SR) := if a1 < 0 then (m_Ref_from_J12 u a1) else (if a1 ≤ (999 : Int32) then (m_Ref_from_J17 u a1 (0 : Int32)) else (m_Ref_from_J12 u a1))
theorem d_Ref_needed_0 : decode b_Ref_needed 0 = .ok (.iconst 1, 1) := by decide +kernel
theorem d_Ref_needed_1 : decode b_Ref_needed 1 = .ok (.istore_n 2, 1) := by decide +kernel
theorem d_Ref_needed_2 : decode b_Ref_needed 2 = .ok (.aload_n 0, 1) := by decide +kernel
theorem d_Ref_needed_3 : decode b_Ref_needed 3 = .ok (.iload_n 1, 1) := by decide +kernel
theorem d_Ref_needed_4 : decode b_Ref_needed 4 = .ok (.iconst 3, 1) := by decide +kernel
theorem d_Ref_needed_5 : decode b_Ref_needed 5 = .ok (.invokevirtual 103, 3) := by decide +kernel
theorem d_Ref_needed_8 : decode b_Ref_needed 8 = .ok (.istore_n 3, 1) := by decide +kernel
theorem d_Ref_needed_9 : decode b_Ref_needed 9 = .ok (.iconst 1, 1) := by decide +kernel
theorem d_Ref_needed_10 : decode b_Ref_needed 10 = .ok (.istore 4, 2) := by decide +kernel
theorem d_Ref_needed_12 : decode b_Ref_needed 12 = .ok (.aload_n 0, 1) := by decide +kernel
theorem d_Ref_needed_13 : decode b_Ref_needed 13 = .ok (.aload_n 0, 1) := by decide +kernel
theorem d_Ref_needed_14 : decode b_Ref_needed 14 = .ok (.invokevirtual 72, 3) := by decide +kernel
theorem d_Ref_needed_17 : decode b_Ref_needed 17 = .ok (.invokevirtual 84, 3) := by decide +kernel
theorem d_Ref_needed_20 : decode b_Ref_needed 20 = .ok (.iload 4, 2) := by decide +kernel
theorem d_Ref_needed_22 : decode b_Ref_needed 22 = .ok (.if_icmp .lt 46, 3) := by decide +kernel
theorem d_Ref_needed_25 : decode b_Ref_needed 25 = .ok (.aload_n 0, 1) := by decide +kernel
theorem d_Ref_needed_26 : decode b_Ref_needed 26 = .ok (.iload_n 3, 1) := by decide +kernel
theorem d_Ref_needed_27 : decode b_Ref_needed 27 = .ok (.iload 4, 2) := by decide +kernel
theorem d_Ref_needed_29 : decode b_Ref_needed 29 = .ok (.invokevirtual 116, 3) := by decide +kernel
theorem d_Ref_needed_32 : decode b_Ref_needed 32 = .ok (.istore 5, 2) := by decide +kernel
theorem d_Ref_needed_34 : decode b_Ref_needed 34 = .ok (.aload_n 0, 1) := by decide +kernel
theorem d_Ref_needed_35 : decode b_Ref_needed 35 = .ok (.iload 5, 2) := by decide +kernel
theorem d_Ref_needed_37 : decode b_Ref_needed 37 = .ok (.invokevirtual 87, 3) := by decide +kernel
theorem d_Ref_needed_40 : decode b_Ref_needed 40 = .ok (.bipush 6, 2) := by decide +kernel
theorem d_Ref_needed_42 : decode b_Ref_needed 42 = .ok (.if_icmp .ge 5, 3) := by decide +kernel
theorem d_Ref_needed_45 : decode b_Ref_needed 45 = .ok (.iload_n 2, 1) := by decide +kernel
theorem d_Ref_needed_46 : decode b_Ref_needed 46 = .ok (.ireturn, 1) := by decide +kernel
theorem d_Ref_needed_47 : decode b_Ref_needed 47 = .ok (.iload_n 2, 1) := by decide +kernel
theorem d_Ref_needed_48 : decode b_Ref_needed 48 = .ok (.iconst 1, 1) := by decide +kernel
theorem d_Ref_needed_49 : decode b_Ref_needed 49 = .ok (.iadd, 1) := by decide +kernel
theorem d_Ref_needed_50 : decode b_Ref_needed 50 = .ok (.istore_n 2, 1) := by decide +kernel
theorem d_Ref_needed_51 : decode b_Ref_needed 51 = .ok (.aload_n 0, 1) := by decide +kernel
theorem d_Ref_needed_52 : decode b_Ref_needed 52 = .ok (.iload 5, 2) := by decide +kernel
theorem d_Ref_needed_54 : decode b_Ref_needed 54 = .ok (.iconst 3, 1) := by decide +kernel
theorem d_Ref_needed_55 : decode b_Ref_needed 55 = .ok (.invokevirtual 103, 3) := by decide +kernel
theorem d_Ref_needed_58 : decode b_Ref_needed 58 = .ok (.istore_n 3, 1) := by decide +kernel
theorem d_Ref_needed_59 : decode b_Ref_needed 59 = .ok (.iload 4, 2) := by decide +kernel
theorem d_Ref_needed_61 : decode b_Ref_needed 61 = .ok (.iconst 1, 1) := by decide +kernel
theorem d_Ref_needed_62 : decode b_Ref_needed 62 = .ok (.iadd, 1) := by decide +kernel
theorem d_Ref_needed_63 : decode b_Ref_needed 63 = .ok (.istore 4, 2) := by decide +kernel
theorem d_Ref_needed_65 : decode b_Ref_needed 65 = .ok (.goto (-53), 3) := by decide +kernel
theorem d_Ref_needed_68 : decode b_Ref_needed 68 = .ok (.iload_n 2, 1) := by decide +kernel
theorem d_Ref_needed_69 : decode b_Ref_needed 69 = .ok (.iconst 1, 1) := by decide +kernel
theorem d_Ref_needed_70 : decode b_Ref_needed 70 = .ok (.iadd, 1) := by decide +kernel
theorem d_Ref_needed_71 : decode b_Ref_needed 71 = .ok (.ireturn, 1) := by decide +kernel
set_option maxRecDepth 100000 in
set_option maxHeartbeats 4000000 in
theorem k_Ref_needed (l : Launch) (D : va_G) (G : Nat → Nat) (Y : Nat → ClassId) {u : SR} {a1 : Int32} {r : Int32} {u' : SR} (hm : m_Ref_needed u a1 = some (r, u')) : KI l D clz (tyz Y) (wdR G Y) y_Ref_needed b_Ref_needed 6 (some .int) 4 93 [.ref (G 0), .int a1] u r u' := by
  refine mkI (by decide) (Nat.le_of_ble_eq_true rfl) ?_
  intro p e s m below meth c A Z ls C0 hP hD hS hl hret
  obtain ⟨hx, hb, hml, hown, hts, hK, hN, hA⟩ := id C0
  have hl : lv_has ls 6 [(0, .ref (G 0)), (1, .int a1)] := hl
  have L12 : ∀  (o : (Int32 × SR) ⊕ (Int32 × SR)) (kr : ∀ z, o = .inl z → z = (r, u')) (kx : ∀ (y2 : Int32) (ub : SR), o = .inr (y2, ub) → ∀ (H : Heap) (locs : List Loc) (ls : Array Slot), va_P D clz (wdR G Y ub) H → va_D A (wdR G Y ub) → va_S A s.heap H locs → lv_has ls 6 [(2, .int y2)] → W p l e (zRm 4 93) s m ([.ref (G 0), .int a1] : List Value).toArray below meth c H locs 0 0 Z (F0 m 68 ls [])) (n0 : Nat) (ua : SR) (x2 : Int32) (x3 : Int32) (x4 : Int32), m_Ref_needed_L12 n0 ua x2 x3 x4 = some o → ∀ (H : Heap) (locs : List Loc) (ls : Array Slot), va_P D clz (wdR G Y ua) H → va_D A (wdR G Y ua) → va_S A s.heap H locs → lv_has ls 6 [(0, .ref (G 0)), (2, .int x2), (3, .int x3), (4, .int x4)] → W p l e (zRm 4 93) s m ([.ref (G 0), .int a1] : List Value).toArray below meth c H locs 0 0 Z (F0 m 12 ls []) := by
    intro  o kr kx n0
    induction n0 with
    | zero => intro ua x2 x3 x4 hm; rw [m_Ref_needed_L12] at hm; cases hm
    | succ n0 ih =>
      intro ua x2 x3 x4 hm H locs ls hP hD hS hl
      rw [m_Ref_needed_L12] at hm
      refine lv_aload_n hx hb d_Ref_needed_12 rfl (lv_at hl 0 rfl) ?_
      refine lv_aload_n hx hb d_Ref_needed_13 rfl (lv_at hl 0 rfl) ?_
      obtain ⟨r1, u2, h3, hm⟩ := ob_some hm
      refine goVI (As := []) (rest := [.ref (G 0)]) (b0 := G 0) 0 C0 (k_Ref_root l D G Y h3) q_593 q_6 q_590 q_592 qs_26 e_Ref_root (by decide) rfl rfl hP hD hS hl.1 rfl (Nat.le_of_ble_eq_true rfl) d_Ref_needed_14 (fun H locs hP hD hS => ?_)
      obtain ⟨r5, u6, h7, hm⟩ := ob_some hm
      refine goVI (As := [.int r1]) (rest := []) (b0 := G 0) 0 C0 (k_Ref_level l D G Y h7) q_613 q_6 q_610 q_612 qs_31 e_Ref_level (by decide) rfl rfl hP hD hS hl.1 rfl (Nat.le_of_ble_eq_true rfl) d_Ref_needed_17 (fun H locs hP hD hS => ?_)
      refine lv_iload hx hb d_Ref_needed_20 (lv_at hl 3 rfl) ?_
      refine lv_icmp_lt (tgt := 68) hx hb d_Ref_needed_22 (by decide) (fun hc => ?_) (fun hc => ?_)
      · rw [if_pos hc] at hm
        exact kx x2 u6 (Option.some.inj hm).symm _ _ _ hP hD hS (lv_sub hl [1] rfl)
      · rw [if_neg hc] at hm
        refine lv_aload_n hx hb d_Ref_needed_25 rfl (lv_at hl 0 rfl) ?_
        refine lv_iload_n hx hb d_Ref_needed_26 rfl (lv_at hl 2 rfl) ?_
        refine lv_iload hx hb d_Ref_needed_27 (lv_at hl 3 rfl) ?_
        obtain ⟨r9, u10, h11, hm⟩ := ob_some hm
        refine goVI (As := [.int x3, .int x4]) (rest := []) (b0 := G 0) 0 C0 (k_Ref_find l D G Y h11) q_654 q_6 q_651 q_653 qs_40 e_Ref_find (by decide) rfl rfl hP hD hS hl.1 rfl (Nat.le_of_ble_eq_true rfl) d_Ref_needed_29 (fun H locs hP hD hS => ?_)
        refine lv_istore (lv' := [(5, .int r9), (0, .ref (G 0)), (2, .int x2), (3, .int x3), (4, .int x4)]) hx hb d_Ref_needed_32 hl (by decide) rfl (fun ls hl => ?_)
        refine lv_aload_n hx hb d_Ref_needed_34 rfl (lv_at hl 1 rfl) ?_
        refine lv_iload hx hb d_Ref_needed_35 (lv_at hl 0 rfl) ?_
        obtain ⟨r13, u14, h15, hm⟩ := ob_some hm
        refine goVI (As := [.int r9]) (rest := []) (b0 := G 0) 0 C0 (k_Ref_length l D G Y h15) q_617 q_6 q_614 q_616 qs_32 e_Ref_length (by decide) rfl rfl hP hD hS hl.1 rfl (Nat.le_of_ble_eq_true rfl) d_Ref_needed_37 (fun H locs hP hD hS => ?_)
        refine lv_bipush (v := (6 : Int32)) hx hb d_Ref_needed_40 (by decide) ?_
        refine lv_icmp_ge (tgt := 47) hx hb d_Ref_needed_42 (by decide) (fun hc => ?_) (fun hc => ?_)
        · rw [if_pos hc] at hm
          refine lv_iload_n hx hb d_Ref_needed_47 rfl (lv_at hl 2 rfl) ?_
          refine lv_iconst (v := (1 : Int32)) hx hb d_Ref_needed_48 (by decide) ?_
          refine lv_iadd hx hb d_Ref_needed_49 ?_
          refine lv_istore_n (lv' := [(2, .int (x2 + (1 : Int32))), (5, .int r9), (0, .ref (G 0)), (3, .int x3), (4, .int x4)]) hx hb d_Ref_needed_50 rfl hl (by decide) rfl (fun ls hl => ?_)
          refine lv_aload_n hx hb d_Ref_needed_51 rfl (lv_at hl 2 rfl) ?_
          refine lv_iload hx hb d_Ref_needed_52 (lv_at hl 1 rfl) ?_
          refine lv_iconst (v := (3 : Int32)) hx hb d_Ref_needed_54 (by decide) ?_
          obtain ⟨r17, u18, h19, hm⟩ := ob_some hm
          refine goVI (As := [.int r9, .int (3 : Int32)]) (rest := []) (b0 := G 0) 0 C0 (k_Ref_keyAt l D G Y h19) q_666 q_6 q_663 q_665 qs_43 e_Ref_keyAt (by decide) rfl rfl hP hD hS hl.1 rfl (Nat.le_of_ble_eq_true rfl) d_Ref_needed_55 (fun H locs hP hD hS => ?_)
          refine lv_istore_n (lv' := [(3, .int r17), (2, .int (x2 + (1 : Int32))), (5, .int r9), (0, .ref (G 0)), (4, .int x4)]) hx hb d_Ref_needed_58 rfl hl (by decide) rfl (fun ls hl => ?_)
          refine lv_iload hx hb d_Ref_needed_59 (lv_at hl 4 rfl) ?_
          refine lv_iconst (v := (1 : Int32)) hx hb d_Ref_needed_61 (by decide) ?_
          refine lv_iadd hx hb d_Ref_needed_62 ?_
          refine lv_istore (lv' := [(4, .int (x4 + (1 : Int32))), (3, .int r17), (2, .int (x2 + (1 : Int32))), (5, .int r9), (0, .ref (G 0))]) hx hb d_Ref_needed_63 hl (by decide) rfl (fun ls hl => ?_)
          refine lv_goto (tgt := 12) hx hb d_Ref_needed_65 (by decide) ?_
          exact ih u18 (x2 + (1 : Int32)) r17 (x4 + (1 : Int32)) hm _ _ _ hP hD hS (lv_sub hl [4, 2, 1, 0] rfl)
        · rw [if_neg hc] at hm
          refine lv_iload_n hx hb d_Ref_needed_45 rfl (lv_at hl 2 rfl) ?_
          exact hret _ _ _ _ x2 u14 (kr _ (Option.some.inj hm).symm) hP hD hS d_Ref_needed_46
  rw [m_Ref_needed] at hm
  refine lv_iconst (v := (1 : Int32)) hx hb d_Ref_needed_0 (by decide) ?_
  refine lv_istore_n (lv' := [(2, .int (1 : Int32)), (0, .ref (G 0)), (1, .int a1)]) hx hb d_Ref_needed_1 rfl hl (by decide) rfl (fun ls hl => ?_)
  refine lv_aload_n hx hb d_Ref_needed_2 rfl (lv_at hl 1 rfl) ?_
  refine lv_iload_n hx hb d_Ref_needed_3 rfl (lv_at hl 2 rfl) ?_
  refine lv_iconst (v := (3 : Int32)) hx hb d_Ref_needed_4 (by decide) ?_
  obtain ⟨r21, u22, h23, hm⟩ := ob_some hm
  refine goVI (As := [.int a1, .int (3 : Int32)]) (rest := []) (b0 := G 0) 0 C0 (k_Ref_keyAt l D G Y h23) q_666 q_6 q_663 q_665 qs_43 e_Ref_keyAt (by decide) rfl rfl hP hD hS hl.1 rfl (Nat.le_of_ble_eq_true rfl) d_Ref_needed_5 (fun H locs hP hD hS => ?_)
  refine lv_istore_n (lv' := [(3, .int r21), (2, .int (1 : Int32)), (0, .ref (G 0)), (1, .int a1)]) hx hb d_Ref_needed_8 rfl hl (by decide) rfl (fun ls hl => ?_)
  refine lv_iconst (v := (1 : Int32)) hx hb d_Ref_needed_9 (by decide) ?_
  refine lv_istore (lv' := [(4, .int (1 : Int32)), (3, .int r21), (2, .int (1 : Int32)), (0, .ref (G 0)), (1, .int a1)]) hx hb d_Ref_needed_10 hl (by decide) rfl (fun ls hl => ?_)
  obtain ⟨qq, hq, hi, ho⟩ := ol1_some hm
  refine L12  qq (fun z hz => hi z hz) (fun x25 u26 hz H locs ls hP hD hS hl => ?_) fz u22 (1 : Int32) r21 (1 : Int32) hq _ _ _ hP hD hS (lv_sub hl [3, 2, 1, 0] rfl)
  have hm := ho x25 u26 hz
  refine lv_iload_n hx hb d_Ref_needed_68 rfl (lv_at hl 0 rfl) ?_
  refine lv_iconst (v := (1 : Int32)) hx hb d_Ref_needed_69 (by decide) ?_
  refine lv_iadd hx hb d_Ref_needed_70 ?_
  exact hret _ _ _ _ (x25 + (1 : Int32)) u26 (Option.some.inj hm) hP hD hS d_Ref_needed_71
theorem d_Ref_putTree_0 : decode b_Ref_putTree 0 = .ok (.aload_n 0, 1) := by decide +kernel
theorem d_Ref_putTree_1 : decode b_Ref_putTree 1 = .ok (.invokevirtual 72, 3) := by decide +kernel
theorem d_Ref_putTree_4 : decode b_Ref_putTree 4 = .ok (.ifCond .ne 36, 3) := by decide +kernel
theorem d_Ref_putTree_7 : decode b_Ref_putTree 7 = .ok (.aload_n 0, 1) := by decide +kernel
theorem d_Ref_putTree_8 : decode b_Ref_putTree 8 = .ok (.invokevirtual 129, 3) := by decide +kernel
theorem d_Ref_putTree_11 : decode b_Ref_putTree 11 = .ok (.ifCond .ne 5, 3) := by decide +kernel
theorem d_Ref_putTree_14 : decode b_Ref_putTree 14 = .ok (.iconst (-1), 1) := by decide +kernel
theorem d_Ref_putTree_15 : decode b_Ref_putTree 15 = .ok (.ireturn, 1) := by decide +kernel
theorem d_Ref_putTree_16 : decode b_Ref_putTree 16 = .ok (.aload_n 0, 1) := by decide +kernel
theorem d_Ref_putTree_17 : decode b_Ref_putTree 17 = .ok (.iconst 0, 1) := by decide +kernel
theorem d_Ref_putTree_18 : decode b_Ref_putTree 18 = .ok (.iconst 0, 1) := by decide +kernel
theorem d_Ref_putTree_19 : decode b_Ref_putTree 19 = .ok (.iconst 0, 1) := by decide +kernel
theorem d_Ref_putTree_20 : decode b_Ref_putTree 20 = .ok (.iload_n 1, 1) := by decide +kernel
theorem d_Ref_putTree_21 : decode b_Ref_putTree 21 = .ok (.iload_n 2, 1) := by decide +kernel
theorem d_Ref_putTree_22 : decode b_Ref_putTree 22 = .ok (.invokestatic 113, 3) := by decide +kernel
theorem d_Ref_putTree_25 : decode b_Ref_putTree 25 = .ok (.lconst 0, 1) := by decide +kernel
theorem d_Ref_putTree_26 : decode b_Ref_putTree 26 = .ok (.lconst 0, 1) := by decide +kernel
theorem d_Ref_putTree_27 : decode b_Ref_putTree 27 = .ok (.invokevirtual 109, 3) := by decide +kernel
theorem d_Ref_putTree_30 : decode b_Ref_putTree 30 = .ok (.istore_n 3, 1) := by decide +kernel
theorem d_Ref_putTree_31 : decode b_Ref_putTree 31 = .ok (.aload_n 0, 1) := by decide +kernel
theorem d_Ref_putTree_32 : decode b_Ref_putTree 32 = .ok (.iconst 0, 1) := by decide +kernel
theorem d_Ref_putTree_33 : decode b_Ref_putTree 33 = .ok (.iload_n 3, 1) := by decide +kernel
theorem d_Ref_putTree_34 : decode b_Ref_putTree 34 = .ok (.i2l, 1) := by decide +kernel
theorem d_Ref_putTree_35 : decode b_Ref_putTree 35 = .ok (.invokevirtual 106, 3) := by decide +kernel
theorem d_Ref_putTree_38 : decode b_Ref_putTree 38 = .ok (.iconst 1, 1) := by decide +kernel
theorem d_Ref_putTree_39 : decode b_Ref_putTree 39 = .ok (.ireturn, 1) := by decide +kernel
theorem d_Ref_putTree_40 : decode b_Ref_putTree 40 = .ok (.aload_n 0, 1) := by decide +kernel
theorem d_Ref_putTree_41 : decode b_Ref_putTree 41 = .ok (.iload_n 1, 1) := by decide +kernel
theorem d_Ref_putTree_42 : decode b_Ref_putTree 42 = .ok (.iconst 0, 1) := by decide +kernel
theorem d_Ref_putTree_43 : decode b_Ref_putTree 43 = .ok (.invokevirtual 116, 3) := by decide +kernel
theorem d_Ref_putTree_46 : decode b_Ref_putTree 46 = .ok (.istore_n 3, 1) := by decide +kernel
theorem d_Ref_putTree_47 : decode b_Ref_putTree 47 = .ok (.aload_n 0, 1) := by decide +kernel
theorem d_Ref_putTree_48 : decode b_Ref_putTree 48 = .ok (.iload_n 3, 1) := by decide +kernel
theorem d_Ref_putTree_49 : decode b_Ref_putTree 49 = .ok (.iload_n 1, 1) := by decide +kernel
theorem d_Ref_putTree_50 : decode b_Ref_putTree 50 = .ok (.invokevirtual 132, 3) := by decide +kernel
theorem d_Ref_putTree_53 : decode b_Ref_putTree 53 = .ok (.istore 4, 2) := by decide +kernel
theorem d_Ref_putTree_55 : decode b_Ref_putTree 55 = .ok (.iload 4, 2) := by decide +kernel
theorem d_Ref_putTree_57 : decode b_Ref_putTree 57 = .ok (.ifCond .lt 23, 3) := by decide +kernel
theorem d_Ref_putTree_60 : decode b_Ref_putTree 60 = .ok (.aload_n 0, 1) := by decide +kernel
theorem d_Ref_putTree_61 : decode b_Ref_putTree 61 = .ok (.bipush 9, 2) := by decide +kernel
theorem d_Ref_putTree_63 : decode b_Ref_putTree 63 = .ok (.iload_n 3, 1) := by decide +kernel
theorem d_Ref_putTree_64 : decode b_Ref_putTree 64 = .ok (.imul, 1) := by decide +kernel
theorem d_Ref_putTree_65 : decode b_Ref_putTree 65 = .ok (.iconst 3, 1) := by decide +kernel
theorem d_Ref_putTree_66 : decode b_Ref_putTree 66 = .ok (.iadd, 1) := by decide +kernel
theorem d_Ref_putTree_67 : decode b_Ref_putTree 67 = .ok (.iload 4, 2) := by decide +kernel
theorem d_Ref_putTree_69 : decode b_Ref_putTree 69 = .ok (.iadd, 1) := by decide +kernel
theorem d_Ref_putTree_70 : decode b_Ref_putTree 70 = .ok (.iload_n 1, 1) := by decide +kernel
theorem d_Ref_putTree_71 : decode b_Ref_putTree 71 = .ok (.iload_n 2, 1) := by decide +kernel
theorem d_Ref_putTree_72 : decode b_Ref_putTree 72 = .ok (.invokestatic 113, 3) := by decide +kernel
theorem d_Ref_putTree_75 : decode b_Ref_putTree 75 = .ok (.invokevirtual 106, 3) := by decide +kernel
theorem d_Ref_putTree_78 : decode b_Ref_putTree 78 = .ok (.iconst 0, 1) := by decide +kernel
theorem d_Ref_putTree_79 : decode b_Ref_putTree 79 = .ok (.ireturn, 1) := by decide +kernel
theorem d_Ref_putTree_80 : decode b_Ref_putTree 80 = .ok (.aload_n 0, 1) := by decide +kernel
theorem d_Ref_putTree_81 : decode b_Ref_putTree 81 = .ok (.iload_n 3, 1) := by decide +kernel
theorem d_Ref_putTree_82 : decode b_Ref_putTree 82 = .ok (.invokevirtual 87, 3) := by decide +kernel
theorem d_Ref_putTree_85 : decode b_Ref_putTree 85 = .ok (.bipush 6, 2) := by decide +kernel
theorem d_Ref_putTree_87 : decode b_Ref_putTree 87 = .ok (.if_icmp .ne 31, 3) := by decide +kernel
theorem d_Ref_putTree_90 : decode b_Ref_putTree 90 = .ok (.aload_n 0, 1) := by decide +kernel
theorem d_Ref_putTree_91 : decode b_Ref_putTree 91 = .ok (.invokevirtual 129, 3) := by decide +kernel
theorem d_Ref_putTree_94 : decode b_Ref_putTree 94 = .ok (.aload_n 0, 1) := by decide +kernel
theorem d_Ref_putTree_95 : decode b_Ref_putTree 95 = .ok (.iload_n 3, 1) := by decide +kernel
theorem d_Ref_putTree_96 : decode b_Ref_putTree 96 = .ok (.invokevirtual 135, 3) := by decide +kernel
theorem d_Ref_putTree_99 : decode b_Ref_putTree 99 = .ok (.if_icmp .ge 5, 3) := by decide +kernel
theorem d_Ref_putTree_102 : decode b_Ref_putTree 102 = .ok (.iconst (-1), 1) := by decide +kernel
theorem d_Ref_putTree_103 : decode b_Ref_putTree 103 = .ok (.ireturn, 1) := by decide +kernel
theorem d_Ref_putTree_104 : decode b_Ref_putTree 104 = .ok (.aload_n 0, 1) := by decide +kernel
theorem d_Ref_putTree_105 : decode b_Ref_putTree 105 = .ok (.iload_n 3, 1) := by decide +kernel
theorem d_Ref_putTree_106 : decode b_Ref_putTree 106 = .ok (.invokevirtual 123, 3) := by decide +kernel
theorem d_Ref_putTree_109 : decode b_Ref_putTree 109 = .ok (.istore 5, 2) := by decide +kernel
theorem d_Ref_putTree_111 : decode b_Ref_putTree 111 = .ok (.aload_n 0, 1) := by decide +kernel
theorem d_Ref_putTree_112 : decode b_Ref_putTree 112 = .ok (.iload 5, 2) := by decide +kernel
theorem d_Ref_putTree_114 : decode b_Ref_putTree 114 = .ok (.iconst 1, 1) := by decide +kernel
theorem d_Ref_putTree_115 : decode b_Ref_putTree 115 = .ok (.invokevirtual 138, 3) := by decide +kernel
theorem d_Ref_putTree_118 : decode b_Ref_putTree 118 = .ok (.aload_n 0, 1) := by decide +kernel
theorem d_Ref_putTree_119 : decode b_Ref_putTree 119 = .ok (.getfield 44, 3) := by decide +kernel
theorem d_Ref_putTree_122 : decode b_Ref_putTree 122 = .ok (.ifCond .ne 22, 3) := by decide +kernel
theorem d_Ref_putTree_125 : decode b_Ref_putTree 125 = .ok (.aload_n 0, 1) := by decide +kernel
theorem d_Ref_putTree_126 : decode b_Ref_putTree 126 = .ok (.iload_n 1, 1) := by decide +kernel
theorem d_Ref_putTree_127 : decode b_Ref_putTree 127 = .ok (.iconst 0, 1) := by decide +kernel
theorem d_Ref_putTree_128 : decode b_Ref_putTree 128 = .ok (.invokevirtual 116, 3) := by decide +kernel
theorem d_Ref_putTree_131 : decode b_Ref_putTree 131 = .ok (.istore 5, 2) := by decide +kernel
theorem d_Ref_putTree_133 : decode b_Ref_putTree 133 = .ok (.aload_n 0, 1) := by decide +kernel
theorem d_Ref_putTree_134 : decode b_Ref_putTree 134 = .ok (.iload 5, 2) := by decide +kernel
theorem d_Ref_putTree_136 : decode b_Ref_putTree 136 = .ok (.iload_n 1, 1) := by decide +kernel
theorem d_Ref_putTree_137 : decode b_Ref_putTree 137 = .ok (.iload_n 2, 1) := by decide +kernel
theorem d_Ref_putTree_138 : decode b_Ref_putTree 138 = .ok (.invokestatic 113, 3) := by decide +kernel
theorem d_Ref_putTree_141 : decode b_Ref_putTree 141 = .ok (.invokevirtual 126, 3) := by decide +kernel
theorem d_Ref_putTree_144 : decode b_Ref_putTree 144 = .ok (.iconst 1, 1) := by decide +kernel
theorem d_Ref_putTree_145 : decode b_Ref_putTree 145 = .ok (.ireturn, 1) := by decide +kernel
set_option maxRecDepth 100000 in
set_option maxHeartbeats 4000000 in
theorem k_Ref_putTree (l : Launch) (D : va_G) (G : Nat → Nat) (Y : Nat → ClassId) {u : SR} {a1 : Int32} {a2 : Int32} {r : Int32} {u' : SR} (hm : m_Ref_putTree u a1 a2 = some (r, u')) : KI l D clz (tyz Y) (wdR G Y) y_Ref_putTree b_Ref_putTree 6 (some .int) 6 156 [.ref (G 0), .int a1, .int a2] u r u' := by
  refine mkI (by decide) (Nat.le_of_ble_eq_true rfl) ?_
  intro p e s m below meth c A Z ls C0 hP hD hS hl hret
  obtain ⟨hx, hb, hml, hown, hts, hK, hN, hA⟩ := id C0
  have hl : lv_has ls 6 [(0, .ref (G 0)), (1, .int a1), (2, .int a2)] := hl
  have J118 : ∀ (ua : SR) (x1 : Int32) (x2 : Int32), m_Ref_putTree_J118 ua x1 x2 = some (r, u') → ∀ (H : Heap) (locs : List Loc) (ls : Array Slot), va_P D clz (wdR G Y ua) H → va_D A (wdR G Y ua) → va_S A s.heap H locs → lv_has ls 6 [(0, .ref (G 0)), (1, .int x1), (2, .int x2)] → W p l e (zRm 6 156) s m ([.ref (G 0), .int a1, .int a2] : List Value).toArray below meth c H locs 0 0 Z (F0 m 118 ls []) := by
    intro ua x1 x2 hm H locs ls hP hD hS hl
    rw [m_Ref_putTree_J118] at hm
    refine lv_aload_n hx hb d_Ref_putTree_118 rfl (lv_at hl 0 rfl) ?_
    refine va_get (D := D) (ci := 5) (v := .int (rg_br ua)) (C := "FirmStoreModel") (T := F_Ref) (N := 12) hx hb hts iz_Ref hown hK hP 0 rfl rfl 8 (by decide) (hts _ q_545) (fun _ h9 => h9) rfl d_Ref_putTree_119 ?_
    refine lv_if_ne (tgt := 144) hx hb d_Ref_putTree_122 (by decide) (fun hc => ?_) (fun hc => ?_)
    · rw [if_neg hc] at hm
      refine lv_iconst (v := (1 : Int32)) hx hb d_Ref_putTree_144 (by decide) ?_
      exact hret _ _ _ _ (1 : Int32) ua (Option.some.inj hm) hP hD hS d_Ref_putTree_145
    · rw [if_pos hc] at hm
      refine lv_aload_n hx hb d_Ref_putTree_125 rfl (lv_at hl 0 rfl) ?_
      refine lv_iload_n hx hb d_Ref_putTree_126 rfl (lv_at hl 1 rfl) ?_
      refine lv_iconst (v := (0 : Int32)) hx hb d_Ref_putTree_127 (by decide) ?_
      obtain ⟨r57, u58, h59, hm⟩ := ob_some hm
      refine goVI (As := [.int x1, .int (0 : Int32)]) (rest := []) (b0 := G 0) 0 C0 (k_Ref_find l D G Y h59) q_654 q_6 q_651 q_653 qs_40 e_Ref_find (by decide) rfl rfl hP hD hS hl.1 rfl (Nat.le_of_ble_eq_true rfl) d_Ref_putTree_128 (fun H locs hP hD hS => ?_)
      refine lv_istore (lv' := [(5, .int r57), (0, .ref (G 0)), (1, .int x1), (2, .int x2)]) hx hb d_Ref_putTree_131 hl (by decide) rfl (fun ls hl => ?_)
      refine lv_aload_n hx hb d_Ref_putTree_133 rfl (lv_at hl 1 rfl) ?_
      refine lv_iload hx hb d_Ref_putTree_134 (lv_at hl 0 rfl) ?_
      refine lv_iload_n hx hb d_Ref_putTree_136 rfl (lv_at hl 2 rfl) ?_
      refine lv_iload_n hx hb d_Ref_putTree_137 rfl (lv_at hl 3 rfl) ?_
      obtain ⟨r61, u62, h63, hm⟩ := ob_some hm
      refine goSL (As := [.int x1, .int x2]) (rest := [.int r57, .ref (G 0)]) C0 (k_Ref_entry l D G Y h63) q_628 q_6 q_626 q_627 e_Ref_entry (by decide) hP hD hS hl.1 rfl (Nat.le_of_ble_eq_true rfl) d_Ref_putTree_138 (fun H locs hP hD hS => ?_)
      obtain ⟨r65, u66, h67, hm⟩ := ob_some hm
      refine goVV (As := [.int r57, .long r61]) (rest := []) (b0 := G 0) 0 C0 (k_Ref_insert l D G Y h67) q_693 q_6 q_690 q_692 qs_49 e_Ref_insert (by decide) rfl rfl hP hD hS hl.1 rfl (Nat.le_of_ble_eq_true rfl) d_Ref_putTree_141 (fun H locs hP hD hS => ?_)
      refine lv_iconst (v := (1 : Int32)) hx hb d_Ref_putTree_144 (by decide) ?_
      exact hret _ _ _ _ (1 : Int32) u66 (Option.some.inj hm) hP hD hS d_Ref_putTree_145
  rw [m_Ref_putTree] at hm
  refine lv_aload_n hx hb d_Ref_putTree_0 rfl (lv_at hl 0 rfl) ?_
  obtain ⟨r1, u2, h3, hm⟩ := ob_some hm
  refine goVI (As := []) (rest := []) (b0 := G 0) 0 C0 (k_Ref_root l D G Y h3) q_593 q_6 q_590 q_592 qs_26 e_Ref_root (by decide) rfl rfl hP hD hS hl.1 rfl (Nat.le_of_ble_eq_true rfl) d_Ref_putTree_1 (fun H locs hP hD hS => ?_)
  refine lv_if_ne (tgt := 40) hx hb d_Ref_putTree_4 (by decide) (fun hc => ?_) (fun hc => ?_)
  · rw [if_neg hc] at hm
    refine lv_aload_n hx hb d_Ref_putTree_40 rfl (lv_at hl 0 rfl) ?_
    refine lv_iload_n hx hb d_Ref_putTree_41 rfl (lv_at hl 1 rfl) ?_
    refine lv_iconst (v := (0 : Int32)) hx hb d_Ref_putTree_42 (by decide) ?_
    obtain ⟨r5, u6, h7, hm⟩ := ob_some hm
    refine goVI (As := [.int a1, .int (0 : Int32)]) (rest := []) (b0 := G 0) 0 C0 (k_Ref_find l D G Y h7) q_654 q_6 q_651 q_653 qs_40 e_Ref_find (by decide) rfl rfl hP hD hS hl.1 rfl (Nat.le_of_ble_eq_true rfl) d_Ref_putTree_43 (fun H locs hP hD hS => ?_)
    refine lv_istore_n (lv' := [(3, .int r5), (0, .ref (G 0)), (1, .int a1), (2, .int a2)]) hx hb d_Ref_putTree_46 rfl hl (by decide) rfl (fun ls hl => ?_)
    refine lv_aload_n hx hb d_Ref_putTree_47 rfl (lv_at hl 1 rfl) ?_
    refine lv_iload_n hx hb d_Ref_putTree_48 rfl (lv_at hl 0 rfl) ?_
    refine lv_iload_n hx hb d_Ref_putTree_49 rfl (lv_at hl 2 rfl) ?_
    obtain ⟨r9, u10, h11, hm⟩ := ob_some hm
    refine goVI (As := [.int r5, .int a1]) (rest := []) (b0 := G 0) 0 C0 (k_Ref_placeIn l D G Y h11) q_673 q_6 q_670 q_672 qs_44 e_Ref_placeIn (by decide) rfl rfl hP hD hS hl.1 rfl (Nat.le_of_ble_eq_true rfl) d_Ref_putTree_50 (fun H locs hP hD hS => ?_)
    refine lv_istore (lv' := [(4, .int r9), (3, .int r5), (0, .ref (G 0)), (1, .int a1), (2, .int a2)]) hx hb d_Ref_putTree_53 hl (by decide) rfl (fun ls hl => ?_)
    refine lv_iload hx hb d_Ref_putTree_55 (lv_at hl 0 rfl) ?_
    refine lv_if_lt (tgt := 80) hx hb d_Ref_putTree_57 (by decide) (fun hc => ?_) (fun hc => ?_)
    · rw [if_pos hc] at hm
      refine lv_aload_n hx hb d_Ref_putTree_80 rfl (lv_at hl 2 rfl) ?_
      refine lv_iload_n hx hb d_Ref_putTree_81 rfl (lv_at hl 1 rfl) ?_
      obtain ⟨r13, u14, h15, hm⟩ := ob_some hm
      refine goVI (As := [.int r5]) (rest := []) (b0 := G 0) 0 C0 (k_Ref_length l D G Y h15) q_617 q_6 q_614 q_616 qs_32 e_Ref_length (by decide) rfl rfl hP hD hS hl.1 rfl (Nat.le_of_ble_eq_true rfl) d_Ref_putTree_82 (fun H locs hP hD hS => ?_)
      refine lv_bipush (v := (6 : Int32)) hx hb d_Ref_putTree_85 (by decide) ?_
      refine lv_icmp_ne (tgt := 118) hx hb d_Ref_putTree_87 (by decide) (fun hc => ?_) (fun hc => ?_)
      · rw [if_neg hc] at hm
        exact J118 u14 a1 a2 hm _ _ _ hP hD hS (lv_sub hl [2, 3, 4] rfl)
      · rw [if_pos hc] at hm
        refine lv_aload_n hx hb d_Ref_putTree_90 rfl (lv_at hl 2 rfl) ?_
        obtain ⟨r17, u18, h19, hm⟩ := ob_some hm
        refine goVI (As := []) (rest := []) (b0 := G 0) 0 C0 (k_Ref_countFree l D G Y h19) q_597 q_6 q_594 q_596 qs_27 e_Ref_countFree (by decide) rfl rfl hP hD hS hl.1 rfl (Nat.le_of_ble_eq_true rfl) d_Ref_putTree_91 (fun H locs hP hD hS => ?_)
        refine lv_aload_n hx hb d_Ref_putTree_94 rfl (lv_at hl 2 rfl) ?_
        refine lv_iload_n hx hb d_Ref_putTree_95 rfl (lv_at hl 1 rfl) ?_
        obtain ⟨r21, u22, h23, hm⟩ := ob_some hm
        refine goVI (As := [.int r5]) (rest := [.int r17]) (b0 := G 0) 0 C0 (k_Ref_needed l D G Y h23) q_677 q_6 q_674 q_676 qs_45 e_Ref_needed (by decide) rfl rfl hP hD hS hl.1 rfl (Nat.le_of_ble_eq_true rfl) d_Ref_putTree_96 (fun H locs hP hD hS => ?_)
        refine lv_icmp_ge (tgt := 104) hx hb d_Ref_putTree_99 (by decide) (fun hc => ?_) (fun hc => ?_)
        · rw [if_pos hc] at hm
          refine lv_aload_n hx hb d_Ref_putTree_104 rfl (lv_at hl 2 rfl) ?_
          refine lv_iload_n hx hb d_Ref_putTree_105 rfl (lv_at hl 1 rfl) ?_
          obtain ⟨r25, u26, h27, hm⟩ := ob_some hm
          refine goVI (As := [.int r5]) (rest := []) (b0 := G 0) 0 C0 (k_Ref_split l D G Y h27) q_681 q_6 q_678 q_680 qs_46 e_Ref_split (by decide) rfl rfl hP hD hS hl.1 rfl (Nat.le_of_ble_eq_true rfl) d_Ref_putTree_106 (fun H locs hP hD hS => ?_)
          refine lv_istore (lv' := [(5, .int r25), (4, .int r9), (3, .int r5), (0, .ref (G 0)), (1, .int a1), (2, .int a2)]) hx hb d_Ref_putTree_109 hl (by decide) rfl (fun ls hl => ?_)
          refine lv_aload_n hx hb d_Ref_putTree_111 rfl (lv_at hl 3 rfl) ?_
          refine lv_iload hx hb d_Ref_putTree_112 (lv_at hl 0 rfl) ?_
          refine lv_iconst (v := (1 : Int32)) hx hb d_Ref_putTree_114 (by decide) ?_
          obtain ⟨r29, u30, h31, hm⟩ := ob_some hm
          refine goVV (As := [.int r25, .int (1 : Int32)]) (rest := []) (b0 := G 0) 0 C0 (k_Ref_hang l D G Y h31) q_685 q_6 q_682 q_684 qs_47 e_Ref_hang (by decide) rfl rfl hP hD hS hl.1 rfl (Nat.le_of_ble_eq_true rfl) d_Ref_putTree_115 (fun H locs hP hD hS => ?_)
          exact J118 u30 a1 a2 hm _ _ _ hP hD hS (lv_sub hl [3, 4, 5] rfl)
        · rw [if_neg hc] at hm
          refine lv_iconst (v := (-1 : Int32)) hx hb d_Ref_putTree_102 (by decide) ?_
          exact hret _ _ _ _ (-1 : Int32) u22 (Option.some.inj hm) hP hD hS d_Ref_putTree_103
    · rw [if_neg hc] at hm
      refine lv_aload_n hx hb d_Ref_putTree_60 rfl (lv_at hl 2 rfl) ?_
      refine lv_bipush (v := (9 : Int32)) hx hb d_Ref_putTree_61 (by decide) ?_
      refine lv_iload_n hx hb d_Ref_putTree_63 rfl (lv_at hl 1 rfl) ?_
      refine lv_imul hx hb d_Ref_putTree_64 ?_
      refine lv_iconst (v := (3 : Int32)) hx hb d_Ref_putTree_65 (by decide) ?_
      refine lv_iadd hx hb d_Ref_putTree_66 ?_
      refine lv_iload hx hb d_Ref_putTree_67 (lv_at hl 0 rfl) ?_
      refine lv_iadd hx hb d_Ref_putTree_69 ?_
      refine lv_iload_n hx hb d_Ref_putTree_70 rfl (lv_at hl 3 rfl) ?_
      refine lv_iload_n hx hb d_Ref_putTree_71 rfl (lv_at hl 4 rfl) ?_
      obtain ⟨r33, u34, h35, hm⟩ := ob_some hm
      refine goSL (As := [.int a1, .int a2]) (rest := [.int ((((9 : Int32) * r5) + (3 : Int32)) + r9), .ref (G 0)]) C0 (k_Ref_entry l D G Y h35) q_628 q_6 q_626 q_627 e_Ref_entry (by decide) hP hD hS hl.1 rfl (Nat.le_of_ble_eq_true rfl) d_Ref_putTree_72 (fun H locs hP hD hS => ?_)
      obtain ⟨r37, u38, h39, hm⟩ := ob_some hm
      refine goVV (As := [.int ((((9 : Int32) * r5) + (3 : Int32)) + r9), .long r33]) (rest := []) (b0 := G 0) 0 C0 (k_Ref_firm l D G Y h39) q_650 q_6 q_647 q_649 qs_39 e_Ref_firm (by decide) rfl rfl hP hD hS hl.1 rfl (Nat.le_of_ble_eq_true rfl) d_Ref_putTree_75 (fun H locs hP hD hS => ?_)
      refine lv_iconst (v := (0 : Int32)) hx hb d_Ref_putTree_78 (by decide) ?_
      exact hret _ _ _ _ (0 : Int32) u38 (Option.some.inj hm) hP hD hS d_Ref_putTree_79
  · rw [if_pos hc] at hm
    refine lv_aload_n hx hb d_Ref_putTree_7 rfl (lv_at hl 0 rfl) ?_
    obtain ⟨r41, u42, h43, hm⟩ := ob_some hm
    refine goVI (As := []) (rest := []) (b0 := G 0) 0 C0 (k_Ref_countFree l D G Y h43) q_597 q_6 q_594 q_596 qs_27 e_Ref_countFree (by decide) rfl rfl hP hD hS hl.1 rfl (Nat.le_of_ble_eq_true rfl) d_Ref_putTree_8 (fun H locs hP hD hS => ?_)
    refine lv_if_ne (tgt := 16) hx hb d_Ref_putTree_11 (by decide) (fun hc => ?_) (fun hc => ?_)
    · rw [if_neg hc] at hm
      refine lv_aload_n hx hb d_Ref_putTree_16 rfl (lv_at hl 0 rfl) ?_
      refine lv_iconst (v := (0 : Int32)) hx hb d_Ref_putTree_17 (by decide) ?_
      refine lv_iconst (v := (0 : Int32)) hx hb d_Ref_putTree_18 (by decide) ?_
      refine lv_iconst (v := (0 : Int32)) hx hb d_Ref_putTree_19 (by decide) ?_
      refine lv_iload_n hx hb d_Ref_putTree_20 rfl (lv_at hl 1 rfl) ?_
      refine lv_iload_n hx hb d_Ref_putTree_21 rfl (lv_at hl 2 rfl) ?_
      obtain ⟨r45, u46, h47, hm⟩ := ob_some hm
      refine goSL (As := [.int a1, .int a2]) (rest := [.int (0 : Int32), .int (0 : Int32), .int (0 : Int32), .ref (G 0)]) C0 (k_Ref_entry l D G Y h47) q_628 q_6 q_626 q_627 e_Ref_entry (by decide) hP hD hS hl.1 rfl (Nat.le_of_ble_eq_true rfl) d_Ref_putTree_22 (fun H locs hP hD hS => ?_)
      refine lv_lconst (v := (0 : Int64)) hx hb d_Ref_putTree_25 (by decide) ?_
      refine lv_lconst (v := (0 : Int64)) hx hb d_Ref_putTree_26 (by decide) ?_
      obtain ⟨r49, u50, h51, hm⟩ := ob_some hm
      refine goVI (As := [.int (0 : Int32), .int (0 : Int32), .int (0 : Int32), .long r45, .long (0 : Int64), .long (0 : Int64)]) (rest := []) (b0 := G 0) 0 C0 (k_Ref_make l D G Y h51) q_634 q_6 q_631 q_633 qs_35 e_Ref_make (by decide) rfl rfl hP hD hS hl.1 rfl (Nat.le_of_ble_eq_true rfl) d_Ref_putTree_27 (fun H locs hP hD hS => ?_)
      refine lv_istore_n (lv' := [(3, .int r49), (0, .ref (G 0)), (1, .int a1), (2, .int a2)]) hx hb d_Ref_putTree_30 rfl hl (by decide) rfl (fun ls hl => ?_)
      refine lv_aload_n hx hb d_Ref_putTree_31 rfl (lv_at hl 1 rfl) ?_
      refine lv_iconst (v := (0 : Int32)) hx hb d_Ref_putTree_32 (by decide) ?_
      refine lv_iload_n hx hb d_Ref_putTree_33 rfl (lv_at hl 0 rfl) ?_
      refine lv_i2l (v := (r49.toInt64)) hx hb d_Ref_putTree_34 rfl ?_
      obtain ⟨r53, u54, h55, hm⟩ := ob_some hm
      refine goVV (As := [.int (0 : Int32), .long (r49.toInt64)]) (rest := []) (b0 := G 0) 0 C0 (k_Ref_firm l D G Y h55) q_650 q_6 q_647 q_649 qs_39 e_Ref_firm (by decide) rfl rfl hP hD hS hl.1 rfl (Nat.le_of_ble_eq_true rfl) d_Ref_putTree_35 (fun H locs hP hD hS => ?_)
      refine lv_iconst (v := (1 : Int32)) hx hb d_Ref_putTree_38 (by decide) ?_
      exact hret _ _ _ _ (1 : Int32) u54 (Option.some.inj hm) hP hD hS d_Ref_putTree_39
    · rw [if_pos hc] at hm
      refine lv_iconst (v := (-1 : Int32)) hx hb d_Ref_putTree_14 (by decide) ?_
      exact hret _ _ _ _ (-1 : Int32) u42 (Option.some.inj hm) hP hD hS d_Ref_putTree_15
theorem d_Ref_placeOf_0 : decode b_Ref_placeOf 0 = .ok (.aload_n 0, 1) := by decide +kernel
theorem d_Ref_placeOf_1 : decode b_Ref_placeOf 1 = .ok (.getfield 7, 3) := by decide +kernel
theorem d_Ref_placeOf_4 : decode b_Ref_placeOf 4 = .ok (.iconst 1, 1) := by decide +kernel
theorem d_Ref_placeOf_5 : decode b_Ref_placeOf 5 = .ok (.iload_n 1, 1) := by decide +kernel
theorem d_Ref_placeOf_6 : decode b_Ref_placeOf 6 = .ok (.bipush 8, 2) := by decide +kernel
theorem d_Ref_placeOf_8 : decode b_Ref_placeOf 8 = .ok (.irem, 1) := by decide +kernel
theorem d_Ref_placeOf_9 : decode b_Ref_placeOf 9 = .ok (.iadd, 1) := by decide +kernel
theorem d_Ref_placeOf_10 : decode b_Ref_placeOf 10 = .ok (.laload, 1) := by decide +kernel
theorem d_Ref_placeOf_11 : decode b_Ref_placeOf 11 = .ok (.l2i, 1) := by decide +kernel
theorem d_Ref_placeOf_12 : decode b_Ref_placeOf 12 = .ok (.istore_n 2, 1) := by decide +kernel
theorem d_Ref_placeOf_13 : decode b_Ref_placeOf 13 = .ok (.iload_n 2, 1) := by decide +kernel
theorem d_Ref_placeOf_14 : decode b_Ref_placeOf 14 = .ok (.ifCond .eq 56, 3) := by decide +kernel
theorem d_Ref_placeOf_17 : decode b_Ref_placeOf 17 = .ok (.iconst 0, 1) := by decide +kernel
theorem d_Ref_placeOf_18 : decode b_Ref_placeOf 18 = .ok (.istore_n 3, 1) := by decide +kernel
theorem d_Ref_placeOf_19 : decode b_Ref_placeOf 19 = .ok (.iload_n 3, 1) := by decide +kernel
theorem d_Ref_placeOf_20 : decode b_Ref_placeOf 20 = .ok (.bipush 6, 2) := by decide +kernel
theorem d_Ref_placeOf_22 : decode b_Ref_placeOf 22 = .ok (.if_icmp .ge 39, 3) := by decide +kernel
theorem d_Ref_placeOf_25 : decode b_Ref_placeOf 25 = .ok (.aload_n 0, 1) := by decide +kernel
theorem d_Ref_placeOf_26 : decode b_Ref_placeOf 26 = .ok (.iload_n 2, 1) := by decide +kernel
theorem d_Ref_placeOf_27 : decode b_Ref_placeOf 27 = .ok (.iload_n 3, 1) := by decide +kernel
theorem d_Ref_placeOf_28 : decode b_Ref_placeOf 28 = .ok (.invokevirtual 64, 3) := by decide +kernel
theorem d_Ref_placeOf_31 : decode b_Ref_placeOf 31 = .ok (.lconst 0, 1) := by decide +kernel
theorem d_Ref_placeOf_32 : decode b_Ref_placeOf 32 = .ok (.lcmp, 1) := by decide +kernel
theorem d_Ref_placeOf_33 : decode b_Ref_placeOf 33 = .ok (.ifCond .eq 22, 3) := by decide +kernel
theorem d_Ref_placeOf_36 : decode b_Ref_placeOf 36 = .ok (.aload_n 0, 1) := by decide +kernel
theorem d_Ref_placeOf_37 : decode b_Ref_placeOf 37 = .ok (.iload_n 2, 1) := by decide +kernel
theorem d_Ref_placeOf_38 : decode b_Ref_placeOf 38 = .ok (.iload_n 3, 1) := by decide +kernel
theorem d_Ref_placeOf_39 : decode b_Ref_placeOf 39 = .ok (.invokevirtual 103, 3) := by decide +kernel
theorem d_Ref_placeOf_42 : decode b_Ref_placeOf 42 = .ok (.iload_n 1, 1) := by decide +kernel
theorem d_Ref_placeOf_43 : decode b_Ref_placeOf 43 = .ok (.if_icmp .ne 12, 3) := by decide +kernel
theorem d_Ref_placeOf_46 : decode b_Ref_placeOf 46 = .ok (.bipush 9, 2) := by decide +kernel
theorem d_Ref_placeOf_48 : decode b_Ref_placeOf 48 = .ok (.iload_n 2, 1) := by decide +kernel
theorem d_Ref_placeOf_49 : decode b_Ref_placeOf 49 = .ok (.imul, 1) := by decide +kernel
theorem d_Ref_placeOf_50 : decode b_Ref_placeOf 50 = .ok (.iconst 3, 1) := by decide +kernel
theorem d_Ref_placeOf_51 : decode b_Ref_placeOf 51 = .ok (.iadd, 1) := by decide +kernel
theorem d_Ref_placeOf_52 : decode b_Ref_placeOf 52 = .ok (.iload_n 3, 1) := by decide +kernel
theorem d_Ref_placeOf_53 : decode b_Ref_placeOf 53 = .ok (.iadd, 1) := by decide +kernel
theorem d_Ref_placeOf_54 : decode b_Ref_placeOf 54 = .ok (.ireturn, 1) := by decide +kernel
theorem d_Ref_placeOf_55 : decode b_Ref_placeOf 55 = .ok (.iinc 3 1, 3) := by decide +kernel
theorem d_Ref_placeOf_58 : decode b_Ref_placeOf 58 = .ok (.goto (-39), 3) := by decide +kernel
theorem d_Ref_placeOf_61 : decode b_Ref_placeOf 61 = .ok (.aload_n 0, 1) := by decide +kernel
theorem d_Ref_placeOf_62 : decode b_Ref_placeOf 62 = .ok (.iload_n 2, 1) := by decide +kernel
theorem d_Ref_placeOf_63 : decode b_Ref_placeOf 63 = .ok (.invokevirtual 80, 3) := by decide +kernel
theorem d_Ref_placeOf_66 : decode b_Ref_placeOf 66 = .ok (.istore_n 2, 1) := by decide +kernel
theorem d_Ref_placeOf_67 : decode b_Ref_placeOf 67 = .ok (.goto (-54), 3) := by decide +kernel
theorem d_Ref_placeOf_70 : decode b_Ref_placeOf 70 = .ok (.iconst (-1), 1) := by decide +kernel
theorem d_Ref_placeOf_71 : decode b_Ref_placeOf 71 = .ok (.ireturn, 1) := by decide +kernel
set_option maxRecDepth 100000 in
set_option maxHeartbeats 4000000 in
theorem k_Ref_placeOf (l : Launch) (D : va_G) (G : Nat → Nat) (Y : Nat → ClassId) {u : SR} {a1 : Int32} {r : Int32} {u' : SR} (hm : m_Ref_placeOf u a1 = some (r, u')) : KI l D clz (tyz Y) (wdR G Y) y_Ref_placeOf b_Ref_placeOf 4 (some .int) 2 44 [.ref (G 0), .int a1] u r u' := by
  refine mkI (by decide) (Nat.le_of_ble_eq_true rfl) ?_
  intro p e s m below meth c A Z ls C0 hP hD hS hl hret
  obtain ⟨hx, hb, hml, hown, hts, hK, hN, hA⟩ := id C0
  have hl : lv_has ls 4 [(0, .ref (G 0)), (1, .int a1)] := hl
  have L19 : ∀ (x1 : Int32) (x2 : Int32) (o : (Int32 × SR) ⊕ (SR)) (kr : ∀ z, o = .inl z → z = (r, u')) (kx : ∀  (ub : SR), o = .inr ub → ∀ (H : Heap) (locs : List Loc) (ls : Array Slot), va_P D clz (wdR G Y ub) H → va_D A (wdR G Y ub) → va_S A s.heap H locs → lv_has ls 4 [(0, .ref (G 0)), (1, .int x1), (2, .int x2)] → W p l e (zRm 2 44) s m ([.ref (G 0), .int a1] : List Value).toArray below meth c H locs 0 0 Z (F0 m 61 ls [])) (n0 : Nat) (ua : SR) (x3 : Int32), m_Ref_placeOf_L19 n0 ua x3 x1 x2 = some o → ∀ (H : Heap) (locs : List Loc) (ls : Array Slot), va_P D clz (wdR G Y ua) H → va_D A (wdR G Y ua) → va_S A s.heap H locs → lv_has ls 4 [(0, .ref (G 0)), (1, .int x1), (2, .int x2), (3, .int x3)] → W p l e (zRm 2 44) s m ([.ref (G 0), .int a1] : List Value).toArray below meth c H locs 0 0 Z (F0 m 19 ls []) := by
    intro x1 x2 o kr kx n0
    induction n0 with
    | zero => intro ua x3 hm; rw [m_Ref_placeOf_L19] at hm; cases hm
    | succ n0 ih =>
      intro ua x3 hm H locs ls hP hD hS hl
      rw [m_Ref_placeOf_L19] at hm
      refine lv_iload_n hx hb d_Ref_placeOf_19 rfl (lv_at hl 3 rfl) ?_
      refine lv_bipush (v := (6 : Int32)) hx hb d_Ref_placeOf_20 (by decide) ?_
      refine lv_icmp_ge (tgt := 61) hx hb d_Ref_placeOf_22 (by decide) (fun hc => ?_) (fun hc => ?_)
      · rw [if_pos hc] at hm
        exact kx  ua (Option.some.inj hm).symm _ _ _ hP hD hS (lv_sub hl [0, 1, 2] rfl)
      · rw [if_neg hc] at hm
        refine lv_aload_n hx hb d_Ref_placeOf_25 rfl (lv_at hl 0 rfl) ?_
        refine lv_iload_n hx hb d_Ref_placeOf_26 rfl (lv_at hl 2 rfl) ?_
        refine lv_iload_n hx hb d_Ref_placeOf_27 rfl (lv_at hl 3 rfl) ?_
        obtain ⟨r1, u2, h3, hm⟩ := ob_some hm
        refine goVL (As := [.int x2, .int x3]) (rest := []) (b0 := G 0) 0 C0 (k_Ref_at l D G Y h3) q_621 q_6 q_618 q_620 qs_33 e_Ref_at (by decide) rfl rfl hP hD hS hl.1 rfl (Nat.le_of_ble_eq_true rfl) d_Ref_placeOf_28 (fun H locs hP hD hS => ?_)
        refine lv_lconst (v := (0 : Int64)) hx hb d_Ref_placeOf_31 (by decide) ?_
        refine W.lcmp hx hb d_Ref_placeOf_32 ?_
        refine lv_if_eq (tgt := 55) hx hb d_Ref_placeOf_33 (by decide) (fun hc => ?_) (fun hc => ?_)
        · rw [if_pos hc] at hm
          refine lv_iinc (v := (x3 + (1 : Int32))) (lv' := [(3, .int (x3 + (1 : Int32))), (0, .ref (G 0)), (1, .int x1), (2, .int x2)]) hx hb d_Ref_placeOf_55 hl (k := 3) rfl rfl (by decide) rfl (fun ls hl => ?_)
          refine lv_goto (tgt := 19) hx hb d_Ref_placeOf_58 (by decide) ?_
          exact ih u2 (x3 + (1 : Int32)) hm _ _ _ hP hD hS (lv_sub hl [1, 2, 3, 0] rfl)
        · rw [if_neg hc] at hm
          refine lv_aload_n hx hb d_Ref_placeOf_36 rfl (lv_at hl 0 rfl) ?_
          refine lv_iload_n hx hb d_Ref_placeOf_37 rfl (lv_at hl 2 rfl) ?_
          refine lv_iload_n hx hb d_Ref_placeOf_38 rfl (lv_at hl 3 rfl) ?_
          obtain ⟨r5, u6, h7, hm⟩ := ob_some hm
          refine goVI (As := [.int x2, .int x3]) (rest := []) (b0 := G 0) 0 C0 (k_Ref_keyAt l D G Y h7) q_666 q_6 q_663 q_665 qs_43 e_Ref_keyAt (by decide) rfl rfl hP hD hS hl.1 rfl (Nat.le_of_ble_eq_true rfl) d_Ref_placeOf_39 (fun H locs hP hD hS => ?_)
          refine lv_iload_n hx hb d_Ref_placeOf_42 rfl (lv_at hl 1 rfl) ?_
          refine lv_icmp_ne (tgt := 55) hx hb d_Ref_placeOf_43 (by decide) (fun hc => ?_) (fun hc => ?_)
          · rw [if_neg hc] at hm
            refine lv_iinc (v := (x3 + (1 : Int32))) (lv' := [(3, .int (x3 + (1 : Int32))), (0, .ref (G 0)), (1, .int x1), (2, .int x2)]) hx hb d_Ref_placeOf_55 hl (k := 3) rfl rfl (by decide) rfl (fun ls hl => ?_)
            refine lv_goto (tgt := 19) hx hb d_Ref_placeOf_58 (by decide) ?_
            exact ih u6 (x3 + (1 : Int32)) hm _ _ _ hP hD hS (lv_sub hl [1, 2, 3, 0] rfl)
          · rw [if_pos hc] at hm
            refine lv_bipush (v := (9 : Int32)) hx hb d_Ref_placeOf_46 (by decide) ?_
            refine lv_iload_n hx hb d_Ref_placeOf_48 rfl (lv_at hl 2 rfl) ?_
            refine lv_imul hx hb d_Ref_placeOf_49 ?_
            refine lv_iconst (v := (3 : Int32)) hx hb d_Ref_placeOf_50 (by decide) ?_
            refine lv_iadd hx hb d_Ref_placeOf_51 ?_
            refine lv_iload_n hx hb d_Ref_placeOf_52 rfl (lv_at hl 3 rfl) ?_
            refine lv_iadd hx hb d_Ref_placeOf_53 ?_
            exact hret _ _ _ _ ((((9 : Int32) * x2) + (3 : Int32)) + x3) u6 (kr _ (Option.some.inj hm).symm) hP hD hS d_Ref_placeOf_54
  have L13 : ∀ (x1 : Int32) (o : (Int32 × SR) ⊕ (SR)) (kr : ∀ z, o = .inl z → z = (r, u')) (kx : ∀  (ub : SR), o = .inr ub → ∀ (H : Heap) (locs : List Loc) (ls : Array Slot), va_P D clz (wdR G Y ub) H → va_D A (wdR G Y ub) → va_S A s.heap H locs → lv_has ls 4 [] → W p l e (zRm 2 44) s m ([.ref (G 0), .int a1] : List Value).toArray below meth c H locs 0 0 Z (F0 m 70 ls [])) (n0 : Nat) (ua : SR) (x2 : Int32), m_Ref_placeOf_L13 n0 ua x2 x1 = some o → ∀ (H : Heap) (locs : List Loc) (ls : Array Slot), va_P D clz (wdR G Y ua) H → va_D A (wdR G Y ua) → va_S A s.heap H locs → lv_has ls 4 [(0, .ref (G 0)), (1, .int x1), (2, .int x2)] → W p l e (zRm 2 44) s m ([.ref (G 0), .int a1] : List Value).toArray below meth c H locs 0 0 Z (F0 m 13 ls []) := by
    intro x1 o kr kx n0
    induction n0 with
    | zero => intro ua x2 hm; rw [m_Ref_placeOf_L13] at hm; cases hm
    | succ n0 ih =>
      intro ua x2 hm H locs ls hP hD hS hl
      rw [m_Ref_placeOf_L13] at hm
      refine lv_iload_n hx hb d_Ref_placeOf_13 rfl (lv_at hl 2 rfl) ?_
      refine lv_if_eq (tgt := 70) hx hb d_Ref_placeOf_14 (by decide) (fun hc => ?_) (fun hc => ?_)
      · rw [if_pos hc] at hm
        exact kx  ua (Option.some.inj hm).symm _ _ _ hP hD hS (lv_sub hl [] rfl)
      · rw [if_neg hc] at hm
        refine lv_iconst (v := (0 : Int32)) hx hb d_Ref_placeOf_17 (by decide) ?_
        refine lv_istore_n (lv' := [(3, .int (0 : Int32)), (0, .ref (G 0)), (1, .int x1), (2, .int x2)]) hx hb d_Ref_placeOf_18 rfl hl (by decide) rfl (fun ls hl => ?_)
        obtain ⟨qq, hq, hi, ho⟩ := ol0_some hm
        refine L19 x1 x2 qq (fun z hz => kr z (hi z hz).symm) (fun  u9 hz H locs ls hP hD hS hl => ?_) fz ua (0 : Int32) hq _ _ _ hP hD hS (lv_sub hl [1, 2, 3, 0] rfl)
        have hm := ho  u9 hz
        refine lv_aload_n hx hb d_Ref_placeOf_61 rfl (lv_at hl 0 rfl) ?_
        refine lv_iload_n hx hb d_Ref_placeOf_62 rfl (lv_at hl 2 rfl) ?_
        obtain ⟨r10, u11, h12, hm⟩ := ob_some hm
        refine goVI (As := [.int x2]) (rest := []) (b0 := G 0) 0 C0 (k_Ref_next l D G Y h12) q_609 q_6 q_606 q_608 qs_30 e_Ref_next (by decide) rfl rfl hP hD hS hl.1 rfl (Nat.le_of_ble_eq_true rfl) d_Ref_placeOf_63 (fun H locs hP hD hS => ?_)
        refine lv_istore_n (lv' := [(2, .int r10), (0, .ref (G 0)), (1, .int x1)]) hx hb d_Ref_placeOf_66 rfl hl (by decide) rfl (fun ls hl => ?_)
        refine lv_goto (tgt := 13) hx hb d_Ref_placeOf_67 (by decide) ?_
        exact ih u11 r10 hm _ _ _ hP hD hS (lv_sub hl [1, 2, 0] rfl)
  rw [m_Ref_placeOf] at hm
  refine lv_aload_n hx hb d_Ref_placeOf_0 rfl (lv_at hl 0 rfl) ?_
  refine va_get (D := D) (ci := 5) (v := .ref (G 1)) (C := "FirmStoreModel") (T := F_Ref) (N := 12) hx hb hts iz_Ref hown hK hP 0 rfl rfl 0 (by decide) (hts _ q_537) (fun _ h9 => h9) rfl d_Ref_placeOf_1 ?_
  refine lv_iconst (v := (1 : Int32)) hx hb d_Ref_placeOf_4 (by decide) ?_
  refine lv_iload_n hx hb d_Ref_placeOf_5 rfl (lv_at hl 1 rfl) ?_
  refine lv_bipush (v := (8 : Int32)) hx hb d_Ref_placeOf_6 (by decide) ?_
  refine lv_irem hx hb d_Ref_placeOf_8 (by decide) ?_
  refine lv_iadd hx hb d_Ref_placeOf_9 ?_
  obtain ⟨hg, hm⟩ := gd hm
  refine va_lald hx hb hK hP 1 0 (f := (rg_mem u)) rfl rfl (inb_in hg) d_Ref_placeOf_10 ?_
  refine lv_l2i (v := (((rg_mem u) ((1 : Int32) + (a1 - a1 / (8 : Int32) * (8 : Int32))).toNatClampNeg).toInt32)) hx hb d_Ref_placeOf_11 rfl ?_
  refine lv_istore_n (lv' := [(2, .int (((rg_mem u) ((1 : Int32) + (a1 - a1 / (8 : Int32) * (8 : Int32))).toNatClampNeg).toInt32)), (0, .ref (G 0)), (1, .int a1)]) hx hb d_Ref_placeOf_12 rfl hl (by decide) rfl (fun ls hl => ?_)
  obtain ⟨qq, hq, hi, ho⟩ := ol0_some hm
  refine L13 a1 qq (fun z hz => hi z hz) (fun  u14 hz H locs ls hP hD hS hl => ?_) fz u (((rg_mem u) ((1 : Int32) + (a1 - a1 / (8 : Int32) * (8 : Int32))).toNatClampNeg).toInt32) hq _ _ _ hP hD hS (lv_sub hl [1, 2, 0] rfl)
  have hm := ho  u14 hz
  refine lv_iconst (v := (-1 : Int32)) hx hb d_Ref_placeOf_70 (by decide) ?_
  exact hret _ _ _ _ (-1 : Int32) u14 (Option.some.inj hm) hP hD hS d_Ref_placeOf_71
theorem d_Ref_gapOf_0 : decode b_Ref_gapOf 0 = .ok (.aload_n 0, 1) := by decide +kernel
theorem d_Ref_gapOf_1 : decode b_Ref_gapOf 1 = .ok (.getfield 7, 3) := by decide +kernel
theorem d_Ref_gapOf_4 : decode b_Ref_gapOf 4 = .ok (.iconst 1, 1) := by decide +kernel
theorem d_Ref_gapOf_5 : decode b_Ref_gapOf 5 = .ok (.iload_n 1, 1) := by decide +kernel
theorem d_Ref_gapOf_6 : decode b_Ref_gapOf 6 = .ok (.bipush 8, 2) := by decide +kernel
theorem d_Ref_gapOf_8 : decode b_Ref_gapOf 8 = .ok (.irem, 1) := by decide +kernel
theorem d_Ref_gapOf_9 : decode b_Ref_gapOf 9 = .ok (.iadd, 1) := by decide +kernel
theorem d_Ref_gapOf_10 : decode b_Ref_gapOf 10 = .ok (.laload, 1) := by decide +kernel
theorem d_Ref_gapOf_11 : decode b_Ref_gapOf 11 = .ok (.l2i, 1) := by decide +kernel
theorem d_Ref_gapOf_12 : decode b_Ref_gapOf 12 = .ok (.istore_n 2, 1) := by decide +kernel
theorem d_Ref_gapOf_13 : decode b_Ref_gapOf 13 = .ok (.iload_n 2, 1) := by decide +kernel
theorem d_Ref_gapOf_14 : decode b_Ref_gapOf 14 = .ok (.ifCond .eq 46, 3) := by decide +kernel
theorem d_Ref_gapOf_17 : decode b_Ref_gapOf 17 = .ok (.iconst 0, 1) := by decide +kernel
theorem d_Ref_gapOf_18 : decode b_Ref_gapOf 18 = .ok (.istore_n 3, 1) := by decide +kernel
theorem d_Ref_gapOf_19 : decode b_Ref_gapOf 19 = .ok (.iload_n 3, 1) := by decide +kernel
theorem d_Ref_gapOf_20 : decode b_Ref_gapOf 20 = .ok (.bipush 6, 2) := by decide +kernel
theorem d_Ref_gapOf_22 : decode b_Ref_gapOf 22 = .ok (.if_icmp .ge 29, 3) := by decide +kernel
theorem d_Ref_gapOf_25 : decode b_Ref_gapOf 25 = .ok (.aload_n 0, 1) := by decide +kernel
theorem d_Ref_gapOf_26 : decode b_Ref_gapOf 26 = .ok (.iload_n 2, 1) := by decide +kernel
theorem d_Ref_gapOf_27 : decode b_Ref_gapOf 27 = .ok (.iload_n 3, 1) := by decide +kernel
theorem d_Ref_gapOf_28 : decode b_Ref_gapOf 28 = .ok (.invokevirtual 64, 3) := by decide +kernel
theorem d_Ref_gapOf_31 : decode b_Ref_gapOf 31 = .ok (.lconst 0, 1) := by decide +kernel
theorem d_Ref_gapOf_32 : decode b_Ref_gapOf 32 = .ok (.lcmp, 1) := by decide +kernel
theorem d_Ref_gapOf_33 : decode b_Ref_gapOf 33 = .ok (.ifCond .ne 12, 3) := by decide +kernel
theorem d_Ref_gapOf_36 : decode b_Ref_gapOf 36 = .ok (.bipush 9, 2) := by decide +kernel
theorem d_Ref_gapOf_38 : decode b_Ref_gapOf 38 = .ok (.iload_n 2, 1) := by decide +kernel
theorem d_Ref_gapOf_39 : decode b_Ref_gapOf 39 = .ok (.imul, 1) := by decide +kernel
theorem d_Ref_gapOf_40 : decode b_Ref_gapOf 40 = .ok (.iconst 3, 1) := by decide +kernel
theorem d_Ref_gapOf_41 : decode b_Ref_gapOf 41 = .ok (.iadd, 1) := by decide +kernel
theorem d_Ref_gapOf_42 : decode b_Ref_gapOf 42 = .ok (.iload_n 3, 1) := by decide +kernel
theorem d_Ref_gapOf_43 : decode b_Ref_gapOf 43 = .ok (.iadd, 1) := by decide +kernel
theorem d_Ref_gapOf_44 : decode b_Ref_gapOf 44 = .ok (.ireturn, 1) := by decide +kernel
theorem d_Ref_gapOf_45 : decode b_Ref_gapOf 45 = .ok (.iinc 3 1, 3) := by decide +kernel
theorem d_Ref_gapOf_48 : decode b_Ref_gapOf 48 = .ok (.goto (-29), 3) := by decide +kernel
theorem d_Ref_gapOf_51 : decode b_Ref_gapOf 51 = .ok (.aload_n 0, 1) := by decide +kernel
theorem d_Ref_gapOf_52 : decode b_Ref_gapOf 52 = .ok (.iload_n 2, 1) := by decide +kernel
theorem d_Ref_gapOf_53 : decode b_Ref_gapOf 53 = .ok (.invokevirtual 80, 3) := by decide +kernel
theorem d_Ref_gapOf_56 : decode b_Ref_gapOf 56 = .ok (.istore_n 2, 1) := by decide +kernel
theorem d_Ref_gapOf_57 : decode b_Ref_gapOf 57 = .ok (.goto (-44), 3) := by decide +kernel
theorem d_Ref_gapOf_60 : decode b_Ref_gapOf 60 = .ok (.iconst (-1), 1) := by decide +kernel
theorem d_Ref_gapOf_61 : decode b_Ref_gapOf 61 = .ok (.ireturn, 1) := by decide +kernel
set_option maxRecDepth 100000 in
set_option maxHeartbeats 4000000 in
theorem k_Ref_gapOf (l : Launch) (D : va_G) (G : Nat → Nat) (Y : Nat → ClassId) {u : SR} {a1 : Int32} {r : Int32} {u' : SR} (hm : m_Ref_gapOf u a1 = some (r, u')) : KI l D clz (tyz Y) (wdR G Y) y_Ref_gapOf b_Ref_gapOf 4 (some .int) 1 22 [.ref (G 0), .int a1] u r u' := by
  refine mkI (by decide) (Nat.le_of_ble_eq_true rfl) ?_
  intro p e s m below meth c A Z ls C0 hP hD hS hl hret
  obtain ⟨hx, hb, hml, hown, hts, hK, hN, hA⟩ := id C0
  have hl : lv_has ls 4 [(0, .ref (G 0)), (1, .int a1)] := hl
  have L19 : ∀ (x2 : Int32) (o : (Int32 × SR) ⊕ (SR)) (kr : ∀ z, o = .inl z → z = (r, u')) (kx : ∀  (ub : SR), o = .inr ub → ∀ (H : Heap) (locs : List Loc) (ls : Array Slot), va_P D clz (wdR G Y ub) H → va_D A (wdR G Y ub) → va_S A s.heap H locs → lv_has ls 4 [(0, .ref (G 0)), (2, .int x2)] → W p l e (zRm 1 22) s m ([.ref (G 0), .int a1] : List Value).toArray below meth c H locs 0 0 Z (F0 m 51 ls [])) (n0 : Nat) (ua : SR) (x3 : Int32), m_Ref_gapOf_L19 n0 ua x3 x2 = some o → ∀ (H : Heap) (locs : List Loc) (ls : Array Slot), va_P D clz (wdR G Y ua) H → va_D A (wdR G Y ua) → va_S A s.heap H locs → lv_has ls 4 [(0, .ref (G 0)), (2, .int x2), (3, .int x3)] → W p l e (zRm 1 22) s m ([.ref (G 0), .int a1] : List Value).toArray below meth c H locs 0 0 Z (F0 m 19 ls []) := by
    intro x2 o kr kx n0
    induction n0 with
    | zero => intro ua x3 hm; rw [m_Ref_gapOf_L19] at hm; cases hm
    | succ n0 ih =>
      intro ua x3 hm H locs ls hP hD hS hl
      rw [m_Ref_gapOf_L19] at hm
      refine lv_iload_n hx hb d_Ref_gapOf_19 rfl (lv_at hl 2 rfl) ?_
      refine lv_bipush (v := (6 : Int32)) hx hb d_Ref_gapOf_20 (by decide) ?_
      refine lv_icmp_ge (tgt := 51) hx hb d_Ref_gapOf_22 (by decide) (fun hc => ?_) (fun hc => ?_)
      · rw [if_pos hc] at hm
        exact kx  ua (Option.some.inj hm).symm _ _ _ hP hD hS (lv_sub hl [0, 1] rfl)
      · rw [if_neg hc] at hm
        refine lv_aload_n hx hb d_Ref_gapOf_25 rfl (lv_at hl 0 rfl) ?_
        refine lv_iload_n hx hb d_Ref_gapOf_26 rfl (lv_at hl 1 rfl) ?_
        refine lv_iload_n hx hb d_Ref_gapOf_27 rfl (lv_at hl 2 rfl) ?_
        obtain ⟨r1, u2, h3, hm⟩ := ob_some hm
        refine goVL (As := [.int x2, .int x3]) (rest := []) (b0 := G 0) 0 C0 (k_Ref_at l D G Y h3) q_621 q_6 q_618 q_620 qs_33 e_Ref_at (by decide) rfl rfl hP hD hS hl.1 rfl (Nat.le_of_ble_eq_true rfl) d_Ref_gapOf_28 (fun H locs hP hD hS => ?_)
        refine lv_lconst (v := (0 : Int64)) hx hb d_Ref_gapOf_31 (by decide) ?_
        refine W.lcmp hx hb d_Ref_gapOf_32 ?_
        refine lv_if_ne (tgt := 45) hx hb d_Ref_gapOf_33 (by decide) (fun hc => ?_) (fun hc => ?_)
        · rw [if_neg hc] at hm
          refine lv_iinc (v := (x3 + (1 : Int32))) (lv' := [(3, .int (x3 + (1 : Int32))), (0, .ref (G 0)), (2, .int x2)]) hx hb d_Ref_gapOf_45 hl (k := 2) rfl rfl (by decide) rfl (fun ls hl => ?_)
          refine lv_goto (tgt := 19) hx hb d_Ref_gapOf_48 (by decide) ?_
          exact ih u2 (x3 + (1 : Int32)) hm _ _ _ hP hD hS (lv_sub hl [1, 2, 0] rfl)
        · rw [if_pos hc] at hm
          refine lv_bipush (v := (9 : Int32)) hx hb d_Ref_gapOf_36 (by decide) ?_
          refine lv_iload_n hx hb d_Ref_gapOf_38 rfl (lv_at hl 1 rfl) ?_
          refine lv_imul hx hb d_Ref_gapOf_39 ?_
          refine lv_iconst (v := (3 : Int32)) hx hb d_Ref_gapOf_40 (by decide) ?_
          refine lv_iadd hx hb d_Ref_gapOf_41 ?_
          refine lv_iload_n hx hb d_Ref_gapOf_42 rfl (lv_at hl 2 rfl) ?_
          refine lv_iadd hx hb d_Ref_gapOf_43 ?_
          exact hret _ _ _ _ ((((9 : Int32) * x2) + (3 : Int32)) + x3) u2 (kr _ (Option.some.inj hm).symm) hP hD hS d_Ref_gapOf_44
  have L13 : ∀  (o : (Int32 × SR) ⊕ (SR)) (kr : ∀ z, o = .inl z → z = (r, u')) (kx : ∀  (ub : SR), o = .inr ub → ∀ (H : Heap) (locs : List Loc) (ls : Array Slot), va_P D clz (wdR G Y ub) H → va_D A (wdR G Y ub) → va_S A s.heap H locs → lv_has ls 4 [] → W p l e (zRm 1 22) s m ([.ref (G 0), .int a1] : List Value).toArray below meth c H locs 0 0 Z (F0 m 60 ls [])) (n0 : Nat) (ua : SR) (x2 : Int32), m_Ref_gapOf_L13 n0 ua x2 = some o → ∀ (H : Heap) (locs : List Loc) (ls : Array Slot), va_P D clz (wdR G Y ua) H → va_D A (wdR G Y ua) → va_S A s.heap H locs → lv_has ls 4 [(0, .ref (G 0)), (2, .int x2)] → W p l e (zRm 1 22) s m ([.ref (G 0), .int a1] : List Value).toArray below meth c H locs 0 0 Z (F0 m 13 ls []) := by
    intro  o kr kx n0
    induction n0 with
    | zero => intro ua x2 hm; rw [m_Ref_gapOf_L13] at hm; cases hm
    | succ n0 ih =>
      intro ua x2 hm H locs ls hP hD hS hl
      rw [m_Ref_gapOf_L13] at hm
      refine lv_iload_n hx hb d_Ref_gapOf_13 rfl (lv_at hl 1 rfl) ?_
      refine lv_if_eq (tgt := 60) hx hb d_Ref_gapOf_14 (by decide) (fun hc => ?_) (fun hc => ?_)
      · rw [if_pos hc] at hm
        exact kx  ua (Option.some.inj hm).symm _ _ _ hP hD hS (lv_sub hl [] rfl)
      · rw [if_neg hc] at hm
        refine lv_iconst (v := (0 : Int32)) hx hb d_Ref_gapOf_17 (by decide) ?_
        refine lv_istore_n (lv' := [(3, .int (0 : Int32)), (0, .ref (G 0)), (2, .int x2)]) hx hb d_Ref_gapOf_18 rfl hl (by decide) rfl (fun ls hl => ?_)
        obtain ⟨qq, hq, hi, ho⟩ := ol0_some hm
        refine L19 x2 qq (fun z hz => kr z (hi z hz).symm) (fun  u5 hz H locs ls hP hD hS hl => ?_) fz ua (0 : Int32) hq _ _ _ hP hD hS (lv_sub hl [1, 2, 0] rfl)
        have hm := ho  u5 hz
        refine lv_aload_n hx hb d_Ref_gapOf_51 rfl (lv_at hl 0 rfl) ?_
        refine lv_iload_n hx hb d_Ref_gapOf_52 rfl (lv_at hl 1 rfl) ?_
        obtain ⟨r6, u7, h8, hm⟩ := ob_some hm
        refine goVI (As := [.int x2]) (rest := []) (b0 := G 0) 0 C0 (k_Ref_next l D G Y h8) q_609 q_6 q_606 q_608 qs_30 e_Ref_next (by decide) rfl rfl hP hD hS hl.1 rfl (Nat.le_of_ble_eq_true rfl) d_Ref_gapOf_53 (fun H locs hP hD hS => ?_)
        refine lv_istore_n (lv' := [(2, .int r6), (0, .ref (G 0))]) hx hb d_Ref_gapOf_56 rfl hl (by decide) rfl (fun ls hl => ?_)
        refine lv_goto (tgt := 13) hx hb d_Ref_gapOf_57 (by decide) ?_
        exact ih u7 r6 hm _ _ _ hP hD hS (lv_sub hl [1, 0] rfl)
  rw [m_Ref_gapOf] at hm
  refine lv_aload_n hx hb d_Ref_gapOf_0 rfl (lv_at hl 0 rfl) ?_
  refine va_get (D := D) (ci := 5) (v := .ref (G 1)) (C := "FirmStoreModel") (T := F_Ref) (N := 12) hx hb hts iz_Ref hown hK hP 0 rfl rfl 0 (by decide) (hts _ q_537) (fun _ h9 => h9) rfl d_Ref_gapOf_1 ?_
  refine lv_iconst (v := (1 : Int32)) hx hb d_Ref_gapOf_4 (by decide) ?_
  refine lv_iload_n hx hb d_Ref_gapOf_5 rfl (lv_at hl 1 rfl) ?_
  refine lv_bipush (v := (8 : Int32)) hx hb d_Ref_gapOf_6 (by decide) ?_
  refine lv_irem hx hb d_Ref_gapOf_8 (by decide) ?_
  refine lv_iadd hx hb d_Ref_gapOf_9 ?_
  obtain ⟨hg, hm⟩ := gd hm
  refine va_lald hx hb hK hP 1 0 (f := (rg_mem u)) rfl rfl (inb_in hg) d_Ref_gapOf_10 ?_
  refine lv_l2i (v := (((rg_mem u) ((1 : Int32) + (a1 - a1 / (8 : Int32) * (8 : Int32))).toNatClampNeg).toInt32)) hx hb d_Ref_gapOf_11 rfl ?_
  refine lv_istore_n (lv' := [(2, .int (((rg_mem u) ((1 : Int32) + (a1 - a1 / (8 : Int32) * (8 : Int32))).toNatClampNeg).toInt32)), (0, .ref (G 0)), (1, .int a1)]) hx hb d_Ref_gapOf_12 rfl hl (by decide) rfl (fun ls hl => ?_)
  obtain ⟨qq, hq, hi, ho⟩ := ol0_some hm
  refine L13  qq (fun z hz => hi z hz) (fun  u10 hz H locs ls hP hD hS hl => ?_) fz u (((rg_mem u) ((1 : Int32) + (a1 - a1 / (8 : Int32) * (8 : Int32))).toNatClampNeg).toInt32) hq _ _ _ hP hD hS (lv_sub hl [1, 0] rfl)
  have hm := ho  u10 hz
  refine lv_iconst (v := (-1 : Int32)) hx hb d_Ref_gapOf_60 (by decide) ?_
  exact hret _ _ _ _ (-1 : Int32) u10 (Option.some.inj hm) hP hD hS d_Ref_gapOf_61
theorem d_Ref_putTable_0 : decode b_Ref_putTable 0 = .ok (.aload_n 0, 1) := by decide +kernel
theorem d_Ref_putTable_1 : decode b_Ref_putTable 1 = .ok (.iload_n 1, 1) := by decide +kernel
theorem d_Ref_putTable_2 : decode b_Ref_putTable 2 = .ok (.invokevirtual 142, 3) := by decide +kernel
theorem d_Ref_putTable_5 : decode b_Ref_putTable 5 = .ok (.istore_n 3, 1) := by decide +kernel
theorem d_Ref_putTable_6 : decode b_Ref_putTable 6 = .ok (.iload_n 3, 1) := by decide +kernel
theorem d_Ref_putTable_7 : decode b_Ref_putTable 7 = .ok (.ifCond .lt 15, 3) := by decide +kernel
theorem d_Ref_putTable_10 : decode b_Ref_putTable 10 = .ok (.aload_n 0, 1) := by decide +kernel
theorem d_Ref_putTable_11 : decode b_Ref_putTable 11 = .ok (.iload_n 3, 1) := by decide +kernel
theorem d_Ref_putTable_12 : decode b_Ref_putTable 12 = .ok (.iload_n 1, 1) := by decide +kernel
theorem d_Ref_putTable_13 : decode b_Ref_putTable 13 = .ok (.iload_n 2, 1) := by decide +kernel
theorem d_Ref_putTable_14 : decode b_Ref_putTable 14 = .ok (.invokestatic 113, 3) := by decide +kernel
theorem d_Ref_putTable_17 : decode b_Ref_putTable 17 = .ok (.invokevirtual 106, 3) := by decide +kernel
theorem d_Ref_putTable_20 : decode b_Ref_putTable 20 = .ok (.iconst 0, 1) := by decide +kernel
theorem d_Ref_putTable_21 : decode b_Ref_putTable 21 = .ok (.ireturn, 1) := by decide +kernel
theorem d_Ref_putTable_22 : decode b_Ref_putTable 22 = .ok (.aload_n 0, 1) := by decide +kernel
theorem d_Ref_putTable_23 : decode b_Ref_putTable 23 = .ok (.iload_n 1, 1) := by decide +kernel
theorem d_Ref_putTable_24 : decode b_Ref_putTable 24 = .ok (.invokevirtual 145, 3) := by decide +kernel
theorem d_Ref_putTable_27 : decode b_Ref_putTable 27 = .ok (.istore 4, 2) := by decide +kernel
theorem d_Ref_putTable_29 : decode b_Ref_putTable 29 = .ok (.iload 4, 2) := by decide +kernel
theorem d_Ref_putTable_31 : decode b_Ref_putTable 31 = .ok (.ifCond .lt 16, 3) := by decide +kernel
theorem d_Ref_putTable_34 : decode b_Ref_putTable 34 = .ok (.aload_n 0, 1) := by decide +kernel
theorem d_Ref_putTable_35 : decode b_Ref_putTable 35 = .ok (.iload 4, 2) := by decide +kernel
theorem d_Ref_putTable_37 : decode b_Ref_putTable 37 = .ok (.iload_n 1, 1) := by decide +kernel
theorem d_Ref_putTable_38 : decode b_Ref_putTable 38 = .ok (.iload_n 2, 1) := by decide +kernel
theorem d_Ref_putTable_39 : decode b_Ref_putTable 39 = .ok (.invokestatic 113, 3) := by decide +kernel
theorem d_Ref_putTable_42 : decode b_Ref_putTable 42 = .ok (.invokevirtual 106, 3) := by decide +kernel
theorem d_Ref_putTable_45 : decode b_Ref_putTable 45 = .ok (.iconst 1, 1) := by decide +kernel
theorem d_Ref_putTable_46 : decode b_Ref_putTable 46 = .ok (.ireturn, 1) := by decide +kernel
theorem d_Ref_putTable_47 : decode b_Ref_putTable 47 = .ok (.aload_n 0, 1) := by decide +kernel
theorem d_Ref_putTable_48 : decode b_Ref_putTable 48 = .ok (.invokevirtual 129, 3) := by decide +kernel
theorem d_Ref_putTable_51 : decode b_Ref_putTable 51 = .ok (.ifCond .ne 5, 3) := by decide +kernel
theorem d_Ref_putTable_54 : decode b_Ref_putTable 54 = .ok (.iconst (-1), 1) := by decide +kernel
theorem d_Ref_putTable_55 : decode b_Ref_putTable 55 = .ok (.ireturn, 1) := by decide +kernel
theorem d_Ref_putTable_56 : decode b_Ref_putTable 56 = .ok (.aload_n 0, 1) := by decide +kernel
theorem d_Ref_putTable_57 : decode b_Ref_putTable 57 = .ok (.iconst (-1), 1) := by decide +kernel
theorem d_Ref_putTable_58 : decode b_Ref_putTable 58 = .ok (.aload_n 0, 1) := by decide +kernel
theorem d_Ref_putTable_59 : decode b_Ref_putTable 59 = .ok (.getfield 7, 3) := by decide +kernel
theorem d_Ref_putTable_62 : decode b_Ref_putTable 62 = .ok (.iconst 1, 1) := by decide +kernel
theorem d_Ref_putTable_63 : decode b_Ref_putTable 63 = .ok (.iload_n 1, 1) := by decide +kernel
theorem d_Ref_putTable_64 : decode b_Ref_putTable 64 = .ok (.bipush 8, 2) := by decide +kernel
theorem d_Ref_putTable_66 : decode b_Ref_putTable 66 = .ok (.irem, 1) := by decide +kernel
theorem d_Ref_putTable_67 : decode b_Ref_putTable 67 = .ok (.iadd, 1) := by decide +kernel
theorem d_Ref_putTable_68 : decode b_Ref_putTable 68 = .ok (.laload, 1) := by decide +kernel
theorem d_Ref_putTable_69 : decode b_Ref_putTable 69 = .ok (.l2i, 1) := by decide +kernel
theorem d_Ref_putTable_70 : decode b_Ref_putTable 70 = .ok (.iconst 0, 1) := by decide +kernel
theorem d_Ref_putTable_71 : decode b_Ref_putTable 71 = .ok (.iload_n 1, 1) := by decide +kernel
theorem d_Ref_putTable_72 : decode b_Ref_putTable 72 = .ok (.iload_n 2, 1) := by decide +kernel
theorem d_Ref_putTable_73 : decode b_Ref_putTable 73 = .ok (.invokestatic 113, 3) := by decide +kernel
theorem d_Ref_putTable_76 : decode b_Ref_putTable 76 = .ok (.lconst 0, 1) := by decide +kernel
theorem d_Ref_putTable_77 : decode b_Ref_putTable 77 = .ok (.lconst 0, 1) := by decide +kernel
theorem d_Ref_putTable_78 : decode b_Ref_putTable 78 = .ok (.invokevirtual 109, 3) := by decide +kernel
theorem d_Ref_putTable_81 : decode b_Ref_putTable 81 = .ok (.istore 5, 2) := by decide +kernel
theorem d_Ref_putTable_83 : decode b_Ref_putTable 83 = .ok (.aload_n 0, 1) := by decide +kernel
theorem d_Ref_putTable_84 : decode b_Ref_putTable 84 = .ok (.iconst 1, 1) := by decide +kernel
theorem d_Ref_putTable_85 : decode b_Ref_putTable 85 = .ok (.iload_n 1, 1) := by decide +kernel
theorem d_Ref_putTable_86 : decode b_Ref_putTable 86 = .ok (.bipush 8, 2) := by decide +kernel
theorem d_Ref_putTable_88 : decode b_Ref_putTable 88 = .ok (.irem, 1) := by decide +kernel
theorem d_Ref_putTable_89 : decode b_Ref_putTable 89 = .ok (.iadd, 1) := by decide +kernel
theorem d_Ref_putTable_90 : decode b_Ref_putTable 90 = .ok (.iload 5, 2) := by decide +kernel
theorem d_Ref_putTable_92 : decode b_Ref_putTable 92 = .ok (.i2l, 1) := by decide +kernel
theorem d_Ref_putTable_93 : decode b_Ref_putTable 93 = .ok (.invokevirtual 106, 3) := by decide +kernel
theorem d_Ref_putTable_96 : decode b_Ref_putTable 96 = .ok (.iconst 1, 1) := by decide +kernel
theorem d_Ref_putTable_97 : decode b_Ref_putTable 97 = .ok (.ireturn, 1) := by decide +kernel
set_option maxRecDepth 100000 in
set_option maxHeartbeats 4000000 in
theorem k_Ref_putTable (l : Launch) (D : va_G) (G : Nat → Nat) (Y : Nat → ClassId) {u : SR} {a1 : Int32} {a2 : Int32} {r : Int32} {u' : SR} (hm : m_Ref_putTable u a1 a2 = some (r, u')) : KI l D clz (tyz Y) (wdR G Y) y_Ref_putTable b_Ref_putTable 6 (some .int) 4 99 [.ref (G 0), .int a1, .int a2] u r u' := by
  refine mkI (by decide) (Nat.le_of_ble_eq_true rfl) ?_
  intro p e s m below meth c A Z ls C0 hP hD hS hl hret
  obtain ⟨hx, hb, hml, hown, hts, hK, hN, hA⟩ := id C0
  have hl : lv_has ls 6 [(0, .ref (G 0)), (1, .int a1), (2, .int a2)] := hl
  rw [m_Ref_putTable] at hm
  refine lv_aload_n hx hb d_Ref_putTable_0 rfl (lv_at hl 0 rfl) ?_
  refine lv_iload_n hx hb d_Ref_putTable_1 rfl (lv_at hl 1 rfl) ?_
  obtain ⟨r1, u2, h3, hm⟩ := ob_some hm
  refine goVI (As := [.int a1]) (rest := []) (b0 := G 0) 0 C0 (k_Ref_placeOf l D G Y h3) q_701 q_6 q_698 q_700 qs_51 e_Ref_placeOf (by decide) rfl rfl hP hD hS hl.1 rfl (Nat.le_of_ble_eq_true rfl) d_Ref_putTable_2 (fun H locs hP hD hS => ?_)
  refine lv_istore_n (lv' := [(3, .int r1), (0, .ref (G 0)), (1, .int a1), (2, .int a2)]) hx hb d_Ref_putTable_5 rfl hl (by decide) rfl (fun ls hl => ?_)
  refine lv_iload_n hx hb d_Ref_putTable_6 rfl (lv_at hl 0 rfl) ?_
  refine lv_if_lt (tgt := 22) hx hb d_Ref_putTable_7 (by decide) (fun hc => ?_) (fun hc => ?_)
  · rw [if_pos hc] at hm
    refine lv_aload_n hx hb d_Ref_putTable_22 rfl (lv_at hl 1 rfl) ?_
    refine lv_iload_n hx hb d_Ref_putTable_23 rfl (lv_at hl 2 rfl) ?_
    obtain ⟨r5, u6, h7, hm⟩ := ob_some hm
    refine goVI (As := [.int a1]) (rest := []) (b0 := G 0) 0 C0 (k_Ref_gapOf l D G Y h7) q_705 q_6 q_702 q_704 qs_52 e_Ref_gapOf (by decide) rfl rfl hP hD hS hl.1 rfl (Nat.le_of_ble_eq_true rfl) d_Ref_putTable_24 (fun H locs hP hD hS => ?_)
    refine lv_istore (lv' := [(4, .int r5), (3, .int r1), (0, .ref (G 0)), (1, .int a1), (2, .int a2)]) hx hb d_Ref_putTable_27 hl (by decide) rfl (fun ls hl => ?_)
    refine lv_iload hx hb d_Ref_putTable_29 (lv_at hl 0 rfl) ?_
    refine lv_if_lt (tgt := 47) hx hb d_Ref_putTable_31 (by decide) (fun hc => ?_) (fun hc => ?_)
    · rw [if_pos hc] at hm
      refine lv_aload_n hx hb d_Ref_putTable_47 rfl (lv_at hl 2 rfl) ?_
      obtain ⟨r9, u10, h11, hm⟩ := ob_some hm
      refine goVI (As := []) (rest := []) (b0 := G 0) 0 C0 (k_Ref_countFree l D G Y h11) q_597 q_6 q_594 q_596 qs_27 e_Ref_countFree (by decide) rfl rfl hP hD hS hl.1 rfl (Nat.le_of_ble_eq_true rfl) d_Ref_putTable_48 (fun H locs hP hD hS => ?_)
      refine lv_if_ne (tgt := 56) hx hb d_Ref_putTable_51 (by decide) (fun hc => ?_) (fun hc => ?_)
      · rw [if_neg hc] at hm
        refine lv_aload_n hx hb d_Ref_putTable_56 rfl (lv_at hl 2 rfl) ?_
        refine lv_iconst (v := (-1 : Int32)) hx hb d_Ref_putTable_57 (by decide) ?_
        refine lv_aload_n hx hb d_Ref_putTable_58 rfl (lv_at hl 2 rfl) ?_
        refine va_get (D := D) (ci := 5) (v := .ref (G 1)) (C := "FirmStoreModel") (T := F_Ref) (N := 12) hx hb hts iz_Ref hown hK hP 0 rfl rfl 0 (by decide) (hts _ q_537) (fun _ h9 => h9) rfl d_Ref_putTable_59 ?_
        refine lv_iconst (v := (1 : Int32)) hx hb d_Ref_putTable_62 (by decide) ?_
        refine lv_iload_n hx hb d_Ref_putTable_63 rfl (lv_at hl 3 rfl) ?_
        refine lv_bipush (v := (8 : Int32)) hx hb d_Ref_putTable_64 (by decide) ?_
        refine lv_irem hx hb d_Ref_putTable_66 (by decide) ?_
        refine lv_iadd hx hb d_Ref_putTable_67 ?_
        obtain ⟨hg, hm⟩ := gd hm
        refine va_lald hx hb hK hP 1 0 (f := (rg_mem u10)) rfl rfl (inb_in hg) d_Ref_putTable_68 ?_
        refine lv_l2i (v := (((rg_mem u10) ((1 : Int32) + (a1 - a1 / (8 : Int32) * (8 : Int32))).toNatClampNeg).toInt32)) hx hb d_Ref_putTable_69 rfl ?_
        refine lv_iconst (v := (0 : Int32)) hx hb d_Ref_putTable_70 (by decide) ?_
        refine lv_iload_n hx hb d_Ref_putTable_71 rfl (lv_at hl 3 rfl) ?_
        refine lv_iload_n hx hb d_Ref_putTable_72 rfl (lv_at hl 4 rfl) ?_
        obtain ⟨r13, u14, h15, hm⟩ := ob_some hm
        refine goSL (As := [.int a1, .int a2]) (rest := [.int (0 : Int32), .int (((rg_mem u10) ((1 : Int32) + (a1 - a1 / (8 : Int32) * (8 : Int32))).toNatClampNeg).toInt32), .int (-1 : Int32), .ref (G 0)]) C0 (k_Ref_entry l D G Y h15) q_628 q_6 q_626 q_627 e_Ref_entry (by decide) hP hD hS hl.1 rfl (Nat.le_of_ble_eq_true rfl) d_Ref_putTable_73 (fun H locs hP hD hS => ?_)
        refine lv_lconst (v := (0 : Int64)) hx hb d_Ref_putTable_76 (by decide) ?_
        refine lv_lconst (v := (0 : Int64)) hx hb d_Ref_putTable_77 (by decide) ?_
        obtain ⟨r17, u18, h19, hm⟩ := ob_some hm
        refine goVI (As := [.int (-1 : Int32), .int (((rg_mem u10) ((1 : Int32) + (a1 - a1 / (8 : Int32) * (8 : Int32))).toNatClampNeg).toInt32), .int (0 : Int32), .long r13, .long (0 : Int64), .long (0 : Int64)]) (rest := []) (b0 := G 0) 0 C0 (k_Ref_make l D G Y h19) q_634 q_6 q_631 q_633 qs_35 e_Ref_make (by decide) rfl rfl hP hD hS hl.1 rfl (Nat.le_of_ble_eq_true rfl) d_Ref_putTable_78 (fun H locs hP hD hS => ?_)
        refine lv_istore (lv' := [(5, .int r17), (4, .int r5), (3, .int r1), (0, .ref (G 0)), (1, .int a1), (2, .int a2)]) hx hb d_Ref_putTable_81 hl (by decide) rfl (fun ls hl => ?_)
        refine lv_aload_n hx hb d_Ref_putTable_83 rfl (lv_at hl 3 rfl) ?_
        refine lv_iconst (v := (1 : Int32)) hx hb d_Ref_putTable_84 (by decide) ?_
        refine lv_iload_n hx hb d_Ref_putTable_85 rfl (lv_at hl 4 rfl) ?_
        refine lv_bipush (v := (8 : Int32)) hx hb d_Ref_putTable_86 (by decide) ?_
        refine lv_irem hx hb d_Ref_putTable_88 (by decide) ?_
        refine lv_iadd hx hb d_Ref_putTable_89 ?_
        refine lv_iload hx hb d_Ref_putTable_90 (lv_at hl 0 rfl) ?_
        refine lv_i2l (v := (r17.toInt64)) hx hb d_Ref_putTable_92 rfl ?_
        obtain ⟨r21, u22, h23, hm⟩ := ob_some hm
        refine goVV (As := [.int ((1 : Int32) + (a1 - a1 / (8 : Int32) * (8 : Int32))), .long (r17.toInt64)]) (rest := []) (b0 := G 0) 0 C0 (k_Ref_firm l D G Y h23) q_650 q_6 q_647 q_649 qs_39 e_Ref_firm (by decide) rfl rfl hP hD hS hl.1 rfl (Nat.le_of_ble_eq_true rfl) d_Ref_putTable_93 (fun H locs hP hD hS => ?_)
        refine lv_iconst (v := (1 : Int32)) hx hb d_Ref_putTable_96 (by decide) ?_
        exact hret _ _ _ _ (1 : Int32) u22 (Option.some.inj hm) hP hD hS d_Ref_putTable_97
      · rw [if_pos hc] at hm
        refine lv_iconst (v := (-1 : Int32)) hx hb d_Ref_putTable_54 (by decide) ?_
        exact hret _ _ _ _ (-1 : Int32) u10 (Option.some.inj hm) hP hD hS d_Ref_putTable_55
    · rw [if_neg hc] at hm
      refine lv_aload_n hx hb d_Ref_putTable_34 rfl (lv_at hl 2 rfl) ?_
      refine lv_iload hx hb d_Ref_putTable_35 (lv_at hl 0 rfl) ?_
      refine lv_iload_n hx hb d_Ref_putTable_37 rfl (lv_at hl 3 rfl) ?_
      refine lv_iload_n hx hb d_Ref_putTable_38 rfl (lv_at hl 4 rfl) ?_
      obtain ⟨r25, u26, h27, hm⟩ := ob_some hm
      refine goSL (As := [.int a1, .int a2]) (rest := [.int r5, .ref (G 0)]) C0 (k_Ref_entry l D G Y h27) q_628 q_6 q_626 q_627 e_Ref_entry (by decide) hP hD hS hl.1 rfl (Nat.le_of_ble_eq_true rfl) d_Ref_putTable_39 (fun H locs hP hD hS => ?_)
      obtain ⟨r29, u30, h31, hm⟩ := ob_some hm
      refine goVV (As := [.int r5, .long r25]) (rest := []) (b0 := G 0) 0 C0 (k_Ref_firm l D G Y h31) q_650 q_6 q_647 q_649 qs_39 e_Ref_firm (by decide) rfl rfl hP hD hS hl.1 rfl (Nat.le_of_ble_eq_true rfl) d_Ref_putTable_42 (fun H locs hP hD hS => ?_)
      refine lv_iconst (v := (1 : Int32)) hx hb d_Ref_putTable_45 (by decide) ?_
      exact hret _ _ _ _ (1 : Int32) u30 (Option.some.inj hm) hP hD hS d_Ref_putTable_46
  · rw [if_neg hc] at hm
    refine lv_aload_n hx hb d_Ref_putTable_10 rfl (lv_at hl 1 rfl) ?_
    refine lv_iload_n hx hb d_Ref_putTable_11 rfl (lv_at hl 0 rfl) ?_
    refine lv_iload_n hx hb d_Ref_putTable_12 rfl (lv_at hl 2 rfl) ?_
    refine lv_iload_n hx hb d_Ref_putTable_13 rfl (lv_at hl 3 rfl) ?_
    obtain ⟨r33, u34, h35, hm⟩ := ob_some hm
    refine goSL (As := [.int a1, .int a2]) (rest := [.int r1, .ref (G 0)]) C0 (k_Ref_entry l D G Y h35) q_628 q_6 q_626 q_627 e_Ref_entry (by decide) hP hD hS hl.1 rfl (Nat.le_of_ble_eq_true rfl) d_Ref_putTable_14 (fun H locs hP hD hS => ?_)
    obtain ⟨r37, u38, h39, hm⟩ := ob_some hm
    refine goVV (As := [.int r1, .long r33]) (rest := []) (b0 := G 0) 0 C0 (k_Ref_firm l D G Y h39) q_650 q_6 q_647 q_649 qs_39 e_Ref_firm (by decide) rfl rfl hP hD hS hl.1 rfl (Nat.le_of_ble_eq_true rfl) d_Ref_putTable_17 (fun H locs hP hD hS => ?_)
    refine lv_iconst (v := (0 : Int32)) hx hb d_Ref_putTable_20 (by decide) ?_
    exact hret _ _ _ _ (0 : Int32) u38 (Option.some.inj hm) hP hD hS d_Ref_putTable_21
theorem d_Ref_isGood_0 : decode b_Ref_isGood 0 = .ok (.iload_n 0, 1) := by decide +kernel
theorem d_Ref_isGood_1 : decode b_Ref_isGood 1 = .ok (.ifCond .eq 8, 3) := by decide +kernel
theorem d_Ref_isGood_4 : decode b_Ref_isGood 4 = .ok (.iload_n 0, 1) := by decide +kernel
theorem d_Ref_isGood_5 : decode b_Ref_isGood 5 = .ok (.iconst 1, 1) := by decide +kernel
theorem d_Ref_isGood_6 : decode b_Ref_isGood 6 = .ok (.if_icmp .ne 18, 3) := by decide +kernel
theorem d_Ref_isGood_9 : decode b_Ref_isGood 9 = .ok (.iload_n 1, 1) := by decide +kernel
theorem d_Ref_isGood_10 : decode b_Ref_isGood 10 = .ok (.ifCond .lt 14, 3) := by decide +kernel
theorem d_Ref_isGood_13 : decode b_Ref_isGood 13 = .ok (.iload_n 1, 1) := by decide +kernel
theorem d_Ref_isGood_14 : decode b_Ref_isGood 14 = .ok (.sipush 999, 3) := by decide +kernel
theorem d_Ref_isGood_17 : decode b_Ref_isGood 17 = .ok (.if_icmp .gt 7, 3) := by decide +kernel
theorem d_Ref_isGood_20 : decode b_Ref_isGood 20 = .ok (.iconst 1, 1) := by decide +kernel
theorem d_Ref_isGood_21 : decode b_Ref_isGood 21 = .ok (.goto 4, 3) := by decide +kernel
theorem d_Ref_isGood_24 : decode b_Ref_isGood 24 = .ok (.iconst 0, 1) := by decide +kernel
theorem d_Ref_isGood_25 : decode b_Ref_isGood 25 = .ok (.ireturn, 1) := by decide +kernel
set_option maxRecDepth 100000 in
set_option maxHeartbeats 4000000 in
theorem k_Ref_isGood (l : Launch) (D : va_G) (G : Nat → Nat) (Y : Nat → ClassId) {u : SR} {a1 : Int32} {a2 : Int32} {r : Int32} {u' : SR} (hm : m_Ref_isGood u a1 a2 = some (r, u')) : KZ l D clz (tyz Y) (wdR G Y) y_Ref_isGood b_Ref_isGood 2 (some .boolean) 0 0 [.int a1, .int a2] u r u' := by
  refine mkZ (by decide) (Nat.le_of_ble_eq_true rfl) ?_
  intro p e s m below meth c A Z ls C0 hP hD hS hl hret
  obtain ⟨hx, hb, hml, hown, hts, hK, hN, hA⟩ := id C0
  have hl : lv_has ls 2 [(0, .int a1), (1, .int a2)] := hl
  have J9 : ∀ (ua : SR) (x1 : Int32), m_Ref_isGood_J9 ua x1 = some (r, u') → ∀ (H : Heap) (locs : List Loc) (ls : Array Slot), va_P D clz (wdR G Y ua) H → va_D A (wdR G Y ua) → va_S A s.heap H locs → lv_has ls 2 [(1, .int x1)] → W p l e (zRm 0 0) s m ([.int a1, .int a2] : List Value).toArray below meth c H locs 0 0 Z (F0 m 9 ls []) := by
    intro ua x1 hm H locs ls hP hD hS hl
    rw [m_Ref_isGood_J9] at hm
    refine lv_iload_n hx hb d_Ref_isGood_9 rfl (lv_at hl 0 rfl) ?_
    refine lv_if_lt (tgt := 24) hx hb d_Ref_isGood_10 (by decide) (fun hc => ?_) (fun hc => ?_)
    · rw [if_pos hc] at hm
      refine lv_iconst (v := (0 : Int32)) hx hb d_Ref_isGood_24 (by decide) ?_
      exact hret _ _ _ _ (0 : Int32) ua (Option.some.inj hm) (Or.inl rfl) hP hD hS d_Ref_isGood_25
    · rw [if_neg hc] at hm
      refine lv_iload_n hx hb d_Ref_isGood_13 rfl (lv_at hl 0 rfl) ?_
      refine lv_sipush (v := (999 : Int32)) hx hb d_Ref_isGood_14 (by decide) ?_
      refine lv_icmp_gt (tgt := 24) hx hb d_Ref_isGood_17 (by decide) (fun hc => ?_) (fun hc => ?_)
      · rw [if_pos hc] at hm
        refine lv_iconst (v := (0 : Int32)) hx hb d_Ref_isGood_24 (by decide) ?_
        exact hret _ _ _ _ (0 : Int32) ua (Option.some.inj hm) (Or.inl rfl) hP hD hS d_Ref_isGood_25
      · rw [if_neg hc] at hm
        refine lv_iconst (v := (1 : Int32)) hx hb d_Ref_isGood_20 (by decide) ?_
        refine lv_goto (tgt := 25) hx hb d_Ref_isGood_21 (by decide) ?_
        exact hret _ _ _ _ (1 : Int32) ua (Option.some.inj hm) (Or.inr rfl) hP hD hS d_Ref_isGood_25
  rw [m_Ref_isGood] at hm
  refine lv_iload_n hx hb d_Ref_isGood_0 rfl (lv_at hl 0 rfl) ?_
  refine lv_if_eq (tgt := 9) hx hb d_Ref_isGood_1 (by decide) (fun hc => ?_) (fun hc => ?_)
  · rw [if_pos hc] at hm
    exact J9 u a2 hm _ _ _ hP hD hS (lv_sub hl [1] rfl)
  · rw [if_neg hc] at hm
    refine lv_iload_n hx hb d_Ref_isGood_4 rfl (lv_at hl 0 rfl) ?_
    refine lv_iconst (v := (1 : Int32)) hx hb d_Ref_isGood_5 (by decide) ?_
    refine lv_icmp_ne (tgt := 24) hx hb d_Ref_isGood_6 (by decide) (fun hc => ?_) (fun hc => ?_)
    · rw [if_neg hc] at hm
      refine lv_iconst (v := (0 : Int32)) hx hb d_Ref_isGood_24 (by decide) ?_
      exact hret _ _ _ _ (0 : Int32) u (Option.some.inj hm) (Or.inl rfl) hP hD hS d_Ref_isGood_25
    · rw [if_pos hc] at hm
      exact J9 u a2 hm _ _ _ hP hD hS (lv_sub hl [1] rfl)
theorem d_Ref_put_0 : decode b_Ref_put 0 = .ok (.aload_n 0, 1) := by decide +kernel
theorem d_Ref_put_1 : decode b_Ref_put 1 = .ok (.iload_n 1, 1) := by decide +kernel
theorem d_Ref_put_2 : decode b_Ref_put 2 = .ok (.iload_n 2, 1) := by decide +kernel
theorem d_Ref_put_3 : decode b_Ref_put 3 = .ok (.invokestatic 148, 3) := by decide +kernel
theorem d_Ref_put_6 : decode b_Ref_put 6 = .ok (.ifCond .ne 7, 3) := by decide +kernel
theorem d_Ref_put_9 : decode b_Ref_put 9 = .ok (.iconst 1, 1) := by decide +kernel
theorem d_Ref_put_10 : decode b_Ref_put 10 = .ok (.goto 15, 3) := by decide +kernel
theorem d_Ref_put_13 : decode b_Ref_put 13 = .ok (.aload_n 0, 1) := by decide +kernel
theorem d_Ref_put_14 : decode b_Ref_put 14 = .ok (.getfield 40, 3) := by decide +kernel
theorem d_Ref_put_17 : decode b_Ref_put 17 = .ok (.ifCond .eq 7, 3) := by decide +kernel
theorem d_Ref_put_20 : decode b_Ref_put 20 = .ok (.iconst 2, 1) := by decide +kernel
theorem d_Ref_put_21 : decode b_Ref_put 21 = .ok (.goto 4, 3) := by decide +kernel
theorem d_Ref_put_24 : decode b_Ref_put 24 = .ok (.iconst 0, 1) := by decide +kernel
theorem d_Ref_put_25 : decode b_Ref_put 25 = .ok (.putfield 31, 3) := by decide +kernel
theorem d_Ref_put_28 : decode b_Ref_put 28 = .ok (.aload_n 0, 1) := by decide +kernel
theorem d_Ref_put_29 : decode b_Ref_put 29 = .ok (.getfield 31, 3) := by decide +kernel
theorem d_Ref_put_32 : decode b_Ref_put 32 = .ok (.ifCond .le 5, 3) := by decide +kernel
theorem d_Ref_put_35 : decode b_Ref_put 35 = .ok (.iconst 0, 1) := by decide +kernel
theorem d_Ref_put_36 : decode b_Ref_put 36 = .ok (.ireturn, 1) := by decide +kernel
theorem d_Ref_put_37 : decode b_Ref_put 37 = .ok (.aload_n 0, 1) := by decide +kernel
theorem d_Ref_put_38 : decode b_Ref_put 38 = .ok (.iconst 0, 1) := by decide +kernel
theorem d_Ref_put_39 : decode b_Ref_put 39 = .ok (.putfield 44, 3) := by decide +kernel
theorem d_Ref_put_42 : decode b_Ref_put 42 = .ok (.iload_n 1, 1) := by decide +kernel
theorem d_Ref_put_43 : decode b_Ref_put 43 = .ok (.ifCond .ne 12, 3) := by decide +kernel
theorem d_Ref_put_46 : decode b_Ref_put 46 = .ok (.aload_n 0, 1) := by decide +kernel
theorem d_Ref_put_47 : decode b_Ref_put 47 = .ok (.iload_n 2, 1) := by decide +kernel
theorem d_Ref_put_48 : decode b_Ref_put 48 = .ok (.iload_n 3, 1) := by decide +kernel
theorem d_Ref_put_49 : decode b_Ref_put 49 = .ok (.invokevirtual 152, 3) := by decide +kernel
theorem d_Ref_put_52 : decode b_Ref_put 52 = .ok (.goto 9, 3) := by decide +kernel
theorem d_Ref_put_55 : decode b_Ref_put 55 = .ok (.aload_n 0, 1) := by decide +kernel
theorem d_Ref_put_56 : decode b_Ref_put 56 = .ok (.iload_n 2, 1) := by decide +kernel
theorem d_Ref_put_57 : decode b_Ref_put 57 = .ok (.iload_n 3, 1) := by decide +kernel
theorem d_Ref_put_58 : decode b_Ref_put 58 = .ok (.invokevirtual 155, 3) := by decide +kernel
theorem d_Ref_put_61 : decode b_Ref_put 61 = .ok (.istore 4, 2) := by decide +kernel
theorem d_Ref_put_63 : decode b_Ref_put 63 = .ok (.aload_n 0, 1) := by decide +kernel
theorem d_Ref_put_64 : decode b_Ref_put 64 = .ok (.getfield 44, 3) := by decide +kernel
theorem d_Ref_put_67 : decode b_Ref_put 67 = .ok (.ifCond .eq 8, 3) := by decide +kernel
theorem d_Ref_put_70 : decode b_Ref_put 70 = .ok (.bipush (-2), 2) := by decide +kernel
theorem d_Ref_put_72 : decode b_Ref_put 72 = .ok (.goto 5, 3) := by decide +kernel
theorem d_Ref_put_75 : decode b_Ref_put 75 = .ok (.iload 4, 2) := by decide +kernel
theorem d_Ref_put_77 : decode b_Ref_put 77 = .ok (.ireturn, 1) := by decide +kernel
set_option maxRecDepth 100000 in
set_option maxHeartbeats 4000000 in
theorem k_Ref_put (l : Launch) (D : va_G) (G : Nat → Nat) (Y : Nat → ClassId) {u : SR} {a1 : Int32} {a2 : Int32} {a3 : Int32} {r : Int32} {u' : SR} (hm : m_Ref_put u a1 a2 a3 = some (r, u')) : KI l D clz (tyz Y) (wdR G Y) y_Ref_put b_Ref_put 5 (some .int) 7 181 [.ref (G 0), .int a1, .int a2, .int a3] u r u' := by
  refine mkI (by decide) (Nat.le_of_ble_eq_true rfl) ?_
  intro p e s m below meth c A Z ls C0 hP hD hS hl hret
  obtain ⟨hx, hb, hml, hown, hts, hK, hN, hA⟩ := id C0
  have hl : lv_has ls 5 [(0, .ref (G 0)), (1, .int a1), (2, .int a2), (3, .int a3)] := hl
  have J25 : ∀ (ua : SR) (x1 : Int32) (x2 : Int32) (x3 : Int32) (s0 : Int32), m_Ref_put_J25 ua x1 x2 x3 s0 = some (r, u') → ∀ (H : Heap) (locs : List Loc) (ls : Array Slot), va_P D clz (wdR G Y ua) H → va_D A (wdR G Y ua) → va_S A s.heap H locs → lv_has ls 5 [(0, .ref (G 0)), (1, .int x1), (2, .int x2), (3, .int x3)] → W p l e (zRm 7 181) s m ([.ref (G 0), .int a1, .int a2, .int a3] : List Value).toArray below meth c H locs 0 0 Z (F0 m 25 ls [.int s0, .ref (G 0)]) := by
    intro ua x1 x2 x3 s0 hm H locs ls hP hD hS hl
    rw [m_Ref_put_J25] at hm
    refine va_put (D := D) (ci := 5) (v := .int s0) (ty := .int) (C := "FirmStoreModel") (T := F_Ref) (N := 12) hx hb hts iz_Ref t_Ref t_Ref_ok n_Ref hown hK hP hD hS 0 rfl rfl 9 (by decide) (hts _ q_546) (fun _ h9 => h9) rfl (by decide +kernel) rfl rfl (Nat.le_of_ble_eq_true rfl) d_Ref_put_25 (fun H locs hP hD hS => ?_)
    have hP : va_P D clz (wdR G Y (rs_cd ua s0)) H := hP
    have hD : va_D A (wdR G Y (rs_cd ua s0)) := hD
    refine lv_aload_n hx hb d_Ref_put_28 rfl (lv_at hl 0 rfl) ?_
    refine va_get (D := D) (ci := 5) (v := .int s0) (C := "FirmStoreModel") (T := F_Ref) (N := 12) hx hb hts iz_Ref hown hK hP 0 rfl rfl 9 (by decide) (hts _ q_546) (fun _ h9 => h9) rfl d_Ref_put_29 ?_
    refine lv_if_le (tgt := 37) hx hb d_Ref_put_32 (by decide) (fun hc => ?_) (fun hc => ?_)
    · rw [if_pos hc] at hm
      refine lv_aload_n hx hb d_Ref_put_37 rfl (lv_at hl 0 rfl) ?_
      refine lv_iconst (v := (0 : Int32)) hx hb d_Ref_put_38 (by decide) ?_
      refine va_put (D := D) (ci := 5) (v := .int (0 : Int32)) (ty := .boolean) (C := "FirmStoreModel") (T := F_Ref) (N := 12) hx hb hts iz_Ref t_Ref t_Ref_ok n_Ref hown hK hP hD hS 0 rfl rfl 8 (by decide) (hts _ q_545) (fun _ h9 => h9) rfl (by decide +kernel) (nz (Or.inl rfl)) (by decide) (Nat.le_of_ble_eq_true rfl) d_Ref_put_39 (fun H locs hP hD hS => ?_)
      have hP : va_P D clz (wdR G Y (rs_br (rs_cd ua s0) (0 : Int32))) H := hP
      have hD : va_D A (wdR G Y (rs_br (rs_cd ua s0) (0 : Int32))) := hD
      refine lv_iload_n hx hb d_Ref_put_42 rfl (lv_at hl 1 rfl) ?_
      refine lv_if_ne (tgt := 55) hx hb d_Ref_put_43 (by decide) (fun hc => ?_) (fun hc => ?_)
      · rw [if_neg hc] at hm
        refine lv_aload_n hx hb d_Ref_put_55 rfl (lv_at hl 0 rfl) ?_
        refine lv_iload_n hx hb d_Ref_put_56 rfl (lv_at hl 2 rfl) ?_
        refine lv_iload_n hx hb d_Ref_put_57 rfl (lv_at hl 3 rfl) ?_
        obtain ⟨r5, u6, h7, hm⟩ := ob_some hm
        refine goVI (As := [.int x2, .int x3]) (rest := []) (b0 := G 0) 0 C0 (k_Ref_putTable l D G Y h7) q_697 q_6 q_694 q_696 qs_50 e_Ref_putTable (by decide) rfl rfl hP hD hS hl.1 rfl (Nat.le_of_ble_eq_true rfl) d_Ref_put_58 (fun H locs hP hD hS => ?_)
        refine lv_istore (lv' := [(4, .int r5), (0, .ref (G 0)), (1, .int x1), (2, .int x2), (3, .int x3)]) hx hb d_Ref_put_61 hl (by decide) rfl (fun ls hl => ?_)
        refine lv_aload_n hx hb d_Ref_put_63 rfl (lv_at hl 1 rfl) ?_
        refine va_get (D := D) (ci := 5) (v := .int (rg_br u6)) (C := "FirmStoreModel") (T := F_Ref) (N := 12) hx hb hts iz_Ref hown hK hP 0 rfl rfl 8 (by decide) (hts _ q_545) (fun _ h9 => h9) rfl d_Ref_put_64 ?_
        refine lv_if_eq (tgt := 75) hx hb d_Ref_put_67 (by decide) (fun hc => ?_) (fun hc => ?_)
        · rw [if_pos hc] at hm
          refine lv_iload hx hb d_Ref_put_75 (lv_at hl 0 rfl) ?_
          exact hret _ _ _ _ r5 u6 (Option.some.inj hm) hP hD hS d_Ref_put_77
        · rw [if_neg hc] at hm
          refine lv_bipush (v := (-2 : Int32)) hx hb d_Ref_put_70 (by decide) ?_
          refine lv_goto (tgt := 77) hx hb d_Ref_put_72 (by decide) ?_
          exact hret _ _ _ _ (-2 : Int32) u6 (Option.some.inj hm) hP hD hS d_Ref_put_77
      · rw [if_pos hc] at hm
        refine lv_aload_n hx hb d_Ref_put_46 rfl (lv_at hl 0 rfl) ?_
        refine lv_iload_n hx hb d_Ref_put_47 rfl (lv_at hl 2 rfl) ?_
        refine lv_iload_n hx hb d_Ref_put_48 rfl (lv_at hl 3 rfl) ?_
        obtain ⟨r9, u10, h11, hm⟩ := ob_some hm
        refine goVI (As := [.int x2, .int x3]) (rest := []) (b0 := G 0) 0 C0 (k_Ref_putTree l D G Y h11) q_589 q_6 q_586 q_588 qs_25 e_Ref_putTree (by decide) rfl rfl hP hD hS hl.1 rfl (Nat.le_of_ble_eq_true rfl) d_Ref_put_49 (fun H locs hP hD hS => ?_)
        refine lv_goto (tgt := 61) hx hb d_Ref_put_52 (by decide) ?_
        refine lv_istore (lv' := [(4, .int r9), (0, .ref (G 0)), (1, .int x1), (2, .int x2), (3, .int x3)]) hx hb d_Ref_put_61 hl (by decide) rfl (fun ls hl => ?_)
        refine lv_aload_n hx hb d_Ref_put_63 rfl (lv_at hl 1 rfl) ?_
        refine va_get (D := D) (ci := 5) (v := .int (rg_br u10)) (C := "FirmStoreModel") (T := F_Ref) (N := 12) hx hb hts iz_Ref hown hK hP 0 rfl rfl 8 (by decide) (hts _ q_545) (fun _ h9 => h9) rfl d_Ref_put_64 ?_
        refine lv_if_eq (tgt := 75) hx hb d_Ref_put_67 (by decide) (fun hc => ?_) (fun hc => ?_)
        · rw [if_pos hc] at hm
          refine lv_iload hx hb d_Ref_put_75 (lv_at hl 0 rfl) ?_
          exact hret _ _ _ _ r9 u10 (Option.some.inj hm) hP hD hS d_Ref_put_77
        · rw [if_neg hc] at hm
          refine lv_bipush (v := (-2 : Int32)) hx hb d_Ref_put_70 (by decide) ?_
          refine lv_goto (tgt := 77) hx hb d_Ref_put_72 (by decide) ?_
          exact hret _ _ _ _ (-2 : Int32) u10 (Option.some.inj hm) hP hD hS d_Ref_put_77
    · rw [if_neg hc] at hm
      refine lv_iconst (v := (0 : Int32)) hx hb d_Ref_put_35 (by decide) ?_
      exact hret _ _ _ _ (0 : Int32) (rs_cd ua s0) (Option.some.inj hm) hP hD hS d_Ref_put_36
  rw [m_Ref_put] at hm
  refine lv_aload_n hx hb d_Ref_put_0 rfl (lv_at hl 0 rfl) ?_
  refine lv_iload_n hx hb d_Ref_put_1 rfl (lv_at hl 1 rfl) ?_
  refine lv_iload_n hx hb d_Ref_put_2 rfl (lv_at hl 2 rfl) ?_
  obtain ⟨r1, u2, h3, hm⟩ := ob_some hm
  refine goSZ (As := [.int a1, .int a2]) (rest := [.ref (G 0)]) C0 (k_Ref_isGood l D G Y h3) q_585 q_6 q_583 q_584 e_Ref_isGood (by decide) hP hD hS hl.1 rfl (Nat.le_of_ble_eq_true rfl) d_Ref_put_3 (fun H locs hz4 hP hD hS => ?_)
  refine lv_if_ne (tgt := 13) hx hb d_Ref_put_6 (by decide) (fun hc => ?_) (fun hc => ?_)
  · rw [if_neg hc] at hm
    refine lv_aload_n hx hb d_Ref_put_13 rfl (lv_at hl 0 rfl) ?_
    refine va_get (D := D) (ci := 5) (v := .int (rg_dn u2)) (C := "FirmStoreModel") (T := F_Ref) (N := 12) hx hb hts iz_Ref hown hK hP 0 rfl rfl 7 (by decide) (hts _ q_544) (fun _ h9 => h9) rfl d_Ref_put_14 ?_
    refine lv_if_eq (tgt := 24) hx hb d_Ref_put_17 (by decide) (fun hc => ?_) (fun hc => ?_)
    · rw [if_pos hc] at hm
      refine lv_iconst (v := (0 : Int32)) hx hb d_Ref_put_24 (by decide) ?_
      exact J25 u2 a1 a2 a3 (0 : Int32) hm _ _ _ hP hD hS (lv_sub hl [0, 1, 2, 3] rfl)
    · rw [if_neg hc] at hm
      refine lv_iconst (v := (2 : Int32)) hx hb d_Ref_put_20 (by decide) ?_
      refine lv_goto (tgt := 25) hx hb d_Ref_put_21 (by decide) ?_
      exact J25 u2 a1 a2 a3 (2 : Int32) hm _ _ _ hP hD hS (lv_sub hl [0, 1, 2, 3] rfl)
  · rw [if_pos hc] at hm
    refine lv_iconst (v := (1 : Int32)) hx hb d_Ref_put_9 (by decide) ?_
    refine lv_goto (tgt := 25) hx hb d_Ref_put_10 (by decide) ?_
    exact J25 u2 a1 a2 a3 (1 : Int32) hm _ _ _ hP hD hS (lv_sub hl [0, 1, 2, 3] rfl)
theorem d_Ref_read_0 : decode b_Ref_read 0 = .ok (.iload_n 1, 1) := by decide +kernel
theorem d_Ref_read_1 : decode b_Ref_read 1 = .ok (.iconst 1, 1) := by decide +kernel
theorem d_Ref_read_2 : decode b_Ref_read 2 = .ok (.if_icmp .ne 9, 3) := by decide +kernel
theorem d_Ref_read_5 : decode b_Ref_read 5 = .ok (.aload_n 0, 1) := by decide +kernel
theorem d_Ref_read_6 : decode b_Ref_read 6 = .ok (.iload_n 2, 1) := by decide +kernel
theorem d_Ref_read_7 : decode b_Ref_read 7 = .ok (.invokevirtual 142, 3) := by decide +kernel
theorem d_Ref_read_10 : decode b_Ref_read 10 = .ok (.ireturn, 1) := by decide +kernel
theorem d_Ref_read_11 : decode b_Ref_read 11 = .ok (.aload_n 0, 1) := by decide +kernel
theorem d_Ref_read_12 : decode b_Ref_read 12 = .ok (.invokevirtual 72, 3) := by decide +kernel
theorem d_Ref_read_15 : decode b_Ref_read 15 = .ok (.ifCond .ne 5, 3) := by decide +kernel
theorem d_Ref_read_18 : decode b_Ref_read 18 = .ok (.iconst (-1), 1) := by decide +kernel
theorem d_Ref_read_19 : decode b_Ref_read 19 = .ok (.ireturn, 1) := by decide +kernel
theorem d_Ref_read_20 : decode b_Ref_read 20 = .ok (.aload_n 0, 1) := by decide +kernel
theorem d_Ref_read_21 : decode b_Ref_read 21 = .ok (.iload_n 2, 1) := by decide +kernel
theorem d_Ref_read_22 : decode b_Ref_read 22 = .ok (.iconst 0, 1) := by decide +kernel
theorem d_Ref_read_23 : decode b_Ref_read 23 = .ok (.invokevirtual 116, 3) := by decide +kernel
theorem d_Ref_read_26 : decode b_Ref_read 26 = .ok (.istore_n 3, 1) := by decide +kernel
theorem d_Ref_read_27 : decode b_Ref_read 27 = .ok (.aload_n 0, 1) := by decide +kernel
theorem d_Ref_read_28 : decode b_Ref_read 28 = .ok (.iload_n 3, 1) := by decide +kernel
theorem d_Ref_read_29 : decode b_Ref_read 29 = .ok (.iload_n 2, 1) := by decide +kernel
theorem d_Ref_read_30 : decode b_Ref_read 30 = .ok (.invokevirtual 132, 3) := by decide +kernel
theorem d_Ref_read_33 : decode b_Ref_read 33 = .ok (.istore 4, 2) := by decide +kernel
theorem d_Ref_read_35 : decode b_Ref_read 35 = .ok (.iload 4, 2) := by decide +kernel
theorem d_Ref_read_37 : decode b_Ref_read 37 = .ok (.ifCond .ge 7, 3) := by decide +kernel
theorem d_Ref_read_40 : decode b_Ref_read 40 = .ok (.iconst (-1), 1) := by decide +kernel
theorem d_Ref_read_41 : decode b_Ref_read 41 = .ok (.goto 12, 3) := by decide +kernel
theorem d_Ref_read_44 : decode b_Ref_read 44 = .ok (.bipush 9, 2) := by decide +kernel
theorem d_Ref_read_46 : decode b_Ref_read 46 = .ok (.iload_n 3, 1) := by decide +kernel
theorem d_Ref_read_47 : decode b_Ref_read 47 = .ok (.imul, 1) := by decide +kernel
theorem d_Ref_read_48 : decode b_Ref_read 48 = .ok (.iconst 3, 1) := by decide +kernel
theorem d_Ref_read_49 : decode b_Ref_read 49 = .ok (.iadd, 1) := by decide +kernel
theorem d_Ref_read_50 : decode b_Ref_read 50 = .ok (.iload 4, 2) := by decide +kernel
theorem d_Ref_read_52 : decode b_Ref_read 52 = .ok (.iadd, 1) := by decide +kernel
theorem d_Ref_read_53 : decode b_Ref_read 53 = .ok (.ireturn, 1) := by decide +kernel
set_option maxRecDepth 100000 in
set_option maxHeartbeats 4000000 in
theorem k_Ref_read (l : Launch) (D : va_G) (G : Nat → Nat) (Y : Nat → ClassId) {u : SR} {a1 : Int32} {a2 : Int32} {r : Int32} {u' : SR} (hm : m_Ref_read u a1 a2 = some (r, u')) : KI l D clz (tyz Y) (wdR G Y) y_Ref_read b_Ref_read 5 (some .int) 4 93 [.ref (G 0), .int a1, .int a2] u r u' := by
  refine mkI (by decide) (Nat.le_of_ble_eq_true rfl) ?_
  intro p e s m below meth c A Z ls C0 hP hD hS hl hret
  obtain ⟨hx, hb, hml, hown, hts, hK, hN, hA⟩ := id C0
  have hl : lv_has ls 5 [(0, .ref (G 0)), (1, .int a1), (2, .int a2)] := hl
  rw [m_Ref_read] at hm
  refine lv_iload_n hx hb d_Ref_read_0 rfl (lv_at hl 1 rfl) ?_
  refine lv_iconst (v := (1 : Int32)) hx hb d_Ref_read_1 (by decide) ?_
  refine lv_icmp_ne (tgt := 11) hx hb d_Ref_read_2 (by decide) (fun hc => ?_) (fun hc => ?_)
  · rw [if_neg hc] at hm
    refine lv_aload_n hx hb d_Ref_read_11 rfl (lv_at hl 0 rfl) ?_
    obtain ⟨r1, u2, h3, hm⟩ := ob_some hm
    refine goVI (As := []) (rest := []) (b0 := G 0) 0 C0 (k_Ref_root l D G Y h3) q_593 q_6 q_590 q_592 qs_26 e_Ref_root (by decide) rfl rfl hP hD hS hl.1 rfl (Nat.le_of_ble_eq_true rfl) d_Ref_read_12 (fun H locs hP hD hS => ?_)
    refine lv_if_ne (tgt := 20) hx hb d_Ref_read_15 (by decide) (fun hc => ?_) (fun hc => ?_)
    · rw [if_neg hc] at hm
      refine lv_aload_n hx hb d_Ref_read_20 rfl (lv_at hl 0 rfl) ?_
      refine lv_iload_n hx hb d_Ref_read_21 rfl (lv_at hl 2 rfl) ?_
      refine lv_iconst (v := (0 : Int32)) hx hb d_Ref_read_22 (by decide) ?_
      obtain ⟨r5, u6, h7, hm⟩ := ob_some hm
      refine goVI (As := [.int a2, .int (0 : Int32)]) (rest := []) (b0 := G 0) 0 C0 (k_Ref_find l D G Y h7) q_654 q_6 q_651 q_653 qs_40 e_Ref_find (by decide) rfl rfl hP hD hS hl.1 rfl (Nat.le_of_ble_eq_true rfl) d_Ref_read_23 (fun H locs hP hD hS => ?_)
      refine lv_istore_n (lv' := [(3, .int r5), (0, .ref (G 0)), (1, .int a1), (2, .int a2)]) hx hb d_Ref_read_26 rfl hl (by decide) rfl (fun ls hl => ?_)
      refine lv_aload_n hx hb d_Ref_read_27 rfl (lv_at hl 1 rfl) ?_
      refine lv_iload_n hx hb d_Ref_read_28 rfl (lv_at hl 0 rfl) ?_
      refine lv_iload_n hx hb d_Ref_read_29 rfl (lv_at hl 3 rfl) ?_
      obtain ⟨r9, u10, h11, hm⟩ := ob_some hm
      refine goVI (As := [.int r5, .int a2]) (rest := []) (b0 := G 0) 0 C0 (k_Ref_placeIn l D G Y h11) q_673 q_6 q_670 q_672 qs_44 e_Ref_placeIn (by decide) rfl rfl hP hD hS hl.1 rfl (Nat.le_of_ble_eq_true rfl) d_Ref_read_30 (fun H locs hP hD hS => ?_)
      refine lv_istore (lv' := [(4, .int r9), (3, .int r5), (0, .ref (G 0)), (1, .int a1), (2, .int a2)]) hx hb d_Ref_read_33 hl (by decide) rfl (fun ls hl => ?_)
      refine lv_iload hx hb d_Ref_read_35 (lv_at hl 0 rfl) ?_
      refine lv_if_ge (tgt := 44) hx hb d_Ref_read_37 (by decide) (fun hc => ?_) (fun hc => ?_)
      · rw [if_pos hc] at hm
        refine lv_bipush (v := (9 : Int32)) hx hb d_Ref_read_44 (by decide) ?_
        refine lv_iload_n hx hb d_Ref_read_46 rfl (lv_at hl 1 rfl) ?_
        refine lv_imul hx hb d_Ref_read_47 ?_
        refine lv_iconst (v := (3 : Int32)) hx hb d_Ref_read_48 (by decide) ?_
        refine lv_iadd hx hb d_Ref_read_49 ?_
        refine lv_iload hx hb d_Ref_read_50 (lv_at hl 0 rfl) ?_
        refine lv_iadd hx hb d_Ref_read_52 ?_
        exact hret _ _ _ _ ((((9 : Int32) * r5) + (3 : Int32)) + r9) u10 (Option.some.inj hm) hP hD hS d_Ref_read_53
      · rw [if_neg hc] at hm
        refine lv_iconst (v := (-1 : Int32)) hx hb d_Ref_read_40 (by decide) ?_
        refine lv_goto (tgt := 53) hx hb d_Ref_read_41 (by decide) ?_
        exact hret _ _ _ _ (-1 : Int32) u10 (Option.some.inj hm) hP hD hS d_Ref_read_53
    · rw [if_pos hc] at hm
      refine lv_iconst (v := (-1 : Int32)) hx hb d_Ref_read_18 (by decide) ?_
      exact hret _ _ _ _ (-1 : Int32) u2 (Option.some.inj hm) hP hD hS d_Ref_read_19
  · rw [if_pos hc] at hm
    refine lv_aload_n hx hb d_Ref_read_5 rfl (lv_at hl 0 rfl) ?_
    refine lv_iload_n hx hb d_Ref_read_6 rfl (lv_at hl 2 rfl) ?_
    obtain ⟨r13, u14, h15, hm⟩ := ob_some hm
    refine goVI (As := [.int a2]) (rest := []) (b0 := G 0) 0 C0 (k_Ref_placeOf l D G Y h15) q_701 q_6 q_698 q_700 qs_51 e_Ref_placeOf (by decide) rfl rfl hP hD hS hl.1 rfl (Nat.le_of_ble_eq_true rfl) d_Ref_read_7 (fun H locs hP hD hS => ?_)
    exact hret _ _ _ _ r13 u14 (Option.some.inj hm) hP hD hS d_Ref_read_10
theorem d_Ref_remove_0 : decode b_Ref_remove 0 = .ok (.aload_n 0, 1) := by decide +kernel
theorem d_Ref_remove_1 : decode b_Ref_remove 1 = .ok (.iload_n 1, 1) := by decide +kernel
theorem d_Ref_remove_2 : decode b_Ref_remove 2 = .ok (.iload_n 2, 1) := by decide +kernel
theorem d_Ref_remove_3 : decode b_Ref_remove 3 = .ok (.invokestatic 148, 3) := by decide +kernel
theorem d_Ref_remove_6 : decode b_Ref_remove 6 = .ok (.ifCond .ne 7, 3) := by decide +kernel
theorem d_Ref_remove_9 : decode b_Ref_remove 9 = .ok (.iconst 1, 1) := by decide +kernel
theorem d_Ref_remove_10 : decode b_Ref_remove 10 = .ok (.goto 28, 3) := by decide +kernel
theorem d_Ref_remove_13 : decode b_Ref_remove 13 = .ok (.aload_n 0, 1) := by decide +kernel
theorem d_Ref_remove_14 : decode b_Ref_remove 14 = .ok (.getfield 40, 3) := by decide +kernel
theorem d_Ref_remove_17 : decode b_Ref_remove 17 = .ok (.ifCond .eq 7, 3) := by decide +kernel
theorem d_Ref_remove_20 : decode b_Ref_remove 20 = .ok (.iconst 2, 1) := by decide +kernel
theorem d_Ref_remove_21 : decode b_Ref_remove 21 = .ok (.goto 17, 3) := by decide +kernel
theorem d_Ref_remove_24 : decode b_Ref_remove 24 = .ok (.aload_n 0, 1) := by decide +kernel
theorem d_Ref_remove_25 : decode b_Ref_remove 25 = .ok (.iload_n 1, 1) := by decide +kernel
theorem d_Ref_remove_26 : decode b_Ref_remove 26 = .ok (.iload_n 2, 1) := by decide +kernel
theorem d_Ref_remove_27 : decode b_Ref_remove 27 = .ok (.invokevirtual 158, 3) := by decide +kernel
theorem d_Ref_remove_30 : decode b_Ref_remove 30 = .ok (.ifCond .ge 7, 3) := by decide +kernel
theorem d_Ref_remove_33 : decode b_Ref_remove 33 = .ok (.iconst 3, 1) := by decide +kernel
theorem d_Ref_remove_34 : decode b_Ref_remove 34 = .ok (.goto 4, 3) := by decide +kernel
theorem d_Ref_remove_37 : decode b_Ref_remove 37 = .ok (.iconst 0, 1) := by decide +kernel
theorem d_Ref_remove_38 : decode b_Ref_remove 38 = .ok (.putfield 31, 3) := by decide +kernel
theorem d_Ref_remove_41 : decode b_Ref_remove 41 = .ok (.aload_n 0, 1) := by decide +kernel
theorem d_Ref_remove_42 : decode b_Ref_remove 42 = .ok (.getfield 31, 3) := by decide +kernel
theorem d_Ref_remove_45 : decode b_Ref_remove 45 = .ok (.ifCond .le 5, 3) := by decide +kernel
theorem d_Ref_remove_48 : decode b_Ref_remove 48 = .ok (.iconst 0, 1) := by decide +kernel
theorem d_Ref_remove_49 : decode b_Ref_remove 49 = .ok (.ireturn, 1) := by decide +kernel
theorem d_Ref_remove_50 : decode b_Ref_remove 50 = .ok (.aload_n 0, 1) := by decide +kernel
theorem d_Ref_remove_51 : decode b_Ref_remove 51 = .ok (.iconst 0, 1) := by decide +kernel
theorem d_Ref_remove_52 : decode b_Ref_remove 52 = .ok (.putfield 44, 3) := by decide +kernel
theorem d_Ref_remove_55 : decode b_Ref_remove 55 = .ok (.aload_n 0, 1) := by decide +kernel
theorem d_Ref_remove_56 : decode b_Ref_remove 56 = .ok (.iload_n 1, 1) := by decide +kernel
theorem d_Ref_remove_57 : decode b_Ref_remove 57 = .ok (.iload_n 2, 1) := by decide +kernel
theorem d_Ref_remove_58 : decode b_Ref_remove 58 = .ok (.invokevirtual 158, 3) := by decide +kernel
theorem d_Ref_remove_61 : decode b_Ref_remove 61 = .ok (.istore_n 3, 1) := by decide +kernel
theorem d_Ref_remove_62 : decode b_Ref_remove 62 = .ok (.iload_n 1, 1) := by decide +kernel
theorem d_Ref_remove_63 : decode b_Ref_remove 63 = .ok (.iconst 1, 1) := by decide +kernel
theorem d_Ref_remove_64 : decode b_Ref_remove 64 = .ok (.if_icmp .ne 12, 3) := by decide +kernel
theorem d_Ref_remove_67 : decode b_Ref_remove 67 = .ok (.aload_n 0, 1) := by decide +kernel
theorem d_Ref_remove_68 : decode b_Ref_remove 68 = .ok (.iload_n 3, 1) := by decide +kernel
theorem d_Ref_remove_69 : decode b_Ref_remove 69 = .ok (.lconst 0, 1) := by decide +kernel
theorem d_Ref_remove_70 : decode b_Ref_remove 70 = .ok (.invokevirtual 106, 3) := by decide +kernel
theorem d_Ref_remove_73 : decode b_Ref_remove 73 = .ok (.goto 17, 3) := by decide +kernel
theorem d_Ref_remove_76 : decode b_Ref_remove 76 = .ok (.aload_n 0, 1) := by decide +kernel
theorem d_Ref_remove_77 : decode b_Ref_remove 77 = .ok (.iload_n 3, 1) := by decide +kernel
theorem d_Ref_remove_78 : decode b_Ref_remove 78 = .ok (.bipush 9, 2) := by decide +kernel
theorem d_Ref_remove_80 : decode b_Ref_remove 80 = .ok (.idiv, 1) := by decide +kernel
theorem d_Ref_remove_81 : decode b_Ref_remove 81 = .ok (.iload_n 3, 1) := by decide +kernel
theorem d_Ref_remove_82 : decode b_Ref_remove 82 = .ok (.bipush 9, 2) := by decide +kernel
theorem d_Ref_remove_84 : decode b_Ref_remove 84 = .ok (.irem, 1) := by decide +kernel
theorem d_Ref_remove_85 : decode b_Ref_remove 85 = .ok (.iconst 3, 1) := by decide +kernel
theorem d_Ref_remove_86 : decode b_Ref_remove 86 = .ok (.isub, 1) := by decide +kernel
theorem d_Ref_remove_87 : decode b_Ref_remove 87 = .ok (.invokevirtual 161, 3) := by decide +kernel
theorem d_Ref_remove_90 : decode b_Ref_remove 90 = .ok (.aload_n 0, 1) := by decide +kernel
theorem d_Ref_remove_91 : decode b_Ref_remove 91 = .ok (.getfield 44, 3) := by decide +kernel
theorem d_Ref_remove_94 : decode b_Ref_remove 94 = .ok (.ifCond .eq 8, 3) := by decide +kernel
theorem d_Ref_remove_97 : decode b_Ref_remove 97 = .ok (.bipush (-2), 2) := by decide +kernel
theorem d_Ref_remove_99 : decode b_Ref_remove 99 = .ok (.goto 4, 3) := by decide +kernel
theorem d_Ref_remove_102 : decode b_Ref_remove 102 = .ok (.iconst 1, 1) := by decide +kernel
theorem d_Ref_remove_103 : decode b_Ref_remove 103 = .ok (.ireturn, 1) := by decide +kernel
set_option maxRecDepth 100000 in
set_option maxHeartbeats 4000000 in
theorem k_Ref_remove (l : Launch) (D : va_G) (G : Nat → Nat) (Y : Nat → ClassId) {u : SR} {a1 : Int32} {a2 : Int32} {r : Int32} {u' : SR} (hm : m_Ref_remove u a1 a2 = some (r, u')) : KI l D clz (tyz Y) (wdR G Y) y_Ref_remove b_Ref_remove 4 (some .int) 5 117 [.ref (G 0), .int a1, .int a2] u r u' := by
  refine mkI (by decide) (Nat.le_of_ble_eq_true rfl) ?_
  intro p e s m below meth c A Z ls C0 hP hD hS hl hret
  obtain ⟨hx, hb, hml, hown, hts, hK, hN, hA⟩ := id C0
  have hl : lv_has ls 4 [(0, .ref (G 0)), (1, .int a1), (2, .int a2)] := hl
  have J38 : ∀ (ua : SR) (x1 : Int32) (x2 : Int32) (s0 : Int32), m_Ref_remove_J38 ua x1 x2 s0 = some (r, u') → ∀ (H : Heap) (locs : List Loc) (ls : Array Slot), va_P D clz (wdR G Y ua) H → va_D A (wdR G Y ua) → va_S A s.heap H locs → lv_has ls 4 [(0, .ref (G 0)), (1, .int x1), (2, .int x2)] → W p l e (zRm 5 117) s m ([.ref (G 0), .int a1, .int a2] : List Value).toArray below meth c H locs 0 0 Z (F0 m 38 ls [.int s0, .ref (G 0)]) := by
    intro ua x1 x2 s0 hm H locs ls hP hD hS hl
    rw [m_Ref_remove_J38] at hm
    refine va_put (D := D) (ci := 5) (v := .int s0) (ty := .int) (C := "FirmStoreModel") (T := F_Ref) (N := 12) hx hb hts iz_Ref t_Ref t_Ref_ok n_Ref hown hK hP hD hS 0 rfl rfl 9 (by decide) (hts _ q_546) (fun _ h9 => h9) rfl (by decide +kernel) rfl rfl (Nat.le_of_ble_eq_true rfl) d_Ref_remove_38 (fun H locs hP hD hS => ?_)
    have hP : va_P D clz (wdR G Y (rs_cd ua s0)) H := hP
    have hD : va_D A (wdR G Y (rs_cd ua s0)) := hD
    refine lv_aload_n hx hb d_Ref_remove_41 rfl (lv_at hl 0 rfl) ?_
    refine va_get (D := D) (ci := 5) (v := .int s0) (C := "FirmStoreModel") (T := F_Ref) (N := 12) hx hb hts iz_Ref hown hK hP 0 rfl rfl 9 (by decide) (hts _ q_546) (fun _ h9 => h9) rfl d_Ref_remove_42 ?_
    refine lv_if_le (tgt := 50) hx hb d_Ref_remove_45 (by decide) (fun hc => ?_) (fun hc => ?_)
    · rw [if_pos hc] at hm
      refine lv_aload_n hx hb d_Ref_remove_50 rfl (lv_at hl 0 rfl) ?_
      refine lv_iconst (v := (0 : Int32)) hx hb d_Ref_remove_51 (by decide) ?_
      refine va_put (D := D) (ci := 5) (v := .int (0 : Int32)) (ty := .boolean) (C := "FirmStoreModel") (T := F_Ref) (N := 12) hx hb hts iz_Ref t_Ref t_Ref_ok n_Ref hown hK hP hD hS 0 rfl rfl 8 (by decide) (hts _ q_545) (fun _ h9 => h9) rfl (by decide +kernel) (nz (Or.inl rfl)) (by decide) (Nat.le_of_ble_eq_true rfl) d_Ref_remove_52 (fun H locs hP hD hS => ?_)
      have hP : va_P D clz (wdR G Y (rs_br (rs_cd ua s0) (0 : Int32))) H := hP
      have hD : va_D A (wdR G Y (rs_br (rs_cd ua s0) (0 : Int32))) := hD
      refine lv_aload_n hx hb d_Ref_remove_55 rfl (lv_at hl 0 rfl) ?_
      refine lv_iload_n hx hb d_Ref_remove_56 rfl (lv_at hl 1 rfl) ?_
      refine lv_iload_n hx hb d_Ref_remove_57 rfl (lv_at hl 2 rfl) ?_
      obtain ⟨r9, u10, h11, hm⟩ := ob_some hm
      refine goVI (As := [.int x1, .int x2]) (rest := []) (b0 := G 0) 0 C0 (k_Ref_read l D G Y h11) q_713 q_6 q_710 q_712 qs_53 e_Ref_read (by decide) rfl rfl hP hD hS hl.1 rfl (Nat.le_of_ble_eq_true rfl) d_Ref_remove_58 (fun H locs hP hD hS => ?_)
      refine lv_istore_n (lv' := [(3, .int r9), (0, .ref (G 0)), (1, .int x1), (2, .int x2)]) hx hb d_Ref_remove_61 rfl hl (by decide) rfl (fun ls hl => ?_)
      refine lv_iload_n hx hb d_Ref_remove_62 rfl (lv_at hl 2 rfl) ?_
      refine lv_iconst (v := (1 : Int32)) hx hb d_Ref_remove_63 (by decide) ?_
      refine lv_icmp_ne (tgt := 76) hx hb d_Ref_remove_64 (by decide) (fun hc => ?_) (fun hc => ?_)
      · rw [if_neg hc] at hm
        refine lv_aload_n hx hb d_Ref_remove_76 rfl (lv_at hl 1 rfl) ?_
        refine lv_iload_n hx hb d_Ref_remove_77 rfl (lv_at hl 0 rfl) ?_
        refine lv_bipush (v := (9 : Int32)) hx hb d_Ref_remove_78 (by decide) ?_
        refine lv_idiv hx hb d_Ref_remove_80 (by decide) ?_
        refine lv_iload_n hx hb d_Ref_remove_81 rfl (lv_at hl 0 rfl) ?_
        refine lv_bipush (v := (9 : Int32)) hx hb d_Ref_remove_82 (by decide) ?_
        refine lv_irem hx hb d_Ref_remove_84 (by decide) ?_
        refine lv_iconst (v := (3 : Int32)) hx hb d_Ref_remove_85 (by decide) ?_
        refine lv_isub hx hb d_Ref_remove_86 ?_
        obtain ⟨r13, u14, h15, hm⟩ := ob_some hm
        refine goVV (As := [.int (r9 / (9 : Int32)), .int ((r9 - r9 / (9 : Int32) * (9 : Int32)) - (3 : Int32))]) (rest := []) (b0 := G 0) 0 C0 (k_Ref_drop l D G Y h15) q_717 q_6 q_714 q_716 qs_54 e_Ref_drop (by decide) rfl rfl hP hD hS hl.1 rfl (Nat.le_of_ble_eq_true rfl) d_Ref_remove_87 (fun H locs hP hD hS => ?_)
        refine lv_aload_n hx hb d_Ref_remove_90 rfl (lv_at hl 1 rfl) ?_
        refine va_get (D := D) (ci := 5) (v := .int (rg_br u14)) (C := "FirmStoreModel") (T := F_Ref) (N := 12) hx hb hts iz_Ref hown hK hP 0 rfl rfl 8 (by decide) (hts _ q_545) (fun _ h9 => h9) rfl d_Ref_remove_91 ?_
        refine lv_if_eq (tgt := 102) hx hb d_Ref_remove_94 (by decide) (fun hc => ?_) (fun hc => ?_)
        · rw [if_pos hc] at hm
          refine lv_iconst (v := (1 : Int32)) hx hb d_Ref_remove_102 (by decide) ?_
          exact hret _ _ _ _ (1 : Int32) u14 (Option.some.inj hm) hP hD hS d_Ref_remove_103
        · rw [if_neg hc] at hm
          refine lv_bipush (v := (-2 : Int32)) hx hb d_Ref_remove_97 (by decide) ?_
          refine lv_goto (tgt := 103) hx hb d_Ref_remove_99 (by decide) ?_
          exact hret _ _ _ _ (-2 : Int32) u14 (Option.some.inj hm) hP hD hS d_Ref_remove_103
      · rw [if_pos hc] at hm
        refine lv_aload_n hx hb d_Ref_remove_67 rfl (lv_at hl 1 rfl) ?_
        refine lv_iload_n hx hb d_Ref_remove_68 rfl (lv_at hl 0 rfl) ?_
        refine lv_lconst (v := (0 : Int64)) hx hb d_Ref_remove_69 (by decide) ?_
        obtain ⟨r17, u18, h19, hm⟩ := ob_some hm
        refine goVV (As := [.int r9, .long (0 : Int64)]) (rest := []) (b0 := G 0) 0 C0 (k_Ref_firm l D G Y h19) q_650 q_6 q_647 q_649 qs_39 e_Ref_firm (by decide) rfl rfl hP hD hS hl.1 rfl (Nat.le_of_ble_eq_true rfl) d_Ref_remove_70 (fun H locs hP hD hS => ?_)
        refine lv_goto (tgt := 90) hx hb d_Ref_remove_73 (by decide) ?_
        refine lv_aload_n hx hb d_Ref_remove_90 rfl (lv_at hl 1 rfl) ?_
        refine va_get (D := D) (ci := 5) (v := .int (rg_br u18)) (C := "FirmStoreModel") (T := F_Ref) (N := 12) hx hb hts iz_Ref hown hK hP 0 rfl rfl 8 (by decide) (hts _ q_545) (fun _ h9 => h9) rfl d_Ref_remove_91 ?_
        refine lv_if_eq (tgt := 102) hx hb d_Ref_remove_94 (by decide) (fun hc => ?_) (fun hc => ?_)
        · rw [if_pos hc] at hm
          refine lv_iconst (v := (1 : Int32)) hx hb d_Ref_remove_102 (by decide) ?_
          exact hret _ _ _ _ (1 : Int32) u18 (Option.some.inj hm) hP hD hS d_Ref_remove_103
        · rw [if_neg hc] at hm
          refine lv_bipush (v := (-2 : Int32)) hx hb d_Ref_remove_97 (by decide) ?_
          refine lv_goto (tgt := 103) hx hb d_Ref_remove_99 (by decide) ?_
          exact hret _ _ _ _ (-2 : Int32) u18 (Option.some.inj hm) hP hD hS d_Ref_remove_103
    · rw [if_neg hc] at hm
      refine lv_iconst (v := (0 : Int32)) hx hb d_Ref_remove_48 (by decide) ?_
      exact hret _ _ _ _ (0 : Int32) (rs_cd ua s0) (Option.some.inj hm) hP hD hS d_Ref_remove_49
  rw [m_Ref_remove] at hm
  refine lv_aload_n hx hb d_Ref_remove_0 rfl (lv_at hl 0 rfl) ?_
  refine lv_iload_n hx hb d_Ref_remove_1 rfl (lv_at hl 1 rfl) ?_
  refine lv_iload_n hx hb d_Ref_remove_2 rfl (lv_at hl 2 rfl) ?_
  obtain ⟨r1, u2, h3, hm⟩ := ob_some hm
  refine goSZ (As := [.int a1, .int a2]) (rest := [.ref (G 0)]) C0 (k_Ref_isGood l D G Y h3) q_585 q_6 q_583 q_584 e_Ref_isGood (by decide) hP hD hS hl.1 rfl (Nat.le_of_ble_eq_true rfl) d_Ref_remove_3 (fun H locs hz4 hP hD hS => ?_)
  refine lv_if_ne (tgt := 13) hx hb d_Ref_remove_6 (by decide) (fun hc => ?_) (fun hc => ?_)
  · rw [if_neg hc] at hm
    refine lv_aload_n hx hb d_Ref_remove_13 rfl (lv_at hl 0 rfl) ?_
    refine va_get (D := D) (ci := 5) (v := .int (rg_dn u2)) (C := "FirmStoreModel") (T := F_Ref) (N := 12) hx hb hts iz_Ref hown hK hP 0 rfl rfl 7 (by decide) (hts _ q_544) (fun _ h9 => h9) rfl d_Ref_remove_14 ?_
    refine lv_if_eq (tgt := 24) hx hb d_Ref_remove_17 (by decide) (fun hc => ?_) (fun hc => ?_)
    · rw [if_pos hc] at hm
      refine lv_aload_n hx hb d_Ref_remove_24 rfl (lv_at hl 0 rfl) ?_
      refine lv_iload_n hx hb d_Ref_remove_25 rfl (lv_at hl 1 rfl) ?_
      refine lv_iload_n hx hb d_Ref_remove_26 rfl (lv_at hl 2 rfl) ?_
      obtain ⟨r5, u6, h7, hm⟩ := ob_some hm
      refine goVI (As := [.int a1, .int a2]) (rest := [.ref (G 0)]) (b0 := G 0) 0 C0 (k_Ref_read l D G Y h7) q_713 q_6 q_710 q_712 qs_53 e_Ref_read (by decide) rfl rfl hP hD hS hl.1 rfl (Nat.le_of_ble_eq_true rfl) d_Ref_remove_27 (fun H locs hP hD hS => ?_)
      refine lv_if_ge (tgt := 37) hx hb d_Ref_remove_30 (by decide) (fun hc => ?_) (fun hc => ?_)
      · rw [if_pos hc] at hm
        refine lv_iconst (v := (0 : Int32)) hx hb d_Ref_remove_37 (by decide) ?_
        exact J38 u6 a1 a2 (0 : Int32) hm _ _ _ hP hD hS (lv_sub hl [0, 1, 2] rfl)
      · rw [if_neg hc] at hm
        refine lv_iconst (v := (3 : Int32)) hx hb d_Ref_remove_33 (by decide) ?_
        refine lv_goto (tgt := 38) hx hb d_Ref_remove_34 (by decide) ?_
        exact J38 u6 a1 a2 (3 : Int32) hm _ _ _ hP hD hS (lv_sub hl [0, 1, 2] rfl)
    · rw [if_neg hc] at hm
      refine lv_iconst (v := (2 : Int32)) hx hb d_Ref_remove_20 (by decide) ?_
      refine lv_goto (tgt := 38) hx hb d_Ref_remove_21 (by decide) ?_
      exact J38 u2 a1 a2 (2 : Int32) hm _ _ _ hP hD hS (lv_sub hl [0, 1, 2] rfl)
  · rw [if_pos hc] at hm
    refine lv_iconst (v := (1 : Int32)) hx hb d_Ref_remove_9 (by decide) ?_
    refine lv_goto (tgt := 38) hx hb d_Ref_remove_10 (by decide) ?_
    exact J38 u2 a1 a2 (1 : Int32) hm _ _ _ hP hD hS (lv_sub hl [0, 1, 2] rfl)
theorem d_Ref_get_0 : decode b_Ref_get 0 = .ok (.aload_n 0, 1) := by decide +kernel
theorem d_Ref_get_1 : decode b_Ref_get 1 = .ok (.iload_n 1, 1) := by decide +kernel
theorem d_Ref_get_2 : decode b_Ref_get 2 = .ok (.iload_n 2, 1) := by decide +kernel
theorem d_Ref_get_3 : decode b_Ref_get 3 = .ok (.invokestatic 148, 3) := by decide +kernel
theorem d_Ref_get_6 : decode b_Ref_get 6 = .ok (.ifCond .ne 7, 3) := by decide +kernel
theorem d_Ref_get_9 : decode b_Ref_get 9 = .ok (.iconst 1, 1) := by decide +kernel
theorem d_Ref_get_10 : decode b_Ref_get 10 = .ok (.goto 17, 3) := by decide +kernel
theorem d_Ref_get_13 : decode b_Ref_get 13 = .ok (.aload_n 0, 1) := by decide +kernel
theorem d_Ref_get_14 : decode b_Ref_get 14 = .ok (.iload_n 1, 1) := by decide +kernel
theorem d_Ref_get_15 : decode b_Ref_get 15 = .ok (.iload_n 2, 1) := by decide +kernel
theorem d_Ref_get_16 : decode b_Ref_get 16 = .ok (.invokevirtual 158, 3) := by decide +kernel
theorem d_Ref_get_19 : decode b_Ref_get 19 = .ok (.ifCond .ge 7, 3) := by decide +kernel
theorem d_Ref_get_22 : decode b_Ref_get 22 = .ok (.iconst 2, 1) := by decide +kernel
theorem d_Ref_get_23 : decode b_Ref_get 23 = .ok (.goto 4, 3) := by decide +kernel
theorem d_Ref_get_26 : decode b_Ref_get 26 = .ok (.iconst 0, 1) := by decide +kernel
theorem d_Ref_get_27 : decode b_Ref_get 27 = .ok (.putfield 31, 3) := by decide +kernel
theorem d_Ref_get_30 : decode b_Ref_get 30 = .ok (.aload_n 0, 1) := by decide +kernel
theorem d_Ref_get_31 : decode b_Ref_get 31 = .ok (.getfield 31, 3) := by decide +kernel
theorem d_Ref_get_34 : decode b_Ref_get 34 = .ok (.ifCond .le 7, 3) := by decide +kernel
theorem d_Ref_get_37 : decode b_Ref_get 37 = .ok (.iconst 0, 1) := by decide +kernel
theorem d_Ref_get_38 : decode b_Ref_get 38 = .ok (.goto 15, 3) := by decide +kernel
theorem d_Ref_get_41 : decode b_Ref_get 41 = .ok (.aload_n 0, 1) := by decide +kernel
theorem d_Ref_get_42 : decode b_Ref_get 42 = .ok (.getfield 7, 3) := by decide +kernel
theorem d_Ref_get_45 : decode b_Ref_get 45 = .ok (.aload_n 0, 1) := by decide +kernel
theorem d_Ref_get_46 : decode b_Ref_get 46 = .ok (.iload_n 1, 1) := by decide +kernel
theorem d_Ref_get_47 : decode b_Ref_get 47 = .ok (.iload_n 2, 1) := by decide +kernel
theorem d_Ref_get_48 : decode b_Ref_get 48 = .ok (.invokevirtual 158, 3) := by decide +kernel
theorem d_Ref_get_51 : decode b_Ref_get 51 = .ok (.laload, 1) := by decide +kernel
theorem d_Ref_get_52 : decode b_Ref_get 52 = .ok (.l2i, 1) := by decide +kernel
theorem d_Ref_get_53 : decode b_Ref_get 53 = .ok (.ireturn, 1) := by decide +kernel
set_option maxRecDepth 100000 in
set_option maxHeartbeats 4000000 in
theorem k_Ref_get (l : Launch) (D : va_G) (G : Nat → Nat) (Y : Nat → ClassId) {u : SR} {a1 : Int32} {a2 : Int32} {r : Int32} {u' : SR} (hm : m_Ref_get u a1 a2 = some (r, u')) : KI l D clz (tyz Y) (wdR G Y) y_Ref_get b_Ref_get 3 (some .int) 5 117 [.ref (G 0), .int a1, .int a2] u r u' := by
  refine mkI (by decide) (Nat.le_of_ble_eq_true rfl) ?_
  intro p e s m below meth c A Z ls C0 hP hD hS hl hret
  obtain ⟨hx, hb, hml, hown, hts, hK, hN, hA⟩ := id C0
  have hl : lv_has ls 3 [(0, .ref (G 0)), (1, .int a1), (2, .int a2)] := hl
  have J27 : ∀ (ua : SR) (x1 : Int32) (x2 : Int32) (s0 : Int32), m_Ref_get_J27 ua x1 x2 s0 = some (r, u') → ∀ (H : Heap) (locs : List Loc) (ls : Array Slot), va_P D clz (wdR G Y ua) H → va_D A (wdR G Y ua) → va_S A s.heap H locs → lv_has ls 3 [(0, .ref (G 0)), (1, .int x1), (2, .int x2)] → W p l e (zRm 5 117) s m ([.ref (G 0), .int a1, .int a2] : List Value).toArray below meth c H locs 0 0 Z (F0 m 27 ls [.int s0, .ref (G 0)]) := by
    intro ua x1 x2 s0 hm H locs ls hP hD hS hl
    rw [m_Ref_get_J27] at hm
    refine va_put (D := D) (ci := 5) (v := .int s0) (ty := .int) (C := "FirmStoreModel") (T := F_Ref) (N := 12) hx hb hts iz_Ref t_Ref t_Ref_ok n_Ref hown hK hP hD hS 0 rfl rfl 9 (by decide) (hts _ q_546) (fun _ h9 => h9) rfl (by decide +kernel) rfl rfl (Nat.le_of_ble_eq_true rfl) d_Ref_get_27 (fun H locs hP hD hS => ?_)
    have hP : va_P D clz (wdR G Y (rs_cd ua s0)) H := hP
    have hD : va_D A (wdR G Y (rs_cd ua s0)) := hD
    refine lv_aload_n hx hb d_Ref_get_30 rfl (lv_at hl 0 rfl) ?_
    refine va_get (D := D) (ci := 5) (v := .int s0) (C := "FirmStoreModel") (T := F_Ref) (N := 12) hx hb hts iz_Ref hown hK hP 0 rfl rfl 9 (by decide) (hts _ q_546) (fun _ h9 => h9) rfl d_Ref_get_31 ?_
    refine lv_if_le (tgt := 41) hx hb d_Ref_get_34 (by decide) (fun hc => ?_) (fun hc => ?_)
    · rw [if_pos hc] at hm
      refine lv_aload_n hx hb d_Ref_get_41 rfl (lv_at hl 0 rfl) ?_
      refine va_get (D := D) (ci := 5) (v := .ref (G 1)) (C := "FirmStoreModel") (T := F_Ref) (N := 12) hx hb hts iz_Ref hown hK hP 0 rfl rfl 0 (by decide) (hts _ q_537) (fun _ h9 => h9) rfl d_Ref_get_42 ?_
      refine lv_aload_n hx hb d_Ref_get_45 rfl (lv_at hl 0 rfl) ?_
      refine lv_iload_n hx hb d_Ref_get_46 rfl (lv_at hl 1 rfl) ?_
      refine lv_iload_n hx hb d_Ref_get_47 rfl (lv_at hl 2 rfl) ?_
      obtain ⟨r9, u10, h11, hm⟩ := ob_some hm
      refine goVI (As := [.int x1, .int x2]) (rest := [.ref (G 1)]) (b0 := G 0) 0 C0 (k_Ref_read l D G Y h11) q_713 q_6 q_710 q_712 qs_53 e_Ref_read (by decide) rfl rfl hP hD hS hl.1 rfl (Nat.le_of_ble_eq_true rfl) d_Ref_get_48 (fun H locs hP hD hS => ?_)
      obtain ⟨hg, hm⟩ := gd hm
      refine va_lald hx hb hK hP 1 0 (f := (rg_mem u10)) rfl rfl (inb_in hg) d_Ref_get_51 ?_
      refine lv_l2i (v := (((rg_mem u10) r9.toNatClampNeg).toInt32)) hx hb d_Ref_get_52 rfl ?_
      exact hret _ _ _ _ (((rg_mem u10) r9.toNatClampNeg).toInt32) u10 (Option.some.inj hm) hP hD hS d_Ref_get_53
    · rw [if_neg hc] at hm
      refine lv_iconst (v := (0 : Int32)) hx hb d_Ref_get_37 (by decide) ?_
      refine lv_goto (tgt := 53) hx hb d_Ref_get_38 (by decide) ?_
      exact hret _ _ _ _ (0 : Int32) (rs_cd ua s0) (Option.some.inj hm) hP hD hS d_Ref_get_53
  rw [m_Ref_get] at hm
  refine lv_aload_n hx hb d_Ref_get_0 rfl (lv_at hl 0 rfl) ?_
  refine lv_iload_n hx hb d_Ref_get_1 rfl (lv_at hl 1 rfl) ?_
  refine lv_iload_n hx hb d_Ref_get_2 rfl (lv_at hl 2 rfl) ?_
  obtain ⟨r1, u2, h3, hm⟩ := ob_some hm
  refine goSZ (As := [.int a1, .int a2]) (rest := [.ref (G 0)]) C0 (k_Ref_isGood l D G Y h3) q_585 q_6 q_583 q_584 e_Ref_isGood (by decide) hP hD hS hl.1 rfl (Nat.le_of_ble_eq_true rfl) d_Ref_get_3 (fun H locs hz4 hP hD hS => ?_)
  refine lv_if_ne (tgt := 13) hx hb d_Ref_get_6 (by decide) (fun hc => ?_) (fun hc => ?_)
  · rw [if_neg hc] at hm
    refine lv_aload_n hx hb d_Ref_get_13 rfl (lv_at hl 0 rfl) ?_
    refine lv_iload_n hx hb d_Ref_get_14 rfl (lv_at hl 1 rfl) ?_
    refine lv_iload_n hx hb d_Ref_get_15 rfl (lv_at hl 2 rfl) ?_
    obtain ⟨r5, u6, h7, hm⟩ := ob_some hm
    refine goVI (As := [.int a1, .int a2]) (rest := [.ref (G 0)]) (b0 := G 0) 0 C0 (k_Ref_read l D G Y h7) q_713 q_6 q_710 q_712 qs_53 e_Ref_read (by decide) rfl rfl hP hD hS hl.1 rfl (Nat.le_of_ble_eq_true rfl) d_Ref_get_16 (fun H locs hP hD hS => ?_)
    refine lv_if_ge (tgt := 26) hx hb d_Ref_get_19 (by decide) (fun hc => ?_) (fun hc => ?_)
    · rw [if_pos hc] at hm
      refine lv_iconst (v := (0 : Int32)) hx hb d_Ref_get_26 (by decide) ?_
      exact J27 u6 a1 a2 (0 : Int32) hm _ _ _ hP hD hS (lv_sub hl [0, 1, 2] rfl)
    · rw [if_neg hc] at hm
      refine lv_iconst (v := (2 : Int32)) hx hb d_Ref_get_22 (by decide) ?_
      refine lv_goto (tgt := 27) hx hb d_Ref_get_23 (by decide) ?_
      exact J27 u6 a1 a2 (2 : Int32) hm _ _ _ hP hD hS (lv_sub hl [0, 1, 2] rfl)
  · rw [if_pos hc] at hm
    refine lv_iconst (v := (1 : Int32)) hx hb d_Ref_get_9 (by decide) ?_
    refine lv_goto (tgt := 27) hx hb d_Ref_get_10 (by decide) ?_
    exact J27 u2 a1 a2 (1 : Int32) hm _ _ _ hP hD hS (lv_sub hl [0, 1, 2] rfl)
theorem d_Ref_isRead_0 : decode b_Ref_isRead 0 = .ok (.aload_n 0, 1) := by decide +kernel
theorem d_Ref_isRead_1 : decode b_Ref_isRead 1 = .ok (.getfield 7, 3) := by decide +kernel
theorem d_Ref_isRead_4 : decode b_Ref_isRead 4 = .ok (.iload_n 2, 1) := by decide +kernel
theorem d_Ref_isRead_5 : decode b_Ref_isRead 5 = .ok (.laload, 1) := by decide +kernel
theorem d_Ref_isRead_6 : decode b_Ref_isRead 6 = .ok (.lconst 0, 1) := by decide +kernel
theorem d_Ref_isRead_7 : decode b_Ref_isRead 7 = .ok (.lcmp, 1) := by decide +kernel
theorem d_Ref_isRead_8 : decode b_Ref_isRead 8 = .ok (.ifCond .ne 5, 3) := by decide +kernel
theorem d_Ref_isRead_11 : decode b_Ref_isRead 11 = .ok (.iconst 0, 1) := by decide +kernel
theorem d_Ref_isRead_12 : decode b_Ref_isRead 12 = .ok (.ireturn, 1) := by decide +kernel
theorem d_Ref_isRead_13 : decode b_Ref_isRead 13 = .ok (.aload_n 0, 1) := by decide +kernel
theorem d_Ref_isRead_14 : decode b_Ref_isRead 14 = .ok (.getfield 7, 3) := by decide +kernel
theorem d_Ref_isRead_17 : decode b_Ref_isRead 17 = .ok (.iload_n 2, 1) := by decide +kernel
theorem d_Ref_isRead_18 : decode b_Ref_isRead 18 = .ok (.laload, 1) := by decide +kernel
theorem d_Ref_isRead_19 : decode b_Ref_isRead 19 = .ok (.invokestatic 68, 3) := by decide +kernel
theorem d_Ref_isRead_22 : decode b_Ref_isRead 22 = .ok (.istore_n 3, 1) := by decide +kernel
theorem d_Ref_isRead_23 : decode b_Ref_isRead 23 = .ok (.iload_n 3, 1) := by decide +kernel
theorem d_Ref_isRead_24 : decode b_Ref_isRead 24 = .ok (.ifCond .lt 24, 3) := by decide +kernel
theorem d_Ref_isRead_27 : decode b_Ref_isRead 27 = .ok (.iload_n 3, 1) := by decide +kernel
theorem d_Ref_isRead_28 : decode b_Ref_isRead 28 = .ok (.sipush 999, 3) := by decide +kernel
theorem d_Ref_isRead_31 : decode b_Ref_isRead 31 = .ok (.if_icmp .gt 17, 3) := by decide +kernel
theorem d_Ref_isRead_34 : decode b_Ref_isRead 34 = .ok (.aload_n 0, 1) := by decide +kernel
theorem d_Ref_isRead_35 : decode b_Ref_isRead 35 = .ok (.iload_n 1, 1) := by decide +kernel
theorem d_Ref_isRead_36 : decode b_Ref_isRead 36 = .ok (.iload_n 3, 1) := by decide +kernel
theorem d_Ref_isRead_37 : decode b_Ref_isRead 37 = .ok (.invokevirtual 158, 3) := by decide +kernel
theorem d_Ref_isRead_40 : decode b_Ref_isRead 40 = .ok (.iload_n 2, 1) := by decide +kernel
theorem d_Ref_isRead_41 : decode b_Ref_isRead 41 = .ok (.if_icmp .ne 7, 3) := by decide +kernel
theorem d_Ref_isRead_44 : decode b_Ref_isRead 44 = .ok (.iconst 1, 1) := by decide +kernel
theorem d_Ref_isRead_45 : decode b_Ref_isRead 45 = .ok (.goto 4, 3) := by decide +kernel
theorem d_Ref_isRead_48 : decode b_Ref_isRead 48 = .ok (.iconst 0, 1) := by decide +kernel
theorem d_Ref_isRead_49 : decode b_Ref_isRead 49 = .ok (.ireturn, 1) := by decide +kernel
set_option maxRecDepth 100000 in
set_option maxHeartbeats 4000000 in
theorem k_Ref_isRead (l : Launch) (D : va_G) (G : Nat → Nat) (Y : Nat → ClassId) {u : SR} {a1 : Int32} {a2 : Int32} {r : Int32} {u' : SR} (hm : m_Ref_isRead u a1 a2 = some (r, u')) : KZ l D clz (tyz Y) (wdR G Y) y_Ref_isRead b_Ref_isRead 4 (some .boolean) 5 117 [.ref (G 0), .int a1, .int a2] u r u' := by
  refine mkZ (by decide) (Nat.le_of_ble_eq_true rfl) ?_
  intro p e s m below meth c A Z ls C0 hP hD hS hl hret
  obtain ⟨hx, hb, hml, hown, hts, hK, hN, hA⟩ := id C0
  have hl : lv_has ls 4 [(0, .ref (G 0)), (1, .int a1), (2, .int a2)] := hl
  rw [m_Ref_isRead] at hm
  refine lv_aload_n hx hb d_Ref_isRead_0 rfl (lv_at hl 0 rfl) ?_
  refine va_get (D := D) (ci := 5) (v := .ref (G 1)) (C := "FirmStoreModel") (T := F_Ref) (N := 12) hx hb hts iz_Ref hown hK hP 0 rfl rfl 0 (by decide) (hts _ q_537) (fun _ h9 => h9) rfl d_Ref_isRead_1 ?_
  refine lv_iload_n hx hb d_Ref_isRead_4 rfl (lv_at hl 2 rfl) ?_
  obtain ⟨hg, hm⟩ := gd hm
  refine va_lald hx hb hK hP 1 0 (f := (rg_mem u)) rfl rfl (inb_in hg) d_Ref_isRead_5 ?_
  refine lv_lconst (v := (0 : Int64)) hx hb d_Ref_isRead_6 (by decide) ?_
  refine W.lcmp hx hb d_Ref_isRead_7 ?_
  refine lv_if_ne (tgt := 13) hx hb d_Ref_isRead_8 (by decide) (fun hc => ?_) (fun hc => ?_)
  · rw [if_neg hc] at hm
    refine lv_aload_n hx hb d_Ref_isRead_13 rfl (lv_at hl 0 rfl) ?_
    refine va_get (D := D) (ci := 5) (v := .ref (G 1)) (C := "FirmStoreModel") (T := F_Ref) (N := 12) hx hb hts iz_Ref hown hK hP 0 rfl rfl 0 (by decide) (hts _ q_537) (fun _ h9 => h9) rfl d_Ref_isRead_14 ?_
    refine lv_iload_n hx hb d_Ref_isRead_17 rfl (lv_at hl 2 rfl) ?_
    obtain ⟨hg, hm⟩ := gd hm
    refine va_lald hx hb hK hP 1 0 (f := (rg_mem u)) rfl rfl (inb_in hg) d_Ref_isRead_18 ?_
    obtain ⟨r1, u2, h3, hm⟩ := ob_some hm
    refine goSI (As := [.long ((rg_mem u) a2.toNatClampNeg)]) (rest := []) C0 (k_Ref_keyOf l D G Y h3) q_669 q_6 q_667 q_668 e_Ref_keyOf (by decide) hP hD hS hl.1 rfl (Nat.le_of_ble_eq_true rfl) d_Ref_isRead_19 (fun H locs hP hD hS => ?_)
    refine lv_istore_n (lv' := [(3, .int r1), (0, .ref (G 0)), (1, .int a1), (2, .int a2)]) hx hb d_Ref_isRead_22 rfl hl (by decide) rfl (fun ls hl => ?_)
    refine lv_iload_n hx hb d_Ref_isRead_23 rfl (lv_at hl 0 rfl) ?_
    refine lv_if_lt (tgt := 48) hx hb d_Ref_isRead_24 (by decide) (fun hc => ?_) (fun hc => ?_)
    · rw [if_pos hc] at hm
      refine lv_iconst (v := (0 : Int32)) hx hb d_Ref_isRead_48 (by decide) ?_
      exact hret _ _ _ _ (0 : Int32) u2 (Option.some.inj hm) (Or.inl rfl) hP hD hS d_Ref_isRead_49
    · rw [if_neg hc] at hm
      refine lv_iload_n hx hb d_Ref_isRead_27 rfl (lv_at hl 0 rfl) ?_
      refine lv_sipush (v := (999 : Int32)) hx hb d_Ref_isRead_28 (by decide) ?_
      refine lv_icmp_gt (tgt := 48) hx hb d_Ref_isRead_31 (by decide) (fun hc => ?_) (fun hc => ?_)
      · rw [if_pos hc] at hm
        refine lv_iconst (v := (0 : Int32)) hx hb d_Ref_isRead_48 (by decide) ?_
        exact hret _ _ _ _ (0 : Int32) u2 (Option.some.inj hm) (Or.inl rfl) hP hD hS d_Ref_isRead_49
      · rw [if_neg hc] at hm
        refine lv_aload_n hx hb d_Ref_isRead_34 rfl (lv_at hl 1 rfl) ?_
        refine lv_iload_n hx hb d_Ref_isRead_35 rfl (lv_at hl 2 rfl) ?_
        refine lv_iload_n hx hb d_Ref_isRead_36 rfl (lv_at hl 0 rfl) ?_
        obtain ⟨r5, u6, h7, hm⟩ := ob_some hm
        refine goVI (As := [.int a1, .int r1]) (rest := []) (b0 := G 0) 0 C0 (k_Ref_read l D G Y h7) q_713 q_6 q_710 q_712 qs_53 e_Ref_read (by decide) rfl rfl hP hD hS hl.1 rfl (Nat.le_of_ble_eq_true rfl) d_Ref_isRead_37 (fun H locs hP hD hS => ?_)
        refine lv_iload_n hx hb d_Ref_isRead_40 rfl (lv_at hl 3 rfl) ?_
        refine lv_icmp_ne (tgt := 48) hx hb d_Ref_isRead_41 (by decide) (fun hc => ?_) (fun hc => ?_)
        · rw [if_neg hc] at hm
          refine lv_iconst (v := (0 : Int32)) hx hb d_Ref_isRead_48 (by decide) ?_
          exact hret _ _ _ _ (0 : Int32) u6 (Option.some.inj hm) (Or.inl rfl) hP hD hS d_Ref_isRead_49
        · rw [if_pos hc] at hm
          refine lv_iconst (v := (1 : Int32)) hx hb d_Ref_isRead_44 (by decide) ?_
          refine lv_goto (tgt := 49) hx hb d_Ref_isRead_45 (by decide) ?_
          exact hret _ _ _ _ (1 : Int32) u6 (Option.some.inj hm) (Or.inr rfl) hP hD hS d_Ref_isRead_49
  · rw [if_pos hc] at hm
    refine lv_iconst (v := (0 : Int32)) hx hb d_Ref_isRead_11 (by decide) ?_
    exact hret _ _ _ _ (0 : Int32) u (Option.some.inj hm) (Or.inl rfl) hP hD hS d_Ref_isRead_12
theorem d_Ref_from_0 : decode b_Ref_from 0 = .ok (.aload_n 0, 1) := by decide +kernel
theorem d_Ref_from_1 : decode b_Ref_from 1 = .ok (.iload_n 1, 1) := by decide +kernel
theorem d_Ref_from_2 : decode b_Ref_from 2 = .ok (.ifCond .lt 10, 3) := by decide +kernel
theorem d_Ref_from_5 : decode b_Ref_from 5 = .ok (.iload_n 1, 1) := by decide +kernel
theorem d_Ref_from_6 : decode b_Ref_from 6 = .ok (.sipush 999, 3) := by decide +kernel
theorem d_Ref_from_9 : decode b_Ref_from 9 = .ok (.if_icmp .le 7, 3) := by decide +kernel
theorem d_Ref_from_12 : decode b_Ref_from 12 = .ok (.iconst 1, 1) := by decide +kernel
theorem d_Ref_from_13 : decode b_Ref_from 13 = .ok (.goto 4, 3) := by decide +kernel
theorem d_Ref_from_16 : decode b_Ref_from 16 = .ok (.iconst 0, 1) := by decide +kernel
theorem d_Ref_from_17 : decode b_Ref_from 17 = .ok (.putfield 31, 3) := by decide +kernel
theorem d_Ref_from_20 : decode b_Ref_from 20 = .ok (.sipush 1000, 3) := by decide +kernel
theorem d_Ref_from_23 : decode b_Ref_from 23 = .ok (.istore_n 2, 1) := by decide +kernel
theorem d_Ref_from_24 : decode b_Ref_from 24 = .ok (.iconst 1, 1) := by decide +kernel
theorem d_Ref_from_25 : decode b_Ref_from 25 = .ok (.istore_n 3, 1) := by decide +kernel
theorem d_Ref_from_26 : decode b_Ref_from 26 = .ok (.iload_n 3, 1) := by decide +kernel
theorem d_Ref_from_27 : decode b_Ref_from 27 = .ok (.bipush 30, 2) := by decide +kernel
theorem d_Ref_from_29 : decode b_Ref_from 29 = .ok (.if_icmp .gt 104, 3) := by decide +kernel
theorem d_Ref_from_32 : decode b_Ref_from 32 = .ok (.aload_n 0, 1) := by decide +kernel
theorem d_Ref_from_33 : decode b_Ref_from 33 = .ok (.getfield 31, 3) := by decide +kernel
theorem d_Ref_from_36 : decode b_Ref_from 36 = .ok (.ifCond .ne 97, 3) := by decide +kernel
theorem d_Ref_from_39 : decode b_Ref_from 39 = .ok (.iconst 0, 1) := by decide +kernel
theorem d_Ref_from_40 : decode b_Ref_from 40 = .ok (.istore 4, 2) := by decide +kernel
theorem d_Ref_from_42 : decode b_Ref_from 42 = .ok (.iload 4, 2) := by decide +kernel
theorem d_Ref_from_44 : decode b_Ref_from 44 = .ok (.bipush 6, 2) := by decide +kernel
theorem d_Ref_from_46 : decode b_Ref_from 46 = .ok (.if_icmp .ge 81, 3) := by decide +kernel
theorem d_Ref_from_49 : decode b_Ref_from 49 = .ok (.aload_n 0, 1) := by decide +kernel
theorem d_Ref_from_50 : decode b_Ref_from 50 = .ok (.iload_n 3, 1) := by decide +kernel
theorem d_Ref_from_51 : decode b_Ref_from 51 = .ok (.invokevirtual 84, 3) := by decide +kernel
theorem d_Ref_from_54 : decode b_Ref_from 54 = .ok (.ifCond .ne 73, 3) := by decide +kernel
theorem d_Ref_from_57 : decode b_Ref_from 57 = .ok (.bipush 9, 2) := by decide +kernel
theorem d_Ref_from_59 : decode b_Ref_from 59 = .ok (.iload_n 3, 1) := by decide +kernel
theorem d_Ref_from_60 : decode b_Ref_from 60 = .ok (.imul, 1) := by decide +kernel
theorem d_Ref_from_61 : decode b_Ref_from 61 = .ok (.iconst 3, 1) := by decide +kernel
theorem d_Ref_from_62 : decode b_Ref_from 62 = .ok (.iadd, 1) := by decide +kernel
theorem d_Ref_from_63 : decode b_Ref_from 63 = .ok (.iload 4, 2) := by decide +kernel
theorem d_Ref_from_65 : decode b_Ref_from 65 = .ok (.iadd, 1) := by decide +kernel
theorem d_Ref_from_66 : decode b_Ref_from 66 = .ok (.istore 5, 2) := by decide +kernel
theorem d_Ref_from_68 : decode b_Ref_from 68 = .ok (.aload_n 0, 1) := by decide +kernel
theorem d_Ref_from_69 : decode b_Ref_from 69 = .ok (.iconst 0, 1) := by decide +kernel
theorem d_Ref_from_70 : decode b_Ref_from 70 = .ok (.iload 5, 2) := by decide +kernel
theorem d_Ref_from_72 : decode b_Ref_from 72 = .ok (.invokevirtual 164, 3) := by decide +kernel
theorem d_Ref_from_75 : decode b_Ref_from 75 = .ok (.ifCond .eq 44, 3) := by decide +kernel
theorem d_Ref_from_78 : decode b_Ref_from 78 = .ok (.aload_n 0, 1) := by decide +kernel
theorem d_Ref_from_79 : decode b_Ref_from 79 = .ok (.getfield 7, 3) := by decide +kernel
theorem d_Ref_from_82 : decode b_Ref_from 82 = .ok (.iload 5, 2) := by decide +kernel
theorem d_Ref_from_84 : decode b_Ref_from 84 = .ok (.laload, 1) := by decide +kernel
theorem d_Ref_from_85 : decode b_Ref_from 85 = .ok (.invokestatic 68, 3) := by decide +kernel
theorem d_Ref_from_88 : decode b_Ref_from 88 = .ok (.iload_n 1, 1) := by decide +kernel
theorem d_Ref_from_89 : decode b_Ref_from 89 = .ok (.if_icmp .lt 30, 3) := by decide +kernel
theorem d_Ref_from_92 : decode b_Ref_from 92 = .ok (.aload_n 0, 1) := by decide +kernel
theorem d_Ref_from_93 : decode b_Ref_from 93 = .ok (.getfield 7, 3) := by decide +kernel
theorem d_Ref_from_96 : decode b_Ref_from 96 = .ok (.iload 5, 2) := by decide +kernel
theorem d_Ref_from_98 : decode b_Ref_from 98 = .ok (.laload, 1) := by decide +kernel
theorem d_Ref_from_99 : decode b_Ref_from 99 = .ok (.invokestatic 68, 3) := by decide +kernel
theorem d_Ref_from_102 : decode b_Ref_from 102 = .ok (.iload_n 2, 1) := by decide +kernel
theorem d_Ref_from_103 : decode b_Ref_from 103 = .ok (.if_icmp .ge 16, 3) := by decide +kernel
theorem d_Ref_from_106 : decode b_Ref_from 106 = .ok (.aload_n 0, 1) := by decide +kernel
theorem d_Ref_from_107 : decode b_Ref_from 107 = .ok (.getfield 7, 3) := by decide +kernel
theorem d_Ref_from_110 : decode b_Ref_from 110 = .ok (.iload 5, 2) := by decide +kernel
theorem d_Ref_from_112 : decode b_Ref_from 112 = .ok (.laload, 1) := by decide +kernel
theorem d_Ref_from_113 : decode b_Ref_from 113 = .ok (.invokestatic 68, 3) := by decide +kernel
theorem d_Ref_from_116 : decode b_Ref_from 116 = .ok (.goto 4, 3) := by decide +kernel
theorem d_Ref_from_119 : decode b_Ref_from 119 = .ok (.iload_n 2, 1) := by decide +kernel
theorem d_Ref_from_120 : decode b_Ref_from 120 = .ok (.istore_n 2, 1) := by decide +kernel
theorem d_Ref_from_121 : decode b_Ref_from 121 = .ok (.iinc 4 1, 3) := by decide +kernel
theorem d_Ref_from_124 : decode b_Ref_from 124 = .ok (.goto (-82), 3) := by decide +kernel
theorem d_Ref_from_127 : decode b_Ref_from 127 = .ok (.iinc 3 1, 3) := by decide +kernel
theorem d_Ref_from_130 : decode b_Ref_from 130 = .ok (.goto (-104), 3) := by decide +kernel
theorem d_Ref_from_133 : decode b_Ref_from 133 = .ok (.aload_n 0, 1) := by decide +kernel
theorem d_Ref_from_134 : decode b_Ref_from 134 = .ok (.aload_n 0, 1) := by decide +kernel
theorem d_Ref_from_135 : decode b_Ref_from 135 = .ok (.getfield 31, 3) := by decide +kernel
theorem d_Ref_from_138 : decode b_Ref_from 138 = .ok (.ifCond .ne 14, 3) := by decide +kernel
theorem d_Ref_from_141 : decode b_Ref_from 141 = .ok (.iload_n 2, 1) := by decide +kernel
theorem d_Ref_from_142 : decode b_Ref_from 142 = .ok (.sipush 1000, 3) := by decide +kernel
theorem d_Ref_from_145 : decode b_Ref_from 145 = .ok (.if_icmp .ne 7, 3) := by decide +kernel
theorem d_Ref_from_148 : decode b_Ref_from 148 = .ok (.iconst 2, 1) := by decide +kernel
theorem d_Ref_from_149 : decode b_Ref_from 149 = .ok (.goto 7, 3) := by decide +kernel
theorem d_Ref_from_152 : decode b_Ref_from 152 = .ok (.aload_n 0, 1) := by decide +kernel
theorem d_Ref_from_153 : decode b_Ref_from 153 = .ok (.getfield 31, 3) := by decide +kernel
theorem d_Ref_from_156 : decode b_Ref_from 156 = .ok (.putfield 31, 3) := by decide +kernel
theorem d_Ref_from_159 : decode b_Ref_from 159 = .ok (.aload_n 0, 1) := by decide +kernel
theorem d_Ref_from_160 : decode b_Ref_from 160 = .ok (.getfield 31, 3) := by decide +kernel
theorem d_Ref_from_163 : decode b_Ref_from 163 = .ok (.ifCond .le 7, 3) := by decide +kernel
theorem d_Ref_from_166 : decode b_Ref_from 166 = .ok (.iconst 0, 1) := by decide +kernel
theorem d_Ref_from_167 : decode b_Ref_from 167 = .ok (.goto 4, 3) := by decide +kernel
theorem d_Ref_from_170 : decode b_Ref_from 170 = .ok (.iload_n 2, 1) := by decide +kernel
theorem d_Ref_from_171 : decode b_Ref_from 171 = .ok (.ireturn, 1) := by decide +kernel
set_option maxRecDepth 100000 in
set_option maxHeartbeats 4000000 in
theorem k_Ref_from (l : Launch) (D : va_G) (G : Nat → Nat) (Y : Nat → ClassId) {u : SR} {a1 : Int32} {r : Int32} {u' : SR} (hm : m_Ref_from u a1 = some (r, u')) : KI l D clz (tyz Y) (wdR G Y) y_Ref_from b_Ref_from 6 (some .int) 6 140 [.ref (G 0), .int a1] u r u' := by
  refine mkI (by decide) (Nat.le_of_ble_eq_true rfl) ?_
  intro p e s m below meth c A Z ls C0 hP hD hS hl hret
  obtain ⟨hx, hb, hml, hown, hts, hK, hN, hA⟩ := id C0
  have hl : lv_has ls 6 [(0, .ref (G 0)), (1, .int a1)] := hl
  have L42 : ∀ (x1 : Int32) (x3 : Int32) (o : (Int32 × SR) ⊕ (Int32 × SR)) (kr : ∀ z, o = .inl z → z = (r, u')) (kx : ∀ (y2 : Int32) (ub : SR), o = .inr (y2, ub) → ∀ (H : Heap) (locs : List Loc) (ls : Array Slot), va_P D clz (wdR G Y ub) H → va_D A (wdR G Y ub) → va_S A s.heap H locs → lv_has ls 6 [(0, .ref (G 0)), (1, .int x1), (2, .int y2), (3, .int x3)] → W p l e (zRm 6 140) s m ([.ref (G 0), .int a1] : List Value).toArray below meth c H locs 0 0 Z (F0 m 127 ls [])) (n0 : Nat) (ua : SR) (x2 : Int32) (x4 : Int32), m_Ref_from_L42 n0 ua x2 x4 x1 x3 = some o → ∀ (H : Heap) (locs : List Loc) (ls : Array Slot), va_P D clz (wdR G Y ua) H → va_D A (wdR G Y ua) → va_S A s.heap H locs → lv_has ls 6 [(0, .ref (G 0)), (1, .int x1), (2, .int x2), (3, .int x3), (4, .int x4)] → W p l e (zRm 6 140) s m ([.ref (G 0), .int a1] : List Value).toArray below meth c H locs 0 0 Z (F0 m 42 ls []) := by
    intro x1 x3 o kr kx n0
    induction n0 with
    | zero => intro ua x2 x4 hm; rw [m_Ref_from_L42] at hm; cases hm
    | succ n0 ih =>
      intro ua x2 x4 hm H locs ls hP hD hS hl
      rw [m_Ref_from_L42] at hm
      refine lv_iload hx hb d_Ref_from_42 (lv_at hl 4 rfl) ?_
      refine lv_bipush (v := (6 : Int32)) hx hb d_Ref_from_44 (by decide) ?_
      refine lv_icmp_ge (tgt := 127) hx hb d_Ref_from_46 (by decide) (fun hc => ?_) (fun hc => ?_)
      · rw [if_pos hc] at hm
        exact kx x2 ua (Option.some.inj hm).symm _ _ _ hP hD hS (lv_sub hl [0, 1, 2, 3] rfl)
      · rw [if_neg hc] at hm
        refine lv_aload_n hx hb d_Ref_from_49 rfl (lv_at hl 0 rfl) ?_
        refine lv_iload_n hx hb d_Ref_from_50 rfl (lv_at hl 3 rfl) ?_
        obtain ⟨r1, u2, h3, hm⟩ := ob_some hm
        refine goVI (As := [.int x3]) (rest := []) (b0 := G 0) 0 C0 (k_Ref_level l D G Y h3) q_613 q_6 q_610 q_612 qs_31 e_Ref_level (by decide) rfl rfl hP hD hS hl.1 rfl (Nat.le_of_ble_eq_true rfl) d_Ref_from_51 (fun H locs hP hD hS => ?_)
        refine lv_if_ne (tgt := 127) hx hb d_Ref_from_54 (by decide) (fun hc => ?_) (fun hc => ?_)
        · rw [if_neg hc] at hm
          exact kx x2 u2 (Option.some.inj hm).symm _ _ _ hP hD hS (lv_sub hl [0, 1, 2, 3] rfl)
        · rw [if_pos hc] at hm
          refine lv_bipush (v := (9 : Int32)) hx hb d_Ref_from_57 (by decide) ?_
          refine lv_iload_n hx hb d_Ref_from_59 rfl (lv_at hl 3 rfl) ?_
          refine lv_imul hx hb d_Ref_from_60 ?_
          refine lv_iconst (v := (3 : Int32)) hx hb d_Ref_from_61 (by decide) ?_
          refine lv_iadd hx hb d_Ref_from_62 ?_
          refine lv_iload hx hb d_Ref_from_63 (lv_at hl 4 rfl) ?_
          refine lv_iadd hx hb d_Ref_from_65 ?_
          refine lv_istore (lv' := [(5, .int ((((9 : Int32) * x3) + (3 : Int32)) + x4)), (0, .ref (G 0)), (1, .int x1), (2, .int x2), (3, .int x3), (4, .int x4)]) hx hb d_Ref_from_66 hl (by decide) rfl (fun ls hl => ?_)
          refine lv_aload_n hx hb d_Ref_from_68 rfl (lv_at hl 1 rfl) ?_
          refine lv_iconst (v := (0 : Int32)) hx hb d_Ref_from_69 (by decide) ?_
          refine lv_iload hx hb d_Ref_from_70 (lv_at hl 0 rfl) ?_
          obtain ⟨r5, u6, h7, hm⟩ := ob_some hm
          refine goVZ (As := [.int (0 : Int32), .int ((((9 : Int32) * x3) + (3 : Int32)) + x4)]) (rest := []) (b0 := G 0) 0 C0 (k_Ref_isRead l D G Y h7) q_729 q_6 q_726 q_728 qs_55 e_Ref_isRead (by decide) rfl rfl hP hD hS hl.1 rfl (Nat.le_of_ble_eq_true rfl) d_Ref_from_72 (fun H locs hz8 hP hD hS => ?_)
          refine lv_if_eq (tgt := 119) hx hb d_Ref_from_75 (by decide) (fun hc => ?_) (fun hc => ?_)
          · rw [if_pos hc] at hm
            refine lv_iload_n hx hb d_Ref_from_119 rfl (lv_at hl 3 rfl) ?_
            refine lv_istore_n (lv' := [(2, .int x2), (5, .int ((((9 : Int32) * x3) + (3 : Int32)) + x4)), (0, .ref (G 0)), (1, .int x1), (3, .int x3), (4, .int x4)]) hx hb d_Ref_from_120 rfl hl (by decide) rfl (fun ls hl => ?_)
            refine lv_iinc (v := (x4 + (1 : Int32))) (lv' := [(4, .int (x4 + (1 : Int32))), (2, .int x2), (5, .int ((((9 : Int32) * x3) + (3 : Int32)) + x4)), (0, .ref (G 0)), (1, .int x1), (3, .int x3)]) hx hb d_Ref_from_121 hl (k := 5) rfl rfl (by decide) rfl (fun ls hl => ?_)
            refine lv_goto (tgt := 42) hx hb d_Ref_from_124 (by decide) ?_
            exact ih u6 x2 (x4 + (1 : Int32)) hm _ _ _ hP hD hS (lv_sub hl [3, 4, 1, 5, 0] rfl)
          · rw [if_neg hc] at hm
            refine lv_aload_n hx hb d_Ref_from_78 rfl (lv_at hl 1 rfl) ?_
            refine va_get (D := D) (ci := 5) (v := .ref (G 1)) (C := "FirmStoreModel") (T := F_Ref) (N := 12) hx hb hts iz_Ref hown hK hP 0 rfl rfl 0 (by decide) (hts _ q_537) (fun _ h9 => h9) rfl d_Ref_from_79 ?_
            refine lv_iload hx hb d_Ref_from_82 (lv_at hl 0 rfl) ?_
            obtain ⟨hg, hm⟩ := gd hm
            refine va_lald hx hb hK hP 1 0 (f := (rg_mem u6)) rfl rfl (inb_in hg) d_Ref_from_84 ?_
            obtain ⟨r9, u10, h11, hm⟩ := ob_some hm
            refine goSI (As := [.long ((rg_mem u6) ((((9 : Int32) * x3) + (3 : Int32)) + x4).toNatClampNeg)]) (rest := []) C0 (k_Ref_keyOf l D G Y h11) q_669 q_6 q_667 q_668 e_Ref_keyOf (by decide) hP hD hS hl.1 rfl (Nat.le_of_ble_eq_true rfl) d_Ref_from_85 (fun H locs hP hD hS => ?_)
            refine lv_iload_n hx hb d_Ref_from_88 rfl (lv_at hl 2 rfl) ?_
            refine lv_icmp_lt (tgt := 119) hx hb d_Ref_from_89 (by decide) (fun hc => ?_) (fun hc => ?_)
            · rw [if_pos hc] at hm
              refine lv_iload_n hx hb d_Ref_from_119 rfl (lv_at hl 3 rfl) ?_
              refine lv_istore_n (lv' := [(2, .int x2), (5, .int ((((9 : Int32) * x3) + (3 : Int32)) + x4)), (0, .ref (G 0)), (1, .int x1), (3, .int x3), (4, .int x4)]) hx hb d_Ref_from_120 rfl hl (by decide) rfl (fun ls hl => ?_)
              refine lv_iinc (v := (x4 + (1 : Int32))) (lv' := [(4, .int (x4 + (1 : Int32))), (2, .int x2), (5, .int ((((9 : Int32) * x3) + (3 : Int32)) + x4)), (0, .ref (G 0)), (1, .int x1), (3, .int x3)]) hx hb d_Ref_from_121 hl (k := 5) rfl rfl (by decide) rfl (fun ls hl => ?_)
              refine lv_goto (tgt := 42) hx hb d_Ref_from_124 (by decide) ?_
              exact ih u10 x2 (x4 + (1 : Int32)) hm _ _ _ hP hD hS (lv_sub hl [3, 4, 1, 5, 0] rfl)
            · rw [if_neg hc] at hm
              refine lv_aload_n hx hb d_Ref_from_92 rfl (lv_at hl 1 rfl) ?_
              refine va_get (D := D) (ci := 5) (v := .ref (G 1)) (C := "FirmStoreModel") (T := F_Ref) (N := 12) hx hb hts iz_Ref hown hK hP 0 rfl rfl 0 (by decide) (hts _ q_537) (fun _ h9 => h9) rfl d_Ref_from_93 ?_
              refine lv_iload hx hb d_Ref_from_96 (lv_at hl 0 rfl) ?_
              obtain ⟨hg, hm⟩ := gd hm
              refine va_lald hx hb hK hP 1 0 (f := (rg_mem u10)) rfl rfl (inb_in hg) d_Ref_from_98 ?_
              obtain ⟨r13, u14, h15, hm⟩ := ob_some hm
              refine goSI (As := [.long ((rg_mem u10) ((((9 : Int32) * x3) + (3 : Int32)) + x4).toNatClampNeg)]) (rest := []) C0 (k_Ref_keyOf l D G Y h15) q_669 q_6 q_667 q_668 e_Ref_keyOf (by decide) hP hD hS hl.1 rfl (Nat.le_of_ble_eq_true rfl) d_Ref_from_99 (fun H locs hP hD hS => ?_)
              refine lv_iload_n hx hb d_Ref_from_102 rfl (lv_at hl 3 rfl) ?_
              refine lv_icmp_ge (tgt := 119) hx hb d_Ref_from_103 (by decide) (fun hc => ?_) (fun hc => ?_)
              · rw [if_pos hc] at hm
                refine lv_iload_n hx hb d_Ref_from_119 rfl (lv_at hl 3 rfl) ?_
                refine lv_istore_n (lv' := [(2, .int x2), (5, .int ((((9 : Int32) * x3) + (3 : Int32)) + x4)), (0, .ref (G 0)), (1, .int x1), (3, .int x3), (4, .int x4)]) hx hb d_Ref_from_120 rfl hl (by decide) rfl (fun ls hl => ?_)
                refine lv_iinc (v := (x4 + (1 : Int32))) (lv' := [(4, .int (x4 + (1 : Int32))), (2, .int x2), (5, .int ((((9 : Int32) * x3) + (3 : Int32)) + x4)), (0, .ref (G 0)), (1, .int x1), (3, .int x3)]) hx hb d_Ref_from_121 hl (k := 5) rfl rfl (by decide) rfl (fun ls hl => ?_)
                refine lv_goto (tgt := 42) hx hb d_Ref_from_124 (by decide) ?_
                exact ih u14 x2 (x4 + (1 : Int32)) hm _ _ _ hP hD hS (lv_sub hl [3, 4, 1, 5, 0] rfl)
              · rw [if_neg hc] at hm
                refine lv_aload_n hx hb d_Ref_from_106 rfl (lv_at hl 1 rfl) ?_
                refine va_get (D := D) (ci := 5) (v := .ref (G 1)) (C := "FirmStoreModel") (T := F_Ref) (N := 12) hx hb hts iz_Ref hown hK hP 0 rfl rfl 0 (by decide) (hts _ q_537) (fun _ h9 => h9) rfl d_Ref_from_107 ?_
                refine lv_iload hx hb d_Ref_from_110 (lv_at hl 0 rfl) ?_
                obtain ⟨hg, hm⟩ := gd hm
                refine va_lald hx hb hK hP 1 0 (f := (rg_mem u14)) rfl rfl (inb_in hg) d_Ref_from_112 ?_
                obtain ⟨r17, u18, h19, hm⟩ := ob_some hm
                refine goSI (As := [.long ((rg_mem u14) ((((9 : Int32) * x3) + (3 : Int32)) + x4).toNatClampNeg)]) (rest := []) C0 (k_Ref_keyOf l D G Y h19) q_669 q_6 q_667 q_668 e_Ref_keyOf (by decide) hP hD hS hl.1 rfl (Nat.le_of_ble_eq_true rfl) d_Ref_from_113 (fun H locs hP hD hS => ?_)
                refine lv_goto (tgt := 120) hx hb d_Ref_from_116 (by decide) ?_
                refine lv_istore_n (lv' := [(2, .int r17), (5, .int ((((9 : Int32) * x3) + (3 : Int32)) + x4)), (0, .ref (G 0)), (1, .int x1), (3, .int x3), (4, .int x4)]) hx hb d_Ref_from_120 rfl hl (by decide) rfl (fun ls hl => ?_)
                refine lv_iinc (v := (x4 + (1 : Int32))) (lv' := [(4, .int (x4 + (1 : Int32))), (2, .int r17), (5, .int ((((9 : Int32) * x3) + (3 : Int32)) + x4)), (0, .ref (G 0)), (1, .int x1), (3, .int x3)]) hx hb d_Ref_from_121 hl (k := 5) rfl rfl (by decide) rfl (fun ls hl => ?_)
                refine lv_goto (tgt := 42) hx hb d_Ref_from_124 (by decide) ?_
                exact ih u18 r17 (x4 + (1 : Int32)) hm _ _ _ hP hD hS (lv_sub hl [3, 4, 1, 5, 0] rfl)
  have L26 : ∀ (x1 : Int32) (o : (Int32 × SR) ⊕ (Int32 × SR)) (kr : ∀ z, o = .inl z → z = (r, u')) (kx : ∀ (y2 : Int32) (ub : SR), o = .inr (y2, ub) → ∀ (H : Heap) (locs : List Loc) (ls : Array Slot), va_P D clz (wdR G Y ub) H → va_D A (wdR G Y ub) → va_S A s.heap H locs → lv_has ls 6 [(0, .ref (G 0)), (2, .int y2)] → W p l e (zRm 6 140) s m ([.ref (G 0), .int a1] : List Value).toArray below meth c H locs 0 0 Z (F0 m 133 ls [])) (n0 : Nat) (ua : SR) (x2 : Int32) (x3 : Int32), m_Ref_from_L26 n0 ua x2 x3 x1 = some o → ∀ (H : Heap) (locs : List Loc) (ls : Array Slot), va_P D clz (wdR G Y ua) H → va_D A (wdR G Y ua) → va_S A s.heap H locs → lv_has ls 6 [(0, .ref (G 0)), (1, .int x1), (2, .int x2), (3, .int x3)] → W p l e (zRm 6 140) s m ([.ref (G 0), .int a1] : List Value).toArray below meth c H locs 0 0 Z (F0 m 26 ls []) := by
    intro x1 o kr kx n0
    induction n0 with
    | zero => intro ua x2 x3 hm; rw [m_Ref_from_L26] at hm; cases hm
    | succ n0 ih =>
      intro ua x2 x3 hm H locs ls hP hD hS hl
      rw [m_Ref_from_L26] at hm
      refine lv_iload_n hx hb d_Ref_from_26 rfl (lv_at hl 3 rfl) ?_
      refine lv_bipush (v := (30 : Int32)) hx hb d_Ref_from_27 (by decide) ?_
      refine lv_icmp_gt (tgt := 133) hx hb d_Ref_from_29 (by decide) (fun hc => ?_) (fun hc => ?_)
      · rw [if_pos hc] at hm
        exact kx x2 ua (Option.some.inj hm).symm _ _ _ hP hD hS (lv_sub hl [0, 2] rfl)
      · rw [if_neg hc] at hm
        refine lv_aload_n hx hb d_Ref_from_32 rfl (lv_at hl 0 rfl) ?_
        refine va_get (D := D) (ci := 5) (v := .int (rg_cd ua)) (C := "FirmStoreModel") (T := F_Ref) (N := 12) hx hb hts iz_Ref hown hK hP 0 rfl rfl 9 (by decide) (hts _ q_546) (fun _ h9 => h9) rfl d_Ref_from_33 ?_
        refine lv_if_ne (tgt := 133) hx hb d_Ref_from_36 (by decide) (fun hc => ?_) (fun hc => ?_)
        · rw [if_neg hc] at hm
          exact kx x2 ua (Option.some.inj hm).symm _ _ _ hP hD hS (lv_sub hl [0, 2] rfl)
        · rw [if_pos hc] at hm
          refine lv_iconst (v := (0 : Int32)) hx hb d_Ref_from_39 (by decide) ?_
          refine lv_istore (lv' := [(4, .int (0 : Int32)), (0, .ref (G 0)), (1, .int x1), (2, .int x2), (3, .int x3)]) hx hb d_Ref_from_40 hl (by decide) rfl (fun ls hl => ?_)
          obtain ⟨qq, hq, hi, ho⟩ := ol1_some hm
          refine L42 x1 x3 qq (fun z hz => kr z (hi z hz).symm) (fun x21 u22 hz H locs ls hP hD hS hl => ?_) fz ua x2 (0 : Int32) hq _ _ _ hP hD hS (lv_sub hl [1, 2, 3, 4, 0] rfl)
          have hm := ho x21 u22 hz
          refine lv_iinc (v := (x3 + (1 : Int32))) (lv' := [(3, .int (x3 + (1 : Int32))), (0, .ref (G 0)), (1, .int x1), (2, .int x21)]) hx hb d_Ref_from_127 hl (k := 3) rfl rfl (by decide) rfl (fun ls hl => ?_)
          refine lv_goto (tgt := 26) hx hb d_Ref_from_130 (by decide) ?_
          exact ih u22 x21 (x3 + (1 : Int32)) hm _ _ _ hP hD hS (lv_sub hl [1, 2, 3, 0] rfl)
  have J152 : ∀ (ua : SR) (x2 : Int32), m_Ref_from_J152 ua x2 = some (r, u') → ∀ (H : Heap) (locs : List Loc) (ls : Array Slot), va_P D clz (wdR G Y ua) H → va_D A (wdR G Y ua) → va_S A s.heap H locs → lv_has ls 6 [(0, .ref (G 0)), (2, .int x2)] → W p l e (zRm 6 140) s m ([.ref (G 0), .int a1] : List Value).toArray below meth c H locs 0 0 Z (F0 m 152 ls [.ref (G 0)]) := by
    intro ua x2 hm H locs ls hP hD hS hl
    rw [m_Ref_from_J152] at hm
    refine lv_aload_n hx hb d_Ref_from_152 rfl (lv_at hl 0 rfl) ?_
    refine va_get (D := D) (ci := 5) (v := .int (rg_cd ua)) (C := "FirmStoreModel") (T := F_Ref) (N := 12) hx hb hts iz_Ref hown hK hP 0 rfl rfl 9 (by decide) (hts _ q_546) (fun _ h9 => h9) rfl d_Ref_from_153 ?_
    refine va_put (D := D) (ci := 5) (v := .int (rg_cd ua)) (ty := .int) (C := "FirmStoreModel") (T := F_Ref) (N := 12) hx hb hts iz_Ref t_Ref t_Ref_ok n_Ref hown hK hP hD hS 0 rfl rfl 9 (by decide) (hts _ q_546) (fun _ h9 => h9) rfl (by decide +kernel) rfl rfl (Nat.le_of_ble_eq_true rfl) d_Ref_from_156 (fun H locs hP hD hS => ?_)
    have hP : va_P D clz (wdR G Y (rs_cd ua (rg_cd ua))) H := hP
    have hD : va_D A (wdR G Y (rs_cd ua (rg_cd ua))) := hD
    refine lv_aload_n hx hb d_Ref_from_159 rfl (lv_at hl 0 rfl) ?_
    refine va_get (D := D) (ci := 5) (v := .int (rg_cd ua)) (C := "FirmStoreModel") (T := F_Ref) (N := 12) hx hb hts iz_Ref hown hK hP 0 rfl rfl 9 (by decide) (hts _ q_546) (fun _ h9 => h9) rfl d_Ref_from_160 ?_
    refine lv_if_le (tgt := 170) hx hb d_Ref_from_163 (by decide) (fun hc => ?_) (fun hc => ?_)
    · rw [if_pos hc] at hm
      refine lv_iload_n hx hb d_Ref_from_170 rfl (lv_at hl 1 rfl) ?_
      exact hret _ _ _ _ x2 (rs_cd ua (rg_cd ua)) (Option.some.inj hm) hP hD hS d_Ref_from_171
    · rw [if_neg hc] at hm
      refine lv_iconst (v := (0 : Int32)) hx hb d_Ref_from_166 (by decide) ?_
      refine lv_goto (tgt := 171) hx hb d_Ref_from_167 (by decide) ?_
      exact hret _ _ _ _ (0 : Int32) (rs_cd ua (rg_cd ua)) (Option.some.inj hm) hP hD hS d_Ref_from_171
  have J17 : ∀ (ua : SR) (x1 : Int32) (s0 : Int32), m_Ref_from_J17 ua x1 s0 = some (r, u') → ∀ (H : Heap) (locs : List Loc) (ls : Array Slot), va_P D clz (wdR G Y ua) H → va_D A (wdR G Y ua) → va_S A s.heap H locs → lv_has ls 6 [(0, .ref (G 0)), (1, .int x1)] → W p l e (zRm 6 140) s m ([.ref (G 0), .int a1] : List Value).toArray below meth c H locs 0 0 Z (F0 m 17 ls [.int s0, .ref (G 0)]) := by
    intro ua x1 s0 hm H locs ls hP hD hS hl
    rw [m_Ref_from_J17] at hm
    refine va_put (D := D) (ci := 5) (v := .int s0) (ty := .int) (C := "FirmStoreModel") (T := F_Ref) (N := 12) hx hb hts iz_Ref t_Ref t_Ref_ok n_Ref hown hK hP hD hS 0 rfl rfl 9 (by decide) (hts _ q_546) (fun _ h9 => h9) rfl (by decide +kernel) rfl rfl (Nat.le_of_ble_eq_true rfl) d_Ref_from_17 (fun H locs hP hD hS => ?_)
    have hP : va_P D clz (wdR G Y (rs_cd ua s0)) H := hP
    have hD : va_D A (wdR G Y (rs_cd ua s0)) := hD
    refine lv_sipush (v := (1000 : Int32)) hx hb d_Ref_from_20 (by decide) ?_
    refine lv_istore_n (lv' := [(2, .int (1000 : Int32)), (0, .ref (G 0)), (1, .int x1)]) hx hb d_Ref_from_23 rfl hl (by decide) rfl (fun ls hl => ?_)
    refine lv_iconst (v := (1 : Int32)) hx hb d_Ref_from_24 (by decide) ?_
    refine lv_istore_n (lv' := [(3, .int (1 : Int32)), (2, .int (1000 : Int32)), (0, .ref (G 0)), (1, .int x1)]) hx hb d_Ref_from_25 rfl hl (by decide) rfl (fun ls hl => ?_)
    obtain ⟨qq, hq, hi, ho⟩ := ol1_some hm
    refine L26 x1 qq (fun z hz => hi z hz) (fun x23 u24 hz H locs ls hP hD hS hl => ?_) fz (rs_cd ua s0) (1000 : Int32) (1 : Int32) hq _ _ _ hP hD hS (lv_sub hl [2, 3, 1, 0] rfl)
    have hm := ho x23 u24 hz
    refine lv_aload_n hx hb d_Ref_from_133 rfl (lv_at hl 0 rfl) ?_
    refine lv_aload_n hx hb d_Ref_from_134 rfl (lv_at hl 0 rfl) ?_
    refine va_get (D := D) (ci := 5) (v := .int (rg_cd u24)) (C := "FirmStoreModel") (T := F_Ref) (N := 12) hx hb hts iz_Ref hown hK hP 0 rfl rfl 9 (by decide) (hts _ q_546) (fun _ h9 => h9) rfl d_Ref_from_135 ?_
    refine lv_if_ne (tgt := 152) hx hb d_Ref_from_138 (by decide) (fun hc => ?_) (fun hc => ?_)
    · rw [if_neg hc] at hm
      exact J152 u24 x23 hm _ _ _ hP hD hS (lv_sub hl [0, 1] rfl)
    · rw [if_pos hc] at hm
      refine lv_iload_n hx hb d_Ref_from_141 rfl (lv_at hl 1 rfl) ?_
      refine lv_sipush (v := (1000 : Int32)) hx hb d_Ref_from_142 (by decide) ?_
      refine lv_icmp_ne (tgt := 152) hx hb d_Ref_from_145 (by decide) (fun hc => ?_) (fun hc => ?_)
      · rw [if_neg hc] at hm
        exact J152 u24 x23 hm _ _ _ hP hD hS (lv_sub hl [0, 1] rfl)
      · rw [if_pos hc] at hm
        refine lv_iconst (v := (2 : Int32)) hx hb d_Ref_from_148 (by decide) ?_
        refine lv_goto (tgt := 156) hx hb d_Ref_from_149 (by decide) ?_
        refine va_put (D := D) (ci := 5) (v := .int (2 : Int32)) (ty := .int) (C := "FirmStoreModel") (T := F_Ref) (N := 12) hx hb hts iz_Ref t_Ref t_Ref_ok n_Ref hown hK hP hD hS 0 rfl rfl 9 (by decide) (hts _ q_546) (fun _ h9 => h9) rfl (by decide +kernel) rfl rfl (Nat.le_of_ble_eq_true rfl) d_Ref_from_156 (fun H locs hP hD hS => ?_)
        have hP : va_P D clz (wdR G Y (rs_cd u24 (2 : Int32))) H := hP
        have hD : va_D A (wdR G Y (rs_cd u24 (2 : Int32))) := hD
        refine lv_aload_n hx hb d_Ref_from_159 rfl (lv_at hl 0 rfl) ?_
        refine va_get (D := D) (ci := 5) (v := .int (2 : Int32)) (C := "FirmStoreModel") (T := F_Ref) (N := 12) hx hb hts iz_Ref hown hK hP 0 rfl rfl 9 (by decide) (hts _ q_546) (fun _ h9 => h9) rfl d_Ref_from_160 ?_
        refine lv_if_le (tgt := 170) hx hb d_Ref_from_163 (by decide) (fun hc => absurd hc (by decide)) (fun _ => ?_)
        refine lv_iconst (v := (0 : Int32)) hx hb d_Ref_from_166 (by decide) ?_
        refine lv_goto (tgt := 171) hx hb d_Ref_from_167 (by decide) ?_
        exact hret _ _ _ _ (0 : Int32) (rs_cd u24 (2 : Int32)) (Option.some.inj hm) hP hD hS d_Ref_from_171
  have J12 : ∀ (ua : SR) (x1 : Int32), m_Ref_from_J12 ua x1 = some (r, u') → ∀ (H : Heap) (locs : List Loc) (ls : Array Slot), va_P D clz (wdR G Y ua) H → va_D A (wdR G Y ua) → va_S A s.heap H locs → lv_has ls 6 [(0, .ref (G 0)), (1, .int x1)] → W p l e (zRm 6 140) s m ([.ref (G 0), .int a1] : List Value).toArray below meth c H locs 0 0 Z (F0 m 12 ls [.ref (G 0)]) := by
    intro ua x1 hm H locs ls hP hD hS hl
    rw [m_Ref_from_J12] at hm
    refine lv_iconst (v := (1 : Int32)) hx hb d_Ref_from_12 (by decide) ?_
    refine lv_goto (tgt := 17) hx hb d_Ref_from_13 (by decide) ?_
    exact J17 ua x1 (1 : Int32) hm _ _ _ hP hD hS (lv_sub hl [0, 1] rfl)
  rw [m_Ref_from] at hm
  refine lv_aload_n hx hb d_Ref_from_0 rfl (lv_at hl 0 rfl) ?_
  refine lv_iload_n hx hb d_Ref_from_1 rfl (lv_at hl 1 rfl) ?_
  refine lv_if_lt (tgt := 12) hx hb d_Ref_from_2 (by decide) (fun hc => ?_) (fun hc => ?_)
  · rw [if_pos hc] at hm
    exact J12 u a1 hm _ _ _ hP hD hS (lv_sub hl [0, 1] rfl)
  · rw [if_neg hc] at hm
    refine lv_iload_n hx hb d_Ref_from_5 rfl (lv_at hl 1 rfl) ?_
    refine lv_sipush (v := (999 : Int32)) hx hb d_Ref_from_6 (by decide) ?_
    refine lv_icmp_le (tgt := 16) hx hb d_Ref_from_9 (by decide) (fun hc => ?_) (fun hc => ?_)
    · rw [if_pos hc] at hm
      refine lv_iconst (v := (0 : Int32)) hx hb d_Ref_from_16 (by decide) ?_
      exact J17 u a1 (0 : Int32) hm _ _ _ hP hD hS (lv_sub hl [0, 1] rfl)
    · rw [if_neg hc] at hm
      exact J12 u a1 hm _ _ _ hP hD hS (lv_sub hl [0, 1] rfl)
