/-! models and contracts; written by wip/whole/gen.py -/
def m_Ref_mark_L2 : Nat → SR → Int32 → Option ((Unit × SR) ⊕ (SR))
  | 0, _, _ => none
  | n0 + 1, ua, x1 => if (30 : Int32) < x1 then (some (.inr ua)) else (if inb x1 31 = true then m_Ref_mark_L2 n0 (rs_rea ua (upd (rg_rea ua) x1.toNatClampNeg (vp_nar .boolean (0 : Int32)))) (x1 + (1 : Int32)) else none)
def m_Ref_mark_L32 : Nat → SR → Int32 → Int32 → Option ((Unit × SR) ⊕ (Int32 × SR))
  | 0, _, _, _ => none
  | n0 + 1, ua, x1, x2 => if (8 : Int32) < x2 then (some (.inr (x1, ua))) else (if inb x2 279 = true then ob (m_Ref_reach ua (((rg_mem ua) x2.toNatClampNeg).toInt32)) (fun r1 u2 => if r1 = 0 then (if x1 = 0 then (m_Ref_mark_L32 n0 u2 (0 : Int32) (x2 + (1 : Int32))) else (m_Ref_mark_L32 n0 u2 (1 : Int32) (x2 + (1 : Int32)))) else (m_Ref_mark_L32 n0 u2 (1 : Int32) (x2 + (1 : Int32)))) else none)
def m_Ref_mark_L134 : Nat → SR → Int32 → Int32 → Int32 → Int32 → Option ((Unit × SR) ⊕ (Int32 × SR))
  | 0, _, _, _, _, _ => none
  | n0 + 1, ua, x1, x4, x2, x3 => if x3 ≤ x4 then (some (.inr (x1, ua))) else (ob (m_Ref_blockAt ua x2 x4) (fun r5 u6 => ob (m_Ref_reach u6 r5) (fun r9 u10 => if r9 = 0 then (if x1 = 0 then (m_Ref_mark_L134 n0 u10 (0 : Int32) (x4 + (1 : Int32)) x2 x3) else (m_Ref_mark_L134 n0 u10 (1 : Int32) (x4 + (1 : Int32)) x2 x3)) else (m_Ref_mark_L134 n0 u10 (1 : Int32) (x4 + (1 : Int32)) x2 x3))))
def m_Ref_mark_L76 : Nat → SR → Int32 → Int32 → Option ((Unit × SR) ⊕ (Int32 × SR))
  | 0, _, _, _ => none
  | n0 + 1, ua, x1, x2 => if (30 : Int32) < x2 then (some (.inr (x1, ua))) else (if inb x2 31 = true then if ((rg_rea ua) x2.toNatClampNeg) = 0 then (m_Ref_mark_L76 n0 ua x1 (x2 + (1 : Int32))) else (ob (m_Ref_next ua x2) (fun r13 u14 => ob (m_Ref_reach u14 r13) (fun r17 u18 => if r17 = 0 then (if x1 = 0 then (ob (m_Ref_level u18 x2) (fun r33 u34 => if r33 ≤ 0 then (ol1 (m_Ref_mark_L134 fz u34 (0 : Int32) (0 : Int32) x2 (0 : Int32)) Sum.inl (fun x37 u38 => m_Ref_mark_L76 n0 u38 x37 (x2 + (1 : Int32)))) else (ob (m_Ref_length u34 x2) (fun r39 u40 => ol1 (m_Ref_mark_L134 fz u40 (0 : Int32) (0 : Int32) x2 r39) Sum.inl (fun x43 u44 => m_Ref_mark_L76 n0 u44 x43 (x2 + (1 : Int32))))))) else (ob (m_Ref_level u18 x2) (fun r45 u46 => if r45 ≤ 0 then (ol1 (m_Ref_mark_L134 fz u46 (1 : Int32) (0 : Int32) x2 (0 : Int32)) Sum.inl (fun x49 u50 => m_Ref_mark_L76 n0 u50 x49 (x2 + (1 : Int32)))) else (ob (m_Ref_length u46 x2) (fun r51 u52 => ol1 (m_Ref_mark_L134 fz u52 (1 : Int32) (0 : Int32) x2 r51) Sum.inl (fun x55 u56 => m_Ref_mark_L76 n0 u56 x55 (x2 + (1 : Int32)))))))) else (ob (m_Ref_level u18 x2) (fun r21 u22 => if r21 ≤ 0 then (ol1 (m_Ref_mark_L134 fz u22 (1 : Int32) (0 : Int32) x2 (0 : Int32)) Sum.inl (fun x25 u26 => m_Ref_mark_L76 n0 u26 x25 (x2 + (1 : Int32)))) else (ob (m_Ref_length u22 x2) (fun r27 u28 => ol1 (m_Ref_mark_L134 fz u28 (1 : Int32) (0 : Int32) x2 r27) Sum.inl (fun x31 u32 => m_Ref_mark_L76 n0 u32 x31 (x2 + (1 : Int32)))))))))) else none)
def m_Ref_mark_L68 : Nat → SR → Int32 → Option ((Unit × SR) ⊕ (SR))
  | 0, _, _ => none
  | n0 + 1, ua, x1 => if x1 = 0 then (some (.inr ua)) else (ol1 (m_Ref_mark_L76 fz ua (0 : Int32) (1 : Int32)) Sum.inl (fun x57 u58 => m_Ref_mark_L68 n0 u58 x57))
def m_Ref_mark (u : SR)  : Option (Unit × SR) := ol0 (m_Ref_mark_L2 fz u (0 : Int32)) id (fun u59 => ob (m_Ref_root u59) (fun r60 u61 => ob (m_Ref_reach u61 r60) (fun r64 u65 => ol1 (m_Ref_mark_L32 fz u65 r64 (1 : Int32)) id (fun x68 u69 => ol0 (m_Ref_mark_L68 fz u69 x68) id (fun u70 => some ((), u70))))))
def m_Ref_countFree_L8 : Nat → SR → Int32 → Int32 → Option ((Int32 × SR) ⊕ (Int32 × SR))
  | 0, _, _, _ => none
  | n0 + 1, ua, x1, x2 => if (30 : Int32) < x2 then (some (.inr (x1, ua))) else (if inb x2 31 = true then if ((rg_rea ua) x2.toNatClampNeg) = 0 then (m_Ref_countFree_L8 n0 ua (x1 + (1 : Int32)) (x2 + (1 : Int32))) else (m_Ref_countFree_L8 n0 ua x1 (x2 + (1 : Int32))) else none)
def m_Ref_countFree (u : SR)  : Option (Int32 × SR) := ob (m_Ref_mark u) (fun _ u2 => ol1 (m_Ref_countFree_L8 fz u2 (0 : Int32) (1 : Int32)) id (fun x5 u6 => some (x5, u6)))
def m_Ref_make_L7 : Nat → SR → Int32 → Int32 → Int32 → Int32 → Int64 → Int64 → Int64 → Option ((Int32 × SR) ⊕ (Int32 × SR))
  | 0, _, _, _, _, _, _, _, _ => none
  | n0 + 1, ua, x10, x1, x2, x3, x4, x6, x8 => if (30 : Int32) ≤ x10 then (some (.inr (x10, ua))) else (if inb x10 31 = true then if ((rg_rea ua) x10.toNatClampNeg) = 0 then (some (.inr (x10, ua))) else (m_Ref_make_L7 n0 ua (x10 + (1 : Int32)) x1 x2 x3 x4 x6 x8) else none)
def m_Ref_make_L113 : Nat → SR → Int32 → Int32 → Option ((Int32 × SR) ⊕ (SR))
  | 0, _, _, _ => none
  | n0 + 1, ua, x11, x10 => if (9 : Int32) ≤ x11 then (some (.inr ua)) else (ob (m_Ref_store ua (((9 : Int32) * x10) + x11) (0 : Int64)) (fun _ u2 => m_Ref_make_L113 n0 u2 (x11 + (1 : Int32)) x10))
def m_Ref_make (u : SR) (a1 : Int32) (a2 : Int32) (a3 : Int32) (a4 : Int64) (a5 : Int64) (a6 : Int64) : Option (Int32 × SR) := ob (m_Ref_mark u) (fun _ u6 => ol1 (m_Ref_make_L7 fz u6 (1 : Int32) a1 a2 a3 a4 a5 a6) id (fun x9 u10 => ob (m_Ref_store u10 ((9 : Int32) * x9) (a1.toInt64)) (fun _ u12 => ob (m_Ref_store u12 (((9 : Int32) * x9) + (1 : Int32)) (a2.toInt64)) (fun _ u16 => ob (m_Ref_store u16 (((9 : Int32) * x9) + (2 : Int32)) (a3.toInt64)) (fun _ u20 => ob (m_Ref_store u20 (((9 : Int32) * x9) + (3 : Int32)) a4) (fun _ u24 => ob (m_Ref_store u24 (((9 : Int32) * x9) + (4 : Int32)) a5) (fun _ u28 => ob (m_Ref_store u28 (((9 : Int32) * x9) + (5 : Int32)) a6) (fun _ u32 => ol0 (m_Ref_make_L113 fz u32 (6 : Int32) x9) id (fun u35 => ob (m_Ref_fence u35) (fun _ u37 => some (x9, u37)))))))))))
def m_Ref_below_L10 : Nat → SR → Int32 → Int32 → Int32 → Int32 → Option ((Int32 × SR) ⊕ (Int32 × SR))
  | 0, _, _, _, _, _ => none
  | n0 + 1, ua, x3, x4, x1, x2 => ob (m_Ref_length ua x1) (fun r1 u2 => if r1 ≤ x4 then (some (.inr (x3, u2))) else (ob (m_Ref_keyAt u2 x1 x4) (fun r5 u6 => if x2 < r5 then (m_Ref_below_L10 n0 u6 x3 (x4 + (1 : Int32)) x1 x2) else (ob (m_Ref_blockAt u6 x1 x4) (fun r9 u10 => m_Ref_below_L10 n0 u10 r9 (x4 + (1 : Int32)) x1 x2)))))
def m_Ref_below (u : SR) (a1 : Int32) (a2 : Int32) : Option (Int32 × SR) := ob (m_Ref_blockAt u a1 (0 : Int32)) (fun r13 u14 => ol1 (m_Ref_below_L10 fz u14 r13 (0 : Int32) a1 a2) id (fun x17 u18 => some (x17, u18)))
def m_Ref_find_L8 : Nat → SR → Int32 → Int32 → Int32 → Int32 → Option ((Int32 × SR) ⊕ (Int32 × SR))
  | 0, _, _, _, _, _ => none
  | n0 + 1, ua, x3, x4, x1, x2 => if (100 : Int32) ≤ x4 then (some (.inr (x3, ua))) else (ob (m_Ref_next ua x3) (fun r1 u2 => if r1 = 0 then (ob (m_Ref_level u2 x3) (fun r5 u6 => if r5 = x2 then (some (.inl (x3, u6))) else (ob (m_Ref_below u6 x3 x1) (fun r9 u10 => m_Ref_find_L8 n0 u10 r9 (x4 + (1 : Int32)) x1 x2)))) else (ob (m_Ref_low u2 r1) (fun r13 u14 => if x1 < r13 then (ob (m_Ref_level u14 x3) (fun r17 u18 => if r17 = x2 then (some (.inl (x3, u18))) else (ob (m_Ref_below u18 x3 x1) (fun r21 u22 => m_Ref_find_L8 n0 u22 r21 (x4 + (1 : Int32)) x1 x2)))) else (m_Ref_find_L8 n0 u14 r1 (x4 + (1 : Int32)) x1 x2)))))
def m_Ref_find (u : SR) (a1 : Int32) (a2 : Int32) : Option (Int32 × SR) := ob (m_Ref_root u) (fun r25 u26 => ol1 (m_Ref_find_L8 fz u26 r25 (0 : Int32) a1 a2) id (fun x29 u30 => some (x29, u30)))
def m_Ref_placeIn_L2 : Nat → SR → Int32 → Int32 → Int32 → Option ((Int32 × SR) ⊕ (SR))
  | 0, _, _, _, _ => none
  | n0 + 1, ua, x3, x1, x2 => ob (m_Ref_length ua x1) (fun r1 u2 => if r1 ≤ x3 then (some (.inr u2)) else (ob (m_Ref_keyAt u2 x1 x3) (fun r5 u6 => if r5 = x2 then (some (.inl (x3, u6))) else (m_Ref_placeIn_L2 n0 u6 (x3 + (1 : Int32)) x1 x2))))
def m_Ref_placeIn (u : SR) (a1 : Int32) (a2 : Int32) : Option (Int32 × SR) := ol0 (m_Ref_placeIn_L2 fz u (0 : Int32) a1 a2) id (fun u9 => some ((-1 : Int32), u9))
def m_Ref_insert_L55 : Nat → SR → Int32 → Int32 → Int64 → Int32 → Option ((Unit × SR) ⊕ (SR))
  | 0, _, _, _, _, _ => none
  | n0 + 1, ua, x6, x1, x2, x5 => if x6 ≤ x5 then (some (.inr ua)) else (ob (m_Ref_at ua x1 (x6 - (1 : Int32))) (fun r1 u2 => ob (m_Ref_firm u2 ((((9 : Int32) * x1) + (3 : Int32)) + x6) r1) (fun _ u6 => m_Ref_insert_L55 n0 u6 (x6 + (-1 : Int32)) x1 x2 x5)))
def m_Ref_insert_L13 : Nat → SR → Int32 → Int32 → Int32 → Int64 → Int32 → Option ((Unit × SR) ⊕ (Int32 × SR))
  | 0, _, _, _, _, _, _ => none
  | n0 + 1, ua, x5, x6, x1, x2, x4 => if x4 ≤ x6 then (some (.inr (x5, ua))) else (ob (m_Ref_keyAt ua x1 x6) (fun r9 u10 => ob (m_Ref_keyOf u10 x2) (fun r13 u14 => if r13 ≤ r9 then (m_Ref_insert_L13 n0 u14 x5 (x6 + (1 : Int32)) x1 x2 x4) else (m_Ref_insert_L13 n0 u14 (x5 + (1 : Int32)) (x6 + (1 : Int32)) x1 x2 x4))))
def m_Ref_insert (u : SR) (a1 : Int32) (a2 : Int64) : Option (Unit × SR) := ob (m_Ref_length u a1) (fun r17 u18 => ol1 (m_Ref_insert_L13 fz u18 (0 : Int32) (0 : Int32) a1 a2 r17) id (fun x21 u22 => ol0 (m_Ref_insert_L55 fz u22 r17 a1 a2 x21) id (fun u23 => ob (m_Ref_firm u23 ((((9 : Int32) * a1) + (3 : Int32)) + x21) a2) (fun _ u25 => some ((), u25)))))
def m_Ref_drop_L5 : Nat → SR → Int32 → Int64 → Int32 → Option ((Unit × SR) ⊕ (SR))
  | 0, _, _, _, _ => none
  | n0 + 1, ua, x3, x4, x1 => if (lg_cmp x4 (0 : Int64)) = 0 then (some (.inr ua)) else (ob (m_Ref_at ua x1 (x3 + (1 : Int32))) (fun r1 u2 => ob (m_Ref_firm u2 ((((9 : Int32) * x1) + (3 : Int32)) + x3) r1) (fun _ u6 => m_Ref_drop_L5 n0 u6 (x3 + (1 : Int32)) r1 x1)))
def m_Ref_drop (u : SR) (a1 : Int32) (a2 : Int32) : Option (Unit × SR) := ol0 (m_Ref_drop_L5 fz u a2 (1 : Int64) a1) id (fun u9 => some ((), u9))
def m_Ref_split_L56 : Nat → SR → Int32 → Int32 → Int32 → Option ((Int32 × SR) ⊕ (SR))
  | 0, _, _, _, _ => none
  | n0 + 1, ua, x4, x1, x3 => if x4 ≤ (2 : Int32) then (some (.inr ua)) else (ob (m_Ref_store ua ((((9 : Int32) * x1) + (3 : Int32)) + x4) (0 : Int64)) (fun _ u2 => m_Ref_split_L56 n0 u2 (x4 + (-1 : Int32)) x1 x3))
def m_Ref_split (u : SR) (a1 : Int32) : Option (Int32 × SR) := ob (m_Ref_keyAt u a1 (3 : Int32)) (fun r5 u6 => ob (m_Ref_level u6 a1) (fun r9 u10 => ob (m_Ref_next u10 a1) (fun r13 u14 => ob (m_Ref_at u14 a1 (3 : Int32)) (fun r17 u18 => ob (m_Ref_at u18 a1 (4 : Int32)) (fun r21 u22 => ob (m_Ref_at u22 a1 (5 : Int32)) (fun r25 u26 => ob (m_Ref_make u26 r9 r13 r5 r17 r21 r25) (fun r29 u30 => ob (m_Ref_firm u30 (((9 : Int32) * a1) + (1 : Int32)) (r29.toInt64)) (fun _ u34 => ol0 (m_Ref_split_L56 fz u34 (5 : Int32) a1 r29) id (fun u37 => ob (m_Ref_fence u37) (fun _ u39 => some (r29, u39)))))))))))
def m_Ref_entryOf (u : SR) (a1 : Int32) : Option (Int64 × SR) := ob (m_Ref_low u a1) (fun r1 u2 => ob (m_Ref_entry u2 r1 a1) (fun r5 u6 => some (r5, u6)))
def m_Ref_hang_L205 : Nat → SR → Int32 → Int32 → Option ((Unit × SR) ⊕ (SR))
  | 0, _, _, _ => none
  | n0 + 1, ua, x6, x2 => if x6 < 0 then (some (.inr ua)) else (if (rg_br ua) = 0 then (if inb x6 16 = true then ob (m_Ref_low ua ((rg_ris ua) x6.toNatClampNeg)) (fun r1 u2 => ob (m_Ref_find u2 r1 (x2 + x6)) (fun r5 u6 => if inb x6 16 = true then ob (m_Ref_entryOf u6 ((rg_ris u6) x6.toNatClampNeg)) (fun r9 u10 => ob (m_Ref_insert u10 r5 r9) (fun _ u14 => m_Ref_hang_L205 n0 u14 (x6 + (-1 : Int32)) x2)) else none)) else none) else (some (.inr ua)))
def m_Ref_hang_L26 : Nat → SR → Int32 → Int32 → Int32 → Int32 → Option ((Unit × SR) ⊕ (Int32 × Int32 × SR))
  | 0, _, _, _, _, _ => none
  | n0 + 1, ua, x3, x4, x5, x2 => if x4 = 0 then (some (.inr (x3, x5, ua))) else (ob (m_Ref_root ua) (fun r17 u18 => if inb x3 16 = true then ob (m_Ref_low u18 ((rg_ris u18) x3.toNatClampNeg)) (fun r21 u22 => ob (m_Ref_level u22 r17) (fun r25 u26 => if (x2 + x3) ≤ r25 then (ob (m_Ref_find u26 r21 (x2 + x3)) (fun r29 u30 => if r29 = 0 then (ob (m_Ref_entryOf u30 r17) (fun r41 u42 => if inb x3 16 = true then ob (m_Ref_entryOf u42 ((rg_ris u42) x3.toNatClampNeg)) (fun r45 u46 => ob (m_Ref_low u46 r17) (fun r49 u50 => ob (m_Ref_make u50 (x2 + x3) (0 : Int32) r49 r41 r45 (0 : Int64)) (fun r53 u54 => ob (m_Ref_firm u54 (0 : Int32) (r53.toInt64)) (fun _ u58 => m_Ref_hang_L26 n0 u58 x3 (0 : Int32) (1 : Int32) x2)))) else none)) else (ob (m_Ref_length u30 r29) (fun r33 u34 => if r33 = (6 : Int32) then (ob (m_Ref_split u34 r29) (fun r37 u38 => if inb (x3 + (1 : Int32)) 16 = true then if (rg_br u38) = 0 then (m_Ref_hang_L26 n0 (rs_ris u38 (upd (rg_ris u38) (x3 + (1 : Int32)).toNatClampNeg r37)) (x3 + (1 : Int32)) (1 : Int32) x5 x2) else (m_Ref_hang_L26 n0 (rs_ris u38 (upd (rg_ris u38) (x3 + (1 : Int32)).toNatClampNeg r37)) (x3 + (1 : Int32)) (0 : Int32) x5 x2) else none)) else (m_Ref_hang_L26 n0 u34 x3 (0 : Int32) x5 x2))))) else (ob (m_Ref_entryOf u26 r17) (fun r61 u62 => if inb x3 16 = true then ob (m_Ref_entryOf u62 ((rg_ris u62) x3.toNatClampNeg)) (fun r65 u66 => ob (m_Ref_low u66 r17) (fun r69 u70 => ob (m_Ref_make u70 (x2 + x3) (0 : Int32) r69 r61 r65 (0 : Int64)) (fun r73 u74 => ob (m_Ref_firm u74 (0 : Int32) (r73.toInt64)) (fun _ u78 => m_Ref_hang_L26 n0 u78 x3 (0 : Int32) (1 : Int32) x2)))) else none)))) else none))
def m_Ref_hang_J203 (ua : SR) (x2 : Int32) (s0 : Int32) : Option (Unit × SR) := ol0 (m_Ref_hang_L205 fz ua s0 x2) id (fun u84 => some ((), u84))
def m_Ref_hang_J21 (ua : SR) (x2 : Int32) (x3 : Int32) (s0 : Int32) : Option (Unit × SR) := ol2 (m_Ref_hang_L26 fz ua x3 s0 (0 : Int32) x2) id (fun x81 x82 u83 => if x82 = 0 then (m_Ref_hang_J203 u83 x2 x81) else (m_Ref_hang_J203 u83 x2 (x81 - (1 : Int32))))
def m_Ref_hang (u : SR) (a1 : Int32) (a2 : Int32) : Option (Unit × SR) := if inb (0 : Int32) 16 = true then if (rg_br u) = 0 then (m_Ref_hang_J21 (rs_ris u (upd (rg_ris u) (0 : Int32).toNatClampNeg a1)) a2 (0 : Int32) (1 : Int32)) else (m_Ref_hang_J21 (rs_ris u (upd (rg_ris u) (0 : Int32).toNatClampNeg a1)) a2 (0 : Int32) (0 : Int32)) else none
theorem d_Ref_mark_0 : decode b_Ref_mark 0 = .ok (.iconst 0, 1) := by decide +kernel
theorem d_Ref_mark_1 : decode b_Ref_mark 1 = .ok (.istore_n 1, 1) := by decide +kernel
theorem d_Ref_mark_2 : decode b_Ref_mark 2 = .ok (.iload_n 1, 1) := by decide +kernel
theorem d_Ref_mark_3 : decode b_Ref_mark 3 = .ok (.bipush 30, 2) := by decide +kernel
theorem d_Ref_mark_5 : decode b_Ref_mark 5 = .ok (.if_icmp .gt 16, 3) := by decide +kernel
theorem d_Ref_mark_8 : decode b_Ref_mark 8 = .ok (.aload_n 0, 1) := by decide +kernel
theorem d_Ref_mark_9 : decode b_Ref_mark 9 = .ok (.getfield 24, 3) := by decide +kernel
theorem d_Ref_mark_12 : decode b_Ref_mark 12 = .ok (.iload_n 1, 1) := by decide +kernel
theorem d_Ref_mark_13 : decode b_Ref_mark 13 = .ok (.iconst 0, 1) := by decide +kernel
theorem d_Ref_mark_14 : decode b_Ref_mark 14 = .ok (.bastore, 1) := by decide +kernel
theorem d_Ref_mark_15 : decode b_Ref_mark 15 = .ok (.iinc 1 1, 3) := by decide +kernel
theorem d_Ref_mark_18 : decode b_Ref_mark 18 = .ok (.goto (-16), 3) := by decide +kernel
theorem d_Ref_mark_21 : decode b_Ref_mark 21 = .ok (.aload_n 0, 1) := by decide +kernel
theorem d_Ref_mark_22 : decode b_Ref_mark 22 = .ok (.aload_n 0, 1) := by decide +kernel
theorem d_Ref_mark_23 : decode b_Ref_mark 23 = .ok (.invokevirtual 72, 3) := by decide +kernel
theorem d_Ref_mark_26 : decode b_Ref_mark 26 = .ok (.invokevirtual 76, 3) := by decide +kernel
theorem d_Ref_mark_29 : decode b_Ref_mark 29 = .ok (.istore_n 1, 1) := by decide +kernel
theorem d_Ref_mark_30 : decode b_Ref_mark 30 = .ok (.iconst 1, 1) := by decide +kernel
theorem d_Ref_mark_31 : decode b_Ref_mark 31 = .ok (.istore_n 2, 1) := by decide +kernel
theorem d_Ref_mark_32 : decode b_Ref_mark 32 = .ok (.iload_n 2, 1) := by decide +kernel
theorem d_Ref_mark_33 : decode b_Ref_mark 33 = .ok (.bipush 8, 2) := by decide +kernel
theorem d_Ref_mark_35 : decode b_Ref_mark 35 = .ok (.if_icmp .gt 33, 3) := by decide +kernel
theorem d_Ref_mark_38 : decode b_Ref_mark 38 = .ok (.aload_n 0, 1) := by decide +kernel
theorem d_Ref_mark_39 : decode b_Ref_mark 39 = .ok (.aload_n 0, 1) := by decide +kernel
theorem d_Ref_mark_40 : decode b_Ref_mark 40 = .ok (.getfield 7, 3) := by decide +kernel
theorem d_Ref_mark_43 : decode b_Ref_mark 43 = .ok (.iload_n 2, 1) := by decide +kernel
theorem d_Ref_mark_44 : decode b_Ref_mark 44 = .ok (.laload, 1) := by decide +kernel
theorem d_Ref_mark_45 : decode b_Ref_mark 45 = .ok (.l2i, 1) := by decide +kernel
theorem d_Ref_mark_46 : decode b_Ref_mark 46 = .ok (.invokevirtual 76, 3) := by decide +kernel
theorem d_Ref_mark_49 : decode b_Ref_mark 49 = .ok (.ifCond .ne 7, 3) := by decide +kernel
theorem d_Ref_mark_52 : decode b_Ref_mark 52 = .ok (.iload_n 1, 1) := by decide +kernel
theorem d_Ref_mark_53 : decode b_Ref_mark 53 = .ok (.ifCond .eq 7, 3) := by decide +kernel
theorem d_Ref_mark_56 : decode b_Ref_mark 56 = .ok (.iconst 1, 1) := by decide +kernel
theorem d_Ref_mark_57 : decode b_Ref_mark 57 = .ok (.goto 4, 3) := by decide +kernel
theorem d_Ref_mark_60 : decode b_Ref_mark 60 = .ok (.iconst 0, 1) := by decide +kernel
theorem d_Ref_mark_61 : decode b_Ref_mark 61 = .ok (.istore_n 1, 1) := by decide +kernel
theorem d_Ref_mark_62 : decode b_Ref_mark 62 = .ok (.iinc 2 1, 3) := by decide +kernel
theorem d_Ref_mark_65 : decode b_Ref_mark 65 = .ok (.goto (-33), 3) := by decide +kernel
theorem d_Ref_mark_68 : decode b_Ref_mark 68 = .ok (.iload_n 1, 1) := by decide +kernel
theorem d_Ref_mark_69 : decode b_Ref_mark 69 = .ok (.ifCond .eq 110, 3) := by decide +kernel
theorem d_Ref_mark_72 : decode b_Ref_mark 72 = .ok (.iconst 0, 1) := by decide +kernel
theorem d_Ref_mark_73 : decode b_Ref_mark 73 = .ok (.istore_n 1, 1) := by decide +kernel
theorem d_Ref_mark_74 : decode b_Ref_mark 74 = .ok (.iconst 1, 1) := by decide +kernel
theorem d_Ref_mark_75 : decode b_Ref_mark 75 = .ok (.istore_n 2, 1) := by decide +kernel
theorem d_Ref_mark_76 : decode b_Ref_mark 76 = .ok (.iload_n 2, 1) := by decide +kernel
theorem d_Ref_mark_77 : decode b_Ref_mark 77 = .ok (.bipush 30, 2) := by decide +kernel
theorem d_Ref_mark_79 : decode b_Ref_mark 79 = .ok (.if_icmp .gt 97, 3) := by decide +kernel
theorem d_Ref_mark_82 : decode b_Ref_mark 82 = .ok (.aload_n 0, 1) := by decide +kernel
theorem d_Ref_mark_83 : decode b_Ref_mark 83 = .ok (.getfield 24, 3) := by decide +kernel
theorem d_Ref_mark_86 : decode b_Ref_mark 86 = .ok (.iload_n 2, 1) := by decide +kernel
theorem d_Ref_mark_87 : decode b_Ref_mark 87 = .ok (.baload, 1) := by decide +kernel
theorem d_Ref_mark_88 : decode b_Ref_mark 88 = .ok (.ifCond .eq 82, 3) := by decide +kernel
theorem d_Ref_mark_91 : decode b_Ref_mark 91 = .ok (.aload_n 0, 1) := by decide +kernel
theorem d_Ref_mark_92 : decode b_Ref_mark 92 = .ok (.aload_n 0, 1) := by decide +kernel
theorem d_Ref_mark_93 : decode b_Ref_mark 93 = .ok (.iload_n 2, 1) := by decide +kernel
theorem d_Ref_mark_94 : decode b_Ref_mark 94 = .ok (.invokevirtual 80, 3) := by decide +kernel
theorem d_Ref_mark_97 : decode b_Ref_mark 97 = .ok (.invokevirtual 76, 3) := by decide +kernel
theorem d_Ref_mark_100 : decode b_Ref_mark 100 = .ok (.ifCond .ne 7, 3) := by decide +kernel
theorem d_Ref_mark_103 : decode b_Ref_mark 103 = .ok (.iload_n 1, 1) := by decide +kernel
theorem d_Ref_mark_104 : decode b_Ref_mark 104 = .ok (.ifCond .eq 7, 3) := by decide +kernel
theorem d_Ref_mark_107 : decode b_Ref_mark 107 = .ok (.iconst 1, 1) := by decide +kernel
theorem d_Ref_mark_108 : decode b_Ref_mark 108 = .ok (.goto 4, 3) := by decide +kernel
theorem d_Ref_mark_111 : decode b_Ref_mark 111 = .ok (.iconst 0, 1) := by decide +kernel
theorem d_Ref_mark_112 : decode b_Ref_mark 112 = .ok (.istore_n 1, 1) := by decide +kernel
theorem d_Ref_mark_113 : decode b_Ref_mark 113 = .ok (.aload_n 0, 1) := by decide +kernel
theorem d_Ref_mark_114 : decode b_Ref_mark 114 = .ok (.iload_n 2, 1) := by decide +kernel
theorem d_Ref_mark_115 : decode b_Ref_mark 115 = .ok (.invokevirtual 84, 3) := by decide +kernel
theorem d_Ref_mark_118 : decode b_Ref_mark 118 = .ok (.ifCond .le 11, 3) := by decide +kernel
theorem d_Ref_mark_121 : decode b_Ref_mark 121 = .ok (.aload_n 0, 1) := by decide +kernel
theorem d_Ref_mark_122 : decode b_Ref_mark 122 = .ok (.iload_n 2, 1) := by decide +kernel
theorem d_Ref_mark_123 : decode b_Ref_mark 123 = .ok (.invokevirtual 87, 3) := by decide +kernel
theorem d_Ref_mark_126 : decode b_Ref_mark 126 = .ok (.goto 4, 3) := by decide +kernel
theorem d_Ref_mark_129 : decode b_Ref_mark 129 = .ok (.iconst 0, 1) := by decide +kernel
theorem d_Ref_mark_130 : decode b_Ref_mark 130 = .ok (.istore_n 3, 1) := by decide +kernel
theorem d_Ref_mark_131 : decode b_Ref_mark 131 = .ok (.iconst 0, 1) := by decide +kernel
theorem d_Ref_mark_132 : decode b_Ref_mark 132 = .ok (.istore 4, 2) := by decide +kernel
theorem d_Ref_mark_134 : decode b_Ref_mark 134 = .ok (.iload 4, 2) := by decide +kernel
theorem d_Ref_mark_136 : decode b_Ref_mark 136 = .ok (.iload_n 3, 1) := by decide +kernel
theorem d_Ref_mark_137 : decode b_Ref_mark 137 = .ok (.if_icmp .ge 33, 3) := by decide +kernel
theorem d_Ref_mark_140 : decode b_Ref_mark 140 = .ok (.aload_n 0, 1) := by decide +kernel
theorem d_Ref_mark_141 : decode b_Ref_mark 141 = .ok (.aload_n 0, 1) := by decide +kernel
theorem d_Ref_mark_142 : decode b_Ref_mark 142 = .ok (.iload_n 2, 1) := by decide +kernel
theorem d_Ref_mark_143 : decode b_Ref_mark 143 = .ok (.iload 4, 2) := by decide +kernel
theorem d_Ref_mark_145 : decode b_Ref_mark 145 = .ok (.invokevirtual 90, 3) := by decide +kernel
theorem d_Ref_mark_148 : decode b_Ref_mark 148 = .ok (.invokevirtual 76, 3) := by decide +kernel
theorem d_Ref_mark_151 : decode b_Ref_mark 151 = .ok (.ifCond .ne 7, 3) := by decide +kernel
theorem d_Ref_mark_154 : decode b_Ref_mark 154 = .ok (.iload_n 1, 1) := by decide +kernel
theorem d_Ref_mark_155 : decode b_Ref_mark 155 = .ok (.ifCond .eq 7, 3) := by decide +kernel
theorem d_Ref_mark_158 : decode b_Ref_mark 158 = .ok (.iconst 1, 1) := by decide +kernel
theorem d_Ref_mark_159 : decode b_Ref_mark 159 = .ok (.goto 4, 3) := by decide +kernel
theorem d_Ref_mark_162 : decode b_Ref_mark 162 = .ok (.iconst 0, 1) := by decide +kernel
theorem d_Ref_mark_163 : decode b_Ref_mark 163 = .ok (.istore_n 1, 1) := by decide +kernel
theorem d_Ref_mark_164 : decode b_Ref_mark 164 = .ok (.iinc 4 1, 3) := by decide +kernel
theorem d_Ref_mark_167 : decode b_Ref_mark 167 = .ok (.goto (-33), 3) := by decide +kernel
theorem d_Ref_mark_170 : decode b_Ref_mark 170 = .ok (.iinc 2 1, 3) := by decide +kernel
theorem d_Ref_mark_173 : decode b_Ref_mark 173 = .ok (.goto (-97), 3) := by decide +kernel
theorem d_Ref_mark_176 : decode b_Ref_mark 176 = .ok (.goto (-108), 3) := by decide +kernel
theorem d_Ref_mark_179 : decode b_Ref_mark 179 = .ok (.return_, 1) := by decide +kernel
set_option maxRecDepth 100000 in
set_option maxHeartbeats 4000000 in
theorem k_Ref_mark (l : Launch) (D : va_G) (G : Nat → Nat) (Y : Nat → ClassId) {u : SR}  {u' : SR} (hm : m_Ref_mark u  = some ((), u')) : KV l D clz (tyz Y) (wdR G Y) y_Ref_mark b_Ref_mark 5 none 2 44 [.ref (G 0)] u u' := by
  refine mkV (by decide) (Nat.le_of_ble_eq_true rfl) ?_
  intro p e s m below meth c A Z ls C0 hP hD hS hl hret
  obtain ⟨hx, hb, hml, hown, hts, hK, hN, hA⟩ := id C0
  have hl : lv_has ls 5 [(0, .ref (G 0))] := hl
  have L2 : ∀  (o : (Unit × SR) ⊕ (SR)) (kr : ∀ z, o = .inl z → z = ((), u')) (kx : ∀  (ub : SR), o = .inr ub → ∀ (H : Heap) (locs : List Loc) (ls : Array Slot), va_P D clz (wdR G Y ub) H → va_D A (wdR G Y ub) → va_S A s.heap H locs → lv_has ls 5 [(0, .ref (G 0))] → W p l e (zRm 2 44) s m ([.ref (G 0)] : List Value).toArray below meth c H locs 0 0 Z (F0 m 21 ls [])) (n0 : Nat) (ua : SR) (x1 : Int32), m_Ref_mark_L2 n0 ua x1 = some o → ∀ (H : Heap) (locs : List Loc) (ls : Array Slot), va_P D clz (wdR G Y ua) H → va_D A (wdR G Y ua) → va_S A s.heap H locs → lv_has ls 5 [(0, .ref (G 0)), (1, .int x1)] → W p l e (zRm 2 44) s m ([.ref (G 0)] : List Value).toArray below meth c H locs 0 0 Z (F0 m 2 ls []) := by
    intro  o kr kx n0
    induction n0 with
    | zero => intro ua x1 hm; rw [m_Ref_mark_L2] at hm; cases hm
    | succ n0 ih =>
      intro ua x1 hm H locs ls hP hD hS hl
      rw [m_Ref_mark_L2] at hm
      refine lv_iload_n hx hb d_Ref_mark_2 rfl (lv_at hl 1 rfl) ?_
      refine lv_bipush (v := (30 : Int32)) hx hb d_Ref_mark_3 (by decide) ?_
      refine lv_icmp_gt (tgt := 21) hx hb d_Ref_mark_5 (by decide) (fun hc => ?_) (fun hc => ?_)
      · rw [if_pos hc] at hm
        exact kx  ua (Option.some.inj hm).symm _ _ _ hP hD hS (lv_sub hl [0] rfl)
      · rw [if_neg hc] at hm
        refine lv_aload_n hx hb d_Ref_mark_8 rfl (lv_at hl 0 rfl) ?_
        refine va_get (D := D) (ci := 5) (v := .ref (G 4)) (C := "FirmStoreModel") (T := F_Ref) (N := 12) hx hb hts iz_Ref hown hK hP 0 rfl rfl 10 (by decide) (hts _ q_547) (fun _ h9 => h9) rfl d_Ref_mark_9 ?_
        refine lv_iload_n hx hb d_Ref_mark_12 rfl (lv_at hl 1 rfl) ?_
        refine lv_iconst (v := (0 : Int32)) hx hb d_Ref_mark_13 (by decide) ?_
        obtain ⟨hg, hm⟩ := gd hm
        refine va_zast hx hb hK hP hD hS 4 2 (f := (rg_rea ua)) rfl rfl (inb_in hg) d_Ref_mark_14 (fun H locs hP hD hS => ?_)
        have hP : va_P D clz (wdR G Y (rs_rea ua (upd (rg_rea ua) x1.toNatClampNeg (vp_nar .boolean (0 : Int32))))) H := hP
        have hD : va_D A (wdR G Y (rs_rea ua (upd (rg_rea ua) x1.toNatClampNeg (vp_nar .boolean (0 : Int32))))) := hD
        refine lv_iinc (v := (x1 + (1 : Int32))) (lv' := [(1, .int (x1 + (1 : Int32))), (0, .ref (G 0))]) hx hb d_Ref_mark_15 hl (k := 1) rfl rfl (by decide) rfl (fun ls hl => ?_)
        refine lv_goto (tgt := 2) hx hb d_Ref_mark_18 (by decide) ?_
        exact ih (rs_rea ua (upd (rg_rea ua) x1.toNatClampNeg (vp_nar .boolean (0 : Int32)))) (x1 + (1 : Int32)) hm _ _ _ hP hD hS (lv_sub hl [1, 0] rfl)
  have L32 : ∀  (o : (Unit × SR) ⊕ (Int32 × SR)) (kr : ∀ z, o = .inl z → z = ((), u')) (kx : ∀ (y1 : Int32) (ub : SR), o = .inr (y1, ub) → ∀ (H : Heap) (locs : List Loc) (ls : Array Slot), va_P D clz (wdR G Y ub) H → va_D A (wdR G Y ub) → va_S A s.heap H locs → lv_has ls 5 [(0, .ref (G 0)), (1, .int y1)] → W p l e (zRm 2 44) s m ([.ref (G 0)] : List Value).toArray below meth c H locs 0 0 Z (F0 m 68 ls [])) (n0 : Nat) (ua : SR) (x1 : Int32) (x2 : Int32), m_Ref_mark_L32 n0 ua x1 x2 = some o → ∀ (H : Heap) (locs : List Loc) (ls : Array Slot), va_P D clz (wdR G Y ua) H → va_D A (wdR G Y ua) → va_S A s.heap H locs → lv_has ls 5 [(0, .ref (G 0)), (1, .int x1), (2, .int x2)] → W p l e (zRm 2 44) s m ([.ref (G 0)] : List Value).toArray below meth c H locs 0 0 Z (F0 m 32 ls []) := by
    intro  o kr kx n0
    induction n0 with
    | zero => intro ua x1 x2 hm; rw [m_Ref_mark_L32] at hm; cases hm
    | succ n0 ih =>
      intro ua x1 x2 hm H locs ls hP hD hS hl
      rw [m_Ref_mark_L32] at hm
      refine lv_iload_n hx hb d_Ref_mark_32 rfl (lv_at hl 2 rfl) ?_
      refine lv_bipush (v := (8 : Int32)) hx hb d_Ref_mark_33 (by decide) ?_
      refine lv_icmp_gt (tgt := 68) hx hb d_Ref_mark_35 (by decide) (fun hc => ?_) (fun hc => ?_)
      · rw [if_pos hc] at hm
        exact kx x1 ua (Option.some.inj hm).symm _ _ _ hP hD hS (lv_sub hl [0, 1] rfl)
      · rw [if_neg hc] at hm
        refine lv_aload_n hx hb d_Ref_mark_38 rfl (lv_at hl 0 rfl) ?_
        refine lv_aload_n hx hb d_Ref_mark_39 rfl (lv_at hl 0 rfl) ?_
        refine va_get (D := D) (ci := 5) (v := .ref (G 1)) (C := "FirmStoreModel") (T := F_Ref) (N := 12) hx hb hts iz_Ref hown hK hP 0 rfl rfl 0 (by decide) (hts _ q_537) (fun _ h9 => h9) rfl d_Ref_mark_40 ?_
        refine lv_iload_n hx hb d_Ref_mark_43 rfl (lv_at hl 2 rfl) ?_
        obtain ⟨hg, hm⟩ := gd hm
        refine va_lald hx hb hK hP 1 0 (f := (rg_mem ua)) rfl rfl (inb_in hg) d_Ref_mark_44 ?_
        refine lv_l2i (v := (((rg_mem ua) x2.toNatClampNeg).toInt32)) hx hb d_Ref_mark_45 rfl ?_
        obtain ⟨r1, u2, h3, hm⟩ := ob_some hm
        refine goVZ (As := [.int (((rg_mem ua) x2.toNatClampNeg).toInt32)]) (rest := []) (b0 := G 0) 0 C0 (k_Ref_reach l D G Y h3) q_605 q_6 q_602 q_604 qs_29 e_Ref_reach (by decide) rfl rfl hP hD hS hl.1 rfl (Nat.le_of_ble_eq_true rfl) d_Ref_mark_46 (fun H locs hz4 hP hD hS => ?_)
        refine lv_if_ne (tgt := 56) hx hb d_Ref_mark_49 (by decide) (fun hc => ?_) (fun hc => ?_)
        · rw [if_neg hc] at hm
          refine lv_iconst (v := (1 : Int32)) hx hb d_Ref_mark_56 (by decide) ?_
          refine lv_goto (tgt := 61) hx hb d_Ref_mark_57 (by decide) ?_
          refine lv_istore_n (lv' := [(1, .int (1 : Int32)), (0, .ref (G 0)), (2, .int x2)]) hx hb d_Ref_mark_61 rfl hl (by decide) rfl (fun ls hl => ?_)
          refine lv_iinc (v := (x2 + (1 : Int32))) (lv' := [(2, .int (x2 + (1 : Int32))), (1, .int (1 : Int32)), (0, .ref (G 0))]) hx hb d_Ref_mark_62 hl (k := 2) rfl rfl (by decide) rfl (fun ls hl => ?_)
          refine lv_goto (tgt := 32) hx hb d_Ref_mark_65 (by decide) ?_
          exact ih u2 (1 : Int32) (x2 + (1 : Int32)) hm _ _ _ hP hD hS (lv_sub hl [2, 1, 0] rfl)
        · rw [if_pos hc] at hm
          refine lv_iload_n hx hb d_Ref_mark_52 rfl (lv_at hl 1 rfl) ?_
          refine lv_if_eq (tgt := 60) hx hb d_Ref_mark_53 (by decide) (fun hc => ?_) (fun hc => ?_)
          · rw [if_pos hc] at hm
            refine lv_iconst (v := (0 : Int32)) hx hb d_Ref_mark_60 (by decide) ?_
            refine lv_istore_n (lv' := [(1, .int (0 : Int32)), (0, .ref (G 0)), (2, .int x2)]) hx hb d_Ref_mark_61 rfl hl (by decide) rfl (fun ls hl => ?_)
            refine lv_iinc (v := (x2 + (1 : Int32))) (lv' := [(2, .int (x2 + (1 : Int32))), (1, .int (0 : Int32)), (0, .ref (G 0))]) hx hb d_Ref_mark_62 hl (k := 2) rfl rfl (by decide) rfl (fun ls hl => ?_)
            refine lv_goto (tgt := 32) hx hb d_Ref_mark_65 (by decide) ?_
            exact ih u2 (0 : Int32) (x2 + (1 : Int32)) hm _ _ _ hP hD hS (lv_sub hl [2, 1, 0] rfl)
          · rw [if_neg hc] at hm
            refine lv_iconst (v := (1 : Int32)) hx hb d_Ref_mark_56 (by decide) ?_
            refine lv_goto (tgt := 61) hx hb d_Ref_mark_57 (by decide) ?_
            refine lv_istore_n (lv' := [(1, .int (1 : Int32)), (0, .ref (G 0)), (2, .int x2)]) hx hb d_Ref_mark_61 rfl hl (by decide) rfl (fun ls hl => ?_)
            refine lv_iinc (v := (x2 + (1 : Int32))) (lv' := [(2, .int (x2 + (1 : Int32))), (1, .int (1 : Int32)), (0, .ref (G 0))]) hx hb d_Ref_mark_62 hl (k := 2) rfl rfl (by decide) rfl (fun ls hl => ?_)
            refine lv_goto (tgt := 32) hx hb d_Ref_mark_65 (by decide) ?_
            exact ih u2 (1 : Int32) (x2 + (1 : Int32)) hm _ _ _ hP hD hS (lv_sub hl [2, 1, 0] rfl)
  have L134 : ∀ (x2 : Int32) (x3 : Int32) (o : (Unit × SR) ⊕ (Int32 × SR)) (kr : ∀ z, o = .inl z → z = ((), u')) (kx : ∀ (y1 : Int32) (ub : SR), o = .inr (y1, ub) → ∀ (H : Heap) (locs : List Loc) (ls : Array Slot), va_P D clz (wdR G Y ub) H → va_D A (wdR G Y ub) → va_S A s.heap H locs → lv_has ls 5 [(0, .ref (G 0)), (1, .int y1), (2, .int x2)] → W p l e (zRm 2 44) s m ([.ref (G 0)] : List Value).toArray below meth c H locs 0 0 Z (F0 m 170 ls [])) (n0 : Nat) (ua : SR) (x1 : Int32) (x4 : Int32), m_Ref_mark_L134 n0 ua x1 x4 x2 x3 = some o → ∀ (H : Heap) (locs : List Loc) (ls : Array Slot), va_P D clz (wdR G Y ua) H → va_D A (wdR G Y ua) → va_S A s.heap H locs → lv_has ls 5 [(0, .ref (G 0)), (1, .int x1), (2, .int x2), (3, .int x3), (4, .int x4)] → W p l e (zRm 2 44) s m ([.ref (G 0)] : List Value).toArray below meth c H locs 0 0 Z (F0 m 134 ls []) := by
    intro x2 x3 o kr kx n0
    induction n0 with
    | zero => intro ua x1 x4 hm; rw [m_Ref_mark_L134] at hm; cases hm
    | succ n0 ih =>
      intro ua x1 x4 hm H locs ls hP hD hS hl
      rw [m_Ref_mark_L134] at hm
      refine lv_iload hx hb d_Ref_mark_134 (lv_at hl 4 rfl) ?_
      refine lv_iload_n hx hb d_Ref_mark_136 rfl (lv_at hl 3 rfl) ?_
      refine lv_icmp_ge (tgt := 170) hx hb d_Ref_mark_137 (by decide) (fun hc => ?_) (fun hc => ?_)
      · rw [if_pos hc] at hm
        exact kx x1 ua (Option.some.inj hm).symm _ _ _ hP hD hS (lv_sub hl [0, 1, 2] rfl)
      · rw [if_neg hc] at hm
        refine lv_aload_n hx hb d_Ref_mark_140 rfl (lv_at hl 0 rfl) ?_
        refine lv_aload_n hx hb d_Ref_mark_141 rfl (lv_at hl 0 rfl) ?_
        refine lv_iload_n hx hb d_Ref_mark_142 rfl (lv_at hl 2 rfl) ?_
        refine lv_iload hx hb d_Ref_mark_143 (lv_at hl 4 rfl) ?_
        obtain ⟨r5, u6, h7, hm⟩ := ob_some hm
        refine goVI (As := [.int x2, .int x4]) (rest := [.ref (G 0)]) (b0 := G 0) 0 C0 (k_Ref_blockAt l D G Y h7) q_625 q_6 q_622 q_624 qs_34 e_Ref_blockAt (by decide) rfl rfl hP hD hS hl.1 rfl (Nat.le_of_ble_eq_true rfl) d_Ref_mark_145 (fun H locs hP hD hS => ?_)
        obtain ⟨r9, u10, h11, hm⟩ := ob_some hm
        refine goVZ (As := [.int r5]) (rest := []) (b0 := G 0) 0 C0 (k_Ref_reach l D G Y h11) q_605 q_6 q_602 q_604 qs_29 e_Ref_reach (by decide) rfl rfl hP hD hS hl.1 rfl (Nat.le_of_ble_eq_true rfl) d_Ref_mark_148 (fun H locs hz12 hP hD hS => ?_)
        refine lv_if_ne (tgt := 158) hx hb d_Ref_mark_151 (by decide) (fun hc => ?_) (fun hc => ?_)
        · rw [if_neg hc] at hm
          refine lv_iconst (v := (1 : Int32)) hx hb d_Ref_mark_158 (by decide) ?_
          refine lv_goto (tgt := 163) hx hb d_Ref_mark_159 (by decide) ?_
          refine lv_istore_n (lv' := [(1, .int (1 : Int32)), (0, .ref (G 0)), (2, .int x2), (3, .int x3), (4, .int x4)]) hx hb d_Ref_mark_163 rfl hl (by decide) rfl (fun ls hl => ?_)
          refine lv_iinc (v := (x4 + (1 : Int32))) (lv' := [(4, .int (x4 + (1 : Int32))), (1, .int (1 : Int32)), (0, .ref (G 0)), (2, .int x2), (3, .int x3)]) hx hb d_Ref_mark_164 hl (k := 4) rfl rfl (by decide) rfl (fun ls hl => ?_)
          refine lv_goto (tgt := 134) hx hb d_Ref_mark_167 (by decide) ?_
          exact ih u10 (1 : Int32) (x4 + (1 : Int32)) hm _ _ _ hP hD hS (lv_sub hl [2, 1, 3, 4, 0] rfl)
        · rw [if_pos hc] at hm
          refine lv_iload_n hx hb d_Ref_mark_154 rfl (lv_at hl 1 rfl) ?_
          refine lv_if_eq (tgt := 162) hx hb d_Ref_mark_155 (by decide) (fun hc => ?_) (fun hc => ?_)
          · rw [if_pos hc] at hm
            refine lv_iconst (v := (0 : Int32)) hx hb d_Ref_mark_162 (by decide) ?_
            refine lv_istore_n (lv' := [(1, .int (0 : Int32)), (0, .ref (G 0)), (2, .int x2), (3, .int x3), (4, .int x4)]) hx hb d_Ref_mark_163 rfl hl (by decide) rfl (fun ls hl => ?_)
            refine lv_iinc (v := (x4 + (1 : Int32))) (lv' := [(4, .int (x4 + (1 : Int32))), (1, .int (0 : Int32)), (0, .ref (G 0)), (2, .int x2), (3, .int x3)]) hx hb d_Ref_mark_164 hl (k := 4) rfl rfl (by decide) rfl (fun ls hl => ?_)
            refine lv_goto (tgt := 134) hx hb d_Ref_mark_167 (by decide) ?_
            exact ih u10 (0 : Int32) (x4 + (1 : Int32)) hm _ _ _ hP hD hS (lv_sub hl [2, 1, 3, 4, 0] rfl)
          · rw [if_neg hc] at hm
            refine lv_iconst (v := (1 : Int32)) hx hb d_Ref_mark_158 (by decide) ?_
            refine lv_goto (tgt := 163) hx hb d_Ref_mark_159 (by decide) ?_
            refine lv_istore_n (lv' := [(1, .int (1 : Int32)), (0, .ref (G 0)), (2, .int x2), (3, .int x3), (4, .int x4)]) hx hb d_Ref_mark_163 rfl hl (by decide) rfl (fun ls hl => ?_)
            refine lv_iinc (v := (x4 + (1 : Int32))) (lv' := [(4, .int (x4 + (1 : Int32))), (1, .int (1 : Int32)), (0, .ref (G 0)), (2, .int x2), (3, .int x3)]) hx hb d_Ref_mark_164 hl (k := 4) rfl rfl (by decide) rfl (fun ls hl => ?_)
            refine lv_goto (tgt := 134) hx hb d_Ref_mark_167 (by decide) ?_
            exact ih u10 (1 : Int32) (x4 + (1 : Int32)) hm _ _ _ hP hD hS (lv_sub hl [2, 1, 3, 4, 0] rfl)
  have L76 : ∀  (o : (Unit × SR) ⊕ (Int32 × SR)) (kr : ∀ z, o = .inl z → z = ((), u')) (kx : ∀ (y1 : Int32) (ub : SR), o = .inr (y1, ub) → ∀ (H : Heap) (locs : List Loc) (ls : Array Slot), va_P D clz (wdR G Y ub) H → va_D A (wdR G Y ub) → va_S A s.heap H locs → lv_has ls 5 [(0, .ref (G 0)), (1, .int y1)] → W p l e (zRm 2 44) s m ([.ref (G 0)] : List Value).toArray below meth c H locs 0 0 Z (F0 m 176 ls [])) (n0 : Nat) (ua : SR) (x1 : Int32) (x2 : Int32), m_Ref_mark_L76 n0 ua x1 x2 = some o → ∀ (H : Heap) (locs : List Loc) (ls : Array Slot), va_P D clz (wdR G Y ua) H → va_D A (wdR G Y ua) → va_S A s.heap H locs → lv_has ls 5 [(0, .ref (G 0)), (1, .int x1), (2, .int x2)] → W p l e (zRm 2 44) s m ([.ref (G 0)] : List Value).toArray below meth c H locs 0 0 Z (F0 m 76 ls []) := by
    intro  o kr kx n0
    induction n0 with
    | zero => intro ua x1 x2 hm; rw [m_Ref_mark_L76] at hm; cases hm
    | succ n0 ih =>
      intro ua x1 x2 hm H locs ls hP hD hS hl
      rw [m_Ref_mark_L76] at hm
      refine lv_iload_n hx hb d_Ref_mark_76 rfl (lv_at hl 2 rfl) ?_
      refine lv_bipush (v := (30 : Int32)) hx hb d_Ref_mark_77 (by decide) ?_
      refine lv_icmp_gt (tgt := 176) hx hb d_Ref_mark_79 (by decide) (fun hc => ?_) (fun hc => ?_)
      · rw [if_pos hc] at hm
        exact kx x1 ua (Option.some.inj hm).symm _ _ _ hP hD hS (lv_sub hl [0, 1] rfl)
      · rw [if_neg hc] at hm
        refine lv_aload_n hx hb d_Ref_mark_82 rfl (lv_at hl 0 rfl) ?_
        refine va_get (D := D) (ci := 5) (v := .ref (G 4)) (C := "FirmStoreModel") (T := F_Ref) (N := 12) hx hb hts iz_Ref hown hK hP 0 rfl rfl 10 (by decide) (hts _ q_547) (fun _ h9 => h9) rfl d_Ref_mark_83 ?_
        refine lv_iload_n hx hb d_Ref_mark_86 rfl (lv_at hl 2 rfl) ?_
        obtain ⟨hg, hm⟩ := gd hm
        refine va_zald hx hb hK hP 4 2 (f := (rg_rea ua)) rfl rfl (inb_in hg) d_Ref_mark_87 ?_
        refine lv_if_eq (tgt := 170) hx hb d_Ref_mark_88 (by decide) (fun hc => ?_) (fun hc => ?_)
        · rw [if_pos hc] at hm
          refine lv_iinc (v := (x2 + (1 : Int32))) (lv' := [(2, .int (x2 + (1 : Int32))), (0, .ref (G 0)), (1, .int x1)]) hx hb d_Ref_mark_170 hl (k := 2) rfl rfl (by decide) rfl (fun ls hl => ?_)
          refine lv_goto (tgt := 76) hx hb d_Ref_mark_173 (by decide) ?_
          exact ih ua x1 (x2 + (1 : Int32)) hm _ _ _ hP hD hS (lv_sub hl [1, 2, 0] rfl)
        · rw [if_neg hc] at hm
          refine lv_aload_n hx hb d_Ref_mark_91 rfl (lv_at hl 0 rfl) ?_
          refine lv_aload_n hx hb d_Ref_mark_92 rfl (lv_at hl 0 rfl) ?_
          refine lv_iload_n hx hb d_Ref_mark_93 rfl (lv_at hl 2 rfl) ?_
          obtain ⟨r13, u14, h15, hm⟩ := ob_some hm
          refine goVI (As := [.int x2]) (rest := [.ref (G 0)]) (b0 := G 0) 0 C0 (k_Ref_next l D G Y h15) q_609 q_6 q_606 q_608 qs_30 e_Ref_next (by decide) rfl rfl hP hD hS hl.1 rfl (Nat.le_of_ble_eq_true rfl) d_Ref_mark_94 (fun H locs hP hD hS => ?_)
          obtain ⟨r17, u18, h19, hm⟩ := ob_some hm
          refine goVZ (As := [.int r13]) (rest := []) (b0 := G 0) 0 C0 (k_Ref_reach l D G Y h19) q_605 q_6 q_602 q_604 qs_29 e_Ref_reach (by decide) rfl rfl hP hD hS hl.1 rfl (Nat.le_of_ble_eq_true rfl) d_Ref_mark_97 (fun H locs hz20 hP hD hS => ?_)
          refine lv_if_ne (tgt := 107) hx hb d_Ref_mark_100 (by decide) (fun hc => ?_) (fun hc => ?_)
          · rw [if_neg hc] at hm
            refine lv_iconst (v := (1 : Int32)) hx hb d_Ref_mark_107 (by decide) ?_
            refine lv_goto (tgt := 112) hx hb d_Ref_mark_108 (by decide) ?_
            refine lv_istore_n (lv' := [(1, .int (1 : Int32)), (0, .ref (G 0)), (2, .int x2)]) hx hb d_Ref_mark_112 rfl hl (by decide) rfl (fun ls hl => ?_)
            refine lv_aload_n hx hb d_Ref_mark_113 rfl (lv_at hl 1 rfl) ?_
            refine lv_iload_n hx hb d_Ref_mark_114 rfl (lv_at hl 2 rfl) ?_
            obtain ⟨r21, u22, h23, hm⟩ := ob_some hm
            refine goVI (As := [.int x2]) (rest := []) (b0 := G 0) 0 C0 (k_Ref_level l D G Y h23) q_613 q_6 q_610 q_612 qs_31 e_Ref_level (by decide) rfl rfl hP hD hS hl.1 rfl (Nat.le_of_ble_eq_true rfl) d_Ref_mark_115 (fun H locs hP hD hS => ?_)
            refine lv_if_le (tgt := 129) hx hb d_Ref_mark_118 (by decide) (fun hc => ?_) (fun hc => ?_)
            · rw [if_pos hc] at hm
              refine lv_iconst (v := (0 : Int32)) hx hb d_Ref_mark_129 (by decide) ?_
              refine lv_istore_n (lv' := [(3, .int (0 : Int32)), (1, .int (1 : Int32)), (0, .ref (G 0)), (2, .int x2)]) hx hb d_Ref_mark_130 rfl hl (by decide) rfl (fun ls hl => ?_)
              refine lv_iconst (v := (0 : Int32)) hx hb d_Ref_mark_131 (by decide) ?_
              refine lv_istore (lv' := [(4, .int (0 : Int32)), (3, .int (0 : Int32)), (1, .int (1 : Int32)), (0, .ref (G 0)), (2, .int x2)]) hx hb d_Ref_mark_132 hl (by decide) rfl (fun ls hl => ?_)
              obtain ⟨qq, hq, hi, ho⟩ := ol1_some hm
              refine L134 x2 (0 : Int32) qq (fun z hz => kr z (hi z hz).symm) (fun x25 u26 hz H locs ls hP hD hS hl => ?_) fz u22 (1 : Int32) (0 : Int32) hq _ _ _ hP hD hS (lv_sub hl [3, 2, 4, 1, 0] rfl)
              have hm := ho x25 u26 hz
              refine lv_iinc (v := (x2 + (1 : Int32))) (lv' := [(2, .int (x2 + (1 : Int32))), (0, .ref (G 0)), (1, .int x25)]) hx hb d_Ref_mark_170 hl (k := 2) rfl rfl (by decide) rfl (fun ls hl => ?_)
              refine lv_goto (tgt := 76) hx hb d_Ref_mark_173 (by decide) ?_
              exact ih u26 x25 (x2 + (1 : Int32)) hm _ _ _ hP hD hS (lv_sub hl [1, 2, 0] rfl)
            · rw [if_neg hc] at hm
              refine lv_aload_n hx hb d_Ref_mark_121 rfl (lv_at hl 1 rfl) ?_
              refine lv_iload_n hx hb d_Ref_mark_122 rfl (lv_at hl 2 rfl) ?_
              obtain ⟨r27, u28, h29, hm⟩ := ob_some hm
              refine goVI (As := [.int x2]) (rest := []) (b0 := G 0) 0 C0 (k_Ref_length l D G Y h29) q_617 q_6 q_614 q_616 qs_32 e_Ref_length (by decide) rfl rfl hP hD hS hl.1 rfl (Nat.le_of_ble_eq_true rfl) d_Ref_mark_123 (fun H locs hP hD hS => ?_)
              refine lv_goto (tgt := 130) hx hb d_Ref_mark_126 (by decide) ?_
              refine lv_istore_n (lv' := [(3, .int r27), (1, .int (1 : Int32)), (0, .ref (G 0)), (2, .int x2)]) hx hb d_Ref_mark_130 rfl hl (by decide) rfl (fun ls hl => ?_)
              refine lv_iconst (v := (0 : Int32)) hx hb d_Ref_mark_131 (by decide) ?_
              refine lv_istore (lv' := [(4, .int (0 : Int32)), (3, .int r27), (1, .int (1 : Int32)), (0, .ref (G 0)), (2, .int x2)]) hx hb d_Ref_mark_132 hl (by decide) rfl (fun ls hl => ?_)
              obtain ⟨qq, hq, hi, ho⟩ := ol1_some hm
              refine L134 x2 r27 qq (fun z hz => kr z (hi z hz).symm) (fun x31 u32 hz H locs ls hP hD hS hl => ?_) fz u28 (1 : Int32) (0 : Int32) hq _ _ _ hP hD hS (lv_sub hl [3, 2, 4, 1, 0] rfl)
              have hm := ho x31 u32 hz
              refine lv_iinc (v := (x2 + (1 : Int32))) (lv' := [(2, .int (x2 + (1 : Int32))), (0, .ref (G 0)), (1, .int x31)]) hx hb d_Ref_mark_170 hl (k := 2) rfl rfl (by decide) rfl (fun ls hl => ?_)
              refine lv_goto (tgt := 76) hx hb d_Ref_mark_173 (by decide) ?_
              exact ih u32 x31 (x2 + (1 : Int32)) hm _ _ _ hP hD hS (lv_sub hl [1, 2, 0] rfl)
          · rw [if_pos hc] at hm
            refine lv_iload_n hx hb d_Ref_mark_103 rfl (lv_at hl 1 rfl) ?_
            refine lv_if_eq (tgt := 111) hx hb d_Ref_mark_104 (by decide) (fun hc => ?_) (fun hc => ?_)
            · rw [if_pos hc] at hm
              refine lv_iconst (v := (0 : Int32)) hx hb d_Ref_mark_111 (by decide) ?_
              refine lv_istore_n (lv' := [(1, .int (0 : Int32)), (0, .ref (G 0)), (2, .int x2)]) hx hb d_Ref_mark_112 rfl hl (by decide) rfl (fun ls hl => ?_)
              refine lv_aload_n hx hb d_Ref_mark_113 rfl (lv_at hl 1 rfl) ?_
              refine lv_iload_n hx hb d_Ref_mark_114 rfl (lv_at hl 2 rfl) ?_
              obtain ⟨r33, u34, h35, hm⟩ := ob_some hm
              refine goVI (As := [.int x2]) (rest := []) (b0 := G 0) 0 C0 (k_Ref_level l D G Y h35) q_613 q_6 q_610 q_612 qs_31 e_Ref_level (by decide) rfl rfl hP hD hS hl.1 rfl (Nat.le_of_ble_eq_true rfl) d_Ref_mark_115 (fun H locs hP hD hS => ?_)
              refine lv_if_le (tgt := 129) hx hb d_Ref_mark_118 (by decide) (fun hc => ?_) (fun hc => ?_)
              · rw [if_pos hc] at hm
                refine lv_iconst (v := (0 : Int32)) hx hb d_Ref_mark_129 (by decide) ?_
                refine lv_istore_n (lv' := [(3, .int (0 : Int32)), (1, .int (0 : Int32)), (0, .ref (G 0)), (2, .int x2)]) hx hb d_Ref_mark_130 rfl hl (by decide) rfl (fun ls hl => ?_)
                refine lv_iconst (v := (0 : Int32)) hx hb d_Ref_mark_131 (by decide) ?_
                refine lv_istore (lv' := [(4, .int (0 : Int32)), (3, .int (0 : Int32)), (1, .int (0 : Int32)), (0, .ref (G 0)), (2, .int x2)]) hx hb d_Ref_mark_132 hl (by decide) rfl (fun ls hl => ?_)
                obtain ⟨qq, hq, hi, ho⟩ := ol1_some hm
                refine L134 x2 (0 : Int32) qq (fun z hz => kr z (hi z hz).symm) (fun x37 u38 hz H locs ls hP hD hS hl => ?_) fz u34 (0 : Int32) (0 : Int32) hq _ _ _ hP hD hS (lv_sub hl [3, 2, 4, 1, 0] rfl)
                have hm := ho x37 u38 hz
                refine lv_iinc (v := (x2 + (1 : Int32))) (lv' := [(2, .int (x2 + (1 : Int32))), (0, .ref (G 0)), (1, .int x37)]) hx hb d_Ref_mark_170 hl (k := 2) rfl rfl (by decide) rfl (fun ls hl => ?_)
                refine lv_goto (tgt := 76) hx hb d_Ref_mark_173 (by decide) ?_
                exact ih u38 x37 (x2 + (1 : Int32)) hm _ _ _ hP hD hS (lv_sub hl [1, 2, 0] rfl)
              · rw [if_neg hc] at hm
                refine lv_aload_n hx hb d_Ref_mark_121 rfl (lv_at hl 1 rfl) ?_
                refine lv_iload_n hx hb d_Ref_mark_122 rfl (lv_at hl 2 rfl) ?_
                obtain ⟨r39, u40, h41, hm⟩ := ob_some hm
                refine goVI (As := [.int x2]) (rest := []) (b0 := G 0) 0 C0 (k_Ref_length l D G Y h41) q_617 q_6 q_614 q_616 qs_32 e_Ref_length (by decide) rfl rfl hP hD hS hl.1 rfl (Nat.le_of_ble_eq_true rfl) d_Ref_mark_123 (fun H locs hP hD hS => ?_)
                refine lv_goto (tgt := 130) hx hb d_Ref_mark_126 (by decide) ?_
                refine lv_istore_n (lv' := [(3, .int r39), (1, .int (0 : Int32)), (0, .ref (G 0)), (2, .int x2)]) hx hb d_Ref_mark_130 rfl hl (by decide) rfl (fun ls hl => ?_)
                refine lv_iconst (v := (0 : Int32)) hx hb d_Ref_mark_131 (by decide) ?_
                refine lv_istore (lv' := [(4, .int (0 : Int32)), (3, .int r39), (1, .int (0 : Int32)), (0, .ref (G 0)), (2, .int x2)]) hx hb d_Ref_mark_132 hl (by decide) rfl (fun ls hl => ?_)
                obtain ⟨qq, hq, hi, ho⟩ := ol1_some hm
                refine L134 x2 r39 qq (fun z hz => kr z (hi z hz).symm) (fun x43 u44 hz H locs ls hP hD hS hl => ?_) fz u40 (0 : Int32) (0 : Int32) hq _ _ _ hP hD hS (lv_sub hl [3, 2, 4, 1, 0] rfl)
                have hm := ho x43 u44 hz
                refine lv_iinc (v := (x2 + (1 : Int32))) (lv' := [(2, .int (x2 + (1 : Int32))), (0, .ref (G 0)), (1, .int x43)]) hx hb d_Ref_mark_170 hl (k := 2) rfl rfl (by decide) rfl (fun ls hl => ?_)
                refine lv_goto (tgt := 76) hx hb d_Ref_mark_173 (by decide) ?_
                exact ih u44 x43 (x2 + (1 : Int32)) hm _ _ _ hP hD hS (lv_sub hl [1, 2, 0] rfl)
            · rw [if_neg hc] at hm
              refine lv_iconst (v := (1 : Int32)) hx hb d_Ref_mark_107 (by decide) ?_
              refine lv_goto (tgt := 112) hx hb d_Ref_mark_108 (by decide) ?_
              refine lv_istore_n (lv' := [(1, .int (1 : Int32)), (0, .ref (G 0)), (2, .int x2)]) hx hb d_Ref_mark_112 rfl hl (by decide) rfl (fun ls hl => ?_)
              refine lv_aload_n hx hb d_Ref_mark_113 rfl (lv_at hl 1 rfl) ?_
              refine lv_iload_n hx hb d_Ref_mark_114 rfl (lv_at hl 2 rfl) ?_
              obtain ⟨r45, u46, h47, hm⟩ := ob_some hm
              refine goVI (As := [.int x2]) (rest := []) (b0 := G 0) 0 C0 (k_Ref_level l D G Y h47) q_613 q_6 q_610 q_612 qs_31 e_Ref_level (by decide) rfl rfl hP hD hS hl.1 rfl (Nat.le_of_ble_eq_true rfl) d_Ref_mark_115 (fun H locs hP hD hS => ?_)
              refine lv_if_le (tgt := 129) hx hb d_Ref_mark_118 (by decide) (fun hc => ?_) (fun hc => ?_)
              · rw [if_pos hc] at hm
                refine lv_iconst (v := (0 : Int32)) hx hb d_Ref_mark_129 (by decide) ?_
                refine lv_istore_n (lv' := [(3, .int (0 : Int32)), (1, .int (1 : Int32)), (0, .ref (G 0)), (2, .int x2)]) hx hb d_Ref_mark_130 rfl hl (by decide) rfl (fun ls hl => ?_)
                refine lv_iconst (v := (0 : Int32)) hx hb d_Ref_mark_131 (by decide) ?_
                refine lv_istore (lv' := [(4, .int (0 : Int32)), (3, .int (0 : Int32)), (1, .int (1 : Int32)), (0, .ref (G 0)), (2, .int x2)]) hx hb d_Ref_mark_132 hl (by decide) rfl (fun ls hl => ?_)
                obtain ⟨qq, hq, hi, ho⟩ := ol1_some hm
                refine L134 x2 (0 : Int32) qq (fun z hz => kr z (hi z hz).symm) (fun x49 u50 hz H locs ls hP hD hS hl => ?_) fz u46 (1 : Int32) (0 : Int32) hq _ _ _ hP hD hS (lv_sub hl [3, 2, 4, 1, 0] rfl)
                have hm := ho x49 u50 hz
                refine lv_iinc (v := (x2 + (1 : Int32))) (lv' := [(2, .int (x2 + (1 : Int32))), (0, .ref (G 0)), (1, .int x49)]) hx hb d_Ref_mark_170 hl (k := 2) rfl rfl (by decide) rfl (fun ls hl => ?_)
                refine lv_goto (tgt := 76) hx hb d_Ref_mark_173 (by decide) ?_
                exact ih u50 x49 (x2 + (1 : Int32)) hm _ _ _ hP hD hS (lv_sub hl [1, 2, 0] rfl)
              · rw [if_neg hc] at hm
                refine lv_aload_n hx hb d_Ref_mark_121 rfl (lv_at hl 1 rfl) ?_
                refine lv_iload_n hx hb d_Ref_mark_122 rfl (lv_at hl 2 rfl) ?_
                obtain ⟨r51, u52, h53, hm⟩ := ob_some hm
                refine goVI (As := [.int x2]) (rest := []) (b0 := G 0) 0 C0 (k_Ref_length l D G Y h53) q_617 q_6 q_614 q_616 qs_32 e_Ref_length (by decide) rfl rfl hP hD hS hl.1 rfl (Nat.le_of_ble_eq_true rfl) d_Ref_mark_123 (fun H locs hP hD hS => ?_)
                refine lv_goto (tgt := 130) hx hb d_Ref_mark_126 (by decide) ?_
                refine lv_istore_n (lv' := [(3, .int r51), (1, .int (1 : Int32)), (0, .ref (G 0)), (2, .int x2)]) hx hb d_Ref_mark_130 rfl hl (by decide) rfl (fun ls hl => ?_)
                refine lv_iconst (v := (0 : Int32)) hx hb d_Ref_mark_131 (by decide) ?_
                refine lv_istore (lv' := [(4, .int (0 : Int32)), (3, .int r51), (1, .int (1 : Int32)), (0, .ref (G 0)), (2, .int x2)]) hx hb d_Ref_mark_132 hl (by decide) rfl (fun ls hl => ?_)
                obtain ⟨qq, hq, hi, ho⟩ := ol1_some hm
                refine L134 x2 r51 qq (fun z hz => kr z (hi z hz).symm) (fun x55 u56 hz H locs ls hP hD hS hl => ?_) fz u52 (1 : Int32) (0 : Int32) hq _ _ _ hP hD hS (lv_sub hl [3, 2, 4, 1, 0] rfl)
                have hm := ho x55 u56 hz
                refine lv_iinc (v := (x2 + (1 : Int32))) (lv' := [(2, .int (x2 + (1 : Int32))), (0, .ref (G 0)), (1, .int x55)]) hx hb d_Ref_mark_170 hl (k := 2) rfl rfl (by decide) rfl (fun ls hl => ?_)
                refine lv_goto (tgt := 76) hx hb d_Ref_mark_173 (by decide) ?_
                exact ih u56 x55 (x2 + (1 : Int32)) hm _ _ _ hP hD hS (lv_sub hl [1, 2, 0] rfl)
  have L68 : ∀  (o : (Unit × SR) ⊕ (SR)) (kr : ∀ z, o = .inl z → z = ((), u')) (kx : ∀  (ub : SR), o = .inr ub → ∀ (H : Heap) (locs : List Loc) (ls : Array Slot), va_P D clz (wdR G Y ub) H → va_D A (wdR G Y ub) → va_S A s.heap H locs → lv_has ls 5 [] → W p l e (zRm 2 44) s m ([.ref (G 0)] : List Value).toArray below meth c H locs 0 0 Z (F0 m 179 ls [])) (n0 : Nat) (ua : SR) (x1 : Int32), m_Ref_mark_L68 n0 ua x1 = some o → ∀ (H : Heap) (locs : List Loc) (ls : Array Slot), va_P D clz (wdR G Y ua) H → va_D A (wdR G Y ua) → va_S A s.heap H locs → lv_has ls 5 [(0, .ref (G 0)), (1, .int x1)] → W p l e (zRm 2 44) s m ([.ref (G 0)] : List Value).toArray below meth c H locs 0 0 Z (F0 m 68 ls []) := by
    intro  o kr kx n0
    induction n0 with
    | zero => intro ua x1 hm; rw [m_Ref_mark_L68] at hm; cases hm
    | succ n0 ih =>
      intro ua x1 hm H locs ls hP hD hS hl
      rw [m_Ref_mark_L68] at hm
      refine lv_iload_n hx hb d_Ref_mark_68 rfl (lv_at hl 1 rfl) ?_
      refine lv_if_eq (tgt := 179) hx hb d_Ref_mark_69 (by decide) (fun hc => ?_) (fun hc => ?_)
      · rw [if_pos hc] at hm
        exact kx  ua (Option.some.inj hm).symm _ _ _ hP hD hS (lv_sub hl [] rfl)
      · rw [if_neg hc] at hm
        refine lv_iconst (v := (0 : Int32)) hx hb d_Ref_mark_72 (by decide) ?_
        refine lv_istore_n (lv' := [(1, .int (0 : Int32)), (0, .ref (G 0))]) hx hb d_Ref_mark_73 rfl hl (by decide) rfl (fun ls hl => ?_)
        refine lv_iconst (v := (1 : Int32)) hx hb d_Ref_mark_74 (by decide) ?_
        refine lv_istore_n (lv' := [(2, .int (1 : Int32)), (1, .int (0 : Int32)), (0, .ref (G 0))]) hx hb d_Ref_mark_75 rfl hl (by decide) rfl (fun ls hl => ?_)
        obtain ⟨qq, hq, hi, ho⟩ := ol1_some hm
        refine L76  qq (fun z hz => kr z (hi z hz).symm) (fun x57 u58 hz H locs ls hP hD hS hl => ?_) fz ua (0 : Int32) (1 : Int32) hq _ _ _ hP hD hS (lv_sub hl [2, 1, 0] rfl)
        have hm := ho x57 u58 hz
        refine lv_goto (tgt := 68) hx hb d_Ref_mark_176 (by decide) ?_
        exact ih u58 x57 hm _ _ _ hP hD hS (lv_sub hl [0, 1] rfl)
  rw [m_Ref_mark] at hm
  refine lv_iconst (v := (0 : Int32)) hx hb d_Ref_mark_0 (by decide) ?_
  refine lv_istore_n (lv' := [(1, .int (0 : Int32)), (0, .ref (G 0))]) hx hb d_Ref_mark_1 rfl hl (by decide) rfl (fun ls hl => ?_)
  obtain ⟨qq, hq, hi, ho⟩ := ol0_some hm
  refine L2  qq (fun z hz => hi z hz) (fun  u59 hz H locs ls hP hD hS hl => ?_) fz u (0 : Int32) hq _ _ _ hP hD hS (lv_sub hl [1, 0] rfl)
  have hm := ho  u59 hz
  refine lv_aload_n hx hb d_Ref_mark_21 rfl (lv_at hl 0 rfl) ?_
  refine lv_aload_n hx hb d_Ref_mark_22 rfl (lv_at hl 0 rfl) ?_
  obtain ⟨r60, u61, h62, hm⟩ := ob_some hm
  refine goVI (As := []) (rest := [.ref (G 0)]) (b0 := G 0) 0 C0 (k_Ref_root l D G Y h62) q_593 q_6 q_590 q_592 qs_26 e_Ref_root (by decide) rfl rfl hP hD hS hl.1 rfl (Nat.le_of_ble_eq_true rfl) d_Ref_mark_23 (fun H locs hP hD hS => ?_)
  obtain ⟨r64, u65, h66, hm⟩ := ob_some hm
  refine goVZ (As := [.int r60]) (rest := []) (b0 := G 0) 0 C0 (k_Ref_reach l D G Y h66) q_605 q_6 q_602 q_604 qs_29 e_Ref_reach (by decide) rfl rfl hP hD hS hl.1 rfl (Nat.le_of_ble_eq_true rfl) d_Ref_mark_26 (fun H locs hz67 hP hD hS => ?_)
  refine lv_istore_n (lv' := [(1, .int r64), (0, .ref (G 0))]) hx hb d_Ref_mark_29 rfl hl (by decide) rfl (fun ls hl => ?_)
  refine lv_iconst (v := (1 : Int32)) hx hb d_Ref_mark_30 (by decide) ?_
  refine lv_istore_n (lv' := [(2, .int (1 : Int32)), (1, .int r64), (0, .ref (G 0))]) hx hb d_Ref_mark_31 rfl hl (by decide) rfl (fun ls hl => ?_)
  obtain ⟨qq, hq, hi, ho⟩ := ol1_some hm
  refine L32  qq (fun z hz => hi z hz) (fun x68 u69 hz H locs ls hP hD hS hl => ?_) fz u65 r64 (1 : Int32) hq _ _ _ hP hD hS (lv_sub hl [2, 1, 0] rfl)
  have hm := ho x68 u69 hz
  obtain ⟨qq, hq, hi, ho⟩ := ol0_some hm
  refine L68  qq (fun z hz => hi z hz) (fun  u70 hz H locs ls hP hD hS hl => ?_) fz u69 x68 hq _ _ _ hP hD hS (lv_sub hl [0, 1] rfl)
  have hm := ho  u70 hz
  exact hret _ _ _ _ () u70 (Option.some.inj hm) hP hD hS d_Ref_mark_179
theorem d_Ref_countFree_0 : decode b_Ref_countFree 0 = .ok (.aload_n 0, 1) := by decide +kernel
theorem d_Ref_countFree_1 : decode b_Ref_countFree 1 = .ok (.invokevirtual 94, 3) := by decide +kernel
theorem d_Ref_countFree_4 : decode b_Ref_countFree 4 = .ok (.iconst 0, 1) := by decide +kernel
theorem d_Ref_countFree_5 : decode b_Ref_countFree 5 = .ok (.istore_n 1, 1) := by decide +kernel
theorem d_Ref_countFree_6 : decode b_Ref_countFree 6 = .ok (.iconst 1, 1) := by decide +kernel
theorem d_Ref_countFree_7 : decode b_Ref_countFree 7 = .ok (.istore_n 2, 1) := by decide +kernel
theorem d_Ref_countFree_8 : decode b_Ref_countFree 8 = .ok (.iload_n 2, 1) := by decide +kernel
theorem d_Ref_countFree_9 : decode b_Ref_countFree 9 = .ok (.bipush 30, 2) := by decide +kernel
theorem d_Ref_countFree_11 : decode b_Ref_countFree 11 = .ok (.if_icmp .gt 26, 3) := by decide +kernel
theorem d_Ref_countFree_14 : decode b_Ref_countFree 14 = .ok (.aload_n 0, 1) := by decide +kernel
theorem d_Ref_countFree_15 : decode b_Ref_countFree 15 = .ok (.getfield 24, 3) := by decide +kernel
theorem d_Ref_countFree_18 : decode b_Ref_countFree 18 = .ok (.iload_n 2, 1) := by decide +kernel
theorem d_Ref_countFree_19 : decode b_Ref_countFree 19 = .ok (.baload, 1) := by decide +kernel
theorem d_Ref_countFree_20 : decode b_Ref_countFree 20 = .ok (.ifCond .eq 7, 3) := by decide +kernel
theorem d_Ref_countFree_23 : decode b_Ref_countFree 23 = .ok (.iload_n 1, 1) := by decide +kernel
theorem d_Ref_countFree_24 : decode b_Ref_countFree 24 = .ok (.goto 6, 3) := by decide +kernel
theorem d_Ref_countFree_27 : decode b_Ref_countFree 27 = .ok (.iload_n 1, 1) := by decide +kernel
theorem d_Ref_countFree_28 : decode b_Ref_countFree 28 = .ok (.iconst 1, 1) := by decide +kernel
theorem d_Ref_countFree_29 : decode b_Ref_countFree 29 = .ok (.iadd, 1) := by decide +kernel
theorem d_Ref_countFree_30 : decode b_Ref_countFree 30 = .ok (.istore_n 1, 1) := by decide +kernel
theorem d_Ref_countFree_31 : decode b_Ref_countFree 31 = .ok (.iinc 2 1, 3) := by decide +kernel
theorem d_Ref_countFree_34 : decode b_Ref_countFree 34 = .ok (.goto (-26), 3) := by decide +kernel
theorem d_Ref_countFree_37 : decode b_Ref_countFree 37 = .ok (.iload_n 1, 1) := by decide +kernel
theorem d_Ref_countFree_38 : decode b_Ref_countFree 38 = .ok (.ireturn, 1) := by decide +kernel
set_option maxRecDepth 100000 in
set_option maxHeartbeats 4000000 in
theorem k_Ref_countFree (l : Launch) (D : va_G) (G : Nat → Nat) (Y : Nat → ClassId) {u : SR}  {r : Int32} {u' : SR} (hm : m_Ref_countFree u  = some (r, u')) : KI l D clz (tyz Y) (wdR G Y) y_Ref_countFree b_Ref_countFree 3 (some .int) 3 68 [.ref (G 0)] u r u' := by
  refine mkI (by decide) (Nat.le_of_ble_eq_true rfl) ?_
  intro p e s m below meth c A Z ls C0 hP hD hS hl hret
  obtain ⟨hx, hb, hml, hown, hts, hK, hN, hA⟩ := id C0
  have hl : lv_has ls 3 [(0, .ref (G 0))] := hl
  have L8 : ∀  (o : (Int32 × SR) ⊕ (Int32 × SR)) (kr : ∀ z, o = .inl z → z = (r, u')) (kx : ∀ (y1 : Int32) (ub : SR), o = .inr (y1, ub) → ∀ (H : Heap) (locs : List Loc) (ls : Array Slot), va_P D clz (wdR G Y ub) H → va_D A (wdR G Y ub) → va_S A s.heap H locs → lv_has ls 3 [(1, .int y1)] → W p l e (zRm 3 68) s m ([.ref (G 0)] : List Value).toArray below meth c H locs 0 0 Z (F0 m 37 ls [])) (n0 : Nat) (ua : SR) (x1 : Int32) (x2 : Int32), m_Ref_countFree_L8 n0 ua x1 x2 = some o → ∀ (H : Heap) (locs : List Loc) (ls : Array Slot), va_P D clz (wdR G Y ua) H → va_D A (wdR G Y ua) → va_S A s.heap H locs → lv_has ls 3 [(0, .ref (G 0)), (1, .int x1), (2, .int x2)] → W p l e (zRm 3 68) s m ([.ref (G 0)] : List Value).toArray below meth c H locs 0 0 Z (F0 m 8 ls []) := by
    intro  o kr kx n0
    induction n0 with
    | zero => intro ua x1 x2 hm; rw [m_Ref_countFree_L8] at hm; cases hm
    | succ n0 ih =>
      intro ua x1 x2 hm H locs ls hP hD hS hl
      rw [m_Ref_countFree_L8] at hm
      refine lv_iload_n hx hb d_Ref_countFree_8 rfl (lv_at hl 2 rfl) ?_
      refine lv_bipush (v := (30 : Int32)) hx hb d_Ref_countFree_9 (by decide) ?_
      refine lv_icmp_gt (tgt := 37) hx hb d_Ref_countFree_11 (by decide) (fun hc => ?_) (fun hc => ?_)
      · rw [if_pos hc] at hm
        exact kx x1 ua (Option.some.inj hm).symm _ _ _ hP hD hS (lv_sub hl [1] rfl)
      · rw [if_neg hc] at hm
        refine lv_aload_n hx hb d_Ref_countFree_14 rfl (lv_at hl 0 rfl) ?_
        refine va_get (D := D) (ci := 5) (v := .ref (G 4)) (C := "FirmStoreModel") (T := F_Ref) (N := 12) hx hb hts iz_Ref hown hK hP 0 rfl rfl 10 (by decide) (hts _ q_547) (fun _ h9 => h9) rfl d_Ref_countFree_15 ?_
        refine lv_iload_n hx hb d_Ref_countFree_18 rfl (lv_at hl 2 rfl) ?_
        obtain ⟨hg, hm⟩ := gd hm
        refine va_zald hx hb hK hP 4 2 (f := (rg_rea ua)) rfl rfl (inb_in hg) d_Ref_countFree_19 ?_
        refine lv_if_eq (tgt := 27) hx hb d_Ref_countFree_20 (by decide) (fun hc => ?_) (fun hc => ?_)
        · rw [if_pos hc] at hm
          refine lv_iload_n hx hb d_Ref_countFree_27 rfl (lv_at hl 1 rfl) ?_
          refine lv_iconst (v := (1 : Int32)) hx hb d_Ref_countFree_28 (by decide) ?_
          refine lv_iadd hx hb d_Ref_countFree_29 ?_
          refine lv_istore_n (lv' := [(1, .int (x1 + (1 : Int32))), (0, .ref (G 0)), (2, .int x2)]) hx hb d_Ref_countFree_30 rfl hl (by decide) rfl (fun ls hl => ?_)
          refine lv_iinc (v := (x2 + (1 : Int32))) (lv' := [(2, .int (x2 + (1 : Int32))), (1, .int (x1 + (1 : Int32))), (0, .ref (G 0))]) hx hb d_Ref_countFree_31 hl (k := 2) rfl rfl (by decide) rfl (fun ls hl => ?_)
          refine lv_goto (tgt := 8) hx hb d_Ref_countFree_34 (by decide) ?_
          exact ih ua (x1 + (1 : Int32)) (x2 + (1 : Int32)) hm _ _ _ hP hD hS (lv_sub hl [2, 1, 0] rfl)
        · rw [if_neg hc] at hm
          refine lv_iload_n hx hb d_Ref_countFree_23 rfl (lv_at hl 1 rfl) ?_
          refine lv_goto (tgt := 30) hx hb d_Ref_countFree_24 (by decide) ?_
          refine lv_istore_n (lv' := [(1, .int x1), (0, .ref (G 0)), (2, .int x2)]) hx hb d_Ref_countFree_30 rfl hl (by decide) rfl (fun ls hl => ?_)
          refine lv_iinc (v := (x2 + (1 : Int32))) (lv' := [(2, .int (x2 + (1 : Int32))), (1, .int x1), (0, .ref (G 0))]) hx hb d_Ref_countFree_31 hl (k := 2) rfl rfl (by decide) rfl (fun ls hl => ?_)
          refine lv_goto (tgt := 8) hx hb d_Ref_countFree_34 (by decide) ?_
          exact ih ua x1 (x2 + (1 : Int32)) hm _ _ _ hP hD hS (lv_sub hl [2, 1, 0] rfl)
  rw [m_Ref_countFree] at hm
  refine lv_aload_n hx hb d_Ref_countFree_0 rfl (lv_at hl 0 rfl) ?_
  obtain ⟨r1, u2, h3, hm⟩ := ob_some hm
  refine goVV (As := []) (rest := []) (b0 := G 0) 0 C0 (k_Ref_mark l D G Y h3) q_601 q_6 q_598 q_600 qs_28 e_Ref_mark (by decide) rfl rfl hP hD hS hl.1 rfl (Nat.le_of_ble_eq_true rfl) d_Ref_countFree_1 (fun H locs hP hD hS => ?_)
  refine lv_iconst (v := (0 : Int32)) hx hb d_Ref_countFree_4 (by decide) ?_
  refine lv_istore_n (lv' := [(1, .int (0 : Int32)), (0, .ref (G 0))]) hx hb d_Ref_countFree_5 rfl hl (by decide) rfl (fun ls hl => ?_)
  refine lv_iconst (v := (1 : Int32)) hx hb d_Ref_countFree_6 (by decide) ?_
  refine lv_istore_n (lv' := [(2, .int (1 : Int32)), (1, .int (0 : Int32)), (0, .ref (G 0))]) hx hb d_Ref_countFree_7 rfl hl (by decide) rfl (fun ls hl => ?_)
  obtain ⟨qq, hq, hi, ho⟩ := ol1_some hm
  refine L8  qq (fun z hz => hi z hz) (fun x5 u6 hz H locs ls hP hD hS hl => ?_) fz u2 (0 : Int32) (1 : Int32) hq _ _ _ hP hD hS (lv_sub hl [2, 1, 0] rfl)
  have hm := ho x5 u6 hz
  refine lv_iload_n hx hb d_Ref_countFree_37 rfl (lv_at hl 0 rfl) ?_
  exact hret _ _ _ _ x5 u6 (Option.some.inj hm) hP hD hS d_Ref_countFree_38
theorem d_Ref_make_0 : decode b_Ref_make 0 = .ok (.aload_n 0, 1) := by decide +kernel
theorem d_Ref_make_1 : decode b_Ref_make 1 = .ok (.invokevirtual 94, 3) := by decide +kernel
theorem d_Ref_make_4 : decode b_Ref_make 4 = .ok (.iconst 1, 1) := by decide +kernel
theorem d_Ref_make_5 : decode b_Ref_make 5 = .ok (.istore 10, 2) := by decide +kernel
theorem d_Ref_make_7 : decode b_Ref_make 7 = .ok (.iload 10, 2) := by decide +kernel
theorem d_Ref_make_9 : decode b_Ref_make 9 = .ok (.bipush 30, 2) := by decide +kernel
theorem d_Ref_make_11 : decode b_Ref_make 11 = .ok (.if_icmp .ge 22, 3) := by decide +kernel
theorem d_Ref_make_14 : decode b_Ref_make 14 = .ok (.aload_n 0, 1) := by decide +kernel
theorem d_Ref_make_15 : decode b_Ref_make 15 = .ok (.getfield 24, 3) := by decide +kernel
theorem d_Ref_make_18 : decode b_Ref_make 18 = .ok (.iload 10, 2) := by decide +kernel
theorem d_Ref_make_20 : decode b_Ref_make 20 = .ok (.baload, 1) := by decide +kernel
theorem d_Ref_make_21 : decode b_Ref_make 21 = .ok (.ifCond .eq 12, 3) := by decide +kernel
theorem d_Ref_make_24 : decode b_Ref_make 24 = .ok (.iload 10, 2) := by decide +kernel
theorem d_Ref_make_26 : decode b_Ref_make 26 = .ok (.iconst 1, 1) := by decide +kernel
theorem d_Ref_make_27 : decode b_Ref_make 27 = .ok (.iadd, 1) := by decide +kernel
theorem d_Ref_make_28 : decode b_Ref_make 28 = .ok (.istore 10, 2) := by decide +kernel
theorem d_Ref_make_30 : decode b_Ref_make 30 = .ok (.goto (-23), 3) := by decide +kernel
theorem d_Ref_make_33 : decode b_Ref_make 33 = .ok (.aload_n 0, 1) := by decide +kernel
theorem d_Ref_make_34 : decode b_Ref_make 34 = .ok (.bipush 9, 2) := by decide +kernel
theorem d_Ref_make_36 : decode b_Ref_make 36 = .ok (.iload 10, 2) := by decide +kernel
theorem d_Ref_make_38 : decode b_Ref_make 38 = .ok (.imul, 1) := by decide +kernel
theorem d_Ref_make_39 : decode b_Ref_make 39 = .ok (.iload_n 1, 1) := by decide +kernel
theorem d_Ref_make_40 : decode b_Ref_make 40 = .ok (.i2l, 1) := by decide +kernel
theorem d_Ref_make_41 : decode b_Ref_make 41 = .ok (.invokevirtual 53, 3) := by decide +kernel
theorem d_Ref_make_44 : decode b_Ref_make 44 = .ok (.aload_n 0, 1) := by decide +kernel
theorem d_Ref_make_45 : decode b_Ref_make 45 = .ok (.bipush 9, 2) := by decide +kernel
theorem d_Ref_make_47 : decode b_Ref_make 47 = .ok (.iload 10, 2) := by decide +kernel
theorem d_Ref_make_49 : decode b_Ref_make 49 = .ok (.imul, 1) := by decide +kernel
theorem d_Ref_make_50 : decode b_Ref_make 50 = .ok (.iconst 1, 1) := by decide +kernel
theorem d_Ref_make_51 : decode b_Ref_make 51 = .ok (.iadd, 1) := by decide +kernel
theorem d_Ref_make_52 : decode b_Ref_make 52 = .ok (.iload_n 2, 1) := by decide +kernel
theorem d_Ref_make_53 : decode b_Ref_make 53 = .ok (.i2l, 1) := by decide +kernel
theorem d_Ref_make_54 : decode b_Ref_make 54 = .ok (.invokevirtual 53, 3) := by decide +kernel
theorem d_Ref_make_57 : decode b_Ref_make 57 = .ok (.aload_n 0, 1) := by decide +kernel
theorem d_Ref_make_58 : decode b_Ref_make 58 = .ok (.bipush 9, 2) := by decide +kernel
theorem d_Ref_make_60 : decode b_Ref_make 60 = .ok (.iload 10, 2) := by decide +kernel
theorem d_Ref_make_62 : decode b_Ref_make 62 = .ok (.imul, 1) := by decide +kernel
theorem d_Ref_make_63 : decode b_Ref_make 63 = .ok (.iconst 2, 1) := by decide +kernel
theorem d_Ref_make_64 : decode b_Ref_make 64 = .ok (.iadd, 1) := by decide +kernel
theorem d_Ref_make_65 : decode b_Ref_make 65 = .ok (.iload_n 3, 1) := by decide +kernel
theorem d_Ref_make_66 : decode b_Ref_make 66 = .ok (.i2l, 1) := by decide +kernel
theorem d_Ref_make_67 : decode b_Ref_make 67 = .ok (.invokevirtual 53, 3) := by decide +kernel
theorem d_Ref_make_70 : decode b_Ref_make 70 = .ok (.aload_n 0, 1) := by decide +kernel
theorem d_Ref_make_71 : decode b_Ref_make 71 = .ok (.bipush 9, 2) := by decide +kernel
theorem d_Ref_make_73 : decode b_Ref_make 73 = .ok (.iload 10, 2) := by decide +kernel
theorem d_Ref_make_75 : decode b_Ref_make 75 = .ok (.imul, 1) := by decide +kernel
theorem d_Ref_make_76 : decode b_Ref_make 76 = .ok (.iconst 3, 1) := by decide +kernel
theorem d_Ref_make_77 : decode b_Ref_make 77 = .ok (.iadd, 1) := by decide +kernel
theorem d_Ref_make_78 : decode b_Ref_make 78 = .ok (.lload 4, 2) := by decide +kernel
theorem d_Ref_make_80 : decode b_Ref_make 80 = .ok (.invokevirtual 53, 3) := by decide +kernel
theorem d_Ref_make_83 : decode b_Ref_make 83 = .ok (.aload_n 0, 1) := by decide +kernel
theorem d_Ref_make_84 : decode b_Ref_make 84 = .ok (.bipush 9, 2) := by decide +kernel
theorem d_Ref_make_86 : decode b_Ref_make 86 = .ok (.iload 10, 2) := by decide +kernel
theorem d_Ref_make_88 : decode b_Ref_make 88 = .ok (.imul, 1) := by decide +kernel
theorem d_Ref_make_89 : decode b_Ref_make 89 = .ok (.iconst 4, 1) := by decide +kernel
theorem d_Ref_make_90 : decode b_Ref_make 90 = .ok (.iadd, 1) := by decide +kernel
theorem d_Ref_make_91 : decode b_Ref_make 91 = .ok (.lload 6, 2) := by decide +kernel
theorem d_Ref_make_93 : decode b_Ref_make 93 = .ok (.invokevirtual 53, 3) := by decide +kernel
theorem d_Ref_make_96 : decode b_Ref_make 96 = .ok (.aload_n 0, 1) := by decide +kernel
theorem d_Ref_make_97 : decode b_Ref_make 97 = .ok (.bipush 9, 2) := by decide +kernel
theorem d_Ref_make_99 : decode b_Ref_make 99 = .ok (.iload 10, 2) := by decide +kernel
theorem d_Ref_make_101 : decode b_Ref_make 101 = .ok (.imul, 1) := by decide +kernel
theorem d_Ref_make_102 : decode b_Ref_make 102 = .ok (.iconst 5, 1) := by decide +kernel
theorem d_Ref_make_103 : decode b_Ref_make 103 = .ok (.iadd, 1) := by decide +kernel
theorem d_Ref_make_104 : decode b_Ref_make 104 = .ok (.lload 8, 2) := by decide +kernel
theorem d_Ref_make_106 : decode b_Ref_make 106 = .ok (.invokevirtual 53, 3) := by decide +kernel
theorem d_Ref_make_109 : decode b_Ref_make 109 = .ok (.bipush 6, 2) := by decide +kernel
theorem d_Ref_make_111 : decode b_Ref_make 111 = .ok (.istore 11, 2) := by decide +kernel
theorem d_Ref_make_113 : decode b_Ref_make 113 = .ok (.iload 11, 2) := by decide +kernel
theorem d_Ref_make_115 : decode b_Ref_make 115 = .ok (.bipush 9, 2) := by decide +kernel
theorem d_Ref_make_117 : decode b_Ref_make 117 = .ok (.if_icmp .ge 22, 3) := by decide +kernel
theorem d_Ref_make_120 : decode b_Ref_make 120 = .ok (.aload_n 0, 1) := by decide +kernel
theorem d_Ref_make_121 : decode b_Ref_make 121 = .ok (.bipush 9, 2) := by decide +kernel
theorem d_Ref_make_123 : decode b_Ref_make 123 = .ok (.iload 10, 2) := by decide +kernel
theorem d_Ref_make_125 : decode b_Ref_make 125 = .ok (.imul, 1) := by decide +kernel
theorem d_Ref_make_126 : decode b_Ref_make 126 = .ok (.iload 11, 2) := by decide +kernel
theorem d_Ref_make_128 : decode b_Ref_make 128 = .ok (.iadd, 1) := by decide +kernel
theorem d_Ref_make_129 : decode b_Ref_make 129 = .ok (.lconst 0, 1) := by decide +kernel
theorem d_Ref_make_130 : decode b_Ref_make 130 = .ok (.invokevirtual 53, 3) := by decide +kernel
theorem d_Ref_make_133 : decode b_Ref_make 133 = .ok (.iinc 11 1, 3) := by decide +kernel
theorem d_Ref_make_136 : decode b_Ref_make 136 = .ok (.goto (-23), 3) := by decide +kernel
theorem d_Ref_make_139 : decode b_Ref_make 139 = .ok (.aload_n 0, 1) := by decide +kernel
theorem d_Ref_make_140 : decode b_Ref_make 140 = .ok (.invokevirtual 57, 3) := by decide +kernel
theorem d_Ref_make_143 : decode b_Ref_make 143 = .ok (.iload 10, 2) := by decide +kernel
theorem d_Ref_make_145 : decode b_Ref_make 145 = .ok (.ireturn, 1) := by decide +kernel
set_option maxRecDepth 100000 in
set_option maxHeartbeats 4000000 in
theorem k_Ref_make (l : Launch) (D : va_G) (G : Nat → Nat) (Y : Nat → ClassId) {u : SR} {a1 : Int32} {a2 : Int32} {a3 : Int32} {a4 : Int64} {a5 : Int64} {a6 : Int64} {r : Int32} {u' : SR} (hm : m_Ref_make u a1 a2 a3 a4 a5 a6 = some (r, u')) : KI l D clz (tyz Y) (wdR G Y) y_Ref_make b_Ref_make 12 (some .int) 3 68 [.ref (G 0), .int a1, .int a2, .int a3, .long a4, .long a5, .long a6] u r u' := by
  refine mkI (by decide) (Nat.le_of_ble_eq_true rfl) ?_
  intro p e s m below meth c A Z ls C0 hP hD hS hl hret
  obtain ⟨hx, hb, hml, hown, hts, hK, hN, hA⟩ := id C0
  have hl : lv_has ls 12 [(0, .ref (G 0)), (1, .int a1), (2, .int a2), (3, .int a3), (4, .long a4), (6, .long a5), (8, .long a6)] := hl
  have L7 : ∀ (x1 : Int32) (x2 : Int32) (x3 : Int32) (x4 : Int64) (x6 : Int64) (x8 : Int64) (o : (Int32 × SR) ⊕ (Int32 × SR)) (kr : ∀ z, o = .inl z → z = (r, u')) (kx : ∀ (y10 : Int32) (ub : SR), o = .inr (y10, ub) → ∀ (H : Heap) (locs : List Loc) (ls : Array Slot), va_P D clz (wdR G Y ub) H → va_D A (wdR G Y ub) → va_S A s.heap H locs → lv_has ls 12 [(0, .ref (G 0)), (1, .int x1), (2, .int x2), (3, .int x3), (4, .long x4), (6, .long x6), (8, .long x8), (10, .int y10)] → W p l e (zRm 3 68) s m ([.ref (G 0), .int a1, .int a2, .int a3, .long a4, .long a5, .long a6] : List Value).toArray below meth c H locs 0 0 Z (F0 m 33 ls [])) (n0 : Nat) (ua : SR) (x10 : Int32), m_Ref_make_L7 n0 ua x10 x1 x2 x3 x4 x6 x8 = some o → ∀ (H : Heap) (locs : List Loc) (ls : Array Slot), va_P D clz (wdR G Y ua) H → va_D A (wdR G Y ua) → va_S A s.heap H locs → lv_has ls 12 [(0, .ref (G 0)), (1, .int x1), (2, .int x2), (3, .int x3), (4, .long x4), (6, .long x6), (8, .long x8), (10, .int x10)] → W p l e (zRm 3 68) s m ([.ref (G 0), .int a1, .int a2, .int a3, .long a4, .long a5, .long a6] : List Value).toArray below meth c H locs 0 0 Z (F0 m 7 ls []) := by
    intro x1 x2 x3 x4 x6 x8 o kr kx n0
    induction n0 with
    | zero => intro ua x10 hm; rw [m_Ref_make_L7] at hm; cases hm
    | succ n0 ih =>
      intro ua x10 hm H locs ls hP hD hS hl
      rw [m_Ref_make_L7] at hm
      refine lv_iload hx hb d_Ref_make_7 (lv_at hl 7 rfl) ?_
      refine lv_bipush (v := (30 : Int32)) hx hb d_Ref_make_9 (by decide) ?_
      refine lv_icmp_ge (tgt := 33) hx hb d_Ref_make_11 (by decide) (fun hc => ?_) (fun hc => ?_)
      · rw [if_pos hc] at hm
        exact kx x10 ua (Option.some.inj hm).symm _ _ _ hP hD hS (lv_sub hl [0, 1, 2, 3, 4, 5, 6, 7] rfl)
      · rw [if_neg hc] at hm
        refine lv_aload_n hx hb d_Ref_make_14 rfl (lv_at hl 0 rfl) ?_
        refine va_get (D := D) (ci := 5) (v := .ref (G 4)) (C := "FirmStoreModel") (T := F_Ref) (N := 12) hx hb hts iz_Ref hown hK hP 0 rfl rfl 10 (by decide) (hts _ q_547) (fun _ h9 => h9) rfl d_Ref_make_15 ?_
        refine lv_iload hx hb d_Ref_make_18 (lv_at hl 7 rfl) ?_
        obtain ⟨hg, hm⟩ := gd hm
        refine va_zald hx hb hK hP 4 2 (f := (rg_rea ua)) rfl rfl (inb_in hg) d_Ref_make_20 ?_
        refine lv_if_eq (tgt := 33) hx hb d_Ref_make_21 (by decide) (fun hc => ?_) (fun hc => ?_)
        · rw [if_pos hc] at hm
          exact kx x10 ua (Option.some.inj hm).symm _ _ _ hP hD hS (lv_sub hl [0, 1, 2, 3, 4, 5, 6, 7] rfl)
        · rw [if_neg hc] at hm
          refine lv_iload hx hb d_Ref_make_24 (lv_at hl 7 rfl) ?_
          refine lv_iconst (v := (1 : Int32)) hx hb d_Ref_make_26 (by decide) ?_
          refine lv_iadd hx hb d_Ref_make_27 ?_
          refine lv_istore (lv' := [(10, .int (x10 + (1 : Int32))), (0, .ref (G 0)), (1, .int x1), (2, .int x2), (3, .int x3), (4, .long x4), (6, .long x6), (8, .long x8)]) hx hb d_Ref_make_28 hl (by decide) rfl (fun ls hl => ?_)
          refine lv_goto (tgt := 7) hx hb d_Ref_make_30 (by decide) ?_
          exact ih ua (x10 + (1 : Int32)) hm _ _ _ hP hD hS (lv_sub hl [1, 2, 3, 4, 5, 6, 7, 0] rfl)
  have L113 : ∀ (x10 : Int32) (o : (Int32 × SR) ⊕ (SR)) (kr : ∀ z, o = .inl z → z = (r, u')) (kx : ∀  (ub : SR), o = .inr ub → ∀ (H : Heap) (locs : List Loc) (ls : Array Slot), va_P D clz (wdR G Y ub) H → va_D A (wdR G Y ub) → va_S A s.heap H locs → lv_has ls 12 [(0, .ref (G 0)), (10, .int x10)] → W p l e (zRm 3 68) s m ([.ref (G 0), .int a1, .int a2, .int a3, .long a4, .long a5, .long a6] : List Value).toArray below meth c H locs 0 0 Z (F0 m 139 ls [])) (n0 : Nat) (ua : SR) (x11 : Int32), m_Ref_make_L113 n0 ua x11 x10 = some o → ∀ (H : Heap) (locs : List Loc) (ls : Array Slot), va_P D clz (wdR G Y ua) H → va_D A (wdR G Y ua) → va_S A s.heap H locs → lv_has ls 12 [(0, .ref (G 0)), (10, .int x10), (11, .int x11)] → W p l e (zRm 3 68) s m ([.ref (G 0), .int a1, .int a2, .int a3, .long a4, .long a5, .long a6] : List Value).toArray below meth c H locs 0 0 Z (F0 m 113 ls []) := by
    intro x10 o kr kx n0
    induction n0 with
    | zero => intro ua x11 hm; rw [m_Ref_make_L113] at hm; cases hm
    | succ n0 ih =>
      intro ua x11 hm H locs ls hP hD hS hl
      rw [m_Ref_make_L113] at hm
      refine lv_iload hx hb d_Ref_make_113 (lv_at hl 2 rfl) ?_
      refine lv_bipush (v := (9 : Int32)) hx hb d_Ref_make_115 (by decide) ?_
      refine lv_icmp_ge (tgt := 139) hx hb d_Ref_make_117 (by decide) (fun hc => ?_) (fun hc => ?_)
      · rw [if_pos hc] at hm
        exact kx  ua (Option.some.inj hm).symm _ _ _ hP hD hS (lv_sub hl [0, 1] rfl)
      · rw [if_neg hc] at hm
        refine lv_aload_n hx hb d_Ref_make_120 rfl (lv_at hl 0 rfl) ?_
        refine lv_bipush (v := (9 : Int32)) hx hb d_Ref_make_121 (by decide) ?_
        refine lv_iload hx hb d_Ref_make_123 (lv_at hl 1 rfl) ?_
        refine lv_imul hx hb d_Ref_make_125 ?_
        refine lv_iload hx hb d_Ref_make_126 (lv_at hl 2 rfl) ?_
        refine lv_iadd hx hb d_Ref_make_128 ?_
        refine lv_lconst (v := (0 : Int64)) hx hb d_Ref_make_129 (by decide) ?_
        obtain ⟨r1, u2, h3, hm⟩ := ob_some hm
        refine goVV (As := [.int (((9 : Int32) * x10) + x11), .long (0 : Int64)]) (rest := []) (b0 := G 0) 0 C0 (k_Ref_store l D G Y h3) q_638 q_6 q_635 q_637 qs_36 e_Ref_store (by decide) rfl rfl hP hD hS hl.1 rfl (Nat.le_of_ble_eq_true rfl) d_Ref_make_130 (fun H locs hP hD hS => ?_)
        refine lv_iinc (v := (x11 + (1 : Int32))) (lv' := [(11, .int (x11 + (1 : Int32))), (0, .ref (G 0)), (10, .int x10)]) hx hb d_Ref_make_133 hl (k := 2) rfl rfl (by decide) rfl (fun ls hl => ?_)
        refine lv_goto (tgt := 113) hx hb d_Ref_make_136 (by decide) ?_
        exact ih u2 (x11 + (1 : Int32)) hm _ _ _ hP hD hS (lv_sub hl [1, 2, 0] rfl)
  rw [m_Ref_make] at hm
  refine lv_aload_n hx hb d_Ref_make_0 rfl (lv_at hl 0 rfl) ?_
  obtain ⟨r5, u6, h7, hm⟩ := ob_some hm
  refine goVV (As := []) (rest := []) (b0 := G 0) 0 C0 (k_Ref_mark l D G Y h7) q_601 q_6 q_598 q_600 qs_28 e_Ref_mark (by decide) rfl rfl hP hD hS hl.1 rfl (Nat.le_of_ble_eq_true rfl) d_Ref_make_1 (fun H locs hP hD hS => ?_)
  refine lv_iconst (v := (1 : Int32)) hx hb d_Ref_make_4 (by decide) ?_
  refine lv_istore (lv' := [(10, .int (1 : Int32)), (0, .ref (G 0)), (1, .int a1), (2, .int a2), (3, .int a3), (4, .long a4), (6, .long a5), (8, .long a6)]) hx hb d_Ref_make_5 hl (by decide) rfl (fun ls hl => ?_)
  obtain ⟨qq, hq, hi, ho⟩ := ol1_some hm
  refine L7 a1 a2 a3 a4 a5 a6 qq (fun z hz => hi z hz) (fun x9 u10 hz H locs ls hP hD hS hl => ?_) fz u6 (1 : Int32) hq _ _ _ hP hD hS (lv_sub hl [1, 2, 3, 4, 5, 6, 7, 0] rfl)
  have hm := ho x9 u10 hz
  refine lv_aload_n hx hb d_Ref_make_33 rfl (lv_at hl 0 rfl) ?_
  refine lv_bipush (v := (9 : Int32)) hx hb d_Ref_make_34 (by decide) ?_
  refine lv_iload hx hb d_Ref_make_36 (lv_at hl 7 rfl) ?_
  refine lv_imul hx hb d_Ref_make_38 ?_
  refine lv_iload_n hx hb d_Ref_make_39 rfl (lv_at hl 1 rfl) ?_
  refine lv_i2l (v := (a1.toInt64)) hx hb d_Ref_make_40 rfl ?_
  obtain ⟨r11, u12, h13, hm⟩ := ob_some hm
  refine goVV (As := [.int ((9 : Int32) * x9), .long (a1.toInt64)]) (rest := []) (b0 := G 0) 0 C0 (k_Ref_store l D G Y h13) q_638 q_6 q_635 q_637 qs_36 e_Ref_store (by decide) rfl rfl hP hD hS hl.1 rfl (Nat.le_of_ble_eq_true rfl) d_Ref_make_41 (fun H locs hP hD hS => ?_)
  refine lv_aload_n hx hb d_Ref_make_44 rfl (lv_at hl 0 rfl) ?_
  refine lv_bipush (v := (9 : Int32)) hx hb d_Ref_make_45 (by decide) ?_
  refine lv_iload hx hb d_Ref_make_47 (lv_at hl 7 rfl) ?_
  refine lv_imul hx hb d_Ref_make_49 ?_
  refine lv_iconst (v := (1 : Int32)) hx hb d_Ref_make_50 (by decide) ?_
  refine lv_iadd hx hb d_Ref_make_51 ?_
  refine lv_iload_n hx hb d_Ref_make_52 rfl (lv_at hl 2 rfl) ?_
  refine lv_i2l (v := (a2.toInt64)) hx hb d_Ref_make_53 rfl ?_
  obtain ⟨r15, u16, h17, hm⟩ := ob_some hm
  refine goVV (As := [.int (((9 : Int32) * x9) + (1 : Int32)), .long (a2.toInt64)]) (rest := []) (b0 := G 0) 0 C0 (k_Ref_store l D G Y h17) q_638 q_6 q_635 q_637 qs_36 e_Ref_store (by decide) rfl rfl hP hD hS hl.1 rfl (Nat.le_of_ble_eq_true rfl) d_Ref_make_54 (fun H locs hP hD hS => ?_)
  refine lv_aload_n hx hb d_Ref_make_57 rfl (lv_at hl 0 rfl) ?_
  refine lv_bipush (v := (9 : Int32)) hx hb d_Ref_make_58 (by decide) ?_
  refine lv_iload hx hb d_Ref_make_60 (lv_at hl 7 rfl) ?_
  refine lv_imul hx hb d_Ref_make_62 ?_
  refine lv_iconst (v := (2 : Int32)) hx hb d_Ref_make_63 (by decide) ?_
  refine lv_iadd hx hb d_Ref_make_64 ?_
  refine lv_iload_n hx hb d_Ref_make_65 rfl (lv_at hl 3 rfl) ?_
  refine lv_i2l (v := (a3.toInt64)) hx hb d_Ref_make_66 rfl ?_
  obtain ⟨r19, u20, h21, hm⟩ := ob_some hm
  refine goVV (As := [.int (((9 : Int32) * x9) + (2 : Int32)), .long (a3.toInt64)]) (rest := []) (b0 := G 0) 0 C0 (k_Ref_store l D G Y h21) q_638 q_6 q_635 q_637 qs_36 e_Ref_store (by decide) rfl rfl hP hD hS hl.1 rfl (Nat.le_of_ble_eq_true rfl) d_Ref_make_67 (fun H locs hP hD hS => ?_)
  refine lv_aload_n hx hb d_Ref_make_70 rfl (lv_at hl 0 rfl) ?_
  refine lv_bipush (v := (9 : Int32)) hx hb d_Ref_make_71 (by decide) ?_
  refine lv_iload hx hb d_Ref_make_73 (lv_at hl 7 rfl) ?_
  refine lv_imul hx hb d_Ref_make_75 ?_
  refine lv_iconst (v := (3 : Int32)) hx hb d_Ref_make_76 (by decide) ?_
  refine lv_iadd hx hb d_Ref_make_77 ?_
  refine lv_lload hx hb d_Ref_make_78 (lv_at hl 4 rfl) ?_
  obtain ⟨r23, u24, h25, hm⟩ := ob_some hm
  refine goVV (As := [.int (((9 : Int32) * x9) + (3 : Int32)), .long a4]) (rest := []) (b0 := G 0) 0 C0 (k_Ref_store l D G Y h25) q_638 q_6 q_635 q_637 qs_36 e_Ref_store (by decide) rfl rfl hP hD hS hl.1 rfl (Nat.le_of_ble_eq_true rfl) d_Ref_make_80 (fun H locs hP hD hS => ?_)
  refine lv_aload_n hx hb d_Ref_make_83 rfl (lv_at hl 0 rfl) ?_
  refine lv_bipush (v := (9 : Int32)) hx hb d_Ref_make_84 (by decide) ?_
  refine lv_iload hx hb d_Ref_make_86 (lv_at hl 7 rfl) ?_
  refine lv_imul hx hb d_Ref_make_88 ?_
  refine lv_iconst (v := (4 : Int32)) hx hb d_Ref_make_89 (by decide) ?_
  refine lv_iadd hx hb d_Ref_make_90 ?_
  refine lv_lload hx hb d_Ref_make_91 (lv_at hl 5 rfl) ?_
  obtain ⟨r27, u28, h29, hm⟩ := ob_some hm
  refine goVV (As := [.int (((9 : Int32) * x9) + (4 : Int32)), .long a5]) (rest := []) (b0 := G 0) 0 C0 (k_Ref_store l D G Y h29) q_638 q_6 q_635 q_637 qs_36 e_Ref_store (by decide) rfl rfl hP hD hS hl.1 rfl (Nat.le_of_ble_eq_true rfl) d_Ref_make_93 (fun H locs hP hD hS => ?_)
  refine lv_aload_n hx hb d_Ref_make_96 rfl (lv_at hl 0 rfl) ?_
  refine lv_bipush (v := (9 : Int32)) hx hb d_Ref_make_97 (by decide) ?_
  refine lv_iload hx hb d_Ref_make_99 (lv_at hl 7 rfl) ?_
  refine lv_imul hx hb d_Ref_make_101 ?_
  refine lv_iconst (v := (5 : Int32)) hx hb d_Ref_make_102 (by decide) ?_
  refine lv_iadd hx hb d_Ref_make_103 ?_
  refine lv_lload hx hb d_Ref_make_104 (lv_at hl 6 rfl) ?_
  obtain ⟨r31, u32, h33, hm⟩ := ob_some hm
  refine goVV (As := [.int (((9 : Int32) * x9) + (5 : Int32)), .long a6]) (rest := []) (b0 := G 0) 0 C0 (k_Ref_store l D G Y h33) q_638 q_6 q_635 q_637 qs_36 e_Ref_store (by decide) rfl rfl hP hD hS hl.1 rfl (Nat.le_of_ble_eq_true rfl) d_Ref_make_106 (fun H locs hP hD hS => ?_)
  refine lv_bipush (v := (6 : Int32)) hx hb d_Ref_make_109 (by decide) ?_
  refine lv_istore (lv' := [(11, .int (6 : Int32)), (0, .ref (G 0)), (1, .int a1), (2, .int a2), (3, .int a3), (4, .long a4), (6, .long a5), (8, .long a6), (10, .int x9)]) hx hb d_Ref_make_111 hl (by decide) rfl (fun ls hl => ?_)
  obtain ⟨qq, hq, hi, ho⟩ := ol0_some hm
  refine L113 x9 qq (fun z hz => hi z hz) (fun  u35 hz H locs ls hP hD hS hl => ?_) fz u32 (6 : Int32) hq _ _ _ hP hD hS (lv_sub hl [1, 8, 0] rfl)
  have hm := ho  u35 hz
  refine lv_aload_n hx hb d_Ref_make_139 rfl (lv_at hl 0 rfl) ?_
  obtain ⟨r36, u37, h38, hm⟩ := ob_some hm
  refine goVV (As := []) (rest := []) (b0 := G 0) 0 C0 (k_Ref_fence l D G Y h38) q_646 q_6 q_643 q_645 qs_38 e_Ref_fence (by decide) rfl rfl hP hD hS hl.1 rfl (Nat.le_of_ble_eq_true rfl) d_Ref_make_140 (fun H locs hP hD hS => ?_)
  refine lv_iload hx hb d_Ref_make_143 (lv_at hl 1 rfl) ?_
  exact hret _ _ _ _ x9 u37 (Option.some.inj hm) hP hD hS d_Ref_make_145
theorem d_Ref_below_0 : decode b_Ref_below 0 = .ok (.aload_n 0, 1) := by decide +kernel
theorem d_Ref_below_1 : decode b_Ref_below 1 = .ok (.iload_n 1, 1) := by decide +kernel
theorem d_Ref_below_2 : decode b_Ref_below 2 = .ok (.iconst 0, 1) := by decide +kernel
theorem d_Ref_below_3 : decode b_Ref_below 3 = .ok (.invokevirtual 90, 3) := by decide +kernel
theorem d_Ref_below_6 : decode b_Ref_below 6 = .ok (.istore_n 3, 1) := by decide +kernel
theorem d_Ref_below_7 : decode b_Ref_below 7 = .ok (.iconst 0, 1) := by decide +kernel
theorem d_Ref_below_8 : decode b_Ref_below 8 = .ok (.istore 4, 2) := by decide +kernel
theorem d_Ref_below_10 : decode b_Ref_below 10 = .ok (.iload 4, 2) := by decide +kernel
theorem d_Ref_below_12 : decode b_Ref_below 12 = .ok (.aload_n 0, 1) := by decide +kernel
theorem d_Ref_below_13 : decode b_Ref_below 13 = .ok (.iload_n 1, 1) := by decide +kernel
theorem d_Ref_below_14 : decode b_Ref_below 14 = .ok (.invokevirtual 87, 3) := by decide +kernel
theorem d_Ref_below_17 : decode b_Ref_below 17 = .ok (.if_icmp .ge 32, 3) := by decide +kernel
theorem d_Ref_below_20 : decode b_Ref_below 20 = .ok (.aload_n 0, 1) := by decide +kernel
theorem d_Ref_below_21 : decode b_Ref_below 21 = .ok (.iload_n 1, 1) := by decide +kernel
theorem d_Ref_below_22 : decode b_Ref_below 22 = .ok (.iload 4, 2) := by decide +kernel
theorem d_Ref_below_24 : decode b_Ref_below 24 = .ok (.invokevirtual 103, 3) := by decide +kernel
theorem d_Ref_below_27 : decode b_Ref_below 27 = .ok (.iload_n 2, 1) := by decide +kernel
theorem d_Ref_below_28 : decode b_Ref_below 28 = .ok (.if_icmp .gt 13, 3) := by decide +kernel
theorem d_Ref_below_31 : decode b_Ref_below 31 = .ok (.aload_n 0, 1) := by decide +kernel
theorem d_Ref_below_32 : decode b_Ref_below 32 = .ok (.iload_n 1, 1) := by decide +kernel
theorem d_Ref_below_33 : decode b_Ref_below 33 = .ok (.iload 4, 2) := by decide +kernel
theorem d_Ref_below_35 : decode b_Ref_below 35 = .ok (.invokevirtual 90, 3) := by decide +kernel
theorem d_Ref_below_38 : decode b_Ref_below 38 = .ok (.goto 4, 3) := by decide +kernel
theorem d_Ref_below_41 : decode b_Ref_below 41 = .ok (.iload_n 3, 1) := by decide +kernel
theorem d_Ref_below_42 : decode b_Ref_below 42 = .ok (.istore_n 3, 1) := by decide +kernel
theorem d_Ref_below_43 : decode b_Ref_below 43 = .ok (.iinc 4 1, 3) := by decide +kernel
theorem d_Ref_below_46 : decode b_Ref_below 46 = .ok (.goto (-36), 3) := by decide +kernel
theorem d_Ref_below_49 : decode b_Ref_below 49 = .ok (.iload_n 3, 1) := by decide +kernel
theorem d_Ref_below_50 : decode b_Ref_below 50 = .ok (.ireturn, 1) := by decide +kernel
set_option maxRecDepth 100000 in
set_option maxHeartbeats 4000000 in
theorem k_Ref_below (l : Launch) (D : va_G) (G : Nat → Nat) (Y : Nat → ClassId) {u : SR} {a1 : Int32} {a2 : Int32} {r : Int32} {u' : SR} (hm : m_Ref_below u a1 a2 = some (r, u')) : KI l D clz (tyz Y) (wdR G Y) y_Ref_below b_Ref_below 5 (some .int) 2 44 [.ref (G 0), .int a1, .int a2] u r u' := by
  refine mkI (by decide) (Nat.le_of_ble_eq_true rfl) ?_
  intro p e s m below meth c A Z ls C0 hP hD hS hl hret
  obtain ⟨hx, hb, hml, hown, hts, hK, hN, hA⟩ := id C0
  have hl : lv_has ls 5 [(0, .ref (G 0)), (1, .int a1), (2, .int a2)] := hl
  have L10 : ∀ (x1 : Int32) (x2 : Int32) (o : (Int32 × SR) ⊕ (Int32 × SR)) (kr : ∀ z, o = .inl z → z = (r, u')) (kx : ∀ (y3 : Int32) (ub : SR), o = .inr (y3, ub) → ∀ (H : Heap) (locs : List Loc) (ls : Array Slot), va_P D clz (wdR G Y ub) H → va_D A (wdR G Y ub) → va_S A s.heap H locs → lv_has ls 5 [(3, .int y3)] → W p l e (zRm 2 44) s m ([.ref (G 0), .int a1, .int a2] : List Value).toArray below meth c H locs 0 0 Z (F0 m 49 ls [])) (n0 : Nat) (ua : SR) (x3 : Int32) (x4 : Int32), m_Ref_below_L10 n0 ua x3 x4 x1 x2 = some o → ∀ (H : Heap) (locs : List Loc) (ls : Array Slot), va_P D clz (wdR G Y ua) H → va_D A (wdR G Y ua) → va_S A s.heap H locs → lv_has ls 5 [(0, .ref (G 0)), (1, .int x1), (2, .int x2), (3, .int x3), (4, .int x4)] → W p l e (zRm 2 44) s m ([.ref (G 0), .int a1, .int a2] : List Value).toArray below meth c H locs 0 0 Z (F0 m 10 ls []) := by
    intro x1 x2 o kr kx n0
    induction n0 with
    | zero => intro ua x3 x4 hm; rw [m_Ref_below_L10] at hm; cases hm
    | succ n0 ih =>
      intro ua x3 x4 hm H locs ls hP hD hS hl
      rw [m_Ref_below_L10] at hm
      refine lv_iload hx hb d_Ref_below_10 (lv_at hl 4 rfl) ?_
      refine lv_aload_n hx hb d_Ref_below_12 rfl (lv_at hl 0 rfl) ?_
      refine lv_iload_n hx hb d_Ref_below_13 rfl (lv_at hl 1 rfl) ?_
      obtain ⟨r1, u2, h3, hm⟩ := ob_some hm
      refine goVI (As := [.int x1]) (rest := [.int x4]) (b0 := G 0) 0 C0 (k_Ref_length l D G Y h3) q_617 q_6 q_614 q_616 qs_32 e_Ref_length (by decide) rfl rfl hP hD hS hl.1 rfl (Nat.le_of_ble_eq_true rfl) d_Ref_below_14 (fun H locs hP hD hS => ?_)
      refine lv_icmp_ge (tgt := 49) hx hb d_Ref_below_17 (by decide) (fun hc => ?_) (fun hc => ?_)
      · rw [if_pos hc] at hm
        exact kx x3 u2 (Option.some.inj hm).symm _ _ _ hP hD hS (lv_sub hl [3] rfl)
      · rw [if_neg hc] at hm
        refine lv_aload_n hx hb d_Ref_below_20 rfl (lv_at hl 0 rfl) ?_
        refine lv_iload_n hx hb d_Ref_below_21 rfl (lv_at hl 1 rfl) ?_
        refine lv_iload hx hb d_Ref_below_22 (lv_at hl 4 rfl) ?_
        obtain ⟨r5, u6, h7, hm⟩ := ob_some hm
        refine goVI (As := [.int x1, .int x4]) (rest := []) (b0 := G 0) 0 C0 (k_Ref_keyAt l D G Y h7) q_666 q_6 q_663 q_665 qs_43 e_Ref_keyAt (by decide) rfl rfl hP hD hS hl.1 rfl (Nat.le_of_ble_eq_true rfl) d_Ref_below_24 (fun H locs hP hD hS => ?_)
        refine lv_iload_n hx hb d_Ref_below_27 rfl (lv_at hl 2 rfl) ?_
        refine lv_icmp_gt (tgt := 41) hx hb d_Ref_below_28 (by decide) (fun hc => ?_) (fun hc => ?_)
        · rw [if_pos hc] at hm
          refine lv_iload_n hx hb d_Ref_below_41 rfl (lv_at hl 3 rfl) ?_
          refine lv_istore_n (lv' := [(3, .int x3), (0, .ref (G 0)), (1, .int x1), (2, .int x2), (4, .int x4)]) hx hb d_Ref_below_42 rfl hl (by decide) rfl (fun ls hl => ?_)
          refine lv_iinc (v := (x4 + (1 : Int32))) (lv' := [(4, .int (x4 + (1 : Int32))), (3, .int x3), (0, .ref (G 0)), (1, .int x1), (2, .int x2)]) hx hb d_Ref_below_43 hl (k := 4) rfl rfl (by decide) rfl (fun ls hl => ?_)
          refine lv_goto (tgt := 10) hx hb d_Ref_below_46 (by decide) ?_
          exact ih u6 x3 (x4 + (1 : Int32)) hm _ _ _ hP hD hS (lv_sub hl [2, 3, 4, 1, 0] rfl)
        · rw [if_neg hc] at hm
          refine lv_aload_n hx hb d_Ref_below_31 rfl (lv_at hl 0 rfl) ?_
          refine lv_iload_n hx hb d_Ref_below_32 rfl (lv_at hl 1 rfl) ?_
          refine lv_iload hx hb d_Ref_below_33 (lv_at hl 4 rfl) ?_
          obtain ⟨r9, u10, h11, hm⟩ := ob_some hm
          refine goVI (As := [.int x1, .int x4]) (rest := []) (b0 := G 0) 0 C0 (k_Ref_blockAt l D G Y h11) q_625 q_6 q_622 q_624 qs_34 e_Ref_blockAt (by decide) rfl rfl hP hD hS hl.1 rfl (Nat.le_of_ble_eq_true rfl) d_Ref_below_35 (fun H locs hP hD hS => ?_)
          refine lv_goto (tgt := 42) hx hb d_Ref_below_38 (by decide) ?_
          refine lv_istore_n (lv' := [(3, .int r9), (0, .ref (G 0)), (1, .int x1), (2, .int x2), (4, .int x4)]) hx hb d_Ref_below_42 rfl hl (by decide) rfl (fun ls hl => ?_)
          refine lv_iinc (v := (x4 + (1 : Int32))) (lv' := [(4, .int (x4 + (1 : Int32))), (3, .int r9), (0, .ref (G 0)), (1, .int x1), (2, .int x2)]) hx hb d_Ref_below_43 hl (k := 4) rfl rfl (by decide) rfl (fun ls hl => ?_)
          refine lv_goto (tgt := 10) hx hb d_Ref_below_46 (by decide) ?_
          exact ih u10 r9 (x4 + (1 : Int32)) hm _ _ _ hP hD hS (lv_sub hl [2, 3, 4, 1, 0] rfl)
  rw [m_Ref_below] at hm
  refine lv_aload_n hx hb d_Ref_below_0 rfl (lv_at hl 0 rfl) ?_
  refine lv_iload_n hx hb d_Ref_below_1 rfl (lv_at hl 1 rfl) ?_
  refine lv_iconst (v := (0 : Int32)) hx hb d_Ref_below_2 (by decide) ?_
  obtain ⟨r13, u14, h15, hm⟩ := ob_some hm
  refine goVI (As := [.int a1, .int (0 : Int32)]) (rest := []) (b0 := G 0) 0 C0 (k_Ref_blockAt l D G Y h15) q_625 q_6 q_622 q_624 qs_34 e_Ref_blockAt (by decide) rfl rfl hP hD hS hl.1 rfl (Nat.le_of_ble_eq_true rfl) d_Ref_below_3 (fun H locs hP hD hS => ?_)
  refine lv_istore_n (lv' := [(3, .int r13), (0, .ref (G 0)), (1, .int a1), (2, .int a2)]) hx hb d_Ref_below_6 rfl hl (by decide) rfl (fun ls hl => ?_)
  refine lv_iconst (v := (0 : Int32)) hx hb d_Ref_below_7 (by decide) ?_
  refine lv_istore (lv' := [(4, .int (0 : Int32)), (3, .int r13), (0, .ref (G 0)), (1, .int a1), (2, .int a2)]) hx hb d_Ref_below_8 hl (by decide) rfl (fun ls hl => ?_)
  obtain ⟨qq, hq, hi, ho⟩ := ol1_some hm
  refine L10 a1 a2 qq (fun z hz => hi z hz) (fun x17 u18 hz H locs ls hP hD hS hl => ?_) fz u14 r13 (0 : Int32) hq _ _ _ hP hD hS (lv_sub hl [2, 3, 4, 1, 0] rfl)
  have hm := ho x17 u18 hz
  refine lv_iload_n hx hb d_Ref_below_49 rfl (lv_at hl 0 rfl) ?_
  exact hret _ _ _ _ x17 u18 (Option.some.inj hm) hP hD hS d_Ref_below_50
theorem d_Ref_find_0 : decode b_Ref_find 0 = .ok (.aload_n 0, 1) := by decide +kernel
theorem d_Ref_find_1 : decode b_Ref_find 1 = .ok (.invokevirtual 72, 3) := by decide +kernel
theorem d_Ref_find_4 : decode b_Ref_find 4 = .ok (.istore_n 3, 1) := by decide +kernel
theorem d_Ref_find_5 : decode b_Ref_find 5 = .ok (.iconst 0, 1) := by decide +kernel
theorem d_Ref_find_6 : decode b_Ref_find 6 = .ok (.istore 4, 2) := by decide +kernel
theorem d_Ref_find_8 : decode b_Ref_find 8 = .ok (.iload 4, 2) := by decide +kernel
theorem d_Ref_find_10 : decode b_Ref_find 10 = .ok (.bipush 100, 2) := by decide +kernel
theorem d_Ref_find_12 : decode b_Ref_find 12 = .ok (.if_icmp .ge 55, 3) := by decide +kernel
theorem d_Ref_find_15 : decode b_Ref_find 15 = .ok (.aload_n 0, 1) := by decide +kernel
theorem d_Ref_find_16 : decode b_Ref_find 16 = .ok (.iload_n 3, 1) := by decide +kernel
theorem d_Ref_find_17 : decode b_Ref_find 17 = .ok (.invokevirtual 80, 3) := by decide +kernel
theorem d_Ref_find_20 : decode b_Ref_find 20 = .ok (.istore 5, 2) := by decide +kernel
theorem d_Ref_find_22 : decode b_Ref_find 22 = .ok (.iload 5, 2) := by decide +kernel
theorem d_Ref_find_24 : decode b_Ref_find 24 = .ok (.ifCond .eq 19, 3) := by decide +kernel
theorem d_Ref_find_27 : decode b_Ref_find 27 = .ok (.aload_n 0, 1) := by decide +kernel
theorem d_Ref_find_28 : decode b_Ref_find 28 = .ok (.iload 5, 2) := by decide +kernel
theorem d_Ref_find_30 : decode b_Ref_find 30 = .ok (.invokevirtual 97, 3) := by decide +kernel
theorem d_Ref_find_33 : decode b_Ref_find 33 = .ok (.iload_n 1, 1) := by decide +kernel
theorem d_Ref_find_34 : decode b_Ref_find 34 = .ok (.if_icmp .gt 9, 3) := by decide +kernel
theorem d_Ref_find_37 : decode b_Ref_find 37 = .ok (.iload 5, 2) := by decide +kernel
theorem d_Ref_find_39 : decode b_Ref_find 39 = .ok (.istore_n 3, 1) := by decide +kernel
theorem d_Ref_find_40 : decode b_Ref_find 40 = .ok (.goto 21, 3) := by decide +kernel
theorem d_Ref_find_43 : decode b_Ref_find 43 = .ok (.aload_n 0, 1) := by decide +kernel
theorem d_Ref_find_44 : decode b_Ref_find 44 = .ok (.iload_n 3, 1) := by decide +kernel
theorem d_Ref_find_45 : decode b_Ref_find 45 = .ok (.invokevirtual 84, 3) := by decide +kernel
theorem d_Ref_find_48 : decode b_Ref_find 48 = .ok (.iload_n 2, 1) := by decide +kernel
theorem d_Ref_find_49 : decode b_Ref_find 49 = .ok (.if_icmp .ne 5, 3) := by decide +kernel
theorem d_Ref_find_52 : decode b_Ref_find 52 = .ok (.iload_n 3, 1) := by decide +kernel
theorem d_Ref_find_53 : decode b_Ref_find 53 = .ok (.ireturn, 1) := by decide +kernel
theorem d_Ref_find_54 : decode b_Ref_find 54 = .ok (.aload_n 0, 1) := by decide +kernel
theorem d_Ref_find_55 : decode b_Ref_find 55 = .ok (.iload_n 3, 1) := by decide +kernel
theorem d_Ref_find_56 : decode b_Ref_find 56 = .ok (.iload_n 1, 1) := by decide +kernel
theorem d_Ref_find_57 : decode b_Ref_find 57 = .ok (.invokevirtual 100, 3) := by decide +kernel
theorem d_Ref_find_60 : decode b_Ref_find 60 = .ok (.istore_n 3, 1) := by decide +kernel
theorem d_Ref_find_61 : decode b_Ref_find 61 = .ok (.iinc 4 1, 3) := by decide +kernel
theorem d_Ref_find_64 : decode b_Ref_find 64 = .ok (.goto (-56), 3) := by decide +kernel
theorem d_Ref_find_67 : decode b_Ref_find 67 = .ok (.iload_n 3, 1) := by decide +kernel
theorem d_Ref_find_68 : decode b_Ref_find 68 = .ok (.ireturn, 1) := by decide +kernel
set_option maxRecDepth 100000 in
set_option maxHeartbeats 4000000 in
theorem k_Ref_find (l : Launch) (D : va_G) (G : Nat → Nat) (Y : Nat → ClassId) {u : SR} {a1 : Int32} {a2 : Int32} {r : Int32} {u' : SR} (hm : m_Ref_find u a1 a2 = some (r, u')) : KI l D clz (tyz Y) (wdR G Y) y_Ref_find b_Ref_find 6 (some .int) 3 68 [.ref (G 0), .int a1, .int a2] u r u' := by
  refine mkI (by decide) (Nat.le_of_ble_eq_true rfl) ?_
  intro p e s m below meth c A Z ls C0 hP hD hS hl hret
  obtain ⟨hx, hb, hml, hown, hts, hK, hN, hA⟩ := id C0
  have hl : lv_has ls 6 [(0, .ref (G 0)), (1, .int a1), (2, .int a2)] := hl
  have L8 : ∀ (x1 : Int32) (x2 : Int32) (o : (Int32 × SR) ⊕ (Int32 × SR)) (kr : ∀ z, o = .inl z → z = (r, u')) (kx : ∀ (y3 : Int32) (ub : SR), o = .inr (y3, ub) → ∀ (H : Heap) (locs : List Loc) (ls : Array Slot), va_P D clz (wdR G Y ub) H → va_D A (wdR G Y ub) → va_S A s.heap H locs → lv_has ls 6 [(3, .int y3)] → W p l e (zRm 3 68) s m ([.ref (G 0), .int a1, .int a2] : List Value).toArray below meth c H locs 0 0 Z (F0 m 67 ls [])) (n0 : Nat) (ua : SR) (x3 : Int32) (x4 : Int32), m_Ref_find_L8 n0 ua x3 x4 x1 x2 = some o → ∀ (H : Heap) (locs : List Loc) (ls : Array Slot), va_P D clz (wdR G Y ua) H → va_D A (wdR G Y ua) → va_S A s.heap H locs → lv_has ls 6 [(0, .ref (G 0)), (1, .int x1), (2, .int x2), (3, .int x3), (4, .int x4)] → W p l e (zRm 3 68) s m ([.ref (G 0), .int a1, .int a2] : List Value).toArray below meth c H locs 0 0 Z (F0 m 8 ls []) := by
    intro x1 x2 o kr kx n0
    induction n0 with
    | zero => intro ua x3 x4 hm; rw [m_Ref_find_L8] at hm; cases hm
    | succ n0 ih =>
      intro ua x3 x4 hm H locs ls hP hD hS hl
      rw [m_Ref_find_L8] at hm
      refine lv_iload hx hb d_Ref_find_8 (lv_at hl 4 rfl) ?_
      refine lv_bipush (v := (100 : Int32)) hx hb d_Ref_find_10 (by decide) ?_
      refine lv_icmp_ge (tgt := 67) hx hb d_Ref_find_12 (by decide) (fun hc => ?_) (fun hc => ?_)
      · rw [if_pos hc] at hm
        exact kx x3 ua (Option.some.inj hm).symm _ _ _ hP hD hS (lv_sub hl [3] rfl)
      · rw [if_neg hc] at hm
        refine lv_aload_n hx hb d_Ref_find_15 rfl (lv_at hl 0 rfl) ?_
        refine lv_iload_n hx hb d_Ref_find_16 rfl (lv_at hl 3 rfl) ?_
        obtain ⟨r1, u2, h3, hm⟩ := ob_some hm
        refine goVI (As := [.int x3]) (rest := []) (b0 := G 0) 0 C0 (k_Ref_next l D G Y h3) q_609 q_6 q_606 q_608 qs_30 e_Ref_next (by decide) rfl rfl hP hD hS hl.1 rfl (Nat.le_of_ble_eq_true rfl) d_Ref_find_17 (fun H locs hP hD hS => ?_)
        refine lv_istore (lv' := [(5, .int r1), (0, .ref (G 0)), (1, .int x1), (2, .int x2), (3, .int x3), (4, .int x4)]) hx hb d_Ref_find_20 hl (by decide) rfl (fun ls hl => ?_)
        refine lv_iload hx hb d_Ref_find_22 (lv_at hl 0 rfl) ?_
        refine lv_if_eq (tgt := 43) hx hb d_Ref_find_24 (by decide) (fun hc => ?_) (fun hc => ?_)
        · rw [if_pos hc] at hm
          refine lv_aload_n hx hb d_Ref_find_43 rfl (lv_at hl 1 rfl) ?_
          refine lv_iload_n hx hb d_Ref_find_44 rfl (lv_at hl 4 rfl) ?_
          obtain ⟨r5, u6, h7, hm⟩ := ob_some hm
          refine goVI (As := [.int x3]) (rest := []) (b0 := G 0) 0 C0 (k_Ref_level l D G Y h7) q_613 q_6 q_610 q_612 qs_31 e_Ref_level (by decide) rfl rfl hP hD hS hl.1 rfl (Nat.le_of_ble_eq_true rfl) d_Ref_find_45 (fun H locs hP hD hS => ?_)
          refine lv_iload_n hx hb d_Ref_find_48 rfl (lv_at hl 3 rfl) ?_
          refine lv_icmp_ne (tgt := 54) hx hb d_Ref_find_49 (by decide) (fun hc => ?_) (fun hc => ?_)
          · rw [if_neg hc] at hm
            refine lv_aload_n hx hb d_Ref_find_54 rfl (lv_at hl 1 rfl) ?_
            refine lv_iload_n hx hb d_Ref_find_55 rfl (lv_at hl 4 rfl) ?_
            refine lv_iload_n hx hb d_Ref_find_56 rfl (lv_at hl 2 rfl) ?_
            obtain ⟨r9, u10, h11, hm⟩ := ob_some hm
            refine goVI (As := [.int x3, .int x1]) (rest := []) (b0 := G 0) 0 C0 (k_Ref_below l D G Y h11) q_662 q_6 q_659 q_661 qs_42 e_Ref_below (by decide) rfl rfl hP hD hS hl.1 rfl (Nat.le_of_ble_eq_true rfl) d_Ref_find_57 (fun H locs hP hD hS => ?_)
            refine lv_istore_n (lv' := [(3, .int r9), (5, .int r1), (0, .ref (G 0)), (1, .int x1), (2, .int x2), (4, .int x4)]) hx hb d_Ref_find_60 rfl hl (by decide) rfl (fun ls hl => ?_)
            refine lv_iinc (v := (x4 + (1 : Int32))) (lv' := [(4, .int (x4 + (1 : Int32))), (3, .int r9), (5, .int r1), (0, .ref (G 0)), (1, .int x1), (2, .int x2)]) hx hb d_Ref_find_61 hl (k := 5) rfl rfl (by decide) rfl (fun ls hl => ?_)
            refine lv_goto (tgt := 8) hx hb d_Ref_find_64 (by decide) ?_
            exact ih u10 r9 (x4 + (1 : Int32)) hm _ _ _ hP hD hS (lv_sub hl [3, 4, 5, 1, 0] rfl)
          · rw [if_pos hc] at hm
            refine lv_iload_n hx hb d_Ref_find_52 rfl (lv_at hl 4 rfl) ?_
            exact hret _ _ _ _ x3 u6 (kr _ (Option.some.inj hm).symm) hP hD hS d_Ref_find_53
        · rw [if_neg hc] at hm
          refine lv_aload_n hx hb d_Ref_find_27 rfl (lv_at hl 1 rfl) ?_
          refine lv_iload hx hb d_Ref_find_28 (lv_at hl 0 rfl) ?_
          obtain ⟨r13, u14, h15, hm⟩ := ob_some hm
          refine goVI (As := [.int r1]) (rest := []) (b0 := G 0) 0 C0 (k_Ref_low l D G Y h15) q_658 q_6 q_655 q_657 qs_41 e_Ref_low (by decide) rfl rfl hP hD hS hl.1 rfl (Nat.le_of_ble_eq_true rfl) d_Ref_find_30 (fun H locs hP hD hS => ?_)
          refine lv_iload_n hx hb d_Ref_find_33 rfl (lv_at hl 2 rfl) ?_
          refine lv_icmp_gt (tgt := 43) hx hb d_Ref_find_34 (by decide) (fun hc => ?_) (fun hc => ?_)
          · rw [if_pos hc] at hm
            refine lv_aload_n hx hb d_Ref_find_43 rfl (lv_at hl 1 rfl) ?_
            refine lv_iload_n hx hb d_Ref_find_44 rfl (lv_at hl 4 rfl) ?_
            obtain ⟨r17, u18, h19, hm⟩ := ob_some hm
            refine goVI (As := [.int x3]) (rest := []) (b0 := G 0) 0 C0 (k_Ref_level l D G Y h19) q_613 q_6 q_610 q_612 qs_31 e_Ref_level (by decide) rfl rfl hP hD hS hl.1 rfl (Nat.le_of_ble_eq_true rfl) d_Ref_find_45 (fun H locs hP hD hS => ?_)
            refine lv_iload_n hx hb d_Ref_find_48 rfl (lv_at hl 3 rfl) ?_
            refine lv_icmp_ne (tgt := 54) hx hb d_Ref_find_49 (by decide) (fun hc => ?_) (fun hc => ?_)
            · rw [if_neg hc] at hm
              refine lv_aload_n hx hb d_Ref_find_54 rfl (lv_at hl 1 rfl) ?_
              refine lv_iload_n hx hb d_Ref_find_55 rfl (lv_at hl 4 rfl) ?_
              refine lv_iload_n hx hb d_Ref_find_56 rfl (lv_at hl 2 rfl) ?_
              obtain ⟨r21, u22, h23, hm⟩ := ob_some hm
              refine goVI (As := [.int x3, .int x1]) (rest := []) (b0 := G 0) 0 C0 (k_Ref_below l D G Y h23) q_662 q_6 q_659 q_661 qs_42 e_Ref_below (by decide) rfl rfl hP hD hS hl.1 rfl (Nat.le_of_ble_eq_true rfl) d_Ref_find_57 (fun H locs hP hD hS => ?_)
              refine lv_istore_n (lv' := [(3, .int r21), (5, .int r1), (0, .ref (G 0)), (1, .int x1), (2, .int x2), (4, .int x4)]) hx hb d_Ref_find_60 rfl hl (by decide) rfl (fun ls hl => ?_)
              refine lv_iinc (v := (x4 + (1 : Int32))) (lv' := [(4, .int (x4 + (1 : Int32))), (3, .int r21), (5, .int r1), (0, .ref (G 0)), (1, .int x1), (2, .int x2)]) hx hb d_Ref_find_61 hl (k := 5) rfl rfl (by decide) rfl (fun ls hl => ?_)
              refine lv_goto (tgt := 8) hx hb d_Ref_find_64 (by decide) ?_
              exact ih u22 r21 (x4 + (1 : Int32)) hm _ _ _ hP hD hS (lv_sub hl [3, 4, 5, 1, 0] rfl)
            · rw [if_pos hc] at hm
              refine lv_iload_n hx hb d_Ref_find_52 rfl (lv_at hl 4 rfl) ?_
              exact hret _ _ _ _ x3 u18 (kr _ (Option.some.inj hm).symm) hP hD hS d_Ref_find_53
          · rw [if_neg hc] at hm
            refine lv_iload hx hb d_Ref_find_37 (lv_at hl 0 rfl) ?_
            refine lv_istore_n (lv' := [(3, .int r1), (5, .int r1), (0, .ref (G 0)), (1, .int x1), (2, .int x2), (4, .int x4)]) hx hb d_Ref_find_39 rfl hl (by decide) rfl (fun ls hl => ?_)
            refine lv_goto (tgt := 61) hx hb d_Ref_find_40 (by decide) ?_
            refine lv_iinc (v := (x4 + (1 : Int32))) (lv' := [(4, .int (x4 + (1 : Int32))), (3, .int r1), (5, .int r1), (0, .ref (G 0)), (1, .int x1), (2, .int x2)]) hx hb d_Ref_find_61 hl (k := 5) rfl rfl (by decide) rfl (fun ls hl => ?_)
            refine lv_goto (tgt := 8) hx hb d_Ref_find_64 (by decide) ?_
            exact ih u14 r1 (x4 + (1 : Int32)) hm _ _ _ hP hD hS (lv_sub hl [3, 4, 5, 1, 0] rfl)
  rw [m_Ref_find] at hm
  refine lv_aload_n hx hb d_Ref_find_0 rfl (lv_at hl 0 rfl) ?_
  obtain ⟨r25, u26, h27, hm⟩ := ob_some hm
  refine goVI (As := []) (rest := []) (b0 := G 0) 0 C0 (k_Ref_root l D G Y h27) q_593 q_6 q_590 q_592 qs_26 e_Ref_root (by decide) rfl rfl hP hD hS hl.1 rfl (Nat.le_of_ble_eq_true rfl) d_Ref_find_1 (fun H locs hP hD hS => ?_)
  refine lv_istore_n (lv' := [(3, .int r25), (0, .ref (G 0)), (1, .int a1), (2, .int a2)]) hx hb d_Ref_find_4 rfl hl (by decide) rfl (fun ls hl => ?_)
  refine lv_iconst (v := (0 : Int32)) hx hb d_Ref_find_5 (by decide) ?_
  refine lv_istore (lv' := [(4, .int (0 : Int32)), (3, .int r25), (0, .ref (G 0)), (1, .int a1), (2, .int a2)]) hx hb d_Ref_find_6 hl (by decide) rfl (fun ls hl => ?_)
  obtain ⟨qq, hq, hi, ho⟩ := ol1_some hm
  refine L8 a1 a2 qq (fun z hz => hi z hz) (fun x29 u30 hz H locs ls hP hD hS hl => ?_) fz u26 r25 (0 : Int32) hq _ _ _ hP hD hS (lv_sub hl [2, 3, 4, 1, 0] rfl)
  have hm := ho x29 u30 hz
  refine lv_iload_n hx hb d_Ref_find_67 rfl (lv_at hl 0 rfl) ?_
  exact hret _ _ _ _ x29 u30 (Option.some.inj hm) hP hD hS d_Ref_find_68
theorem d_Ref_placeIn_0 : decode b_Ref_placeIn 0 = .ok (.iconst 0, 1) := by decide +kernel
theorem d_Ref_placeIn_1 : decode b_Ref_placeIn 1 = .ok (.istore_n 3, 1) := by decide +kernel
theorem d_Ref_placeIn_2 : decode b_Ref_placeIn 2 = .ok (.iload_n 3, 1) := by decide +kernel
theorem d_Ref_placeIn_3 : decode b_Ref_placeIn 3 = .ok (.aload_n 0, 1) := by decide +kernel
theorem d_Ref_placeIn_4 : decode b_Ref_placeIn 4 = .ok (.iload_n 1, 1) := by decide +kernel
theorem d_Ref_placeIn_5 : decode b_Ref_placeIn 5 = .ok (.invokevirtual 87, 3) := by decide +kernel
theorem d_Ref_placeIn_8 : decode b_Ref_placeIn 8 = .ok (.if_icmp .ge 21, 3) := by decide +kernel
theorem d_Ref_placeIn_11 : decode b_Ref_placeIn 11 = .ok (.aload_n 0, 1) := by decide +kernel
theorem d_Ref_placeIn_12 : decode b_Ref_placeIn 12 = .ok (.iload_n 1, 1) := by decide +kernel
theorem d_Ref_placeIn_13 : decode b_Ref_placeIn 13 = .ok (.iload_n 3, 1) := by decide +kernel
theorem d_Ref_placeIn_14 : decode b_Ref_placeIn 14 = .ok (.invokevirtual 103, 3) := by decide +kernel
theorem d_Ref_placeIn_17 : decode b_Ref_placeIn 17 = .ok (.iload_n 2, 1) := by decide +kernel
theorem d_Ref_placeIn_18 : decode b_Ref_placeIn 18 = .ok (.if_icmp .ne 5, 3) := by decide +kernel
theorem d_Ref_placeIn_21 : decode b_Ref_placeIn 21 = .ok (.iload_n 3, 1) := by decide +kernel
theorem d_Ref_placeIn_22 : decode b_Ref_placeIn 22 = .ok (.ireturn, 1) := by decide +kernel
theorem d_Ref_placeIn_23 : decode b_Ref_placeIn 23 = .ok (.iinc 3 1, 3) := by decide +kernel
theorem d_Ref_placeIn_26 : decode b_Ref_placeIn 26 = .ok (.goto (-24), 3) := by decide +kernel
theorem d_Ref_placeIn_29 : decode b_Ref_placeIn 29 = .ok (.iconst (-1), 1) := by decide +kernel
theorem d_Ref_placeIn_30 : decode b_Ref_placeIn 30 = .ok (.ireturn, 1) := by decide +kernel
set_option maxRecDepth 100000 in
set_option maxHeartbeats 4000000 in
theorem k_Ref_placeIn (l : Launch) (D : va_G) (G : Nat → Nat) (Y : Nat → ClassId) {u : SR} {a1 : Int32} {a2 : Int32} {r : Int32} {u' : SR} (hm : m_Ref_placeIn u a1 a2 = some (r, u')) : KI l D clz (tyz Y) (wdR G Y) y_Ref_placeIn b_Ref_placeIn 4 (some .int) 2 44 [.ref (G 0), .int a1, .int a2] u r u' := by
  refine mkI (by decide) (Nat.le_of_ble_eq_true rfl) ?_
  intro p e s m below meth c A Z ls C0 hP hD hS hl hret
  obtain ⟨hx, hb, hml, hown, hts, hK, hN, hA⟩ := id C0
  have hl : lv_has ls 4 [(0, .ref (G 0)), (1, .int a1), (2, .int a2)] := hl
  have L2 : ∀ (x1 : Int32) (x2 : Int32) (o : (Int32 × SR) ⊕ (SR)) (kr : ∀ z, o = .inl z → z = (r, u')) (kx : ∀  (ub : SR), o = .inr ub → ∀ (H : Heap) (locs : List Loc) (ls : Array Slot), va_P D clz (wdR G Y ub) H → va_D A (wdR G Y ub) → va_S A s.heap H locs → lv_has ls 4 [] → W p l e (zRm 2 44) s m ([.ref (G 0), .int a1, .int a2] : List Value).toArray below meth c H locs 0 0 Z (F0 m 29 ls [])) (n0 : Nat) (ua : SR) (x3 : Int32), m_Ref_placeIn_L2 n0 ua x3 x1 x2 = some o → ∀ (H : Heap) (locs : List Loc) (ls : Array Slot), va_P D clz (wdR G Y ua) H → va_D A (wdR G Y ua) → va_S A s.heap H locs → lv_has ls 4 [(0, .ref (G 0)), (1, .int x1), (2, .int x2), (3, .int x3)] → W p l e (zRm 2 44) s m ([.ref (G 0), .int a1, .int a2] : List Value).toArray below meth c H locs 0 0 Z (F0 m 2 ls []) := by
    intro x1 x2 o kr kx n0
    induction n0 with
    | zero => intro ua x3 hm; rw [m_Ref_placeIn_L2] at hm; cases hm
    | succ n0 ih =>
      intro ua x3 hm H locs ls hP hD hS hl
      rw [m_Ref_placeIn_L2] at hm
      refine lv_iload_n hx hb d_Ref_placeIn_2 rfl (lv_at hl 3 rfl) ?_
      refine lv_aload_n hx hb d_Ref_placeIn_3 rfl (lv_at hl 0 rfl) ?_
      refine lv_iload_n hx hb d_Ref_placeIn_4 rfl (lv_at hl 1 rfl) ?_
      obtain ⟨r1, u2, h3, hm⟩ := ob_some hm
      refine goVI (As := [.int x1]) (rest := [.int x3]) (b0 := G 0) 0 C0 (k_Ref_length l D G Y h3) q_617 q_6 q_614 q_616 qs_32 e_Ref_length (by decide) rfl rfl hP hD hS hl.1 rfl (Nat.le_of_ble_eq_true rfl) d_Ref_placeIn_5 (fun H locs hP hD hS => ?_)
      refine lv_icmp_ge (tgt := 29) hx hb d_Ref_placeIn_8 (by decide) (fun hc => ?_) (fun hc => ?_)
      · rw [if_pos hc] at hm
        exact kx  u2 (Option.some.inj hm).symm _ _ _ hP hD hS (lv_sub hl [] rfl)
      · rw [if_neg hc] at hm
        refine lv_aload_n hx hb d_Ref_placeIn_11 rfl (lv_at hl 0 rfl) ?_
        refine lv_iload_n hx hb d_Ref_placeIn_12 rfl (lv_at hl 1 rfl) ?_
        refine lv_iload_n hx hb d_Ref_placeIn_13 rfl (lv_at hl 3 rfl) ?_
        obtain ⟨r5, u6, h7, hm⟩ := ob_some hm
        refine goVI (As := [.int x1, .int x3]) (rest := []) (b0 := G 0) 0 C0 (k_Ref_keyAt l D G Y h7) q_666 q_6 q_663 q_665 qs_43 e_Ref_keyAt (by decide) rfl rfl hP hD hS hl.1 rfl (Nat.le_of_ble_eq_true rfl) d_Ref_placeIn_14 (fun H locs hP hD hS => ?_)
        refine lv_iload_n hx hb d_Ref_placeIn_17 rfl (lv_at hl 2 rfl) ?_
        refine lv_icmp_ne (tgt := 23) hx hb d_Ref_placeIn_18 (by decide) (fun hc => ?_) (fun hc => ?_)
        · rw [if_neg hc] at hm
          refine lv_iinc (v := (x3 + (1 : Int32))) (lv' := [(3, .int (x3 + (1 : Int32))), (0, .ref (G 0)), (1, .int x1), (2, .int x2)]) hx hb d_Ref_placeIn_23 hl (k := 3) rfl rfl (by decide) rfl (fun ls hl => ?_)
          refine lv_goto (tgt := 2) hx hb d_Ref_placeIn_26 (by decide) ?_
          exact ih u6 (x3 + (1 : Int32)) hm _ _ _ hP hD hS (lv_sub hl [1, 2, 3, 0] rfl)
        · rw [if_pos hc] at hm
          refine lv_iload_n hx hb d_Ref_placeIn_21 rfl (lv_at hl 3 rfl) ?_
          exact hret _ _ _ _ x3 u6 (kr _ (Option.some.inj hm).symm) hP hD hS d_Ref_placeIn_22
  rw [m_Ref_placeIn] at hm
  refine lv_iconst (v := (0 : Int32)) hx hb d_Ref_placeIn_0 (by decide) ?_
  refine lv_istore_n (lv' := [(3, .int (0 : Int32)), (0, .ref (G 0)), (1, .int a1), (2, .int a2)]) hx hb d_Ref_placeIn_1 rfl hl (by decide) rfl (fun ls hl => ?_)
  obtain ⟨qq, hq, hi, ho⟩ := ol0_some hm
  refine L2 a1 a2 qq (fun z hz => hi z hz) (fun  u9 hz H locs ls hP hD hS hl => ?_) fz u (0 : Int32) hq _ _ _ hP hD hS (lv_sub hl [1, 2, 3, 0] rfl)
  have hm := ho  u9 hz
  refine lv_iconst (v := (-1 : Int32)) hx hb d_Ref_placeIn_29 (by decide) ?_
  exact hret _ _ _ _ (-1 : Int32) u9 (Option.some.inj hm) hP hD hS d_Ref_placeIn_30
theorem d_Ref_insert_0 : decode b_Ref_insert 0 = .ok (.aload_n 0, 1) := by decide +kernel
theorem d_Ref_insert_1 : decode b_Ref_insert 1 = .ok (.iload_n 1, 1) := by decide +kernel
theorem d_Ref_insert_2 : decode b_Ref_insert 2 = .ok (.invokevirtual 87, 3) := by decide +kernel
theorem d_Ref_insert_5 : decode b_Ref_insert 5 = .ok (.istore 4, 2) := by decide +kernel
theorem d_Ref_insert_7 : decode b_Ref_insert 7 = .ok (.iconst 0, 1) := by decide +kernel
theorem d_Ref_insert_8 : decode b_Ref_insert 8 = .ok (.istore 5, 2) := by decide +kernel
theorem d_Ref_insert_10 : decode b_Ref_insert 10 = .ok (.iconst 0, 1) := by decide +kernel
theorem d_Ref_insert_11 : decode b_Ref_insert 11 = .ok (.istore 6, 2) := by decide +kernel
theorem d_Ref_insert_13 : decode b_Ref_insert 13 = .ok (.iload 6, 2) := by decide +kernel
theorem d_Ref_insert_15 : decode b_Ref_insert 15 = .ok (.iload 4, 2) := by decide +kernel
theorem d_Ref_insert_17 : decode b_Ref_insert 17 = .ok (.if_icmp .ge 34, 3) := by decide +kernel
theorem d_Ref_insert_20 : decode b_Ref_insert 20 = .ok (.aload_n 0, 1) := by decide +kernel
theorem d_Ref_insert_21 : decode b_Ref_insert 21 = .ok (.iload_n 1, 1) := by decide +kernel
theorem d_Ref_insert_22 : decode b_Ref_insert 22 = .ok (.iload 6, 2) := by decide +kernel
theorem d_Ref_insert_24 : decode b_Ref_insert 24 = .ok (.invokevirtual 103, 3) := by decide +kernel
theorem d_Ref_insert_27 : decode b_Ref_insert 27 = .ok (.lload_n 2, 1) := by decide +kernel
theorem d_Ref_insert_28 : decode b_Ref_insert 28 = .ok (.invokestatic 68, 3) := by decide +kernel
theorem d_Ref_insert_31 : decode b_Ref_insert 31 = .ok (.if_icmp .ge 10, 3) := by decide +kernel
theorem d_Ref_insert_34 : decode b_Ref_insert 34 = .ok (.iload 5, 2) := by decide +kernel
theorem d_Ref_insert_36 : decode b_Ref_insert 36 = .ok (.iconst 1, 1) := by decide +kernel
theorem d_Ref_insert_37 : decode b_Ref_insert 37 = .ok (.iadd, 1) := by decide +kernel
theorem d_Ref_insert_38 : decode b_Ref_insert 38 = .ok (.goto 5, 3) := by decide +kernel
theorem d_Ref_insert_41 : decode b_Ref_insert 41 = .ok (.iload 5, 2) := by decide +kernel
theorem d_Ref_insert_43 : decode b_Ref_insert 43 = .ok (.istore 5, 2) := by decide +kernel
theorem d_Ref_insert_45 : decode b_Ref_insert 45 = .ok (.iinc 6 1, 3) := by decide +kernel
theorem d_Ref_insert_48 : decode b_Ref_insert 48 = .ok (.goto (-35), 3) := by decide +kernel
theorem d_Ref_insert_51 : decode b_Ref_insert 51 = .ok (.iload 4, 2) := by decide +kernel
theorem d_Ref_insert_53 : decode b_Ref_insert 53 = .ok (.istore 6, 2) := by decide +kernel
theorem d_Ref_insert_55 : decode b_Ref_insert 55 = .ok (.iload 6, 2) := by decide +kernel
theorem d_Ref_insert_57 : decode b_Ref_insert 57 = .ok (.iload 5, 2) := by decide +kernel
theorem d_Ref_insert_59 : decode b_Ref_insert 59 = .ok (.if_icmp .le 31, 3) := by decide +kernel
theorem d_Ref_insert_62 : decode b_Ref_insert 62 = .ok (.aload_n 0, 1) := by decide +kernel
theorem d_Ref_insert_63 : decode b_Ref_insert 63 = .ok (.bipush 9, 2) := by decide +kernel
theorem d_Ref_insert_65 : decode b_Ref_insert 65 = .ok (.iload_n 1, 1) := by decide +kernel
theorem d_Ref_insert_66 : decode b_Ref_insert 66 = .ok (.imul, 1) := by decide +kernel
theorem d_Ref_insert_67 : decode b_Ref_insert 67 = .ok (.iconst 3, 1) := by decide +kernel
theorem d_Ref_insert_68 : decode b_Ref_insert 68 = .ok (.iadd, 1) := by decide +kernel
theorem d_Ref_insert_69 : decode b_Ref_insert 69 = .ok (.iload 6, 2) := by decide +kernel
theorem d_Ref_insert_71 : decode b_Ref_insert 71 = .ok (.iadd, 1) := by decide +kernel
theorem d_Ref_insert_72 : decode b_Ref_insert 72 = .ok (.aload_n 0, 1) := by decide +kernel
theorem d_Ref_insert_73 : decode b_Ref_insert 73 = .ok (.iload_n 1, 1) := by decide +kernel
theorem d_Ref_insert_74 : decode b_Ref_insert 74 = .ok (.iload 6, 2) := by decide +kernel
theorem d_Ref_insert_76 : decode b_Ref_insert 76 = .ok (.iconst 1, 1) := by decide +kernel
theorem d_Ref_insert_77 : decode b_Ref_insert 77 = .ok (.isub, 1) := by decide +kernel
theorem d_Ref_insert_78 : decode b_Ref_insert 78 = .ok (.invokevirtual 64, 3) := by decide +kernel
theorem d_Ref_insert_81 : decode b_Ref_insert 81 = .ok (.invokevirtual 106, 3) := by decide +kernel
theorem d_Ref_insert_84 : decode b_Ref_insert 84 = .ok (.iinc 6 (-1), 3) := by decide +kernel
theorem d_Ref_insert_87 : decode b_Ref_insert 87 = .ok (.goto (-32), 3) := by decide +kernel
theorem d_Ref_insert_90 : decode b_Ref_insert 90 = .ok (.aload_n 0, 1) := by decide +kernel
theorem d_Ref_insert_91 : decode b_Ref_insert 91 = .ok (.bipush 9, 2) := by decide +kernel
theorem d_Ref_insert_93 : decode b_Ref_insert 93 = .ok (.iload_n 1, 1) := by decide +kernel
theorem d_Ref_insert_94 : decode b_Ref_insert 94 = .ok (.imul, 1) := by decide +kernel
theorem d_Ref_insert_95 : decode b_Ref_insert 95 = .ok (.iconst 3, 1) := by decide +kernel
theorem d_Ref_insert_96 : decode b_Ref_insert 96 = .ok (.iadd, 1) := by decide +kernel
theorem d_Ref_insert_97 : decode b_Ref_insert 97 = .ok (.iload 5, 2) := by decide +kernel
theorem d_Ref_insert_99 : decode b_Ref_insert 99 = .ok (.iadd, 1) := by decide +kernel
theorem d_Ref_insert_100 : decode b_Ref_insert 100 = .ok (.lload_n 2, 1) := by decide +kernel
theorem d_Ref_insert_101 : decode b_Ref_insert 101 = .ok (.invokevirtual 106, 3) := by decide +kernel
theorem d_Ref_insert_104 : decode b_Ref_insert 104 = .ok (.return_, 1) := by decide +kernel
set_option maxRecDepth 100000 in
set_option maxHeartbeats 4000000 in
theorem k_Ref_insert (l : Launch) (D : va_G) (G : Nat → Nat) (Y : Nat → ClassId) {u : SR} {a1 : Int32} {a2 : Int64} {u' : SR} (hm : m_Ref_insert u a1 a2 = some ((), u')) : KV l D clz (tyz Y) (wdR G Y) y_Ref_insert b_Ref_insert 7 none 3 67 [.ref (G 0), .int a1, .long a2] u u' := by
  refine mkV (by decide) (Nat.le_of_ble_eq_true rfl) ?_
  intro p e s m below meth c A Z ls C0 hP hD hS hl hret
  obtain ⟨hx, hb, hml, hown, hts, hK, hN, hA⟩ := id C0
  have hl : lv_has ls 7 [(0, .ref (G 0)), (1, .int a1), (2, .long a2)] := hl
  have L55 : ∀ (x1 : Int32) (x2 : Int64) (x5 : Int32) (o : (Unit × SR) ⊕ (SR)) (kr : ∀ z, o = .inl z → z = ((), u')) (kx : ∀  (ub : SR), o = .inr ub → ∀ (H : Heap) (locs : List Loc) (ls : Array Slot), va_P D clz (wdR G Y ub) H → va_D A (wdR G Y ub) → va_S A s.heap H locs → lv_has ls 7 [(0, .ref (G 0)), (1, .int x1), (2, .long x2), (5, .int x5)] → W p l e (zRm 3 67) s m ([.ref (G 0), .int a1, .long a2] : List Value).toArray below meth c H locs 0 0 Z (F0 m 90 ls [])) (n0 : Nat) (ua : SR) (x6 : Int32), m_Ref_insert_L55 n0 ua x6 x1 x2 x5 = some o → ∀ (H : Heap) (locs : List Loc) (ls : Array Slot), va_P D clz (wdR G Y ua) H → va_D A (wdR G Y ua) → va_S A s.heap H locs → lv_has ls 7 [(0, .ref (G 0)), (1, .int x1), (2, .long x2), (5, .int x5), (6, .int x6)] → W p l e (zRm 3 67) s m ([.ref (G 0), .int a1, .long a2] : List Value).toArray below meth c H locs 0 0 Z (F0 m 55 ls []) := by
    intro x1 x2 x5 o kr kx n0
    induction n0 with
    | zero => intro ua x6 hm; rw [m_Ref_insert_L55] at hm; cases hm
    | succ n0 ih =>
      intro ua x6 hm H locs ls hP hD hS hl
      rw [m_Ref_insert_L55] at hm
      refine lv_iload hx hb d_Ref_insert_55 (lv_at hl 4 rfl) ?_
      refine lv_iload hx hb d_Ref_insert_57 (lv_at hl 3 rfl) ?_
      refine lv_icmp_le (tgt := 90) hx hb d_Ref_insert_59 (by decide) (fun hc => ?_) (fun hc => ?_)
      · rw [if_pos hc] at hm
        exact kx  ua (Option.some.inj hm).symm _ _ _ hP hD hS (lv_sub hl [0, 1, 2, 3] rfl)
      · rw [if_neg hc] at hm
        refine lv_aload_n hx hb d_Ref_insert_62 rfl (lv_at hl 0 rfl) ?_
        refine lv_bipush (v := (9 : Int32)) hx hb d_Ref_insert_63 (by decide) ?_
        refine lv_iload_n hx hb d_Ref_insert_65 rfl (lv_at hl 1 rfl) ?_
        refine lv_imul hx hb d_Ref_insert_66 ?_
        refine lv_iconst (v := (3 : Int32)) hx hb d_Ref_insert_67 (by decide) ?_
        refine lv_iadd hx hb d_Ref_insert_68 ?_
        refine lv_iload hx hb d_Ref_insert_69 (lv_at hl 4 rfl) ?_
        refine lv_iadd hx hb d_Ref_insert_71 ?_
        refine lv_aload_n hx hb d_Ref_insert_72 rfl (lv_at hl 0 rfl) ?_
        refine lv_iload_n hx hb d_Ref_insert_73 rfl (lv_at hl 1 rfl) ?_
        refine lv_iload hx hb d_Ref_insert_74 (lv_at hl 4 rfl) ?_
        refine lv_iconst (v := (1 : Int32)) hx hb d_Ref_insert_76 (by decide) ?_
        refine lv_isub hx hb d_Ref_insert_77 ?_
        obtain ⟨r1, u2, h3, hm⟩ := ob_some hm
        refine goVL (As := [.int x1, .int (x6 - (1 : Int32))]) (rest := [.int ((((9 : Int32) * x1) + (3 : Int32)) + x6), .ref (G 0)]) (b0 := G 0) 0 C0 (k_Ref_at l D G Y h3) q_621 q_6 q_618 q_620 qs_33 e_Ref_at (by decide) rfl rfl hP hD hS hl.1 rfl (Nat.le_of_ble_eq_true rfl) d_Ref_insert_78 (fun H locs hP hD hS => ?_)
        obtain ⟨r5, u6, h7, hm⟩ := ob_some hm
        refine goVV (As := [.int ((((9 : Int32) * x1) + (3 : Int32)) + x6), .long r1]) (rest := []) (b0 := G 0) 0 C0 (k_Ref_firm l D G Y h7) q_650 q_6 q_647 q_649 qs_39 e_Ref_firm (by decide) rfl rfl hP hD hS hl.1 rfl (Nat.le_of_ble_eq_true rfl) d_Ref_insert_81 (fun H locs hP hD hS => ?_)
        refine lv_iinc (v := (x6 + (-1 : Int32))) (lv' := [(6, .int (x6 + (-1 : Int32))), (0, .ref (G 0)), (1, .int x1), (2, .long x2), (5, .int x5)]) hx hb d_Ref_insert_84 hl (k := 4) rfl rfl (by decide) rfl (fun ls hl => ?_)
        refine lv_goto (tgt := 55) hx hb d_Ref_insert_87 (by decide) ?_
        exact ih u6 (x6 + (-1 : Int32)) hm _ _ _ hP hD hS (lv_sub hl [1, 2, 3, 4, 0] rfl)
  have L13 : ∀ (x1 : Int32) (x2 : Int64) (x4 : Int32) (o : (Unit × SR) ⊕ (Int32 × SR)) (kr : ∀ z, o = .inl z → z = ((), u')) (kx : ∀ (y5 : Int32) (ub : SR), o = .inr (y5, ub) → ∀ (H : Heap) (locs : List Loc) (ls : Array Slot), va_P D clz (wdR G Y ub) H → va_D A (wdR G Y ub) → va_S A s.heap H locs → lv_has ls 7 [(0, .ref (G 0)), (1, .int x1), (2, .long x2), (4, .int x4), (5, .int y5)] → W p l e (zRm 3 67) s m ([.ref (G 0), .int a1, .long a2] : List Value).toArray below meth c H locs 0 0 Z (F0 m 51 ls [])) (n0 : Nat) (ua : SR) (x5 : Int32) (x6 : Int32), m_Ref_insert_L13 n0 ua x5 x6 x1 x2 x4 = some o → ∀ (H : Heap) (locs : List Loc) (ls : Array Slot), va_P D clz (wdR G Y ua) H → va_D A (wdR G Y ua) → va_S A s.heap H locs → lv_has ls 7 [(0, .ref (G 0)), (1, .int x1), (2, .long x2), (4, .int x4), (5, .int x5), (6, .int x6)] → W p l e (zRm 3 67) s m ([.ref (G 0), .int a1, .long a2] : List Value).toArray below meth c H locs 0 0 Z (F0 m 13 ls []) := by
    intro x1 x2 x4 o kr kx n0
    induction n0 with
    | zero => intro ua x5 x6 hm; rw [m_Ref_insert_L13] at hm; cases hm
    | succ n0 ih =>
      intro ua x5 x6 hm H locs ls hP hD hS hl
      rw [m_Ref_insert_L13] at hm
      refine lv_iload hx hb d_Ref_insert_13 (lv_at hl 5 rfl) ?_
      refine lv_iload hx hb d_Ref_insert_15 (lv_at hl 3 rfl) ?_
      refine lv_icmp_ge (tgt := 51) hx hb d_Ref_insert_17 (by decide) (fun hc => ?_) (fun hc => ?_)
      · rw [if_pos hc] at hm
        exact kx x5 ua (Option.some.inj hm).symm _ _ _ hP hD hS (lv_sub hl [0, 1, 2, 3, 4] rfl)
      · rw [if_neg hc] at hm
        refine lv_aload_n hx hb d_Ref_insert_20 rfl (lv_at hl 0 rfl) ?_
        refine lv_iload_n hx hb d_Ref_insert_21 rfl (lv_at hl 1 rfl) ?_
        refine lv_iload hx hb d_Ref_insert_22 (lv_at hl 5 rfl) ?_
        obtain ⟨r9, u10, h11, hm⟩ := ob_some hm
        refine goVI (As := [.int x1, .int x6]) (rest := []) (b0 := G 0) 0 C0 (k_Ref_keyAt l D G Y h11) q_666 q_6 q_663 q_665 qs_43 e_Ref_keyAt (by decide) rfl rfl hP hD hS hl.1 rfl (Nat.le_of_ble_eq_true rfl) d_Ref_insert_24 (fun H locs hP hD hS => ?_)
        refine lv_lload_n hx hb d_Ref_insert_27 rfl (lv_at hl 2 rfl) ?_
        obtain ⟨r13, u14, h15, hm⟩ := ob_some hm
        refine goSI (As := [.long x2]) (rest := [.int r9]) C0 (k_Ref_keyOf l D G Y h15) q_669 q_6 q_667 q_668 e_Ref_keyOf (by decide) hP hD hS hl.1 rfl (Nat.le_of_ble_eq_true rfl) d_Ref_insert_28 (fun H locs hP hD hS => ?_)
        refine lv_icmp_ge (tgt := 41) hx hb d_Ref_insert_31 (by decide) (fun hc => ?_) (fun hc => ?_)
        · rw [if_pos hc] at hm
          refine lv_iload hx hb d_Ref_insert_41 (lv_at hl 4 rfl) ?_
          refine lv_istore (lv' := [(5, .int x5), (0, .ref (G 0)), (1, .int x1), (2, .long x2), (4, .int x4), (6, .int x6)]) hx hb d_Ref_insert_43 hl (by decide) rfl (fun ls hl => ?_)
          refine lv_iinc (v := (x6 + (1 : Int32))) (lv' := [(6, .int (x6 + (1 : Int32))), (5, .int x5), (0, .ref (G 0)), (1, .int x1), (2, .long x2), (4, .int x4)]) hx hb d_Ref_insert_45 hl (k := 5) rfl rfl (by decide) rfl (fun ls hl => ?_)
          refine lv_goto (tgt := 13) hx hb d_Ref_insert_48 (by decide) ?_
          exact ih u14 x5 (x6 + (1 : Int32)) hm _ _ _ hP hD hS (lv_sub hl [2, 3, 4, 5, 1, 0] rfl)
        · rw [if_neg hc] at hm
          refine lv_iload hx hb d_Ref_insert_34 (lv_at hl 4 rfl) ?_
          refine lv_iconst (v := (1 : Int32)) hx hb d_Ref_insert_36 (by decide) ?_
          refine lv_iadd hx hb d_Ref_insert_37 ?_
          refine lv_goto (tgt := 43) hx hb d_Ref_insert_38 (by decide) ?_
          refine lv_istore (lv' := [(5, .int (x5 + (1 : Int32))), (0, .ref (G 0)), (1, .int x1), (2, .long x2), (4, .int x4), (6, .int x6)]) hx hb d_Ref_insert_43 hl (by decide) rfl (fun ls hl => ?_)
          refine lv_iinc (v := (x6 + (1 : Int32))) (lv' := [(6, .int (x6 + (1 : Int32))), (5, .int (x5 + (1 : Int32))), (0, .ref (G 0)), (1, .int x1), (2, .long x2), (4, .int x4)]) hx hb d_Ref_insert_45 hl (k := 5) rfl rfl (by decide) rfl (fun ls hl => ?_)
          refine lv_goto (tgt := 13) hx hb d_Ref_insert_48 (by decide) ?_
          exact ih u14 (x5 + (1 : Int32)) (x6 + (1 : Int32)) hm _ _ _ hP hD hS (lv_sub hl [2, 3, 4, 5, 1, 0] rfl)
  rw [m_Ref_insert] at hm
  refine lv_aload_n hx hb d_Ref_insert_0 rfl (lv_at hl 0 rfl) ?_
  refine lv_iload_n hx hb d_Ref_insert_1 rfl (lv_at hl 1 rfl) ?_
  obtain ⟨r17, u18, h19, hm⟩ := ob_some hm
  refine goVI (As := [.int a1]) (rest := []) (b0 := G 0) 0 C0 (k_Ref_length l D G Y h19) q_617 q_6 q_614 q_616 qs_32 e_Ref_length (by decide) rfl rfl hP hD hS hl.1 rfl (Nat.le_of_ble_eq_true rfl) d_Ref_insert_2 (fun H locs hP hD hS => ?_)
  refine lv_istore (lv' := [(4, .int r17), (0, .ref (G 0)), (1, .int a1), (2, .long a2)]) hx hb d_Ref_insert_5 hl (by decide) rfl (fun ls hl => ?_)
  refine lv_iconst (v := (0 : Int32)) hx hb d_Ref_insert_7 (by decide) ?_
  refine lv_istore (lv' := [(5, .int (0 : Int32)), (4, .int r17), (0, .ref (G 0)), (1, .int a1), (2, .long a2)]) hx hb d_Ref_insert_8 hl (by decide) rfl (fun ls hl => ?_)
  refine lv_iconst (v := (0 : Int32)) hx hb d_Ref_insert_10 (by decide) ?_
  refine lv_istore (lv' := [(6, .int (0 : Int32)), (5, .int (0 : Int32)), (4, .int r17), (0, .ref (G 0)), (1, .int a1), (2, .long a2)]) hx hb d_Ref_insert_11 hl (by decide) rfl (fun ls hl => ?_)
  obtain ⟨qq, hq, hi, ho⟩ := ol1_some hm
  refine L13 a1 a2 r17 qq (fun z hz => hi z hz) (fun x21 u22 hz H locs ls hP hD hS hl => ?_) fz u18 (0 : Int32) (0 : Int32) hq _ _ _ hP hD hS (lv_sub hl [3, 4, 5, 2, 1, 0] rfl)
  have hm := ho x21 u22 hz
  refine lv_iload hx hb d_Ref_insert_51 (lv_at hl 3 rfl) ?_
  refine lv_istore (lv' := [(6, .int r17), (0, .ref (G 0)), (1, .int a1), (2, .long a2), (4, .int r17), (5, .int x21)]) hx hb d_Ref_insert_53 hl (by decide) rfl (fun ls hl => ?_)
  obtain ⟨qq, hq, hi, ho⟩ := ol0_some hm
  refine L55 a1 a2 x21 qq (fun z hz => hi z hz) (fun  u23 hz H locs ls hP hD hS hl => ?_) fz u22 r17 hq _ _ _ hP hD hS (lv_sub hl [1, 2, 3, 5, 0] rfl)
  have hm := ho  u23 hz
  refine lv_aload_n hx hb d_Ref_insert_90 rfl (lv_at hl 0 rfl) ?_
  refine lv_bipush (v := (9 : Int32)) hx hb d_Ref_insert_91 (by decide) ?_
  refine lv_iload_n hx hb d_Ref_insert_93 rfl (lv_at hl 1 rfl) ?_
  refine lv_imul hx hb d_Ref_insert_94 ?_
  refine lv_iconst (v := (3 : Int32)) hx hb d_Ref_insert_95 (by decide) ?_
  refine lv_iadd hx hb d_Ref_insert_96 ?_
  refine lv_iload hx hb d_Ref_insert_97 (lv_at hl 3 rfl) ?_
  refine lv_iadd hx hb d_Ref_insert_99 ?_
  refine lv_lload_n hx hb d_Ref_insert_100 rfl (lv_at hl 2 rfl) ?_
  obtain ⟨r24, u25, h26, hm⟩ := ob_some hm
  refine goVV (As := [.int ((((9 : Int32) * a1) + (3 : Int32)) + x21), .long a2]) (rest := []) (b0 := G 0) 0 C0 (k_Ref_firm l D G Y h26) q_650 q_6 q_647 q_649 qs_39 e_Ref_firm (by decide) rfl rfl hP hD hS hl.1 rfl (Nat.le_of_ble_eq_true rfl) d_Ref_insert_101 (fun H locs hP hD hS => ?_)
  exact hret _ _ _ _ () u25 (Option.some.inj hm) hP hD hS d_Ref_insert_104
theorem d_Ref_drop_0 : decode b_Ref_drop 0 = .ok (.iload_n 2, 1) := by decide +kernel
theorem d_Ref_drop_1 : decode b_Ref_drop 1 = .ok (.istore_n 3, 1) := by decide +kernel
theorem d_Ref_drop_2 : decode b_Ref_drop 2 = .ok (.lconst 1, 1) := by decide +kernel
theorem d_Ref_drop_3 : decode b_Ref_drop 3 = .ok (.lstore 4, 2) := by decide +kernel
theorem d_Ref_drop_5 : decode b_Ref_drop 5 = .ok (.lload 4, 2) := by decide +kernel
theorem d_Ref_drop_7 : decode b_Ref_drop 7 = .ok (.lconst 0, 1) := by decide +kernel
theorem d_Ref_drop_8 : decode b_Ref_drop 8 = .ok (.lcmp, 1) := by decide +kernel
theorem d_Ref_drop_9 : decode b_Ref_drop 9 = .ok (.ifCond .eq 34, 3) := by decide +kernel
theorem d_Ref_drop_12 : decode b_Ref_drop 12 = .ok (.aload_n 0, 1) := by decide +kernel
theorem d_Ref_drop_13 : decode b_Ref_drop 13 = .ok (.iload_n 1, 1) := by decide +kernel
theorem d_Ref_drop_14 : decode b_Ref_drop 14 = .ok (.iload_n 3, 1) := by decide +kernel
theorem d_Ref_drop_15 : decode b_Ref_drop 15 = .ok (.iconst 1, 1) := by decide +kernel
theorem d_Ref_drop_16 : decode b_Ref_drop 16 = .ok (.iadd, 1) := by decide +kernel
theorem d_Ref_drop_17 : decode b_Ref_drop 17 = .ok (.invokevirtual 64, 3) := by decide +kernel
theorem d_Ref_drop_20 : decode b_Ref_drop 20 = .ok (.lstore 4, 2) := by decide +kernel
theorem d_Ref_drop_22 : decode b_Ref_drop 22 = .ok (.aload_n 0, 1) := by decide +kernel
theorem d_Ref_drop_23 : decode b_Ref_drop 23 = .ok (.bipush 9, 2) := by decide +kernel
theorem d_Ref_drop_25 : decode b_Ref_drop 25 = .ok (.iload_n 1, 1) := by decide +kernel
theorem d_Ref_drop_26 : decode b_Ref_drop 26 = .ok (.imul, 1) := by decide +kernel
theorem d_Ref_drop_27 : decode b_Ref_drop 27 = .ok (.iconst 3, 1) := by decide +kernel
theorem d_Ref_drop_28 : decode b_Ref_drop 28 = .ok (.iadd, 1) := by decide +kernel
theorem d_Ref_drop_29 : decode b_Ref_drop 29 = .ok (.iload_n 3, 1) := by decide +kernel
theorem d_Ref_drop_30 : decode b_Ref_drop 30 = .ok (.iadd, 1) := by decide +kernel
theorem d_Ref_drop_31 : decode b_Ref_drop 31 = .ok (.lload 4, 2) := by decide +kernel
theorem d_Ref_drop_33 : decode b_Ref_drop 33 = .ok (.invokevirtual 106, 3) := by decide +kernel
theorem d_Ref_drop_36 : decode b_Ref_drop 36 = .ok (.iload_n 3, 1) := by decide +kernel
theorem d_Ref_drop_37 : decode b_Ref_drop 37 = .ok (.iconst 1, 1) := by decide +kernel
theorem d_Ref_drop_38 : decode b_Ref_drop 38 = .ok (.iadd, 1) := by decide +kernel
theorem d_Ref_drop_39 : decode b_Ref_drop 39 = .ok (.istore_n 3, 1) := by decide +kernel
theorem d_Ref_drop_40 : decode b_Ref_drop 40 = .ok (.goto (-35), 3) := by decide +kernel
theorem d_Ref_drop_43 : decode b_Ref_drop 43 = .ok (.return_, 1) := by decide +kernel
set_option maxRecDepth 100000 in
set_option maxHeartbeats 4000000 in
theorem k_Ref_drop (l : Launch) (D : va_G) (G : Nat → Nat) (Y : Nat → ClassId) {u : SR} {a1 : Int32} {a2 : Int32} {u' : SR} (hm : m_Ref_drop u a1 a2 = some ((), u')) : KV l D clz (tyz Y) (wdR G Y) y_Ref_drop b_Ref_drop 6 none 3 67 [.ref (G 0), .int a1, .int a2] u u' := by
  refine mkV (by decide) (Nat.le_of_ble_eq_true rfl) ?_
  intro p e s m below meth c A Z ls C0 hP hD hS hl hret
  obtain ⟨hx, hb, hml, hown, hts, hK, hN, hA⟩ := id C0
  have hl : lv_has ls 6 [(0, .ref (G 0)), (1, .int a1), (2, .int a2)] := hl
  have L5 : ∀ (x1 : Int32) (o : (Unit × SR) ⊕ (SR)) (kr : ∀ z, o = .inl z → z = ((), u')) (kx : ∀  (ub : SR), o = .inr ub → ∀ (H : Heap) (locs : List Loc) (ls : Array Slot), va_P D clz (wdR G Y ub) H → va_D A (wdR G Y ub) → va_S A s.heap H locs → lv_has ls 6 [] → W p l e (zRm 3 67) s m ([.ref (G 0), .int a1, .int a2] : List Value).toArray below meth c H locs 0 0 Z (F0 m 43 ls [])) (n0 : Nat) (ua : SR) (x3 : Int32) (x4 : Int64), m_Ref_drop_L5 n0 ua x3 x4 x1 = some o → ∀ (H : Heap) (locs : List Loc) (ls : Array Slot), va_P D clz (wdR G Y ua) H → va_D A (wdR G Y ua) → va_S A s.heap H locs → lv_has ls 6 [(0, .ref (G 0)), (1, .int x1), (3, .int x3), (4, .long x4)] → W p l e (zRm 3 67) s m ([.ref (G 0), .int a1, .int a2] : List Value).toArray below meth c H locs 0 0 Z (F0 m 5 ls []) := by
    intro x1 o kr kx n0
    induction n0 with
    | zero => intro ua x3 x4 hm; rw [m_Ref_drop_L5] at hm; cases hm
    | succ n0 ih =>
      intro ua x3 x4 hm H locs ls hP hD hS hl
      rw [m_Ref_drop_L5] at hm
      refine lv_lload hx hb d_Ref_drop_5 (lv_at hl 3 rfl) ?_
      refine lv_lconst (v := (0 : Int64)) hx hb d_Ref_drop_7 (by decide) ?_
      refine W.lcmp hx hb d_Ref_drop_8 ?_
      refine lv_if_eq (tgt := 43) hx hb d_Ref_drop_9 (by decide) (fun hc => ?_) (fun hc => ?_)
      · rw [if_pos hc] at hm
        exact kx  ua (Option.some.inj hm).symm _ _ _ hP hD hS (lv_sub hl [] rfl)
      · rw [if_neg hc] at hm
        refine lv_aload_n hx hb d_Ref_drop_12 rfl (lv_at hl 0 rfl) ?_
        refine lv_iload_n hx hb d_Ref_drop_13 rfl (lv_at hl 1 rfl) ?_
        refine lv_iload_n hx hb d_Ref_drop_14 rfl (lv_at hl 2 rfl) ?_
        refine lv_iconst (v := (1 : Int32)) hx hb d_Ref_drop_15 (by decide) ?_
        refine lv_iadd hx hb d_Ref_drop_16 ?_
        obtain ⟨r1, u2, h3, hm⟩ := ob_some hm
        refine goVL (As := [.int x1, .int (x3 + (1 : Int32))]) (rest := []) (b0 := G 0) 0 C0 (k_Ref_at l D G Y h3) q_621 q_6 q_618 q_620 qs_33 e_Ref_at (by decide) rfl rfl hP hD hS hl.1 rfl (Nat.le_of_ble_eq_true rfl) d_Ref_drop_17 (fun H locs hP hD hS => ?_)
        refine lv_lstore (lv' := [(4, .long r1), (0, .ref (G 0)), (1, .int x1), (3, .int x3)]) hx hb d_Ref_drop_20 hl (by decide) rfl (fun ls hl => ?_)
        refine lv_aload_n hx hb d_Ref_drop_22 rfl (lv_at hl 1 rfl) ?_
        refine lv_bipush (v := (9 : Int32)) hx hb d_Ref_drop_23 (by decide) ?_
        refine lv_iload_n hx hb d_Ref_drop_25 rfl (lv_at hl 2 rfl) ?_
        refine lv_imul hx hb d_Ref_drop_26 ?_
        refine lv_iconst (v := (3 : Int32)) hx hb d_Ref_drop_27 (by decide) ?_
        refine lv_iadd hx hb d_Ref_drop_28 ?_
        refine lv_iload_n hx hb d_Ref_drop_29 rfl (lv_at hl 3 rfl) ?_
        refine lv_iadd hx hb d_Ref_drop_30 ?_
        refine lv_lload hx hb d_Ref_drop_31 (lv_at hl 0 rfl) ?_
        obtain ⟨r5, u6, h7, hm⟩ := ob_some hm
        refine goVV (As := [.int ((((9 : Int32) * x1) + (3 : Int32)) + x3), .long r1]) (rest := []) (b0 := G 0) 0 C0 (k_Ref_firm l D G Y h7) q_650 q_6 q_647 q_649 qs_39 e_Ref_firm (by decide) rfl rfl hP hD hS hl.1 rfl (Nat.le_of_ble_eq_true rfl) d_Ref_drop_33 (fun H locs hP hD hS => ?_)
        refine lv_iload_n hx hb d_Ref_drop_36 rfl (lv_at hl 3 rfl) ?_
        refine lv_iconst (v := (1 : Int32)) hx hb d_Ref_drop_37 (by decide) ?_
        refine lv_iadd hx hb d_Ref_drop_38 ?_
        refine lv_istore_n (lv' := [(3, .int (x3 + (1 : Int32))), (4, .long r1), (0, .ref (G 0)), (1, .int x1)]) hx hb d_Ref_drop_39 rfl hl (by decide) rfl (fun ls hl => ?_)
        refine lv_goto (tgt := 5) hx hb d_Ref_drop_40 (by decide) ?_
        exact ih u6 (x3 + (1 : Int32)) r1 hm _ _ _ hP hD hS (lv_sub hl [2, 3, 0, 1] rfl)
  rw [m_Ref_drop] at hm
  refine lv_iload_n hx hb d_Ref_drop_0 rfl (lv_at hl 2 rfl) ?_
  refine lv_istore_n (lv' := [(3, .int a2), (0, .ref (G 0)), (1, .int a1), (2, .int a2)]) hx hb d_Ref_drop_1 rfl hl (by decide) rfl (fun ls hl => ?_)
  refine lv_lconst (v := (1 : Int64)) hx hb d_Ref_drop_2 (by decide) ?_
  refine lv_lstore (lv' := [(4, .long (1 : Int64)), (3, .int a2), (0, .ref (G 0)), (1, .int a1), (2, .int a2)]) hx hb d_Ref_drop_3 hl (by decide) rfl (fun ls hl => ?_)
  obtain ⟨qq, hq, hi, ho⟩ := ol0_some hm
  refine L5 a1 qq (fun z hz => hi z hz) (fun  u9 hz H locs ls hP hD hS hl => ?_) fz u a2 (1 : Int64) hq _ _ _ hP hD hS (lv_sub hl [2, 3, 1, 0] rfl)
  have hm := ho  u9 hz
  exact hret _ _ _ _ () u9 (Option.some.inj hm) hP hD hS d_Ref_drop_43
theorem d_Ref_split_0 : decode b_Ref_split 0 = .ok (.aload_n 0, 1) := by decide +kernel
theorem d_Ref_split_1 : decode b_Ref_split 1 = .ok (.iload_n 1, 1) := by decide +kernel
theorem d_Ref_split_2 : decode b_Ref_split 2 = .ok (.iconst 3, 1) := by decide +kernel
theorem d_Ref_split_3 : decode b_Ref_split 3 = .ok (.invokevirtual 103, 3) := by decide +kernel
theorem d_Ref_split_6 : decode b_Ref_split 6 = .ok (.istore_n 2, 1) := by decide +kernel
theorem d_Ref_split_7 : decode b_Ref_split 7 = .ok (.aload_n 0, 1) := by decide +kernel
theorem d_Ref_split_8 : decode b_Ref_split 8 = .ok (.aload_n 0, 1) := by decide +kernel
theorem d_Ref_split_9 : decode b_Ref_split 9 = .ok (.iload_n 1, 1) := by decide +kernel
theorem d_Ref_split_10 : decode b_Ref_split 10 = .ok (.invokevirtual 84, 3) := by decide +kernel
theorem d_Ref_split_13 : decode b_Ref_split 13 = .ok (.aload_n 0, 1) := by decide +kernel
theorem d_Ref_split_14 : decode b_Ref_split 14 = .ok (.iload_n 1, 1) := by decide +kernel
theorem d_Ref_split_15 : decode b_Ref_split 15 = .ok (.invokevirtual 80, 3) := by decide +kernel
theorem d_Ref_split_18 : decode b_Ref_split 18 = .ok (.iload_n 2, 1) := by decide +kernel
theorem d_Ref_split_19 : decode b_Ref_split 19 = .ok (.aload_n 0, 1) := by decide +kernel
theorem d_Ref_split_20 : decode b_Ref_split 20 = .ok (.iload_n 1, 1) := by decide +kernel
theorem d_Ref_split_21 : decode b_Ref_split 21 = .ok (.iconst 3, 1) := by decide +kernel
theorem d_Ref_split_22 : decode b_Ref_split 22 = .ok (.invokevirtual 64, 3) := by decide +kernel
theorem d_Ref_split_25 : decode b_Ref_split 25 = .ok (.aload_n 0, 1) := by decide +kernel
theorem d_Ref_split_26 : decode b_Ref_split 26 = .ok (.iload_n 1, 1) := by decide +kernel
theorem d_Ref_split_27 : decode b_Ref_split 27 = .ok (.iconst 4, 1) := by decide +kernel
theorem d_Ref_split_28 : decode b_Ref_split 28 = .ok (.invokevirtual 64, 3) := by decide +kernel
theorem d_Ref_split_31 : decode b_Ref_split 31 = .ok (.aload_n 0, 1) := by decide +kernel
theorem d_Ref_split_32 : decode b_Ref_split 32 = .ok (.iload_n 1, 1) := by decide +kernel
theorem d_Ref_split_33 : decode b_Ref_split 33 = .ok (.iconst 5, 1) := by decide +kernel
theorem d_Ref_split_34 : decode b_Ref_split 34 = .ok (.invokevirtual 64, 3) := by decide +kernel
theorem d_Ref_split_37 : decode b_Ref_split 37 = .ok (.invokevirtual 109, 3) := by decide +kernel
theorem d_Ref_split_40 : decode b_Ref_split 40 = .ok (.istore_n 3, 1) := by decide +kernel
theorem d_Ref_split_41 : decode b_Ref_split 41 = .ok (.aload_n 0, 1) := by decide +kernel
theorem d_Ref_split_42 : decode b_Ref_split 42 = .ok (.bipush 9, 2) := by decide +kernel
theorem d_Ref_split_44 : decode b_Ref_split 44 = .ok (.iload_n 1, 1) := by decide +kernel
theorem d_Ref_split_45 : decode b_Ref_split 45 = .ok (.imul, 1) := by decide +kernel
theorem d_Ref_split_46 : decode b_Ref_split 46 = .ok (.iconst 1, 1) := by decide +kernel
theorem d_Ref_split_47 : decode b_Ref_split 47 = .ok (.iadd, 1) := by decide +kernel
theorem d_Ref_split_48 : decode b_Ref_split 48 = .ok (.iload_n 3, 1) := by decide +kernel
theorem d_Ref_split_49 : decode b_Ref_split 49 = .ok (.i2l, 1) := by decide +kernel
theorem d_Ref_split_50 : decode b_Ref_split 50 = .ok (.invokevirtual 106, 3) := by decide +kernel
theorem d_Ref_split_53 : decode b_Ref_split 53 = .ok (.iconst 5, 1) := by decide +kernel
theorem d_Ref_split_54 : decode b_Ref_split 54 = .ok (.istore 4, 2) := by decide +kernel
theorem d_Ref_split_56 : decode b_Ref_split 56 = .ok (.iload 4, 2) := by decide +kernel
theorem d_Ref_split_58 : decode b_Ref_split 58 = .ok (.iconst 2, 1) := by decide +kernel
theorem d_Ref_split_59 : decode b_Ref_split 59 = .ok (.if_icmp .le 23, 3) := by decide +kernel
theorem d_Ref_split_62 : decode b_Ref_split 62 = .ok (.aload_n 0, 1) := by decide +kernel
theorem d_Ref_split_63 : decode b_Ref_split 63 = .ok (.bipush 9, 2) := by decide +kernel
theorem d_Ref_split_65 : decode b_Ref_split 65 = .ok (.iload_n 1, 1) := by decide +kernel
theorem d_Ref_split_66 : decode b_Ref_split 66 = .ok (.imul, 1) := by decide +kernel
theorem d_Ref_split_67 : decode b_Ref_split 67 = .ok (.iconst 3, 1) := by decide +kernel
theorem d_Ref_split_68 : decode b_Ref_split 68 = .ok (.iadd, 1) := by decide +kernel
theorem d_Ref_split_69 : decode b_Ref_split 69 = .ok (.iload 4, 2) := by decide +kernel
theorem d_Ref_split_71 : decode b_Ref_split 71 = .ok (.iadd, 1) := by decide +kernel
theorem d_Ref_split_72 : decode b_Ref_split 72 = .ok (.lconst 0, 1) := by decide +kernel
theorem d_Ref_split_73 : decode b_Ref_split 73 = .ok (.invokevirtual 53, 3) := by decide +kernel
theorem d_Ref_split_76 : decode b_Ref_split 76 = .ok (.iinc 4 (-1), 3) := by decide +kernel
theorem d_Ref_split_79 : decode b_Ref_split 79 = .ok (.goto (-23), 3) := by decide +kernel
theorem d_Ref_split_82 : decode b_Ref_split 82 = .ok (.aload_n 0, 1) := by decide +kernel
theorem d_Ref_split_83 : decode b_Ref_split 83 = .ok (.invokevirtual 57, 3) := by decide +kernel
theorem d_Ref_split_86 : decode b_Ref_split 86 = .ok (.iload_n 3, 1) := by decide +kernel
theorem d_Ref_split_87 : decode b_Ref_split 87 = .ok (.ireturn, 1) := by decide +kernel
set_option maxRecDepth 100000 in
set_option maxHeartbeats 4000000 in
theorem k_Ref_split (l : Launch) (D : va_G) (G : Nat → Nat) (Y : Nat → ClassId) {u : SR} {a1 : Int32} {r : Int32} {u' : SR} (hm : m_Ref_split u a1 = some (r, u')) : KI l D clz (tyz Y) (wdR G Y) y_Ref_split b_Ref_split 5 (some .int) 4 99 [.ref (G 0), .int a1] u r u' := by
  refine mkI (by decide) (Nat.le_of_ble_eq_true rfl) ?_
  intro p e s m below meth c A Z ls C0 hP hD hS hl hret
  obtain ⟨hx, hb, hml, hown, hts, hK, hN, hA⟩ := id C0
  have hl : lv_has ls 5 [(0, .ref (G 0)), (1, .int a1)] := hl
  have L56 : ∀ (x1 : Int32) (x3 : Int32) (o : (Int32 × SR) ⊕ (SR)) (kr : ∀ z, o = .inl z → z = (r, u')) (kx : ∀  (ub : SR), o = .inr ub → ∀ (H : Heap) (locs : List Loc) (ls : Array Slot), va_P D clz (wdR G Y ub) H → va_D A (wdR G Y ub) → va_S A s.heap H locs → lv_has ls 5 [(0, .ref (G 0)), (3, .int x3)] → W p l e (zRm 4 99) s m ([.ref (G 0), .int a1] : List Value).toArray below meth c H locs 0 0 Z (F0 m 82 ls [])) (n0 : Nat) (ua : SR) (x4 : Int32), m_Ref_split_L56 n0 ua x4 x1 x3 = some o → ∀ (H : Heap) (locs : List Loc) (ls : Array Slot), va_P D clz (wdR G Y ua) H → va_D A (wdR G Y ua) → va_S A s.heap H locs → lv_has ls 5 [(0, .ref (G 0)), (1, .int x1), (3, .int x3), (4, .int x4)] → W p l e (zRm 4 99) s m ([.ref (G 0), .int a1] : List Value).toArray below meth c H locs 0 0 Z (F0 m 56 ls []) := by
    intro x1 x3 o kr kx n0
    induction n0 with
    | zero => intro ua x4 hm; rw [m_Ref_split_L56] at hm; cases hm
    | succ n0 ih =>
      intro ua x4 hm H locs ls hP hD hS hl
      rw [m_Ref_split_L56] at hm
      refine lv_iload hx hb d_Ref_split_56 (lv_at hl 3 rfl) ?_
      refine lv_iconst (v := (2 : Int32)) hx hb d_Ref_split_58 (by decide) ?_
      refine lv_icmp_le (tgt := 82) hx hb d_Ref_split_59 (by decide) (fun hc => ?_) (fun hc => ?_)
      · rw [if_pos hc] at hm
        exact kx  ua (Option.some.inj hm).symm _ _ _ hP hD hS (lv_sub hl [0, 2] rfl)
      · rw [if_neg hc] at hm
        refine lv_aload_n hx hb d_Ref_split_62 rfl (lv_at hl 0 rfl) ?_
        refine lv_bipush (v := (9 : Int32)) hx hb d_Ref_split_63 (by decide) ?_
        refine lv_iload_n hx hb d_Ref_split_65 rfl (lv_at hl 1 rfl) ?_
        refine lv_imul hx hb d_Ref_split_66 ?_
        refine lv_iconst (v := (3 : Int32)) hx hb d_Ref_split_67 (by decide) ?_
        refine lv_iadd hx hb d_Ref_split_68 ?_
        refine lv_iload hx hb d_Ref_split_69 (lv_at hl 3 rfl) ?_
        refine lv_iadd hx hb d_Ref_split_71 ?_
        refine lv_lconst (v := (0 : Int64)) hx hb d_Ref_split_72 (by decide) ?_
        obtain ⟨r1, u2, h3, hm⟩ := ob_some hm
        refine goVV (As := [.int ((((9 : Int32) * x1) + (3 : Int32)) + x4), .long (0 : Int64)]) (rest := []) (b0 := G 0) 0 C0 (k_Ref_store l D G Y h3) q_638 q_6 q_635 q_637 qs_36 e_Ref_store (by decide) rfl rfl hP hD hS hl.1 rfl (Nat.le_of_ble_eq_true rfl) d_Ref_split_73 (fun H locs hP hD hS => ?_)
        refine lv_iinc (v := (x4 + (-1 : Int32))) (lv' := [(4, .int (x4 + (-1 : Int32))), (0, .ref (G 0)), (1, .int x1), (3, .int x3)]) hx hb d_Ref_split_76 hl (k := 3) rfl rfl (by decide) rfl (fun ls hl => ?_)
        refine lv_goto (tgt := 56) hx hb d_Ref_split_79 (by decide) ?_
        exact ih u2 (x4 + (-1 : Int32)) hm _ _ _ hP hD hS (lv_sub hl [1, 2, 3, 0] rfl)
  rw [m_Ref_split] at hm
  refine lv_aload_n hx hb d_Ref_split_0 rfl (lv_at hl 0 rfl) ?_
  refine lv_iload_n hx hb d_Ref_split_1 rfl (lv_at hl 1 rfl) ?_
  refine lv_iconst (v := (3 : Int32)) hx hb d_Ref_split_2 (by decide) ?_
  obtain ⟨r5, u6, h7, hm⟩ := ob_some hm
  refine goVI (As := [.int a1, .int (3 : Int32)]) (rest := []) (b0 := G 0) 0 C0 (k_Ref_keyAt l D G Y h7) q_666 q_6 q_663 q_665 qs_43 e_Ref_keyAt (by decide) rfl rfl hP hD hS hl.1 rfl (Nat.le_of_ble_eq_true rfl) d_Ref_split_3 (fun H locs hP hD hS => ?_)
  refine lv_istore_n (lv' := [(2, .int r5), (0, .ref (G 0)), (1, .int a1)]) hx hb d_Ref_split_6 rfl hl (by decide) rfl (fun ls hl => ?_)
  refine lv_aload_n hx hb d_Ref_split_7 rfl (lv_at hl 1 rfl) ?_
  refine lv_aload_n hx hb d_Ref_split_8 rfl (lv_at hl 1 rfl) ?_
  refine lv_iload_n hx hb d_Ref_split_9 rfl (lv_at hl 2 rfl) ?_
  obtain ⟨r9, u10, h11, hm⟩ := ob_some hm
  refine goVI (As := [.int a1]) (rest := [.ref (G 0)]) (b0 := G 0) 0 C0 (k_Ref_level l D G Y h11) q_613 q_6 q_610 q_612 qs_31 e_Ref_level (by decide) rfl rfl hP hD hS hl.1 rfl (Nat.le_of_ble_eq_true rfl) d_Ref_split_10 (fun H locs hP hD hS => ?_)
  refine lv_aload_n hx hb d_Ref_split_13 rfl (lv_at hl 1 rfl) ?_
  refine lv_iload_n hx hb d_Ref_split_14 rfl (lv_at hl 2 rfl) ?_
  obtain ⟨r13, u14, h15, hm⟩ := ob_some hm
  refine goVI (As := [.int a1]) (rest := [.int r9, .ref (G 0)]) (b0 := G 0) 0 C0 (k_Ref_next l D G Y h15) q_609 q_6 q_606 q_608 qs_30 e_Ref_next (by decide) rfl rfl hP hD hS hl.1 rfl (Nat.le_of_ble_eq_true rfl) d_Ref_split_15 (fun H locs hP hD hS => ?_)
  refine lv_iload_n hx hb d_Ref_split_18 rfl (lv_at hl 0 rfl) ?_
  refine lv_aload_n hx hb d_Ref_split_19 rfl (lv_at hl 1 rfl) ?_
  refine lv_iload_n hx hb d_Ref_split_20 rfl (lv_at hl 2 rfl) ?_
  refine lv_iconst (v := (3 : Int32)) hx hb d_Ref_split_21 (by decide) ?_
  obtain ⟨r17, u18, h19, hm⟩ := ob_some hm
  refine goVL (As := [.int a1, .int (3 : Int32)]) (rest := [.int r5, .int r13, .int r9, .ref (G 0)]) (b0 := G 0) 0 C0 (k_Ref_at l D G Y h19) q_621 q_6 q_618 q_620 qs_33 e_Ref_at (by decide) rfl rfl hP hD hS hl.1 rfl (Nat.le_of_ble_eq_true rfl) d_Ref_split_22 (fun H locs hP hD hS => ?_)
  refine lv_aload_n hx hb d_Ref_split_25 rfl (lv_at hl 1 rfl) ?_
  refine lv_iload_n hx hb d_Ref_split_26 rfl (lv_at hl 2 rfl) ?_
  refine lv_iconst (v := (4 : Int32)) hx hb d_Ref_split_27 (by decide) ?_
  obtain ⟨r21, u22, h23, hm⟩ := ob_some hm
  refine goVL (As := [.int a1, .int (4 : Int32)]) (rest := [.long r17, .int r5, .int r13, .int r9, .ref (G 0)]) (b0 := G 0) 0 C0 (k_Ref_at l D G Y h23) q_621 q_6 q_618 q_620 qs_33 e_Ref_at (by decide) rfl rfl hP hD hS hl.1 rfl (Nat.le_of_ble_eq_true rfl) d_Ref_split_28 (fun H locs hP hD hS => ?_)
  refine lv_aload_n hx hb d_Ref_split_31 rfl (lv_at hl 1 rfl) ?_
  refine lv_iload_n hx hb d_Ref_split_32 rfl (lv_at hl 2 rfl) ?_
  refine lv_iconst (v := (5 : Int32)) hx hb d_Ref_split_33 (by decide) ?_
  obtain ⟨r25, u26, h27, hm⟩ := ob_some hm
  refine goVL (As := [.int a1, .int (5 : Int32)]) (rest := [.long r21, .long r17, .int r5, .int r13, .int r9, .ref (G 0)]) (b0 := G 0) 0 C0 (k_Ref_at l D G Y h27) q_621 q_6 q_618 q_620 qs_33 e_Ref_at (by decide) rfl rfl hP hD hS hl.1 rfl (Nat.le_of_ble_eq_true rfl) d_Ref_split_34 (fun H locs hP hD hS => ?_)
  obtain ⟨r29, u30, h31, hm⟩ := ob_some hm
  refine goVI (As := [.int r9, .int r13, .int r5, .long r17, .long r21, .long r25]) (rest := []) (b0 := G 0) 0 C0 (k_Ref_make l D G Y h31) q_634 q_6 q_631 q_633 qs_35 e_Ref_make (by decide) rfl rfl hP hD hS hl.1 rfl (Nat.le_of_ble_eq_true rfl) d_Ref_split_37 (fun H locs hP hD hS => ?_)
  refine lv_istore_n (lv' := [(3, .int r29), (2, .int r5), (0, .ref (G 0)), (1, .int a1)]) hx hb d_Ref_split_40 rfl hl (by decide) rfl (fun ls hl => ?_)
  refine lv_aload_n hx hb d_Ref_split_41 rfl (lv_at hl 2 rfl) ?_
  refine lv_bipush (v := (9 : Int32)) hx hb d_Ref_split_42 (by decide) ?_
  refine lv_iload_n hx hb d_Ref_split_44 rfl (lv_at hl 3 rfl) ?_
  refine lv_imul hx hb d_Ref_split_45 ?_
  refine lv_iconst (v := (1 : Int32)) hx hb d_Ref_split_46 (by decide) ?_
  refine lv_iadd hx hb d_Ref_split_47 ?_
  refine lv_iload_n hx hb d_Ref_split_48 rfl (lv_at hl 0 rfl) ?_
  refine lv_i2l (v := (r29.toInt64)) hx hb d_Ref_split_49 rfl ?_
  obtain ⟨r33, u34, h35, hm⟩ := ob_some hm
  refine goVV (As := [.int (((9 : Int32) * a1) + (1 : Int32)), .long (r29.toInt64)]) (rest := []) (b0 := G 0) 0 C0 (k_Ref_firm l D G Y h35) q_650 q_6 q_647 q_649 qs_39 e_Ref_firm (by decide) rfl rfl hP hD hS hl.1 rfl (Nat.le_of_ble_eq_true rfl) d_Ref_split_50 (fun H locs hP hD hS => ?_)
  refine lv_iconst (v := (5 : Int32)) hx hb d_Ref_split_53 (by decide) ?_
  refine lv_istore (lv' := [(4, .int (5 : Int32)), (3, .int r29), (2, .int r5), (0, .ref (G 0)), (1, .int a1)]) hx hb d_Ref_split_54 hl (by decide) rfl (fun ls hl => ?_)
  obtain ⟨qq, hq, hi, ho⟩ := ol0_some hm
  refine L56 a1 r29 qq (fun z hz => hi z hz) (fun  u37 hz H locs ls hP hD hS hl => ?_) fz u34 (5 : Int32) hq _ _ _ hP hD hS (lv_sub hl [3, 4, 1, 0] rfl)
  have hm := ho  u37 hz
  refine lv_aload_n hx hb d_Ref_split_82 rfl (lv_at hl 0 rfl) ?_
  obtain ⟨r38, u39, h40, hm⟩ := ob_some hm
  refine goVV (As := []) (rest := []) (b0 := G 0) 0 C0 (k_Ref_fence l D G Y h40) q_646 q_6 q_643 q_645 qs_38 e_Ref_fence (by decide) rfl rfl hP hD hS hl.1 rfl (Nat.le_of_ble_eq_true rfl) d_Ref_split_83 (fun H locs hP hD hS => ?_)
  refine lv_iload_n hx hb d_Ref_split_86 rfl (lv_at hl 1 rfl) ?_
  exact hret _ _ _ _ r29 u39 (Option.some.inj hm) hP hD hS d_Ref_split_87
theorem d_Ref_entryOf_0 : decode b_Ref_entryOf 0 = .ok (.aload_n 0, 1) := by decide +kernel
theorem d_Ref_entryOf_1 : decode b_Ref_entryOf 1 = .ok (.iload_n 1, 1) := by decide +kernel
theorem d_Ref_entryOf_2 : decode b_Ref_entryOf 2 = .ok (.invokevirtual 97, 3) := by decide +kernel
theorem d_Ref_entryOf_5 : decode b_Ref_entryOf 5 = .ok (.iload_n 1, 1) := by decide +kernel
theorem d_Ref_entryOf_6 : decode b_Ref_entryOf 6 = .ok (.invokestatic 113, 3) := by decide +kernel
theorem d_Ref_entryOf_9 : decode b_Ref_entryOf 9 = .ok (.lreturn, 1) := by decide +kernel
set_option maxRecDepth 100000 in
set_option maxHeartbeats 4000000 in
theorem k_Ref_entryOf (l : Launch) (D : va_G) (G : Nat → Nat) (Y : Nat → ClassId) {u : SR} {a1 : Int32} {r : Int64} {u' : SR} (hm : m_Ref_entryOf u a1 = some (r, u')) : KL l D clz (tyz Y) (wdR G Y) y_Ref_entryOf b_Ref_entryOf 2 (some .long) 1 21 [.ref (G 0), .int a1] u r u' := by
  refine mkL (by decide) (Nat.le_of_ble_eq_true rfl) ?_
  intro p e s m below meth c A Z ls C0 hP hD hS hl hret
  obtain ⟨hx, hb, hml, hown, hts, hK, hN, hA⟩ := id C0
  have hl : lv_has ls 2 [(0, .ref (G 0)), (1, .int a1)] := hl
  rw [m_Ref_entryOf] at hm
  refine lv_aload_n hx hb d_Ref_entryOf_0 rfl (lv_at hl 0 rfl) ?_
  refine lv_iload_n hx hb d_Ref_entryOf_1 rfl (lv_at hl 1 rfl) ?_
  obtain ⟨r1, u2, h3, hm⟩ := ob_some hm
  refine goVI (As := [.int a1]) (rest := []) (b0 := G 0) 0 C0 (k_Ref_low l D G Y h3) q_658 q_6 q_655 q_657 qs_41 e_Ref_low (by decide) rfl rfl hP hD hS hl.1 rfl (Nat.le_of_ble_eq_true rfl) d_Ref_entryOf_2 (fun H locs hP hD hS => ?_)
  refine lv_iload_n hx hb d_Ref_entryOf_5 rfl (lv_at hl 1 rfl) ?_
  obtain ⟨r5, u6, h7, hm⟩ := ob_some hm
  refine goSL (As := [.int r1, .int a1]) (rest := []) C0 (k_Ref_entry l D G Y h7) q_628 q_6 q_626 q_627 e_Ref_entry (by decide) hP hD hS hl.1 rfl (Nat.le_of_ble_eq_true rfl) d_Ref_entryOf_6 (fun H locs hP hD hS => ?_)
  exact hret _ _ _ _ r5 u6 (Option.some.inj hm) hP hD hS d_Ref_entryOf_9
theorem d_Ref_hang_0 : decode b_Ref_hang 0 = .ok (.iconst 0, 1) := by decide +kernel
theorem d_Ref_hang_1 : decode b_Ref_hang 1 = .ok (.istore_n 3, 1) := by decide +kernel
theorem d_Ref_hang_2 : decode b_Ref_hang 2 = .ok (.aload_n 0, 1) := by decide +kernel
theorem d_Ref_hang_3 : decode b_Ref_hang 3 = .ok (.getfield 28, 3) := by decide +kernel
theorem d_Ref_hang_6 : decode b_Ref_hang 6 = .ok (.iconst 0, 1) := by decide +kernel
theorem d_Ref_hang_7 : decode b_Ref_hang 7 = .ok (.iload_n 1, 1) := by decide +kernel
theorem d_Ref_hang_8 : decode b_Ref_hang 8 = .ok (.iastore, 1) := by decide +kernel
theorem d_Ref_hang_9 : decode b_Ref_hang 9 = .ok (.aload_n 0, 1) := by decide +kernel
theorem d_Ref_hang_10 : decode b_Ref_hang 10 = .ok (.getfield 44, 3) := by decide +kernel
theorem d_Ref_hang_13 : decode b_Ref_hang 13 = .ok (.ifCond .ne 7, 3) := by decide +kernel
theorem d_Ref_hang_16 : decode b_Ref_hang 16 = .ok (.iconst 1, 1) := by decide +kernel
theorem d_Ref_hang_17 : decode b_Ref_hang 17 = .ok (.goto 4, 3) := by decide +kernel
theorem d_Ref_hang_20 : decode b_Ref_hang 20 = .ok (.iconst 0, 1) := by decide +kernel
theorem d_Ref_hang_21 : decode b_Ref_hang 21 = .ok (.istore 4, 2) := by decide +kernel
theorem d_Ref_hang_23 : decode b_Ref_hang 23 = .ok (.iconst 0, 1) := by decide +kernel
theorem d_Ref_hang_24 : decode b_Ref_hang 24 = .ok (.istore 5, 2) := by decide +kernel
theorem d_Ref_hang_26 : decode b_Ref_hang 26 = .ok (.iload 4, 2) := by decide +kernel
theorem d_Ref_hang_28 : decode b_Ref_hang 28 = .ok (.ifCond .eq 163, 3) := by decide +kernel
theorem d_Ref_hang_31 : decode b_Ref_hang 31 = .ok (.aload_n 0, 1) := by decide +kernel
theorem d_Ref_hang_32 : decode b_Ref_hang 32 = .ok (.invokevirtual 72, 3) := by decide +kernel
theorem d_Ref_hang_35 : decode b_Ref_hang 35 = .ok (.istore 6, 2) := by decide +kernel
theorem d_Ref_hang_37 : decode b_Ref_hang 37 = .ok (.aload_n 0, 1) := by decide +kernel
theorem d_Ref_hang_38 : decode b_Ref_hang 38 = .ok (.aload_n 0, 1) := by decide +kernel
theorem d_Ref_hang_39 : decode b_Ref_hang 39 = .ok (.getfield 28, 3) := by decide +kernel
theorem d_Ref_hang_42 : decode b_Ref_hang 42 = .ok (.iload_n 3, 1) := by decide +kernel
theorem d_Ref_hang_43 : decode b_Ref_hang 43 = .ok (.iaload, 1) := by decide +kernel
theorem d_Ref_hang_44 : decode b_Ref_hang 44 = .ok (.invokevirtual 97, 3) := by decide +kernel
theorem d_Ref_hang_47 : decode b_Ref_hang 47 = .ok (.istore 7, 2) := by decide +kernel
theorem d_Ref_hang_49 : decode b_Ref_hang 49 = .ok (.aload_n 0, 1) := by decide +kernel
theorem d_Ref_hang_50 : decode b_Ref_hang 50 = .ok (.iload 6, 2) := by decide +kernel
theorem d_Ref_hang_52 : decode b_Ref_hang 52 = .ok (.invokevirtual 84, 3) := by decide +kernel
theorem d_Ref_hang_55 : decode b_Ref_hang 55 = .ok (.iload_n 2, 1) := by decide +kernel
theorem d_Ref_hang_56 : decode b_Ref_hang 56 = .ok (.iload_n 3, 1) := by decide +kernel
theorem d_Ref_hang_57 : decode b_Ref_hang 57 = .ok (.iadd, 1) := by decide +kernel
theorem d_Ref_hang_58 : decode b_Ref_hang 58 = .ok (.if_icmp .ge 7, 3) := by decide +kernel
theorem d_Ref_hang_61 : decode b_Ref_hang 61 = .ok (.iconst 0, 1) := by decide +kernel
theorem d_Ref_hang_62 : decode b_Ref_hang 62 = .ok (.goto 12, 3) := by decide +kernel
theorem d_Ref_hang_65 : decode b_Ref_hang 65 = .ok (.aload_n 0, 1) := by decide +kernel
theorem d_Ref_hang_66 : decode b_Ref_hang 66 = .ok (.iload 7, 2) := by decide +kernel
theorem d_Ref_hang_68 : decode b_Ref_hang 68 = .ok (.iload_n 2, 1) := by decide +kernel
theorem d_Ref_hang_69 : decode b_Ref_hang 69 = .ok (.iload_n 3, 1) := by decide +kernel
theorem d_Ref_hang_70 : decode b_Ref_hang 70 = .ok (.iadd, 1) := by decide +kernel
theorem d_Ref_hang_71 : decode b_Ref_hang 71 = .ok (.invokevirtual 116, 3) := by decide +kernel
theorem d_Ref_hang_74 : decode b_Ref_hang 74 = .ok (.istore 8, 2) := by decide +kernel
theorem d_Ref_hang_76 : decode b_Ref_hang 76 = .ok (.iload 8, 2) := by decide +kernel
theorem d_Ref_hang_78 : decode b_Ref_hang 78 = .ok (.ifCond .ne 61, 3) := by decide +kernel
theorem d_Ref_hang_81 : decode b_Ref_hang 81 = .ok (.aload_n 0, 1) := by decide +kernel
theorem d_Ref_hang_82 : decode b_Ref_hang 82 = .ok (.iload 6, 2) := by decide +kernel
theorem d_Ref_hang_84 : decode b_Ref_hang 84 = .ok (.invokevirtual 119, 3) := by decide +kernel
theorem d_Ref_hang_87 : decode b_Ref_hang 87 = .ok (.lstore 9, 2) := by decide +kernel
theorem d_Ref_hang_89 : decode b_Ref_hang 89 = .ok (.aload_n 0, 1) := by decide +kernel
theorem d_Ref_hang_90 : decode b_Ref_hang 90 = .ok (.aload_n 0, 1) := by decide +kernel
theorem d_Ref_hang_91 : decode b_Ref_hang 91 = .ok (.getfield 28, 3) := by decide +kernel
theorem d_Ref_hang_94 : decode b_Ref_hang 94 = .ok (.iload_n 3, 1) := by decide +kernel
theorem d_Ref_hang_95 : decode b_Ref_hang 95 = .ok (.iaload, 1) := by decide +kernel
theorem d_Ref_hang_96 : decode b_Ref_hang 96 = .ok (.invokevirtual 119, 3) := by decide +kernel
theorem d_Ref_hang_99 : decode b_Ref_hang 99 = .ok (.lstore 11, 2) := by decide +kernel
theorem d_Ref_hang_101 : decode b_Ref_hang 101 = .ok (.aload_n 0, 1) := by decide +kernel
theorem d_Ref_hang_102 : decode b_Ref_hang 102 = .ok (.iload_n 2, 1) := by decide +kernel
theorem d_Ref_hang_103 : decode b_Ref_hang 103 = .ok (.iload_n 3, 1) := by decide +kernel
theorem d_Ref_hang_104 : decode b_Ref_hang 104 = .ok (.iadd, 1) := by decide +kernel
theorem d_Ref_hang_105 : decode b_Ref_hang 105 = .ok (.iconst 0, 1) := by decide +kernel
theorem d_Ref_hang_106 : decode b_Ref_hang 106 = .ok (.aload_n 0, 1) := by decide +kernel
theorem d_Ref_hang_107 : decode b_Ref_hang 107 = .ok (.iload 6, 2) := by decide +kernel
theorem d_Ref_hang_109 : decode b_Ref_hang 109 = .ok (.invokevirtual 97, 3) := by decide +kernel
theorem d_Ref_hang_112 : decode b_Ref_hang 112 = .ok (.lload 9, 2) := by decide +kernel
theorem d_Ref_hang_114 : decode b_Ref_hang 114 = .ok (.lload 11, 2) := by decide +kernel
theorem d_Ref_hang_116 : decode b_Ref_hang 116 = .ok (.lconst 0, 1) := by decide +kernel
theorem d_Ref_hang_117 : decode b_Ref_hang 117 = .ok (.invokevirtual 109, 3) := by decide +kernel
theorem d_Ref_hang_120 : decode b_Ref_hang 120 = .ok (.istore 13, 2) := by decide +kernel
theorem d_Ref_hang_122 : decode b_Ref_hang 122 = .ok (.aload_n 0, 1) := by decide +kernel
theorem d_Ref_hang_123 : decode b_Ref_hang 123 = .ok (.iconst 0, 1) := by decide +kernel
theorem d_Ref_hang_124 : decode b_Ref_hang 124 = .ok (.iload 13, 2) := by decide +kernel
theorem d_Ref_hang_126 : decode b_Ref_hang 126 = .ok (.i2l, 1) := by decide +kernel
theorem d_Ref_hang_127 : decode b_Ref_hang 127 = .ok (.invokevirtual 106, 3) := by decide +kernel
theorem d_Ref_hang_130 : decode b_Ref_hang 130 = .ok (.iconst 1, 1) := by decide +kernel
theorem d_Ref_hang_131 : decode b_Ref_hang 131 = .ok (.istore 5, 2) := by decide +kernel
theorem d_Ref_hang_133 : decode b_Ref_hang 133 = .ok (.iconst 0, 1) := by decide +kernel
theorem d_Ref_hang_134 : decode b_Ref_hang 134 = .ok (.istore 4, 2) := by decide +kernel
theorem d_Ref_hang_136 : decode b_Ref_hang 136 = .ok (.goto 52, 3) := by decide +kernel
theorem d_Ref_hang_139 : decode b_Ref_hang 139 = .ok (.aload_n 0, 1) := by decide +kernel
theorem d_Ref_hang_140 : decode b_Ref_hang 140 = .ok (.iload 8, 2) := by decide +kernel
theorem d_Ref_hang_142 : decode b_Ref_hang 142 = .ok (.invokevirtual 87, 3) := by decide +kernel
theorem d_Ref_hang_145 : decode b_Ref_hang 145 = .ok (.bipush 6, 2) := by decide +kernel
theorem d_Ref_hang_147 : decode b_Ref_hang 147 = .ok (.if_icmp .ne 38, 3) := by decide +kernel
theorem d_Ref_hang_150 : decode b_Ref_hang 150 = .ok (.aload_n 0, 1) := by decide +kernel
theorem d_Ref_hang_151 : decode b_Ref_hang 151 = .ok (.getfield 28, 3) := by decide +kernel
theorem d_Ref_hang_154 : decode b_Ref_hang 154 = .ok (.iload_n 3, 1) := by decide +kernel
theorem d_Ref_hang_155 : decode b_Ref_hang 155 = .ok (.iconst 1, 1) := by decide +kernel
theorem d_Ref_hang_156 : decode b_Ref_hang 156 = .ok (.iadd, 1) := by decide +kernel
theorem d_Ref_hang_157 : decode b_Ref_hang 157 = .ok (.aload_n 0, 1) := by decide +kernel
theorem d_Ref_hang_158 : decode b_Ref_hang 158 = .ok (.iload 8, 2) := by decide +kernel
theorem d_Ref_hang_160 : decode b_Ref_hang 160 = .ok (.invokevirtual 123, 3) := by decide +kernel
theorem d_Ref_hang_163 : decode b_Ref_hang 163 = .ok (.iastore, 1) := by decide +kernel
theorem d_Ref_hang_164 : decode b_Ref_hang 164 = .ok (.iload_n 3, 1) := by decide +kernel
theorem d_Ref_hang_165 : decode b_Ref_hang 165 = .ok (.iconst 1, 1) := by decide +kernel
theorem d_Ref_hang_166 : decode b_Ref_hang 166 = .ok (.iadd, 1) := by decide +kernel
theorem d_Ref_hang_167 : decode b_Ref_hang 167 = .ok (.istore_n 3, 1) := by decide +kernel
theorem d_Ref_hang_168 : decode b_Ref_hang 168 = .ok (.aload_n 0, 1) := by decide +kernel
theorem d_Ref_hang_169 : decode b_Ref_hang 169 = .ok (.getfield 44, 3) := by decide +kernel
theorem d_Ref_hang_172 : decode b_Ref_hang 172 = .ok (.ifCond .ne 7, 3) := by decide +kernel
theorem d_Ref_hang_175 : decode b_Ref_hang 175 = .ok (.iconst 1, 1) := by decide +kernel
theorem d_Ref_hang_176 : decode b_Ref_hang 176 = .ok (.goto 4, 3) := by decide +kernel
theorem d_Ref_hang_179 : decode b_Ref_hang 179 = .ok (.iconst 0, 1) := by decide +kernel
theorem d_Ref_hang_180 : decode b_Ref_hang 180 = .ok (.istore 4, 2) := by decide +kernel
theorem d_Ref_hang_182 : decode b_Ref_hang 182 = .ok (.goto 6, 3) := by decide +kernel
theorem d_Ref_hang_185 : decode b_Ref_hang 185 = .ok (.iconst 0, 1) := by decide +kernel
theorem d_Ref_hang_186 : decode b_Ref_hang 186 = .ok (.istore 4, 2) := by decide +kernel
theorem d_Ref_hang_188 : decode b_Ref_hang 188 = .ok (.goto (-162), 3) := by decide +kernel
theorem d_Ref_hang_191 : decode b_Ref_hang 191 = .ok (.iload 5, 2) := by decide +kernel
theorem d_Ref_hang_193 : decode b_Ref_hang 193 = .ok (.ifCond .eq 9, 3) := by decide +kernel
theorem d_Ref_hang_196 : decode b_Ref_hang 196 = .ok (.iload_n 3, 1) := by decide +kernel
theorem d_Ref_hang_197 : decode b_Ref_hang 197 = .ok (.iconst 1, 1) := by decide +kernel
theorem d_Ref_hang_198 : decode b_Ref_hang 198 = .ok (.isub, 1) := by decide +kernel
theorem d_Ref_hang_199 : decode b_Ref_hang 199 = .ok (.goto 4, 3) := by decide +kernel
theorem d_Ref_hang_202 : decode b_Ref_hang 202 = .ok (.iload_n 3, 1) := by decide +kernel
theorem d_Ref_hang_203 : decode b_Ref_hang 203 = .ok (.istore 6, 2) := by decide +kernel
theorem d_Ref_hang_205 : decode b_Ref_hang 205 = .ok (.iload 6, 2) := by decide +kernel
theorem d_Ref_hang_207 : decode b_Ref_hang 207 = .ok (.ifCond .lt 58, 3) := by decide +kernel
theorem d_Ref_hang_210 : decode b_Ref_hang 210 = .ok (.aload_n 0, 1) := by decide +kernel
theorem d_Ref_hang_211 : decode b_Ref_hang 211 = .ok (.getfield 44, 3) := by decide +kernel
theorem d_Ref_hang_214 : decode b_Ref_hang 214 = .ok (.ifCond .ne 51, 3) := by decide +kernel
theorem d_Ref_hang_217 : decode b_Ref_hang 217 = .ok (.aload_n 0, 1) := by decide +kernel
theorem d_Ref_hang_218 : decode b_Ref_hang 218 = .ok (.aload_n 0, 1) := by decide +kernel
theorem d_Ref_hang_219 : decode b_Ref_hang 219 = .ok (.getfield 28, 3) := by decide +kernel
theorem d_Ref_hang_222 : decode b_Ref_hang 222 = .ok (.iload 6, 2) := by decide +kernel
theorem d_Ref_hang_224 : decode b_Ref_hang 224 = .ok (.iaload, 1) := by decide +kernel
theorem d_Ref_hang_225 : decode b_Ref_hang 225 = .ok (.invokevirtual 97, 3) := by decide +kernel
theorem d_Ref_hang_228 : decode b_Ref_hang 228 = .ok (.istore 7, 2) := by decide +kernel
theorem d_Ref_hang_230 : decode b_Ref_hang 230 = .ok (.aload_n 0, 1) := by decide +kernel
theorem d_Ref_hang_231 : decode b_Ref_hang 231 = .ok (.iload 7, 2) := by decide +kernel
theorem d_Ref_hang_233 : decode b_Ref_hang 233 = .ok (.iload_n 2, 1) := by decide +kernel
theorem d_Ref_hang_234 : decode b_Ref_hang 234 = .ok (.iload 6, 2) := by decide +kernel
theorem d_Ref_hang_236 : decode b_Ref_hang 236 = .ok (.iadd, 1) := by decide +kernel
theorem d_Ref_hang_237 : decode b_Ref_hang 237 = .ok (.invokevirtual 116, 3) := by decide +kernel
theorem d_Ref_hang_240 : decode b_Ref_hang 240 = .ok (.istore 8, 2) := by decide +kernel
theorem d_Ref_hang_242 : decode b_Ref_hang 242 = .ok (.aload_n 0, 1) := by decide +kernel
theorem d_Ref_hang_243 : decode b_Ref_hang 243 = .ok (.iload 8, 2) := by decide +kernel
theorem d_Ref_hang_245 : decode b_Ref_hang 245 = .ok (.aload_n 0, 1) := by decide +kernel
theorem d_Ref_hang_246 : decode b_Ref_hang 246 = .ok (.aload_n 0, 1) := by decide +kernel
theorem d_Ref_hang_247 : decode b_Ref_hang 247 = .ok (.getfield 28, 3) := by decide +kernel
theorem d_Ref_hang_250 : decode b_Ref_hang 250 = .ok (.iload 6, 2) := by decide +kernel
theorem d_Ref_hang_252 : decode b_Ref_hang 252 = .ok (.iaload, 1) := by decide +kernel
theorem d_Ref_hang_253 : decode b_Ref_hang 253 = .ok (.invokevirtual 119, 3) := by decide +kernel
theorem d_Ref_hang_256 : decode b_Ref_hang 256 = .ok (.invokevirtual 126, 3) := by decide +kernel
theorem d_Ref_hang_259 : decode b_Ref_hang 259 = .ok (.iinc 6 (-1), 3) := by decide +kernel
theorem d_Ref_hang_262 : decode b_Ref_hang 262 = .ok (.goto (-57), 3) := by decide +kernel
theorem d_Ref_hang_265 : decode b_Ref_hang 265 = .ok (.return_, 1) := by decide +kernel
set_option maxRecDepth 100000 in
set_option maxHeartbeats 4000000 in
theorem k_Ref_hang (l : Launch) (D : va_G) (G : Nat → Nat) (Y : Nat → ClassId) {u : SR} {a1 : Int32} {a2 : Int32} {u' : SR} (hm : m_Ref_hang u a1 a2 = some ((), u')) : KV l D clz (tyz Y) (wdR G Y) y_Ref_hang b_Ref_hang 14 none 5 123 [.ref (G 0), .int a1, .int a2] u u' := by
  refine mkV (by decide) (Nat.le_of_ble_eq_true rfl) ?_
  intro p e s m below meth c A Z ls C0 hP hD hS hl hret
  obtain ⟨hx, hb, hml, hown, hts, hK, hN, hA⟩ := id C0
  have hl : lv_has ls 14 [(0, .ref (G 0)), (1, .int a1), (2, .int a2)] := hl
  have L205 : ∀ (x2 : Int32) (o : (Unit × SR) ⊕ (SR)) (kr : ∀ z, o = .inl z → z = ((), u')) (kx : ∀  (ub : SR), o = .inr ub → ∀ (H : Heap) (locs : List Loc) (ls : Array Slot), va_P D clz (wdR G Y ub) H → va_D A (wdR G Y ub) → va_S A s.heap H locs → lv_has ls 14 [] → W p l e (zRm 5 123) s m ([.ref (G 0), .int a1, .int a2] : List Value).toArray below meth c H locs 0 0 Z (F0 m 265 ls [])) (n0 : Nat) (ua : SR) (x6 : Int32), m_Ref_hang_L205 n0 ua x6 x2 = some o → ∀ (H : Heap) (locs : List Loc) (ls : Array Slot), va_P D clz (wdR G Y ua) H → va_D A (wdR G Y ua) → va_S A s.heap H locs → lv_has ls 14 [(0, .ref (G 0)), (2, .int x2), (6, .int x6)] → W p l e (zRm 5 123) s m ([.ref (G 0), .int a1, .int a2] : List Value).toArray below meth c H locs 0 0 Z (F0 m 205 ls []) := by
    intro x2 o kr kx n0
    induction n0 with
    | zero => intro ua x6 hm; rw [m_Ref_hang_L205] at hm; cases hm
    | succ n0 ih =>
      intro ua x6 hm H locs ls hP hD hS hl
      rw [m_Ref_hang_L205] at hm
      refine lv_iload hx hb d_Ref_hang_205 (lv_at hl 2 rfl) ?_
      refine lv_if_lt (tgt := 265) hx hb d_Ref_hang_207 (by decide) (fun hc => ?_) (fun hc => ?_)
      · rw [if_pos hc] at hm
        exact kx  ua (Option.some.inj hm).symm _ _ _ hP hD hS (lv_sub hl [] rfl)
      · rw [if_neg hc] at hm
        refine lv_aload_n hx hb d_Ref_hang_210 rfl (lv_at hl 0 rfl) ?_
        refine va_get (D := D) (ci := 5) (v := .int (rg_br ua)) (C := "FirmStoreModel") (T := F_Ref) (N := 12) hx hb hts iz_Ref hown hK hP 0 rfl rfl 8 (by decide) (hts _ q_545) (fun _ h9 => h9) rfl d_Ref_hang_211 ?_
        refine lv_if_ne (tgt := 265) hx hb d_Ref_hang_214 (by decide) (fun hc => ?_) (fun hc => ?_)
        · rw [if_neg hc] at hm
          exact kx  ua (Option.some.inj hm).symm _ _ _ hP hD hS (lv_sub hl [] rfl)
        · rw [if_pos hc] at hm
          refine lv_aload_n hx hb d_Ref_hang_217 rfl (lv_at hl 0 rfl) ?_
          refine lv_aload_n hx hb d_Ref_hang_218 rfl (lv_at hl 0 rfl) ?_
          refine va_get (D := D) (ci := 5) (v := .ref (G 5)) (C := "FirmStoreModel") (T := F_Ref) (N := 12) hx hb hts iz_Ref hown hK hP 0 rfl rfl 11 (by decide) (hts _ q_548) (fun _ h9 => h9) rfl d_Ref_hang_219 ?_
          refine lv_iload hx hb d_Ref_hang_222 (lv_at hl 2 rfl) ?_
          obtain ⟨hg, hm⟩ := gd hm
          refine va_iald hx hb hK hP 5 1 (f := (rg_ris ua)) rfl rfl (inb_in hg) d_Ref_hang_224 ?_
          obtain ⟨r1, u2, h3, hm⟩ := ob_some hm
          refine goVI (As := [.int ((rg_ris ua) x6.toNatClampNeg)]) (rest := []) (b0 := G 0) 0 C0 (k_Ref_low l D G Y h3) q_658 q_6 q_655 q_657 qs_41 e_Ref_low (by decide) rfl rfl hP hD hS hl.1 rfl (Nat.le_of_ble_eq_true rfl) d_Ref_hang_225 (fun H locs hP hD hS => ?_)
          refine lv_istore (lv' := [(7, .int r1), (0, .ref (G 0)), (2, .int x2), (6, .int x6)]) hx hb d_Ref_hang_228 hl (by decide) rfl (fun ls hl => ?_)
          refine lv_aload_n hx hb d_Ref_hang_230 rfl (lv_at hl 1 rfl) ?_
          refine lv_iload hx hb d_Ref_hang_231 (lv_at hl 0 rfl) ?_
          refine lv_iload_n hx hb d_Ref_hang_233 rfl (lv_at hl 2 rfl) ?_
          refine lv_iload hx hb d_Ref_hang_234 (lv_at hl 3 rfl) ?_
          refine lv_iadd hx hb d_Ref_hang_236 ?_
          obtain ⟨r5, u6, h7, hm⟩ := ob_some hm
          refine goVI (As := [.int r1, .int (x2 + x6)]) (rest := []) (b0 := G 0) 0 C0 (k_Ref_find l D G Y h7) q_654 q_6 q_651 q_653 qs_40 e_Ref_find (by decide) rfl rfl hP hD hS hl.1 rfl (Nat.le_of_ble_eq_true rfl) d_Ref_hang_237 (fun H locs hP hD hS => ?_)
          refine lv_istore (lv' := [(8, .int r5), (7, .int r1), (0, .ref (G 0)), (2, .int x2), (6, .int x6)]) hx hb d_Ref_hang_240 hl (by decide) rfl (fun ls hl => ?_)
          refine lv_aload_n hx hb d_Ref_hang_242 rfl (lv_at hl 2 rfl) ?_
          refine lv_iload hx hb d_Ref_hang_243 (lv_at hl 0 rfl) ?_
          refine lv_aload_n hx hb d_Ref_hang_245 rfl (lv_at hl 2 rfl) ?_
          refine lv_aload_n hx hb d_Ref_hang_246 rfl (lv_at hl 2 rfl) ?_
          refine va_get (D := D) (ci := 5) (v := .ref (G 5)) (C := "FirmStoreModel") (T := F_Ref) (N := 12) hx hb hts iz_Ref hown hK hP 0 rfl rfl 11 (by decide) (hts _ q_548) (fun _ h9 => h9) rfl d_Ref_hang_247 ?_
          refine lv_iload hx hb d_Ref_hang_250 (lv_at hl 4 rfl) ?_
          obtain ⟨hg, hm⟩ := gd hm
          refine va_iald hx hb hK hP 5 1 (f := (rg_ris u6)) rfl rfl (inb_in hg) d_Ref_hang_252 ?_
          obtain ⟨r9, u10, h11, hm⟩ := ob_some hm
          refine goVL (As := [.int ((rg_ris u6) x6.toNatClampNeg)]) (rest := [.int r5, .ref (G 0)]) (b0 := G 0) 0 C0 (k_Ref_entryOf l D G Y h11) q_689 q_6 q_686 q_688 qs_48 e_Ref_entryOf (by decide) rfl rfl hP hD hS hl.1 rfl (Nat.le_of_ble_eq_true rfl) d_Ref_hang_253 (fun H locs hP hD hS => ?_)
          obtain ⟨r13, u14, h15, hm⟩ := ob_some hm
          refine goVV (As := [.int r5, .long r9]) (rest := []) (b0 := G 0) 0 C0 (k_Ref_insert l D G Y h15) q_693 q_6 q_690 q_692 qs_49 e_Ref_insert (by decide) rfl rfl hP hD hS hl.1 rfl (Nat.le_of_ble_eq_true rfl) d_Ref_hang_256 (fun H locs hP hD hS => ?_)
          refine lv_iinc (v := (x6 + (-1 : Int32))) (lv' := [(6, .int (x6 + (-1 : Int32))), (8, .int r5), (7, .int r1), (0, .ref (G 0)), (2, .int x2)]) hx hb d_Ref_hang_259 hl (k := 4) rfl rfl (by decide) rfl (fun ls hl => ?_)
          refine lv_goto (tgt := 205) hx hb d_Ref_hang_262 (by decide) ?_
          exact ih u14 (x6 + (-1 : Int32)) hm _ _ _ hP hD hS (lv_sub hl [3, 4, 0] rfl)
  have L26 : ∀ (x2 : Int32) (o : (Unit × SR) ⊕ (Int32 × Int32 × SR)) (kr : ∀ z, o = .inl z → z = ((), u')) (kx : ∀ (y3 : Int32) (y5 : Int32) (ub : SR), o = .inr (y3, y5, ub) → ∀ (H : Heap) (locs : List Loc) (ls : Array Slot), va_P D clz (wdR G Y ub) H → va_D A (wdR G Y ub) → va_S A s.heap H locs → lv_has ls 14 [(0, .ref (G 0)), (2, .int x2), (3, .int y3), (5, .int y5)] → W p l e (zRm 5 123) s m ([.ref (G 0), .int a1, .int a2] : List Value).toArray below meth c H locs 0 0 Z (F0 m 191 ls [])) (n0 : Nat) (ua : SR) (x3 : Int32) (x4 : Int32) (x5 : Int32), m_Ref_hang_L26 n0 ua x3 x4 x5 x2 = some o → ∀ (H : Heap) (locs : List Loc) (ls : Array Slot), va_P D clz (wdR G Y ua) H → va_D A (wdR G Y ua) → va_S A s.heap H locs → lv_has ls 14 [(0, .ref (G 0)), (2, .int x2), (3, .int x3), (4, .int x4), (5, .int x5)] → W p l e (zRm 5 123) s m ([.ref (G 0), .int a1, .int a2] : List Value).toArray below meth c H locs 0 0 Z (F0 m 26 ls []) := by
    intro x2 o kr kx n0
    induction n0 with
    | zero => intro ua x3 x4 x5 hm; rw [m_Ref_hang_L26] at hm; cases hm
    | succ n0 ih =>
      intro ua x3 x4 x5 hm H locs ls hP hD hS hl
      rw [m_Ref_hang_L26] at hm
      refine lv_iload hx hb d_Ref_hang_26 (lv_at hl 3 rfl) ?_
      refine lv_if_eq (tgt := 191) hx hb d_Ref_hang_28 (by decide) (fun hc => ?_) (fun hc => ?_)
      · rw [if_pos hc] at hm
        exact kx x3 x5 ua (Option.some.inj hm).symm _ _ _ hP hD hS (lv_sub hl [0, 1, 2, 4] rfl)
      · rw [if_neg hc] at hm
        refine lv_aload_n hx hb d_Ref_hang_31 rfl (lv_at hl 0 rfl) ?_
        obtain ⟨r17, u18, h19, hm⟩ := ob_some hm
        refine goVI (As := []) (rest := []) (b0 := G 0) 0 C0 (k_Ref_root l D G Y h19) q_593 q_6 q_590 q_592 qs_26 e_Ref_root (by decide) rfl rfl hP hD hS hl.1 rfl (Nat.le_of_ble_eq_true rfl) d_Ref_hang_32 (fun H locs hP hD hS => ?_)
        refine lv_istore (lv' := [(6, .int r17), (0, .ref (G 0)), (2, .int x2), (3, .int x3), (4, .int x4), (5, .int x5)]) hx hb d_Ref_hang_35 hl (by decide) rfl (fun ls hl => ?_)
        refine lv_aload_n hx hb d_Ref_hang_37 rfl (lv_at hl 1 rfl) ?_
        refine lv_aload_n hx hb d_Ref_hang_38 rfl (lv_at hl 1 rfl) ?_
        refine va_get (D := D) (ci := 5) (v := .ref (G 5)) (C := "FirmStoreModel") (T := F_Ref) (N := 12) hx hb hts iz_Ref hown hK hP 0 rfl rfl 11 (by decide) (hts _ q_548) (fun _ h9 => h9) rfl d_Ref_hang_39 ?_
        refine lv_iload_n hx hb d_Ref_hang_42 rfl (lv_at hl 3 rfl) ?_
        obtain ⟨hg, hm⟩ := gd hm
        refine va_iald hx hb hK hP 5 1 (f := (rg_ris u18)) rfl rfl (inb_in hg) d_Ref_hang_43 ?_
        obtain ⟨r21, u22, h23, hm⟩ := ob_some hm
        refine goVI (As := [.int ((rg_ris u18) x3.toNatClampNeg)]) (rest := []) (b0 := G 0) 0 C0 (k_Ref_low l D G Y h23) q_658 q_6 q_655 q_657 qs_41 e_Ref_low (by decide) rfl rfl hP hD hS hl.1 rfl (Nat.le_of_ble_eq_true rfl) d_Ref_hang_44 (fun H locs hP hD hS => ?_)
        refine lv_istore (lv' := [(7, .int r21), (6, .int r17), (0, .ref (G 0)), (2, .int x2), (3, .int x3), (4, .int x4), (5, .int x5)]) hx hb d_Ref_hang_47 hl (by decide) rfl (fun ls hl => ?_)
        refine lv_aload_n hx hb d_Ref_hang_49 rfl (lv_at hl 2 rfl) ?_
        refine lv_iload hx hb d_Ref_hang_50 (lv_at hl 1 rfl) ?_
        obtain ⟨r25, u26, h27, hm⟩ := ob_some hm
        refine goVI (As := [.int r17]) (rest := []) (b0 := G 0) 0 C0 (k_Ref_level l D G Y h27) q_613 q_6 q_610 q_612 qs_31 e_Ref_level (by decide) rfl rfl hP hD hS hl.1 rfl (Nat.le_of_ble_eq_true rfl) d_Ref_hang_52 (fun H locs hP hD hS => ?_)
        refine lv_iload_n hx hb d_Ref_hang_55 rfl (lv_at hl 3 rfl) ?_
        refine lv_iload_n hx hb d_Ref_hang_56 rfl (lv_at hl 4 rfl) ?_
        refine lv_iadd hx hb d_Ref_hang_57 ?_
        refine lv_icmp_ge (tgt := 65) hx hb d_Ref_hang_58 (by decide) (fun hc => ?_) (fun hc => ?_)
        · rw [if_pos hc] at hm
          refine lv_aload_n hx hb d_Ref_hang_65 rfl (lv_at hl 2 rfl) ?_
          refine lv_iload hx hb d_Ref_hang_66 (lv_at hl 0 rfl) ?_
          refine lv_iload_n hx hb d_Ref_hang_68 rfl (lv_at hl 3 rfl) ?_
          refine lv_iload_n hx hb d_Ref_hang_69 rfl (lv_at hl 4 rfl) ?_
          refine lv_iadd hx hb d_Ref_hang_70 ?_
          obtain ⟨r29, u30, h31, hm⟩ := ob_some hm
          refine goVI (As := [.int r21, .int (x2 + x3)]) (rest := []) (b0 := G 0) 0 C0 (k_Ref_find l D G Y h31) q_654 q_6 q_651 q_653 qs_40 e_Ref_find (by decide) rfl rfl hP hD hS hl.1 rfl (Nat.le_of_ble_eq_true rfl) d_Ref_hang_71 (fun H locs hP hD hS => ?_)
          refine lv_istore (lv' := [(8, .int r29), (7, .int r21), (6, .int r17), (0, .ref (G 0)), (2, .int x2), (3, .int x3), (4, .int x4), (5, .int x5)]) hx hb d_Ref_hang_74 hl (by decide) rfl (fun ls hl => ?_)
          refine lv_iload hx hb d_Ref_hang_76 (lv_at hl 0 rfl) ?_
          refine lv_if_ne (tgt := 139) hx hb d_Ref_hang_78 (by decide) (fun hc => ?_) (fun hc => ?_)
          · rw [if_neg hc] at hm
            refine lv_aload_n hx hb d_Ref_hang_139 rfl (lv_at hl 3 rfl) ?_
            refine lv_iload hx hb d_Ref_hang_140 (lv_at hl 0 rfl) ?_
            obtain ⟨r33, u34, h35, hm⟩ := ob_some hm
            refine goVI (As := [.int r29]) (rest := []) (b0 := G 0) 0 C0 (k_Ref_length l D G Y h35) q_617 q_6 q_614 q_616 qs_32 e_Ref_length (by decide) rfl rfl hP hD hS hl.1 rfl (Nat.le_of_ble_eq_true rfl) d_Ref_hang_142 (fun H locs hP hD hS => ?_)
            refine lv_bipush (v := (6 : Int32)) hx hb d_Ref_hang_145 (by decide) ?_
            refine lv_icmp_ne (tgt := 185) hx hb d_Ref_hang_147 (by decide) (fun hc => ?_) (fun hc => ?_)
            · rw [if_neg hc] at hm
              refine lv_iconst (v := (0 : Int32)) hx hb d_Ref_hang_185 (by decide) ?_
              refine lv_istore (lv' := [(4, .int (0 : Int32)), (8, .int r29), (7, .int r21), (6, .int r17), (0, .ref (G 0)), (2, .int x2), (3, .int x3), (5, .int x5)]) hx hb d_Ref_hang_186 hl (by decide) rfl (fun ls hl => ?_)
              refine lv_goto (tgt := 26) hx hb d_Ref_hang_188 (by decide) ?_
              exact ih u34 x3 (0 : Int32) x5 hm _ _ _ hP hD hS (lv_sub hl [4, 5, 6, 0, 7] rfl)
            · rw [if_pos hc] at hm
              refine lv_aload_n hx hb d_Ref_hang_150 rfl (lv_at hl 3 rfl) ?_
              refine va_get (D := D) (ci := 5) (v := .ref (G 5)) (C := "FirmStoreModel") (T := F_Ref) (N := 12) hx hb hts iz_Ref hown hK hP 0 rfl rfl 11 (by decide) (hts _ q_548) (fun _ h9 => h9) rfl d_Ref_hang_151 ?_
              refine lv_iload_n hx hb d_Ref_hang_154 rfl (lv_at hl 5 rfl) ?_
              refine lv_iconst (v := (1 : Int32)) hx hb d_Ref_hang_155 (by decide) ?_
              refine lv_iadd hx hb d_Ref_hang_156 ?_
              refine lv_aload_n hx hb d_Ref_hang_157 rfl (lv_at hl 3 rfl) ?_
              refine lv_iload hx hb d_Ref_hang_158 (lv_at hl 0 rfl) ?_
              obtain ⟨r37, u38, h39, hm⟩ := ob_some hm
              refine goVI (As := [.int r29]) (rest := [.int (x3 + (1 : Int32)), .ref (G 5)]) (b0 := G 0) 0 C0 (k_Ref_split l D G Y h39) q_681 q_6 q_678 q_680 qs_46 e_Ref_split (by decide) rfl rfl hP hD hS hl.1 rfl (Nat.le_of_ble_eq_true rfl) d_Ref_hang_160 (fun H locs hP hD hS => ?_)
              obtain ⟨hg, hm⟩ := gd hm
              refine va_iast hx hb hK hP hD hS 5 1 (f := (rg_ris u38)) rfl rfl (inb_in hg) d_Ref_hang_163 (fun H locs hP hD hS => ?_)
              have hP : va_P D clz (wdR G Y (rs_ris u38 (upd (rg_ris u38) (x3 + (1 : Int32)).toNatClampNeg r37))) H := hP
              have hD : va_D A (wdR G Y (rs_ris u38 (upd (rg_ris u38) (x3 + (1 : Int32)).toNatClampNeg r37))) := hD
              refine lv_iload_n hx hb d_Ref_hang_164 rfl (lv_at hl 5 rfl) ?_
              refine lv_iconst (v := (1 : Int32)) hx hb d_Ref_hang_165 (by decide) ?_
              refine lv_iadd hx hb d_Ref_hang_166 ?_
              refine lv_istore_n (lv' := [(3, .int (x3 + (1 : Int32))), (8, .int r29), (7, .int r21), (6, .int r17), (0, .ref (G 0)), (2, .int x2), (4, .int x4), (5, .int x5)]) hx hb d_Ref_hang_167 rfl hl (by decide) rfl (fun ls hl => ?_)
              refine lv_aload_n hx hb d_Ref_hang_168 rfl (lv_at hl 4 rfl) ?_
              refine va_get (D := D) (ci := 5) (v := .int (rg_br u38)) (C := "FirmStoreModel") (T := F_Ref) (N := 12) hx hb hts iz_Ref hown hK hP 0 rfl rfl 8 (by decide) (hts _ q_545) (fun _ h9 => h9) rfl d_Ref_hang_169 ?_
              refine lv_if_ne (tgt := 179) hx hb d_Ref_hang_172 (by decide) (fun hc => ?_) (fun hc => ?_)
              · rw [if_neg hc] at hm
                refine lv_iconst (v := (0 : Int32)) hx hb d_Ref_hang_179 (by decide) ?_
                refine lv_istore (lv' := [(4, .int (0 : Int32)), (3, .int (x3 + (1 : Int32))), (8, .int r29), (7, .int r21), (6, .int r17), (0, .ref (G 0)), (2, .int x2), (5, .int x5)]) hx hb d_Ref_hang_180 hl (by decide) rfl (fun ls hl => ?_)
                refine lv_goto (tgt := 188) hx hb d_Ref_hang_182 (by decide) ?_
                refine lv_goto (tgt := 26) hx hb d_Ref_hang_188 (by decide) ?_
                exact ih (rs_ris u38 (upd (rg_ris u38) (x3 + (1 : Int32)).toNatClampNeg r37)) (x3 + (1 : Int32)) (0 : Int32) x5 hm _ _ _ hP hD hS (lv_sub hl [5, 6, 1, 0, 7] rfl)
              · rw [if_pos hc] at hm
                refine lv_iconst (v := (1 : Int32)) hx hb d_Ref_hang_175 (by decide) ?_
                refine lv_goto (tgt := 180) hx hb d_Ref_hang_176 (by decide) ?_
                refine lv_istore (lv' := [(4, .int (1 : Int32)), (3, .int (x3 + (1 : Int32))), (8, .int r29), (7, .int r21), (6, .int r17), (0, .ref (G 0)), (2, .int x2), (5, .int x5)]) hx hb d_Ref_hang_180 hl (by decide) rfl (fun ls hl => ?_)
                refine lv_goto (tgt := 188) hx hb d_Ref_hang_182 (by decide) ?_
                refine lv_goto (tgt := 26) hx hb d_Ref_hang_188 (by decide) ?_
                exact ih (rs_ris u38 (upd (rg_ris u38) (x3 + (1 : Int32)).toNatClampNeg r37)) (x3 + (1 : Int32)) (1 : Int32) x5 hm _ _ _ hP hD hS (lv_sub hl [5, 6, 1, 0, 7] rfl)
          · rw [if_pos hc] at hm
            refine lv_aload_n hx hb d_Ref_hang_81 rfl (lv_at hl 3 rfl) ?_
            refine lv_iload hx hb d_Ref_hang_82 (lv_at hl 2 rfl) ?_
            obtain ⟨r41, u42, h43, hm⟩ := ob_some hm
            refine goVL (As := [.int r17]) (rest := []) (b0 := G 0) 0 C0 (k_Ref_entryOf l D G Y h43) q_689 q_6 q_686 q_688 qs_48 e_Ref_entryOf (by decide) rfl rfl hP hD hS hl.1 rfl (Nat.le_of_ble_eq_true rfl) d_Ref_hang_84 (fun H locs hP hD hS => ?_)
            refine lv_lstore (lv' := [(9, .long r41), (8, .int r29), (7, .int r21), (6, .int r17), (0, .ref (G 0)), (2, .int x2), (3, .int x3), (4, .int x4), (5, .int x5)]) hx hb d_Ref_hang_87 hl (by decide) rfl (fun ls hl => ?_)
            refine lv_aload_n hx hb d_Ref_hang_89 rfl (lv_at hl 4 rfl) ?_
            refine lv_aload_n hx hb d_Ref_hang_90 rfl (lv_at hl 4 rfl) ?_
            refine va_get (D := D) (ci := 5) (v := .ref (G 5)) (C := "FirmStoreModel") (T := F_Ref) (N := 12) hx hb hts iz_Ref hown hK hP 0 rfl rfl 11 (by decide) (hts _ q_548) (fun _ h9 => h9) rfl d_Ref_hang_91 ?_
            refine lv_iload_n hx hb d_Ref_hang_94 rfl (lv_at hl 6 rfl) ?_
            obtain ⟨hg, hm⟩ := gd hm
            refine va_iald hx hb hK hP 5 1 (f := (rg_ris u42)) rfl rfl (inb_in hg) d_Ref_hang_95 ?_
            obtain ⟨r45, u46, h47, hm⟩ := ob_some hm
            refine goVL (As := [.int ((rg_ris u42) x3.toNatClampNeg)]) (rest := []) (b0 := G 0) 0 C0 (k_Ref_entryOf l D G Y h47) q_689 q_6 q_686 q_688 qs_48 e_Ref_entryOf (by decide) rfl rfl hP hD hS hl.1 rfl (Nat.le_of_ble_eq_true rfl) d_Ref_hang_96 (fun H locs hP hD hS => ?_)
            refine lv_lstore (lv' := [(11, .long r45), (9, .long r41), (8, .int r29), (7, .int r21), (6, .int r17), (0, .ref (G 0)), (2, .int x2), (3, .int x3), (4, .int x4), (5, .int x5)]) hx hb d_Ref_hang_99 hl (by decide) rfl (fun ls hl => ?_)
            refine lv_aload_n hx hb d_Ref_hang_101 rfl (lv_at hl 5 rfl) ?_
            refine lv_iload_n hx hb d_Ref_hang_102 rfl (lv_at hl 6 rfl) ?_
            refine lv_iload_n hx hb d_Ref_hang_103 rfl (lv_at hl 7 rfl) ?_
            refine lv_iadd hx hb d_Ref_hang_104 ?_
            refine lv_iconst (v := (0 : Int32)) hx hb d_Ref_hang_105 (by decide) ?_
            refine lv_aload_n hx hb d_Ref_hang_106 rfl (lv_at hl 5 rfl) ?_
            refine lv_iload hx hb d_Ref_hang_107 (lv_at hl 4 rfl) ?_
            obtain ⟨r49, u50, h51, hm⟩ := ob_some hm
            refine goVI (As := [.int r17]) (rest := [.int (0 : Int32), .int (x2 + x3), .ref (G 0)]) (b0 := G 0) 0 C0 (k_Ref_low l D G Y h51) q_658 q_6 q_655 q_657 qs_41 e_Ref_low (by decide) rfl rfl hP hD hS hl.1 rfl (Nat.le_of_ble_eq_true rfl) d_Ref_hang_109 (fun H locs hP hD hS => ?_)
            refine lv_lload hx hb d_Ref_hang_112 (lv_at hl 1 rfl) ?_
            refine lv_lload hx hb d_Ref_hang_114 (lv_at hl 0 rfl) ?_
            refine lv_lconst (v := (0 : Int64)) hx hb d_Ref_hang_116 (by decide) ?_
            obtain ⟨r53, u54, h55, hm⟩ := ob_some hm
            refine goVI (As := [.int (x2 + x3), .int (0 : Int32), .int r49, .long r41, .long r45, .long (0 : Int64)]) (rest := []) (b0 := G 0) 0 C0 (k_Ref_make l D G Y h55) q_634 q_6 q_631 q_633 qs_35 e_Ref_make (by decide) rfl rfl hP hD hS hl.1 rfl (Nat.le_of_ble_eq_true rfl) d_Ref_hang_117 (fun H locs hP hD hS => ?_)
            refine lv_istore (lv' := [(13, .int r53), (11, .long r45), (9, .long r41), (8, .int r29), (7, .int r21), (6, .int r17), (0, .ref (G 0)), (2, .int x2), (3, .int x3), (4, .int x4), (5, .int x5)]) hx hb d_Ref_hang_120 hl (by decide) rfl (fun ls hl => ?_)
            refine lv_aload_n hx hb d_Ref_hang_122 rfl (lv_at hl 6 rfl) ?_
            refine lv_iconst (v := (0 : Int32)) hx hb d_Ref_hang_123 (by decide) ?_
            refine lv_iload hx hb d_Ref_hang_124 (lv_at hl 0 rfl) ?_
            refine lv_i2l (v := (r53.toInt64)) hx hb d_Ref_hang_126 rfl ?_
            obtain ⟨r57, u58, h59, hm⟩ := ob_some hm
            refine goVV (As := [.int (0 : Int32), .long (r53.toInt64)]) (rest := []) (b0 := G 0) 0 C0 (k_Ref_firm l D G Y h59) q_650 q_6 q_647 q_649 qs_39 e_Ref_firm (by decide) rfl rfl hP hD hS hl.1 rfl (Nat.le_of_ble_eq_true rfl) d_Ref_hang_127 (fun H locs hP hD hS => ?_)
            refine lv_iconst (v := (1 : Int32)) hx hb d_Ref_hang_130 (by decide) ?_
            refine lv_istore (lv' := [(5, .int (1 : Int32)), (13, .int r53), (11, .long r45), (9, .long r41), (8, .int r29), (7, .int r21), (6, .int r17), (0, .ref (G 0)), (2, .int x2), (3, .int x3), (4, .int x4)]) hx hb d_Ref_hang_131 hl (by decide) rfl (fun ls hl => ?_)
            refine lv_iconst (v := (0 : Int32)) hx hb d_Ref_hang_133 (by decide) ?_
            refine lv_istore (lv' := [(4, .int (0 : Int32)), (5, .int (1 : Int32)), (13, .int r53), (11, .long r45), (9, .long r41), (8, .int r29), (7, .int r21), (6, .int r17), (0, .ref (G 0)), (2, .int x2), (3, .int x3)]) hx hb d_Ref_hang_134 hl (by decide) rfl (fun ls hl => ?_)
            refine lv_goto (tgt := 188) hx hb d_Ref_hang_136 (by decide) ?_
            refine lv_goto (tgt := 26) hx hb d_Ref_hang_188 (by decide) ?_
            exact ih u58 x3 (0 : Int32) (1 : Int32) hm _ _ _ hP hD hS (lv_sub hl [8, 9, 10, 0, 1] rfl)
        · rw [if_neg hc] at hm
          refine lv_iconst (v := (0 : Int32)) hx hb d_Ref_hang_61 (by decide) ?_
          refine lv_goto (tgt := 74) hx hb d_Ref_hang_62 (by decide) ?_
          refine lv_istore (lv' := [(8, .int (0 : Int32)), (7, .int r21), (6, .int r17), (0, .ref (G 0)), (2, .int x2), (3, .int x3), (4, .int x4), (5, .int x5)]) hx hb d_Ref_hang_74 hl (by decide) rfl (fun ls hl => ?_)
          refine lv_iload hx hb d_Ref_hang_76 (lv_at hl 0 rfl) ?_
          refine lv_if_ne (tgt := 139) hx hb d_Ref_hang_78 (by decide) (fun hc => absurd hc (by decide)) (fun _ => ?_)
          refine lv_aload_n hx hb d_Ref_hang_81 rfl (lv_at hl 3 rfl) ?_
          refine lv_iload hx hb d_Ref_hang_82 (lv_at hl 2 rfl) ?_
          obtain ⟨r61, u62, h63, hm⟩ := ob_some hm
          refine goVL (As := [.int r17]) (rest := []) (b0 := G 0) 0 C0 (k_Ref_entryOf l D G Y h63) q_689 q_6 q_686 q_688 qs_48 e_Ref_entryOf (by decide) rfl rfl hP hD hS hl.1 rfl (Nat.le_of_ble_eq_true rfl) d_Ref_hang_84 (fun H locs hP hD hS => ?_)
          refine lv_lstore (lv' := [(9, .long r61), (8, .int (0 : Int32)), (7, .int r21), (6, .int r17), (0, .ref (G 0)), (2, .int x2), (3, .int x3), (4, .int x4), (5, .int x5)]) hx hb d_Ref_hang_87 hl (by decide) rfl (fun ls hl => ?_)
          refine lv_aload_n hx hb d_Ref_hang_89 rfl (lv_at hl 4 rfl) ?_
          refine lv_aload_n hx hb d_Ref_hang_90 rfl (lv_at hl 4 rfl) ?_
          refine va_get (D := D) (ci := 5) (v := .ref (G 5)) (C := "FirmStoreModel") (T := F_Ref) (N := 12) hx hb hts iz_Ref hown hK hP 0 rfl rfl 11 (by decide) (hts _ q_548) (fun _ h9 => h9) rfl d_Ref_hang_91 ?_
          refine lv_iload_n hx hb d_Ref_hang_94 rfl (lv_at hl 6 rfl) ?_
          obtain ⟨hg, hm⟩ := gd hm
          refine va_iald hx hb hK hP 5 1 (f := (rg_ris u62)) rfl rfl (inb_in hg) d_Ref_hang_95 ?_
          obtain ⟨r65, u66, h67, hm⟩ := ob_some hm
          refine goVL (As := [.int ((rg_ris u62) x3.toNatClampNeg)]) (rest := []) (b0 := G 0) 0 C0 (k_Ref_entryOf l D G Y h67) q_689 q_6 q_686 q_688 qs_48 e_Ref_entryOf (by decide) rfl rfl hP hD hS hl.1 rfl (Nat.le_of_ble_eq_true rfl) d_Ref_hang_96 (fun H locs hP hD hS => ?_)
          refine lv_lstore (lv' := [(11, .long r65), (9, .long r61), (8, .int (0 : Int32)), (7, .int r21), (6, .int r17), (0, .ref (G 0)), (2, .int x2), (3, .int x3), (4, .int x4), (5, .int x5)]) hx hb d_Ref_hang_99 hl (by decide) rfl (fun ls hl => ?_)
          refine lv_aload_n hx hb d_Ref_hang_101 rfl (lv_at hl 5 rfl) ?_
          refine lv_iload_n hx hb d_Ref_hang_102 rfl (lv_at hl 6 rfl) ?_
          refine lv_iload_n hx hb d_Ref_hang_103 rfl (lv_at hl 7 rfl) ?_
          refine lv_iadd hx hb d_Ref_hang_104 ?_
          refine lv_iconst (v := (0 : Int32)) hx hb d_Ref_hang_105 (by decide) ?_
          refine lv_aload_n hx hb d_Ref_hang_106 rfl (lv_at hl 5 rfl) ?_
          refine lv_iload hx hb d_Ref_hang_107 (lv_at hl 4 rfl) ?_
          obtain ⟨r69, u70, h71, hm⟩ := ob_some hm
          refine goVI (As := [.int r17]) (rest := [.int (0 : Int32), .int (x2 + x3), .ref (G 0)]) (b0 := G 0) 0 C0 (k_Ref_low l D G Y h71) q_658 q_6 q_655 q_657 qs_41 e_Ref_low (by decide) rfl rfl hP hD hS hl.1 rfl (Nat.le_of_ble_eq_true rfl) d_Ref_hang_109 (fun H locs hP hD hS => ?_)
          refine lv_lload hx hb d_Ref_hang_112 (lv_at hl 1 rfl) ?_
          refine lv_lload hx hb d_Ref_hang_114 (lv_at hl 0 rfl) ?_
          refine lv_lconst (v := (0 : Int64)) hx hb d_Ref_hang_116 (by decide) ?_
          obtain ⟨r73, u74, h75, hm⟩ := ob_some hm
          refine goVI (As := [.int (x2 + x3), .int (0 : Int32), .int r69, .long r61, .long r65, .long (0 : Int64)]) (rest := []) (b0 := G 0) 0 C0 (k_Ref_make l D G Y h75) q_634 q_6 q_631 q_633 qs_35 e_Ref_make (by decide) rfl rfl hP hD hS hl.1 rfl (Nat.le_of_ble_eq_true rfl) d_Ref_hang_117 (fun H locs hP hD hS => ?_)
          refine lv_istore (lv' := [(13, .int r73), (11, .long r65), (9, .long r61), (8, .int (0 : Int32)), (7, .int r21), (6, .int r17), (0, .ref (G 0)), (2, .int x2), (3, .int x3), (4, .int x4), (5, .int x5)]) hx hb d_Ref_hang_120 hl (by decide) rfl (fun ls hl => ?_)
          refine lv_aload_n hx hb d_Ref_hang_122 rfl (lv_at hl 6 rfl) ?_
          refine lv_iconst (v := (0 : Int32)) hx hb d_Ref_hang_123 (by decide) ?_
          refine lv_iload hx hb d_Ref_hang_124 (lv_at hl 0 rfl) ?_
          refine lv_i2l (v := (r73.toInt64)) hx hb d_Ref_hang_126 rfl ?_
          obtain ⟨r77, u78, h79, hm⟩ := ob_some hm
          refine goVV (As := [.int (0 : Int32), .long (r73.toInt64)]) (rest := []) (b0 := G 0) 0 C0 (k_Ref_firm l D G Y h79) q_650 q_6 q_647 q_649 qs_39 e_Ref_firm (by decide) rfl rfl hP hD hS hl.1 rfl (Nat.le_of_ble_eq_true rfl) d_Ref_hang_127 (fun H locs hP hD hS => ?_)
          refine lv_iconst (v := (1 : Int32)) hx hb d_Ref_hang_130 (by decide) ?_
          refine lv_istore (lv' := [(5, .int (1 : Int32)), (13, .int r73), (11, .long r65), (9, .long r61), (8, .int (0 : Int32)), (7, .int r21), (6, .int r17), (0, .ref (G 0)), (2, .int x2), (3, .int x3), (4, .int x4)]) hx hb d_Ref_hang_131 hl (by decide) rfl (fun ls hl => ?_)
          refine lv_iconst (v := (0 : Int32)) hx hb d_Ref_hang_133 (by decide) ?_
          refine lv_istore (lv' := [(4, .int (0 : Int32)), (5, .int (1 : Int32)), (13, .int r73), (11, .long r65), (9, .long r61), (8, .int (0 : Int32)), (7, .int r21), (6, .int r17), (0, .ref (G 0)), (2, .int x2), (3, .int x3)]) hx hb d_Ref_hang_134 hl (by decide) rfl (fun ls hl => ?_)
          refine lv_goto (tgt := 188) hx hb d_Ref_hang_136 (by decide) ?_
          refine lv_goto (tgt := 26) hx hb d_Ref_hang_188 (by decide) ?_
          exact ih u78 x3 (0 : Int32) (1 : Int32) hm _ _ _ hP hD hS (lv_sub hl [8, 9, 10, 0, 1] rfl)
  have J203 : ∀ (ua : SR) (x2 : Int32) (s0 : Int32), m_Ref_hang_J203 ua x2 s0 = some ((), u') → ∀ (H : Heap) (locs : List Loc) (ls : Array Slot), va_P D clz (wdR G Y ua) H → va_D A (wdR G Y ua) → va_S A s.heap H locs → lv_has ls 14 [(0, .ref (G 0)), (2, .int x2)] → W p l e (zRm 5 123) s m ([.ref (G 0), .int a1, .int a2] : List Value).toArray below meth c H locs 0 0 Z (F0 m 203 ls [.int s0]) := by
    intro ua x2 s0 hm H locs ls hP hD hS hl
    rw [m_Ref_hang_J203] at hm
    refine lv_istore (lv' := [(6, .int s0), (0, .ref (G 0)), (2, .int x2)]) hx hb d_Ref_hang_203 hl (by decide) rfl (fun ls hl => ?_)
    obtain ⟨qq, hq, hi, ho⟩ := ol0_some hm
    refine L205 x2 qq (fun z hz => hi z hz) (fun  u84 hz H locs ls hP hD hS hl => ?_) fz ua s0 hq _ _ _ hP hD hS (lv_sub hl [1, 2, 0] rfl)
    have hm := ho  u84 hz
    exact hret _ _ _ _ () u84 (Option.some.inj hm) hP hD hS d_Ref_hang_265
  have J21 : ∀ (ua : SR) (x2 : Int32) (x3 : Int32) (s0 : Int32), m_Ref_hang_J21 ua x2 x3 s0 = some ((), u') → ∀ (H : Heap) (locs : List Loc) (ls : Array Slot), va_P D clz (wdR G Y ua) H → va_D A (wdR G Y ua) → va_S A s.heap H locs → lv_has ls 14 [(0, .ref (G 0)), (2, .int x2), (3, .int x3)] → W p l e (zRm 5 123) s m ([.ref (G 0), .int a1, .int a2] : List Value).toArray below meth c H locs 0 0 Z (F0 m 21 ls [.int s0]) := by
    intro ua x2 x3 s0 hm H locs ls hP hD hS hl
    rw [m_Ref_hang_J21] at hm
    refine lv_istore (lv' := [(4, .int s0), (0, .ref (G 0)), (2, .int x2), (3, .int x3)]) hx hb d_Ref_hang_21 hl (by decide) rfl (fun ls hl => ?_)
    refine lv_iconst (v := (0 : Int32)) hx hb d_Ref_hang_23 (by decide) ?_
    refine lv_istore (lv' := [(5, .int (0 : Int32)), (4, .int s0), (0, .ref (G 0)), (2, .int x2), (3, .int x3)]) hx hb d_Ref_hang_24 hl (by decide) rfl (fun ls hl => ?_)
    obtain ⟨qq, hq, hi, ho⟩ := ol2_some hm
    refine L26 x2 qq (fun z hz => hi z hz) (fun x81 x82 u83 hz H locs ls hP hD hS hl => ?_) fz ua x3 s0 (0 : Int32) hq _ _ _ hP hD hS (lv_sub hl [2, 3, 4, 1, 0] rfl)
    have hm := ho x81 x82 u83 hz
    refine lv_iload hx hb d_Ref_hang_191 (lv_at hl 3 rfl) ?_
    refine lv_if_eq (tgt := 202) hx hb d_Ref_hang_193 (by decide) (fun hc => ?_) (fun hc => ?_)
    · rw [if_pos hc] at hm
      refine lv_iload_n hx hb d_Ref_hang_202 rfl (lv_at hl 2 rfl) ?_
      exact J203 u83 x2 x81 hm _ _ _ hP hD hS (lv_sub hl [0, 1] rfl)
    · rw [if_neg hc] at hm
      refine lv_iload_n hx hb d_Ref_hang_196 rfl (lv_at hl 2 rfl) ?_
      refine lv_iconst (v := (1 : Int32)) hx hb d_Ref_hang_197 (by decide) ?_
      refine lv_isub hx hb d_Ref_hang_198 ?_
      refine lv_goto (tgt := 203) hx hb d_Ref_hang_199 (by decide) ?_
      exact J203 u83 x2 (x81 - (1 : Int32)) hm _ _ _ hP hD hS (lv_sub hl [0, 1] rfl)
  rw [m_Ref_hang] at hm
  refine lv_iconst (v := (0 : Int32)) hx hb d_Ref_hang_0 (by decide) ?_
  refine lv_istore_n (lv' := [(3, .int (0 : Int32)), (0, .ref (G 0)), (1, .int a1), (2, .int a2)]) hx hb d_Ref_hang_1 rfl hl (by decide) rfl (fun ls hl => ?_)
  refine lv_aload_n hx hb d_Ref_hang_2 rfl (lv_at hl 1 rfl) ?_
  refine va_get (D := D) (ci := 5) (v := .ref (G 5)) (C := "FirmStoreModel") (T := F_Ref) (N := 12) hx hb hts iz_Ref hown hK hP 0 rfl rfl 11 (by decide) (hts _ q_548) (fun _ h9 => h9) rfl d_Ref_hang_3 ?_
  refine lv_iconst (v := (0 : Int32)) hx hb d_Ref_hang_6 (by decide) ?_
  refine lv_iload_n hx hb d_Ref_hang_7 rfl (lv_at hl 2 rfl) ?_
  obtain ⟨hg, hm⟩ := gd hm
  refine va_iast hx hb hK hP hD hS 5 1 (f := (rg_ris u)) rfl rfl (inb_in hg) d_Ref_hang_8 (fun H locs hP hD hS => ?_)
  have hP : va_P D clz (wdR G Y (rs_ris u (upd (rg_ris u) (0 : Int32).toNatClampNeg a1))) H := hP
  have hD : va_D A (wdR G Y (rs_ris u (upd (rg_ris u) (0 : Int32).toNatClampNeg a1))) := hD
  refine lv_aload_n hx hb d_Ref_hang_9 rfl (lv_at hl 1 rfl) ?_
  refine va_get (D := D) (ci := 5) (v := .int (rg_br u)) (C := "FirmStoreModel") (T := F_Ref) (N := 12) hx hb hts iz_Ref hown hK hP 0 rfl rfl 8 (by decide) (hts _ q_545) (fun _ h9 => h9) rfl d_Ref_hang_10 ?_
  refine lv_if_ne (tgt := 20) hx hb d_Ref_hang_13 (by decide) (fun hc => ?_) (fun hc => ?_)
  · rw [if_neg hc] at hm
    refine lv_iconst (v := (0 : Int32)) hx hb d_Ref_hang_20 (by decide) ?_
    exact J21 (rs_ris u (upd (rg_ris u) (0 : Int32).toNatClampNeg a1)) a2 (0 : Int32) (0 : Int32) hm _ _ _ hP hD hS (lv_sub hl [1, 3, 0] rfl)
  · rw [if_pos hc] at hm
    refine lv_iconst (v := (1 : Int32)) hx hb d_Ref_hang_16 (by decide) ?_
    refine lv_goto (tgt := 21) hx hb d_Ref_hang_17 (by decide) ?_
    exact J21 (rs_ris u (upd (rg_ris u) (0 : Int32).toNatClampNeg a1)) a2 (0 : Int32) (1 : Int32) hm _ _ _ hP hD hS (lv_sub hl [1, 3, 0] rfl)
