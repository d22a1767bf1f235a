/-! models and contracts; written by wip/whole/gen.py -/
def m_Ref_order (u : SR) (a1 : Int32) (a2 : Int32) : Option (Int32 × SR) := if a1 < 0 then (some ((0 : Int32), (rs_cd u (0 : Int32)))) else (if a1 ≤ (60 : Int32) then (some ((1 : Int32), (rs_cm (rs_ca (rs_cd u (0 : Int32)) a1) a2))) else (some ((0 : Int32), (rs_cd u (0 : Int32)))))
def m_Ref_firstAt_L5 : Nat → SR → Int32 → Int32 → Option ((Int32 × SR) ⊕ (Int32 × SR))
  | 0, _, _, _ => none
  | n0 + 1, ua, x2, x1 => ob (m_Ref_level ua x2) (fun r1 u2 => if r1 ≤ x1 then (some (.inr (x2, u2))) else (ob (m_Ref_blockAt u2 x2 (0 : Int32)) (fun r5 u6 => m_Ref_firstAt_L5 n0 u6 r5 x1)))
def m_Ref_firstAt (u : SR) (a1 : Int32) : Option (Int32 × SR) := ob (m_Ref_root u) (fun r9 u10 => ol1 (m_Ref_firstAt_L5 fz u10 r9 a1) id (fun x13 u14 => some (x13, u14)))
def m_Ref_putRight_L113 : Nat → SR → Int32 → Int32 → Int32 → Option ((Unit × SR) ⊕ (SR))
  | 0, _, _, _, _ => none
  | n0 + 1, ua, x5, x1, x2 => if x5 < 0 then (some (.inr ua)) else (if ((x2 >>> (x5 &&& 31)) &&& (1 : Int32)) = (1 : Int32) then (ob (m_Ref_store ua ((((9 : Int32) * x1) + (3 : Int32)) + x5) (0 : Int64)) (fun _ u2 => m_Ref_putRight_L113 n0 u2 (x5 + (-1 : Int32)) x1 x2)) else (m_Ref_putRight_L113 n0 ua (x5 + (-1 : Int32)) x1 x2))
def m_Ref_putRight_L155 : Nat → SR → Int32 → Int32 → Option ((Unit × SR) ⊕ (SR))
  | 0, _, _, _ => none
  | n0 + 1, ua, x5, x1 => if (rg_br ua) = 0 then (ob (m_Ref_length ua x1) (fun r5 u6 => if r5 ≤ x5 then (some (.inr u6)) else (ob (m_Ref_keyAt u6 x1 x5) (fun r9 u10 => ob (m_Ref_keyAt u10 x1 (x5 - (1 : Int32))) (fun r13 u14 => if r9 = r13 then (ob (m_Ref_drop u14 x1 x5) (fun _ u18 => m_Ref_putRight_L155 n0 u18 (1 : Int32) x1)) else (m_Ref_putRight_L155 n0 u14 (x5 + (1 : Int32)) x1)))))) else (some (.inr ua))
def m_Ref_putRight_L14 : Nat → SR → Int32 → Int32 → Int32 → Int32 → Int32 → Option ((Unit × SR) ⊕ (Int32 × SR))
  | 0, _, _, _, _, _, _ => none
  | n0 + 1, ua, x2, x4, x5, x1, x3 => if (6 : Int32) ≤ x5 then (some (.inr (x2, ua))) else (ob (m_Ref_at ua x1 x5) (fun r21 u22 => if (lg_cmp r21 (0 : Int64)) = 0 then (if x4 = 0 then (ob (m_Ref_at u22 x1 x5) (fun r25 u26 => if (lg_cmp r25 (0 : Int64)) = 0 then (m_Ref_putRight_L14 n0 u26 x2 (1 : Int32) (x5 + (1 : Int32)) x1 x3) else (m_Ref_putRight_L14 n0 u26 x2 (0 : Int32) (x5 + (1 : Int32)) x1 x3))) else (m_Ref_putRight_L14 n0 u22 x2 (1 : Int32) (x5 + (1 : Int32)) x1 x3)) else (if x4 = 0 then (if x3 = 0 then (if x4 = 0 then (ob (m_Ref_at u22 x1 x5) (fun r33 u34 => if (lg_cmp r33 (0 : Int64)) = 0 then (m_Ref_putRight_L14 n0 u34 x2 (1 : Int32) (x5 + (1 : Int32)) x1 x3) else (m_Ref_putRight_L14 n0 u34 x2 (0 : Int32) (x5 + (1 : Int32)) x1 x3))) else (m_Ref_putRight_L14 n0 u22 x2 (1 : Int32) (x5 + (1 : Int32)) x1 x3)) else (ob (m_Ref_keyAt u22 x1 x5) (fun r37 u38 => ob (m_Ref_low u38 x3) (fun r41 u42 => if r37 < r41 then (if x4 = 0 then (ob (m_Ref_at u42 x1 x5) (fun r45 u46 => if (lg_cmp r45 (0 : Int64)) = 0 then (m_Ref_putRight_L14 n0 u46 x2 (1 : Int32) (x5 + (1 : Int32)) x1 x3) else (m_Ref_putRight_L14 n0 u46 x2 (0 : Int32) (x5 + (1 : Int32)) x1 x3))) else (m_Ref_putRight_L14 n0 u42 x2 (1 : Int32) (x5 + (1 : Int32)) x1 x3)) else (if x4 = 0 then (ob (m_Ref_at u42 x1 x5) (fun r49 u50 => if (lg_cmp r49 (0 : Int64)) = 0 then (m_Ref_putRight_L14 n0 u50 (x2 ||| ((1 : Int32) <<< (x5 &&& 31))) (1 : Int32) (x5 + (1 : Int32)) x1 x3) else (m_Ref_putRight_L14 n0 u50 (x2 ||| ((1 : Int32) <<< (x5 &&& 31))) (0 : Int32) (x5 + (1 : Int32)) x1 x3))) else (m_Ref_putRight_L14 n0 u42 (x2 ||| ((1 : Int32) <<< (x5 &&& 31))) (1 : Int32) (x5 + (1 : Int32)) x1 x3)))))) else (if x4 = 0 then (ob (m_Ref_at u22 x1 x5) (fun r29 u30 => if (lg_cmp r29 (0 : Int64)) = 0 then (m_Ref_putRight_L14 n0 u30 (x2 ||| ((1 : Int32) <<< (x5 &&& 31))) (1 : Int32) (x5 + (1 : Int32)) x1 x3) else (m_Ref_putRight_L14 n0 u30 (x2 ||| ((1 : Int32) <<< (x5 &&& 31))) (0 : Int32) (x5 + (1 : Int32)) x1 x3))) else (m_Ref_putRight_L14 n0 u22 (x2 ||| ((1 : Int32) <<< (x5 &&& 31))) (1 : Int32) (x5 + (1 : Int32)) x1 x3)))))
def m_Ref_putRight (u : SR) (a1 : Int32) : Option (Unit × SR) := ob (m_Ref_next u a1) (fun r53 u54 => ol1 (m_Ref_putRight_L14 fz u54 (0 : Int32) (0 : Int32) (0 : Int32) a1 r53) id (fun x57 u58 => ol0 (m_Ref_putRight_L113 fz u58 (5 : Int32) a1 x57) id (fun u59 => ob (m_Ref_fence u59) (fun _ u61 => ol0 (m_Ref_putRight_L155 fz u61 (1 : Int32) a1) id (fun u64 => some ((), u64))))))
def m_Ref_isValue_L31 : Nat → SR → Int32 → Int32 → Int32 → Int32 → Option ((Int32 × SR) ⊕ (Int32 × SR))
  | 0, _, _, _, _, _ => none
  | n0 + 1, ua, x3, x5, x1, x4 => ob (m_Ref_length ua x4) (fun r1 u2 => if r1 ≤ x5 then (some (.inr (x3, u2))) else (if x3 = 0 then (ob (m_Ref_blockAt u2 x4 x5) (fun r5 u6 => if r5 = x1 then (m_Ref_isValue_L31 n0 u6 (1 : Int32) (x5 + (1 : Int32)) x1 x4) else (m_Ref_isValue_L31 n0 u6 (0 : Int32) (x5 + (1 : Int32)) x1 x4))) else (m_Ref_isValue_L31 n0 u2 (1 : Int32) (x5 + (1 : Int32)) x1 x4)))
def m_Ref_isValue_L23 : Nat → SR → Int32 → Int32 → Int32 → Option ((Int32 × SR) ⊕ (Int32 × SR))
  | 0, _, _, _, _ => none
  | n0 + 1, ua, x3, x4, x1 => if x4 = 0 then (some (.inr (x3, ua))) else (ol1 (m_Ref_isValue_L31 fz ua x3 (0 : Int32) x1 x4) Sum.inl (fun x9 u10 => ob (m_Ref_next u10 x4) (fun r11 u12 => m_Ref_isValue_L23 n0 u12 x9 r11 x1)))
def m_Ref_isValue (u : SR) (a1 : Int32) (a2 : Int32) : Option (Int32 × SR) := ob (m_Ref_root u) (fun r15 u16 => ob (m_Ref_level u16 r15) (fun r19 u20 => if a2 ≤ r19 then (ob (m_Ref_firstAt u20 a2) (fun r23 u24 => ol1 (m_Ref_isValue_L23 fz u24 (0 : Int32) r23 a1) id (fun x27 u28 => if zb x27 = true then some (x27, u28) else none))) else (some ((0 : Int32), u20))))
def m_Ref_repair_L27 : Nat → SR → Int32 → Int32 → Option ((Unit × SR) ⊕ (SR))
  | 0, _, _, _ => none
  | n0 + 1, ua, x2, x1 => if x2 = 0 then (some (.inr ua)) else (if (rg_br ua) = 0 then (ob (m_Ref_putRight ua x2) (fun _ u2 => ob (m_Ref_next u2 x2) (fun r5 u6 => m_Ref_repair_L27 n0 u6 r5 x1))) else (some (.inr ua)))
def m_Ref_repair_L89 : Nat → SR → Int32 → Int32 → Option ((Unit × SR) ⊕ (SR))
  | 0, _, _, _ => none
  | n0 + 1, ua, x2, x1 => if x2 = 0 then (some (.inr ua)) else (if (rg_br ua) = 0 then (ob (m_Ref_isValue ua x2 (x1 + (1 : Int32))) (fun r9 u10 => if r9 = 0 then (ob (m_Ref_hang u10 x2 (x1 + (1 : Int32))) (fun _ u18 => ob (m_Ref_next u18 x2) (fun r21 u22 => m_Ref_repair_L89 n0 u22 r21 x1))) else (ob (m_Ref_next u10 x2) (fun r13 u14 => m_Ref_repair_L89 n0 u14 r13 x1)))) else (some (.inr ua)))
def m_Ref_repair_L2 : Nat → SR → Int32 → Option ((Unit × SR) ⊕ (SR))
  | 0, _, _ => none
  | n0 + 1, ua, x1 => ob (m_Ref_root ua) (fun r25 u26 => ob (m_Ref_level u26 r25) (fun r29 u30 => if r29 < x1 then (some (.inr u30)) else (if (rg_br u30) = 0 then (ob (m_Ref_firstAt u30 x1) (fun r33 u34 => ol0 (m_Ref_repair_L27 fz u34 r33 x1) Sum.inl (fun u37 => m_Ref_repair_L2 n0 u37 (x1 + (1 : Int32))))) else (some (.inr u30)))))
def m_Ref_repair_L60 : Nat → SR → Int32 → Option ((Unit × SR) ⊕ (SR))
  | 0, _, _ => none
  | n0 + 1, ua, x1 => ob (m_Ref_root ua) (fun r38 u39 => ob (m_Ref_level u39 r38) (fun r42 u43 => if r42 < x1 then (some (.inr u43)) else (if (rg_br u43) = 0 then (ob (m_Ref_firstAt u43 x1) (fun r46 u47 => ob (m_Ref_next u47 r46) (fun r50 u51 => ol0 (m_Ref_repair_L89 fz u51 r50 x1) Sum.inl (fun u54 => m_Ref_repair_L60 n0 u54 (x1 + (1 : Int32)))))) else (some (.inr u43)))))
def m_Ref_repair (u : SR)  : Option (Unit × SR) := ol0 (m_Ref_repair_L2 fz u (0 : Int32)) id (fun u55 => ol0 (m_Ref_repair_L60 fz u55 (0 : Int32)) id (fun u56 => some ((), u56)))
def m_Ref_recover_J46 (ua : SR) (x1 : Int32) : Option (Int32 × SR) := if (rg_br ua) = 0 then (some (((rg_st ua) - x1), (rs_dn ua (0 : Int32)))) else (some ((-2 : Int32), ua))
def m_Ref_recover_J13 (ua : SR) (s0 : Int32) : Option (Int32 × SR) := if s0 ≤ 0 then (ob (m_Ref_root (rs_br (rs_cd ua s0) (0 : Int32))) (fun r1 u2 => if r1 = 0 then (m_Ref_recover_J46 u2 (rg_st ua)) else (ob (m_Ref_repair u2) (fun _ u6 => m_Ref_recover_J46 u6 (rg_st ua))))) else (some ((0 : Int32), (rs_cd ua s0)))
def m_Ref_recover (u : SR)  : Option (Int32 × SR) := if (rg_dn u) = 0 then (m_Ref_recover_J13 u (1 : Int32)) else (m_Ref_recover_J13 u (0 : Int32))
def m_Ref_size_L33 : Nat → SR → Int32 → Int32 → Int32 → Int32 → Option ((Int32 × SR) ⊕ (Int32 × SR))
  | 0, _, _, _, _, _ => none
  | n0 + 1, ua, x2, x4, x1, x3 => if (6 : Int32) ≤ x4 then (some (.inr (x2, ua))) else (if inb x3 31 = true then if ((rg_rea ua) x3.toNatClampNeg) = 0 then (some (.inr (x2, ua))) else (ob (m_Ref_level ua x3) (fun r1 u2 => if r1 = (-x1) then (ob (m_Ref_isRead u2 x1 ((((9 : Int32) * x3) + (3 : Int32)) + x4)) (fun r5 u6 => if r5 = 0 then (m_Ref_size_L33 n0 u6 x2 (x4 + (1 : Int32)) x1 x3) else (m_Ref_size_L33 n0 u6 (x2 + (1 : Int32)) (x4 + (1 : Int32)) x1 x3))) else (some (.inr (x2, u2))))) else none)
def m_Ref_size_L24 : Nat → SR → Int32 → Int32 → Int32 → Option ((Int32 × SR) ⊕ (Int32 × SR))
  | 0, _, _, _, _ => none
  | n0 + 1, ua, x2, x3, x1 => if (30 : Int32) < x3 then (some (.inr (x2, ua))) else (ol1 (m_Ref_size_L33 fz ua x2 (0 : Int32) x1 x3) Sum.inl (fun x9 u10 => m_Ref_size_L24 n0 u10 x9 (x3 + (1 : Int32)) x1))
def m_Ref_size (u : SR) (a1 : Int32) : Option (Int32 × SR) := if a1 < 0 then (some ((-1 : Int32), (rs_cd u (0 : Int32)))) else (if a1 ≤ (1 : Int32) then (ob (m_Ref_mark (rs_cd u (0 : Int32))) (fun _ u12 => ol1 (m_Ref_size_L24 fz u12 (0 : Int32) (1 : Int32) a1) id (fun x15 u16 => some (x15, u16)))) else (some ((-1 : Int32), (rs_cd u (0 : Int32)))))
def m_Ref_free (u : SR)  : Option (Int32 × SR) := ob (m_Ref_countFree (rs_cd u (0 : Int32))) (fun r1 u2 => some (r1, u2))
def m_Ref_height (u : SR)  : Option (Int32 × SR) := ob (m_Ref_root (rs_cd u (0 : Int32))) (fun r1 u2 => if r1 = 0 then (some ((0 : Int32), u2)) else (ob (m_Ref_root u2) (fun r5 u6 => ob (m_Ref_level u6 r5) (fun r9 u10 => some ((r9 + (1 : Int32)), u10)))))
def m_Ref_word (u : SR) (a1 : Int32) : Option (Int64 × SR) := if a1 < 0 then (some ((0 : Int64), (rs_cd u (0 : Int32)))) else (if a1 < (279 : Int32) then (if inb a1 279 = true then some (((rg_mem u) a1.toNatClampNeg), (rs_cd u (0 : Int32))) else none) else (some ((0 : Int64), (rs_cd u (0 : Int32)))))
def m_Ref_stores (u : SR)  : Option (Int32 × SR) := some ((rg_st u), (rs_cd u (0 : Int32)))
def m_Ref_down (u : SR)  : Option (Int32 × SR) := if zb (rg_dn u) = true then some ((rg_dn u), (rs_cd u (0 : Int32))) else none
theorem d_Ref_order_0 : decode b_Ref_order 0 = .ok (.aload_n 0, 1) := by decide +kernel
theorem d_Ref_order_1 : decode b_Ref_order 1 = .ok (.iconst 0, 1) := by decide +kernel
theorem d_Ref_order_2 : decode b_Ref_order 2 = .ok (.putfield 31, 3) := by decide +kernel
theorem d_Ref_order_5 : decode b_Ref_order 5 = .ok (.iload_n 1, 1) := by decide +kernel
theorem d_Ref_order_6 : decode b_Ref_order 6 = .ok (.ifCond .lt 9, 3) := by decide +kernel
theorem d_Ref_order_9 : decode b_Ref_order 9 = .ok (.iload_n 1, 1) := by decide +kernel
theorem d_Ref_order_10 : decode b_Ref_order 10 = .ok (.bipush 60, 2) := by decide +kernel
theorem d_Ref_order_12 : decode b_Ref_order 12 = .ok (.if_icmp .le 5, 3) := by decide +kernel
theorem d_Ref_order_15 : decode b_Ref_order 15 = .ok (.iconst 0, 1) := by decide +kernel
theorem d_Ref_order_16 : decode b_Ref_order 16 = .ok (.ireturn, 1) := by decide +kernel
theorem d_Ref_order_17 : decode b_Ref_order 17 = .ok (.aload_n 0, 1) := by decide +kernel
theorem d_Ref_order_18 : decode b_Ref_order 18 = .ok (.iload_n 1, 1) := by decide +kernel
theorem d_Ref_order_19 : decode b_Ref_order 19 = .ok (.putfield 20, 3) := by decide +kernel
theorem d_Ref_order_22 : decode b_Ref_order 22 = .ok (.aload_n 0, 1) := by decide +kernel
theorem d_Ref_order_23 : decode b_Ref_order 23 = .ok (.iload_n 2, 1) := by decide +kernel
theorem d_Ref_order_24 : decode b_Ref_order 24 = .ok (.putfield 37, 3) := by decide +kernel
theorem d_Ref_order_27 : decode b_Ref_order 27 = .ok (.iconst 1, 1) := by decide +kernel
theorem d_Ref_order_28 : decode b_Ref_order 28 = .ok (.ireturn, 1) := by decide +kernel
set_option maxRecDepth 100000 in
set_option maxHeartbeats 4000000 in
theorem k_Ref_order (l : Launch) (D : va_G) (G : Nat → Nat) (Y : Nat → ClassId) {u : SR} {a1 : Int32} {a2 : Int32} {r : Int32} {u' : SR} (hm : m_Ref_order u a1 a2 = some (r, u')) : KZ l D clz (tyz Y) (wdR G Y) y_Ref_order b_Ref_order 3 (some .boolean) 0 0 [.ref (G 0), .int a1, .int a2] u r u' := by
  refine mkZ (by decide) (Nat.le_of_ble_eq_true rfl) ?_
  intro p e s m below meth c A Z ls C0 hP hD hS hl hret
  obtain ⟨hx, hb, hml, hown, hts, hK, hN, hA⟩ := id C0
  have hl : lv_has ls 3 [(0, .ref (G 0)), (1, .int a1), (2, .int a2)] := hl
  rw [m_Ref_order] at hm
  refine lv_aload_n hx hb d_Ref_order_0 rfl (lv_at hl 0 rfl) ?_
  refine lv_iconst (v := (0 : Int32)) hx hb d_Ref_order_1 (by decide) ?_
  refine va_put (D := D) (ci := 5) (v := .int (0 : Int32)) (ty := .int) (C := "FirmStoreModel") (T := F_Ref) (N := 12) hx hb hts iz_Ref t_Ref t_Ref_ok n_Ref hown hK hP hD hS 0 rfl rfl 9 (by decide) (hts _ q_546) (fun _ h9 => h9) rfl (by decide +kernel) rfl rfl (Nat.le_of_ble_eq_true rfl) d_Ref_order_2 (fun H locs hP hD hS => ?_)
  have hP : va_P D clz (wdR G Y (rs_cd u (0 : Int32))) H := hP
  have hD : va_D A (wdR G Y (rs_cd u (0 : Int32))) := hD
  refine lv_iload_n hx hb d_Ref_order_5 rfl (lv_at hl 1 rfl) ?_
  refine lv_if_lt (tgt := 15) hx hb d_Ref_order_6 (by decide) (fun hc => ?_) (fun hc => ?_)
  · rw [if_pos hc] at hm
    refine lv_iconst (v := (0 : Int32)) hx hb d_Ref_order_15 (by decide) ?_
    exact hret _ _ _ _ (0 : Int32) (rs_cd u (0 : Int32)) (Option.some.inj hm) (Or.inl rfl) hP hD hS d_Ref_order_16
  · rw [if_neg hc] at hm
    refine lv_iload_n hx hb d_Ref_order_9 rfl (lv_at hl 1 rfl) ?_
    refine lv_bipush (v := (60 : Int32)) hx hb d_Ref_order_10 (by decide) ?_
    refine lv_icmp_le (tgt := 17) hx hb d_Ref_order_12 (by decide) (fun hc => ?_) (fun hc => ?_)
    · rw [if_pos hc] at hm
      refine lv_aload_n hx hb d_Ref_order_17 rfl (lv_at hl 0 rfl) ?_
      refine lv_iload_n hx hb d_Ref_order_18 rfl (lv_at hl 1 rfl) ?_
      refine va_put (D := D) (ci := 5) (v := .int a1) (ty := .int) (C := "FirmStoreModel") (T := F_Ref) (N := 12) hx hb hts iz_Ref t_Ref t_Ref_ok n_Ref hown hK hP hD hS 0 rfl rfl 4 (by decide) (hts _ q_541) (fun _ h9 => h9) rfl (by decide +kernel) rfl rfl (Nat.le_of_ble_eq_true rfl) d_Ref_order_19 (fun H locs hP hD hS => ?_)
      have hP : va_P D clz (wdR G Y (rs_ca (rs_cd u (0 : Int32)) a1)) H := hP
      have hD : va_D A (wdR G Y (rs_ca (rs_cd u (0 : Int32)) a1)) := hD
      refine lv_aload_n hx hb d_Ref_order_22 rfl (lv_at hl 0 rfl) ?_
      refine lv_iload_n hx hb d_Ref_order_23 rfl (lv_at hl 2 rfl) ?_
      refine va_put (D := D) (ci := 5) (v := .int a2) (ty := .int) (C := "FirmStoreModel") (T := F_Ref) (N := 12) hx hb hts iz_Ref t_Ref t_Ref_ok n_Ref hown hK hP hD hS 0 rfl rfl 5 (by decide) (hts _ q_542) (fun _ h9 => h9) rfl (by decide +kernel) rfl rfl (Nat.le_of_ble_eq_true rfl) d_Ref_order_24 (fun H locs hP hD hS => ?_)
      have hP : va_P D clz (wdR G Y (rs_cm (rs_ca (rs_cd u (0 : Int32)) a1) a2)) H := hP
      have hD : va_D A (wdR G Y (rs_cm (rs_ca (rs_cd u (0 : Int32)) a1) a2)) := hD
      refine lv_iconst (v := (1 : Int32)) hx hb d_Ref_order_27 (by decide) ?_
      exact hret _ _ _ _ (1 : Int32) (rs_cm (rs_ca (rs_cd u (0 : Int32)) a1) a2) (Option.some.inj hm) (Or.inr rfl) hP hD hS d_Ref_order_28
    · rw [if_neg hc] at hm
      refine lv_iconst (v := (0 : Int32)) hx hb d_Ref_order_15 (by decide) ?_
      exact hret _ _ _ _ (0 : Int32) (rs_cd u (0 : Int32)) (Option.some.inj hm) (Or.inl rfl) hP hD hS d_Ref_order_16
theorem d_Ref_firstAt_0 : decode b_Ref_firstAt 0 = .ok (.aload_n 0, 1) := by decide +kernel
theorem d_Ref_firstAt_1 : decode b_Ref_firstAt 1 = .ok (.invokevirtual 72, 3) := by decide +kernel
theorem d_Ref_firstAt_4 : decode b_Ref_firstAt 4 = .ok (.istore_n 2, 1) := by decide +kernel
theorem d_Ref_firstAt_5 : decode b_Ref_firstAt 5 = .ok (.aload_n 0, 1) := by decide +kernel
theorem d_Ref_firstAt_6 : decode b_Ref_firstAt 6 = .ok (.iload_n 2, 1) := by decide +kernel
theorem d_Ref_firstAt_7 : decode b_Ref_firstAt 7 = .ok (.invokevirtual 84, 3) := by decide +kernel
theorem d_Ref_firstAt_10 : decode b_Ref_firstAt 10 = .ok (.iload_n 1, 1) := by decide +kernel
theorem d_Ref_firstAt_11 : decode b_Ref_firstAt 11 = .ok (.if_icmp .le 13, 3) := by decide +kernel
theorem d_Ref_firstAt_14 : decode b_Ref_firstAt 14 = .ok (.aload_n 0, 1) := by decide +kernel
theorem d_Ref_firstAt_15 : decode b_Ref_firstAt 15 = .ok (.iload_n 2, 1) := by decide +kernel
theorem d_Ref_firstAt_16 : decode b_Ref_firstAt 16 = .ok (.iconst 0, 1) := by decide +kernel
theorem d_Ref_firstAt_17 : decode b_Ref_firstAt 17 = .ok (.invokevirtual 90, 3) := by decide +kernel
theorem d_Ref_firstAt_20 : decode b_Ref_firstAt 20 = .ok (.istore_n 2, 1) := by decide +kernel
theorem d_Ref_firstAt_21 : decode b_Ref_firstAt 21 = .ok (.goto (-16), 3) := by decide +kernel
theorem d_Ref_firstAt_24 : decode b_Ref_firstAt 24 = .ok (.iload_n 2, 1) := by decide +kernel
theorem d_Ref_firstAt_25 : decode b_Ref_firstAt 25 = .ok (.ireturn, 1) := by decide +kernel
set_option maxRecDepth 100000 in
set_option maxHeartbeats 4000000 in
theorem k_Ref_firstAt (l : Launch) (D : va_G) (G : Nat → Nat) (Y : Nat → ClassId) {u : SR} {a1 : Int32} {r : Int32} {u' : SR} (hm : m_Ref_firstAt u a1 = some (r, u')) : KI l D clz (tyz Y) (wdR G Y) y_Ref_firstAt b_Ref_firstAt 3 (some .int) 2 44 [.ref (G 0), .int a1] u r u' := by
  refine mkI (by decide) (Nat.le_of_ble_eq_true rfl) ?_
  intro p e s m below meth c A Z ls C0 hP hD hS hl hret
  obtain ⟨hx, hb, hml, hown, hts, hK, hN, hA⟩ := id C0
  have hl : lv_has ls 3 [(0, .ref (G 0)), (1, .int a1)] := hl
  have L5 : ∀ (x1 : Int32) (o : (Int32 × SR) ⊕ (Int32 × SR)) (kr : ∀ z, o = .inl z → z = (r, u')) (kx : ∀ (y2 : Int32) (ub : SR), o = .inr (y2, ub) → ∀ (H : Heap) (locs : List Loc) (ls : Array Slot), va_P D clz (wdR G Y ub) H → va_D A (wdR G Y ub) → va_S A s.heap H locs → lv_has ls 3 [(2, .int y2)] → W p l e (zRm 2 44) s m ([.ref (G 0), .int a1] : List Value).toArray below meth c H locs 0 0 Z (F0 m 24 ls [])) (n0 : Nat) (ua : SR) (x2 : Int32), m_Ref_firstAt_L5 n0 ua x2 x1 = some o → ∀ (H : Heap) (locs : List Loc) (ls : Array Slot), va_P D clz (wdR G Y ua) H → va_D A (wdR G Y ua) → va_S A s.heap H locs → lv_has ls 3 [(0, .ref (G 0)), (1, .int x1), (2, .int x2)] → W p l e (zRm 2 44) s m ([.ref (G 0), .int a1] : List Value).toArray below meth c H locs 0 0 Z (F0 m 5 ls []) := by
    intro x1 o kr kx n0
    induction n0 with
    | zero => intro ua x2 hm; rw [m_Ref_firstAt_L5] at hm; cases hm
    | succ n0 ih =>
      intro ua x2 hm H locs ls hP hD hS hl
      rw [m_Ref_firstAt_L5] at hm
      refine lv_aload_n hx hb d_Ref_firstAt_5 rfl (lv_at hl 0 rfl) ?_
      refine lv_iload_n hx hb d_Ref_firstAt_6 rfl (lv_at hl 2 rfl) ?_
      obtain ⟨r1, u2, h3, hm⟩ := ob_some hm
      refine goVI (As := [.int x2]) (rest := []) (b0 := G 0) 0 C0 (k_Ref_level l D G Y h3) q_613 q_6 q_610 q_612 qs_31 e_Ref_level (by decide) rfl rfl hP hD hS hl.1 rfl (Nat.le_of_ble_eq_true rfl) d_Ref_firstAt_7 (fun H locs hP hD hS => ?_)
      refine lv_iload_n hx hb d_Ref_firstAt_10 rfl (lv_at hl 1 rfl) ?_
      refine lv_icmp_le (tgt := 24) hx hb d_Ref_firstAt_11 (by decide) (fun hc => ?_) (fun hc => ?_)
      · rw [if_pos hc] at hm
        exact kx x2 u2 (Option.some.inj hm).symm _ _ _ hP hD hS (lv_sub hl [2] rfl)
      · rw [if_neg hc] at hm
        refine lv_aload_n hx hb d_Ref_firstAt_14 rfl (lv_at hl 0 rfl) ?_
        refine lv_iload_n hx hb d_Ref_firstAt_15 rfl (lv_at hl 2 rfl) ?_
        refine lv_iconst (v := (0 : Int32)) hx hb d_Ref_firstAt_16 (by decide) ?_
        obtain ⟨r5, u6, h7, hm⟩ := ob_some hm
        refine goVI (As := [.int x2, .int (0 : Int32)]) (rest := []) (b0 := G 0) 0 C0 (k_Ref_blockAt l D G Y h7) q_625 q_6 q_622 q_624 qs_34 e_Ref_blockAt (by decide) rfl rfl hP hD hS hl.1 rfl (Nat.le_of_ble_eq_true rfl) d_Ref_firstAt_17 (fun H locs hP hD hS => ?_)
        refine lv_istore_n (lv' := [(2, .int r5), (0, .ref (G 0)), (1, .int x1)]) hx hb d_Ref_firstAt_20 rfl hl (by decide) rfl (fun ls hl => ?_)
        refine lv_goto (tgt := 5) hx hb d_Ref_firstAt_21 (by decide) ?_
        exact ih u6 r5 hm _ _ _ hP hD hS (lv_sub hl [1, 2, 0] rfl)
  rw [m_Ref_firstAt] at hm
  refine lv_aload_n hx hb d_Ref_firstAt_0 rfl (lv_at hl 0 rfl) ?_
  obtain ⟨r9, u10, h11, hm⟩ := ob_some hm
  refine goVI (As := []) (rest := []) (b0 := G 0) 0 C0 (k_Ref_root l D G Y h11) q_593 q_6 q_590 q_592 qs_26 e_Ref_root (by decide) rfl rfl hP hD hS hl.1 rfl (Nat.le_of_ble_eq_true rfl) d_Ref_firstAt_1 (fun H locs hP hD hS => ?_)
  refine lv_istore_n (lv' := [(2, .int r9), (0, .ref (G 0)), (1, .int a1)]) hx hb d_Ref_firstAt_4 rfl hl (by decide) rfl (fun ls hl => ?_)
  obtain ⟨qq, hq, hi, ho⟩ := ol1_some hm
  refine L5 a1 qq (fun z hz => hi z hz) (fun x13 u14 hz H locs ls hP hD hS hl => ?_) fz u10 r9 hq _ _ _ hP hD hS (lv_sub hl [1, 2, 0] rfl)
  have hm := ho x13 u14 hz
  refine lv_iload_n hx hb d_Ref_firstAt_24 rfl (lv_at hl 0 rfl) ?_
  exact hret _ _ _ _ x13 u14 (Option.some.inj hm) hP hD hS d_Ref_firstAt_25
theorem d_Ref_putRight_0 : decode b_Ref_putRight 0 = .ok (.iconst 0, 1) := by decide +kernel
theorem d_Ref_putRight_1 : decode b_Ref_putRight 1 = .ok (.istore_n 2, 1) := by decide +kernel
theorem d_Ref_putRight_2 : decode b_Ref_putRight 2 = .ok (.aload_n 0, 1) := by decide +kernel
theorem d_Ref_putRight_3 : decode b_Ref_putRight 3 = .ok (.iload_n 1, 1) := by decide +kernel
theorem d_Ref_putRight_4 : decode b_Ref_putRight 4 = .ok (.invokevirtual 80, 3) := by decide +kernel
theorem d_Ref_putRight_7 : decode b_Ref_putRight 7 = .ok (.istore_n 3, 1) := by decide +kernel
theorem d_Ref_putRight_8 : decode b_Ref_putRight 8 = .ok (.iconst 0, 1) := by decide +kernel
theorem d_Ref_putRight_9 : decode b_Ref_putRight 9 = .ok (.istore 4, 2) := by decide +kernel
theorem d_Ref_putRight_11 : decode b_Ref_putRight 11 = .ok (.iconst 0, 1) := by decide +kernel
theorem d_Ref_putRight_12 : decode b_Ref_putRight 12 = .ok (.istore 5, 2) := by decide +kernel
theorem d_Ref_putRight_14 : decode b_Ref_putRight 14 = .ok (.iload 5, 2) := by decide +kernel
theorem d_Ref_putRight_16 : decode b_Ref_putRight 16 = .ok (.bipush 6, 2) := by decide +kernel
theorem d_Ref_putRight_18 : decode b_Ref_putRight 18 = .ok (.if_icmp .ge 92, 3) := by decide +kernel
theorem d_Ref_putRight_21 : decode b_Ref_putRight 21 = .ok (.aload_n 0, 1) := by decide +kernel
theorem d_Ref_putRight_22 : decode b_Ref_putRight 22 = .ok (.iload_n 1, 1) := by decide +kernel
theorem d_Ref_putRight_23 : decode b_Ref_putRight 23 = .ok (.iload 5, 2) := by decide +kernel
theorem d_Ref_putRight_25 : decode b_Ref_putRight 25 = .ok (.invokevirtual 64, 3) := by decide +kernel
theorem d_Ref_putRight_28 : decode b_Ref_putRight 28 = .ok (.lconst 0, 1) := by decide +kernel
theorem d_Ref_putRight_29 : decode b_Ref_putRight 29 = .ok (.lcmp, 1) := by decide +kernel
theorem d_Ref_putRight_30 : decode b_Ref_putRight 30 = .ok (.ifCond .eq 31, 3) := by decide +kernel
theorem d_Ref_putRight_33 : decode b_Ref_putRight 33 = .ok (.iload 4, 2) := by decide +kernel
theorem d_Ref_putRight_35 : decode b_Ref_putRight 35 = .ok (.ifCond .ne 22, 3) := by decide +kernel
theorem d_Ref_putRight_38 : decode b_Ref_putRight 38 = .ok (.iload_n 3, 1) := by decide +kernel
theorem d_Ref_putRight_39 : decode b_Ref_putRight 39 = .ok (.ifCond .eq 22, 3) := by decide +kernel
theorem d_Ref_putRight_42 : decode b_Ref_putRight 42 = .ok (.aload_n 0, 1) := by decide +kernel
theorem d_Ref_putRight_43 : decode b_Ref_putRight 43 = .ok (.iload_n 1, 1) := by decide +kernel
theorem d_Ref_putRight_44 : decode b_Ref_putRight 44 = .ok (.iload 5, 2) := by decide +kernel
theorem d_Ref_putRight_46 : decode b_Ref_putRight 46 = .ok (.invokevirtual 103, 3) := by decide +kernel
theorem d_Ref_putRight_49 : decode b_Ref_putRight 49 = .ok (.aload_n 0, 1) := by decide +kernel
theorem d_Ref_putRight_50 : decode b_Ref_putRight 50 = .ok (.iload_n 3, 1) := by decide +kernel
theorem d_Ref_putRight_51 : decode b_Ref_putRight 51 = .ok (.invokevirtual 97, 3) := by decide +kernel
theorem d_Ref_putRight_54 : decode b_Ref_putRight 54 = .ok (.if_icmp .lt 7, 3) := by decide +kernel
theorem d_Ref_putRight_57 : decode b_Ref_putRight 57 = .ok (.iconst 1, 1) := by decide +kernel
theorem d_Ref_putRight_58 : decode b_Ref_putRight 58 = .ok (.goto 4, 3) := by decide +kernel
theorem d_Ref_putRight_61 : decode b_Ref_putRight 61 = .ok (.iconst 0, 1) := by decide +kernel
theorem d_Ref_putRight_62 : decode b_Ref_putRight 62 = .ok (.istore 6, 2) := by decide +kernel
theorem d_Ref_putRight_64 : decode b_Ref_putRight 64 = .ok (.iload 6, 2) := by decide +kernel
theorem d_Ref_putRight_66 : decode b_Ref_putRight 66 = .ok (.ifCond .eq 12, 3) := by decide +kernel
theorem d_Ref_putRight_69 : decode b_Ref_putRight 69 = .ok (.iload_n 2, 1) := by decide +kernel
theorem d_Ref_putRight_70 : decode b_Ref_putRight 70 = .ok (.iconst 1, 1) := by decide +kernel
theorem d_Ref_putRight_71 : decode b_Ref_putRight 71 = .ok (.iload 5, 2) := by decide +kernel
theorem d_Ref_putRight_73 : decode b_Ref_putRight 73 = .ok (.ishl, 1) := by decide +kernel
theorem d_Ref_putRight_74 : decode b_Ref_putRight 74 = .ok (.ior, 1) := by decide +kernel
theorem d_Ref_putRight_75 : decode b_Ref_putRight 75 = .ok (.goto 4, 3) := by decide +kernel
theorem d_Ref_putRight_78 : decode b_Ref_putRight 78 = .ok (.iload_n 2, 1) := by decide +kernel
theorem d_Ref_putRight_79 : decode b_Ref_putRight 79 = .ok (.istore_n 2, 1) := by decide +kernel
theorem d_Ref_putRight_80 : decode b_Ref_putRight 80 = .ok (.iload 4, 2) := by decide +kernel
theorem d_Ref_putRight_82 : decode b_Ref_putRight 82 = .ok (.ifCond .ne 15, 3) := by decide +kernel
theorem d_Ref_putRight_85 : decode b_Ref_putRight 85 = .ok (.aload_n 0, 1) := by decide +kernel
theorem d_Ref_putRight_86 : decode b_Ref_putRight 86 = .ok (.iload_n 1, 1) := by decide +kernel
theorem d_Ref_putRight_87 : decode b_Ref_putRight 87 = .ok (.iload 5, 2) := by decide +kernel
theorem d_Ref_putRight_89 : decode b_Ref_putRight 89 = .ok (.invokevirtual 64, 3) := by decide +kernel
theorem d_Ref_putRight_92 : decode b_Ref_putRight 92 = .ok (.lconst 0, 1) := by decide +kernel
theorem d_Ref_putRight_93 : decode b_Ref_putRight 93 = .ok (.lcmp, 1) := by decide +kernel
theorem d_Ref_putRight_94 : decode b_Ref_putRight 94 = .ok (.ifCond .ne 7, 3) := by decide +kernel
theorem d_Ref_putRight_97 : decode b_Ref_putRight 97 = .ok (.iconst 1, 1) := by decide +kernel
theorem d_Ref_putRight_98 : decode b_Ref_putRight 98 = .ok (.goto 4, 3) := by decide +kernel
theorem d_Ref_putRight_101 : decode b_Ref_putRight 101 = .ok (.iconst 0, 1) := by decide +kernel
theorem d_Ref_putRight_102 : decode b_Ref_putRight 102 = .ok (.istore 4, 2) := by decide +kernel
theorem d_Ref_putRight_104 : decode b_Ref_putRight 104 = .ok (.iinc 5 1, 3) := by decide +kernel
theorem d_Ref_putRight_107 : decode b_Ref_putRight 107 = .ok (.goto (-93), 3) := by decide +kernel
theorem d_Ref_putRight_110 : decode b_Ref_putRight 110 = .ok (.iconst 5, 1) := by decide +kernel
theorem d_Ref_putRight_111 : decode b_Ref_putRight 111 = .ok (.istore 5, 2) := by decide +kernel
theorem d_Ref_putRight_113 : decode b_Ref_putRight 113 = .ok (.iload 5, 2) := by decide +kernel
theorem d_Ref_putRight_115 : decode b_Ref_putRight 115 = .ok (.ifCond .lt 33, 3) := by decide +kernel
theorem d_Ref_putRight_118 : decode b_Ref_putRight 118 = .ok (.iload_n 2, 1) := by decide +kernel
theorem d_Ref_putRight_119 : decode b_Ref_putRight 119 = .ok (.iload 5, 2) := by decide +kernel
theorem d_Ref_putRight_121 : decode b_Ref_putRight 121 = .ok (.ishr, 1) := by decide +kernel
theorem d_Ref_putRight_122 : decode b_Ref_putRight 122 = .ok (.iconst 1, 1) := by decide +kernel
theorem d_Ref_putRight_123 : decode b_Ref_putRight 123 = .ok (.iand, 1) := by decide +kernel
theorem d_Ref_putRight_124 : decode b_Ref_putRight 124 = .ok (.iconst 1, 1) := by decide +kernel
theorem d_Ref_putRight_125 : decode b_Ref_putRight 125 = .ok (.if_icmp .ne 17, 3) := by decide +kernel
theorem d_Ref_putRight_128 : decode b_Ref_putRight 128 = .ok (.aload_n 0, 1) := by decide +kernel
theorem d_Ref_putRight_129 : decode b_Ref_putRight 129 = .ok (.bipush 9, 2) := by decide +kernel
theorem d_Ref_putRight_131 : decode b_Ref_putRight 131 = .ok (.iload_n 1, 1) := by decide +kernel
theorem d_Ref_putRight_132 : decode b_Ref_putRight 132 = .ok (.imul, 1) := by decide +kernel
theorem d_Ref_putRight_133 : decode b_Ref_putRight 133 = .ok (.iconst 3, 1) := by decide +kernel
theorem d_Ref_putRight_134 : decode b_Ref_putRight 134 = .ok (.iadd, 1) := by decide +kernel
theorem d_Ref_putRight_135 : decode b_Ref_putRight 135 = .ok (.iload 5, 2) := by decide +kernel
theorem d_Ref_putRight_137 : decode b_Ref_putRight 137 = .ok (.iadd, 1) := by decide +kernel
theorem d_Ref_putRight_138 : decode b_Ref_putRight 138 = .ok (.lconst 0, 1) := by decide +kernel
theorem d_Ref_putRight_139 : decode b_Ref_putRight 139 = .ok (.invokevirtual 53, 3) := by decide +kernel
theorem d_Ref_putRight_142 : decode b_Ref_putRight 142 = .ok (.iinc 5 (-1), 3) := by decide +kernel
theorem d_Ref_putRight_145 : decode b_Ref_putRight 145 = .ok (.goto (-32), 3) := by decide +kernel
theorem d_Ref_putRight_148 : decode b_Ref_putRight 148 = .ok (.aload_n 0, 1) := by decide +kernel
theorem d_Ref_putRight_149 : decode b_Ref_putRight 149 = .ok (.invokevirtual 57, 3) := by decide +kernel
theorem d_Ref_putRight_152 : decode b_Ref_putRight 152 = .ok (.iconst 1, 1) := by decide +kernel
theorem d_Ref_putRight_153 : decode b_Ref_putRight 153 = .ok (.istore 5, 2) := by decide +kernel
theorem d_Ref_putRight_155 : decode b_Ref_putRight 155 = .ok (.aload_n 0, 1) := by decide +kernel
theorem d_Ref_putRight_156 : decode b_Ref_putRight 156 = .ok (.getfield 44, 3) := by decide +kernel
theorem d_Ref_putRight_159 : decode b_Ref_putRight 159 = .ok (.ifCond .ne 54, 3) := by decide +kernel
theorem d_Ref_putRight_162 : decode b_Ref_putRight 162 = .ok (.iload 5, 2) := by decide +kernel
theorem d_Ref_putRight_164 : decode b_Ref_putRight 164 = .ok (.aload_n 0, 1) := by decide +kernel
theorem d_Ref_putRight_165 : decode b_Ref_putRight 165 = .ok (.iload_n 1, 1) := by decide +kernel
theorem d_Ref_putRight_166 : decode b_Ref_putRight 166 = .ok (.invokevirtual 87, 3) := by decide +kernel
theorem d_Ref_putRight_169 : decode b_Ref_putRight 169 = .ok (.if_icmp .ge 44, 3) := by decide +kernel
theorem d_Ref_putRight_172 : decode b_Ref_putRight 172 = .ok (.aload_n 0, 1) := by decide +kernel
theorem d_Ref_putRight_173 : decode b_Ref_putRight 173 = .ok (.iload_n 1, 1) := by decide +kernel
theorem d_Ref_putRight_174 : decode b_Ref_putRight 174 = .ok (.iload 5, 2) := by decide +kernel
theorem d_Ref_putRight_176 : decode b_Ref_putRight 176 = .ok (.invokevirtual 103, 3) := by decide +kernel
theorem d_Ref_putRight_179 : decode b_Ref_putRight 179 = .ok (.aload_n 0, 1) := by decide +kernel
theorem d_Ref_putRight_180 : decode b_Ref_putRight 180 = .ok (.iload_n 1, 1) := by decide +kernel
theorem d_Ref_putRight_181 : decode b_Ref_putRight 181 = .ok (.iload 5, 2) := by decide +kernel
theorem d_Ref_putRight_183 : decode b_Ref_putRight 183 = .ok (.iconst 1, 1) := by decide +kernel
theorem d_Ref_putRight_184 : decode b_Ref_putRight 184 = .ok (.isub, 1) := by decide +kernel
theorem d_Ref_putRight_185 : decode b_Ref_putRight 185 = .ok (.invokevirtual 103, 3) := by decide +kernel
theorem d_Ref_putRight_188 : decode b_Ref_putRight 188 = .ok (.if_icmp .ne 16, 3) := by decide +kernel
theorem d_Ref_putRight_191 : decode b_Ref_putRight 191 = .ok (.aload_n 0, 1) := by decide +kernel
theorem d_Ref_putRight_192 : decode b_Ref_putRight 192 = .ok (.iload_n 1, 1) := by decide +kernel
theorem d_Ref_putRight_193 : decode b_Ref_putRight 193 = .ok (.iload 5, 2) := by decide +kernel
theorem d_Ref_putRight_195 : decode b_Ref_putRight 195 = .ok (.invokevirtual 161, 3) := by decide +kernel
theorem d_Ref_putRight_198 : decode b_Ref_putRight 198 = .ok (.iconst 1, 1) := by decide +kernel
theorem d_Ref_putRight_199 : decode b_Ref_putRight 199 = .ok (.istore 5, 2) := by decide +kernel
theorem d_Ref_putRight_201 : decode b_Ref_putRight 201 = .ok (.goto (-46), 3) := by decide +kernel
theorem d_Ref_putRight_204 : decode b_Ref_putRight 204 = .ok (.iload 5, 2) := by decide +kernel
theorem d_Ref_putRight_206 : decode b_Ref_putRight 206 = .ok (.iconst 1, 1) := by decide +kernel
theorem d_Ref_putRight_207 : decode b_Ref_putRight 207 = .ok (.iadd, 1) := by decide +kernel
theorem d_Ref_putRight_208 : decode b_Ref_putRight 208 = .ok (.istore 5, 2) := by decide +kernel
theorem d_Ref_putRight_210 : decode b_Ref_putRight 210 = .ok (.goto (-55), 3) := by decide +kernel
theorem d_Ref_putRight_213 : decode b_Ref_putRight 213 = .ok (.return_, 1) := by decide +kernel
set_option maxRecDepth 100000 in
set_option maxHeartbeats 4000000 in
theorem k_Ref_putRight (l : Launch) (D : va_G) (G : Nat → Nat) (Y : Nat → ClassId) {u : SR} {a1 : Int32} {u' : SR} (hm : m_Ref_putRight u a1 = some ((), u')) : KV l D clz (tyz Y) (wdR G Y) y_Ref_putRight b_Ref_putRight 7 none 4 92 [.ref (G 0), .int a1] u u' := by
  refine mkV (by decide) (Nat.le_of_ble_eq_true rfl) ?_
  intro p e s m below meth c A Z ls C0 hP hD hS hl hret
  obtain ⟨hx, hb, hml, hown, hts, hK, hN, hA⟩ := id C0
  have hl : lv_has ls 7 [(0, .ref (G 0)), (1, .int a1)] := hl
  have L113 : ∀ (x1 : Int32) (x2 : Int32) (o : (Unit × SR) ⊕ (SR)) (kr : ∀ z, o = .inl z → z = ((), u')) (kx : ∀  (ub : SR), o = .inr ub → ∀ (H : Heap) (locs : List Loc) (ls : Array Slot), va_P D clz (wdR G Y ub) H → va_D A (wdR G Y ub) → va_S A s.heap H locs → lv_has ls 7 [(0, .ref (G 0)), (1, .int x1)] → W p l e (zRm 4 92) s m ([.ref (G 0), .int a1] : List Value).toArray below meth c H locs 0 0 Z (F0 m 148 ls [])) (n0 : Nat) (ua : SR) (x5 : Int32), m_Ref_putRight_L113 n0 ua x5 x1 x2 = some o → ∀ (H : Heap) (locs : List Loc) (ls : Array Slot), va_P D clz (wdR G Y ua) H → va_D A (wdR G Y ua) → va_S A s.heap H locs → lv_has ls 7 [(0, .ref (G 0)), (1, .int x1), (2, .int x2), (5, .int x5)] → W p l e (zRm 4 92) s m ([.ref (G 0), .int a1] : List Value).toArray below meth c H locs 0 0 Z (F0 m 113 ls []) := by
    intro x1 x2 o kr kx n0
    induction n0 with
    | zero => intro ua x5 hm; rw [m_Ref_putRight_L113] at hm; cases hm
    | succ n0 ih =>
      intro ua x5 hm H locs ls hP hD hS hl
      rw [m_Ref_putRight_L113] at hm
      refine lv_iload hx hb d_Ref_putRight_113 (lv_at hl 3 rfl) ?_
      refine lv_if_lt (tgt := 148) hx hb d_Ref_putRight_115 (by decide) (fun hc => ?_) (fun hc => ?_)
      · rw [if_pos hc] at hm
        exact kx  ua (Option.some.inj hm).symm _ _ _ hP hD hS (lv_sub hl [0, 1] rfl)
      · rw [if_neg hc] at hm
        refine lv_iload_n hx hb d_Ref_putRight_118 rfl (lv_at hl 2 rfl) ?_
        refine lv_iload hx hb d_Ref_putRight_119 (lv_at hl 3 rfl) ?_
        refine lv_ishr hx hb d_Ref_putRight_121 ?_
        refine lv_iconst (v := (1 : Int32)) hx hb d_Ref_putRight_122 (by decide) ?_
        refine lv_iand hx hb d_Ref_putRight_123 ?_
        refine lv_iconst (v := (1 : Int32)) hx hb d_Ref_putRight_124 (by decide) ?_
        refine lv_icmp_ne (tgt := 142) hx hb d_Ref_putRight_125 (by decide) (fun hc => ?_) (fun hc => ?_)
        · rw [if_neg hc] at hm
          refine lv_iinc (v := (x5 + (-1 : Int32))) (lv' := [(5, .int (x5 + (-1 : Int32))), (0, .ref (G 0)), (1, .int x1), (2, .int x2)]) hx hb d_Ref_putRight_142 hl (k := 3) rfl rfl (by decide) rfl (fun ls hl => ?_)
          refine lv_goto (tgt := 113) hx hb d_Ref_putRight_145 (by decide) ?_
          exact ih ua (x5 + (-1 : Int32)) hm _ _ _ hP hD hS (lv_sub hl [1, 2, 3, 0] rfl)
        · rw [if_pos hc] at hm
          refine lv_aload_n hx hb d_Ref_putRight_128 rfl (lv_at hl 0 rfl) ?_
          refine lv_bipush (v := (9 : Int32)) hx hb d_Ref_putRight_129 (by decide) ?_
          refine lv_iload_n hx hb d_Ref_putRight_131 rfl (lv_at hl 1 rfl) ?_
          refine lv_imul hx hb d_Ref_putRight_132 ?_
          refine lv_iconst (v := (3 : Int32)) hx hb d_Ref_putRight_133 (by decide) ?_
          refine lv_iadd hx hb d_Ref_putRight_134 ?_
          refine lv_iload hx hb d_Ref_putRight_135 (lv_at hl 3 rfl) ?_
          refine lv_iadd hx hb d_Ref_putRight_137 ?_
          refine lv_lconst (v := (0 : Int64)) hx hb d_Ref_putRight_138 (by decide) ?_
          obtain ⟨r1, u2, h3, hm⟩ := ob_some hm
          refine goVV (As := [.int ((((9 : Int32) * x1) + (3 : Int32)) + x5), .long (0 : Int64)]) (rest := []) (b0 := G 0) 0 C0 (k_Ref_store l D G Y h3) q_638 q_6 q_635 q_637 qs_36 e_Ref_store (by decide) rfl rfl hP hD hS hl.1 rfl (Nat.le_of_ble_eq_true rfl) d_Ref_putRight_139 (fun H locs hP hD hS => ?_)
          refine lv_iinc (v := (x5 + (-1 : Int32))) (lv' := [(5, .int (x5 + (-1 : Int32))), (0, .ref (G 0)), (1, .int x1), (2, .int x2)]) hx hb d_Ref_putRight_142 hl (k := 3) rfl rfl (by decide) rfl (fun ls hl => ?_)
          refine lv_goto (tgt := 113) hx hb d_Ref_putRight_145 (by decide) ?_
          exact ih u2 (x5 + (-1 : Int32)) hm _ _ _ hP hD hS (lv_sub hl [1, 2, 3, 0] rfl)
  have L155 : ∀ (x1 : Int32) (o : (Unit × SR) ⊕ (SR)) (kr : ∀ z, o = .inl z → z = ((), u')) (kx : ∀  (ub : SR), o = .inr ub → ∀ (H : Heap) (locs : List Loc) (ls : Array Slot), va_P D clz (wdR G Y ub) H → va_D A (wdR G Y ub) → va_S A s.heap H locs → lv_has ls 7 [] → W p l e (zRm 4 92) s m ([.ref (G 0), .int a1] : List Value).toArray below meth c H locs 0 0 Z (F0 m 213 ls [])) (n0 : Nat) (ua : SR) (x5 : Int32), m_Ref_putRight_L155 n0 ua x5 x1 = some o → ∀ (H : Heap) (locs : List Loc) (ls : Array Slot), va_P D clz (wdR G Y ua) H → va_D A (wdR G Y ua) → va_S A s.heap H locs → lv_has ls 7 [(0, .ref (G 0)), (1, .int x1), (5, .int x5)] → W p l e (zRm 4 92) s m ([.ref (G 0), .int a1] : List Value).toArray below meth c H locs 0 0 Z (F0 m 155 ls []) := by
    intro x1 o kr kx n0
    induction n0 with
    | zero => intro ua x5 hm; rw [m_Ref_putRight_L155] at hm; cases hm
    | succ n0 ih =>
      intro ua x5 hm H locs ls hP hD hS hl
      rw [m_Ref_putRight_L155] at hm
      refine lv_aload_n hx hb d_Ref_putRight_155 rfl (lv_at hl 0 rfl) ?_
      refine va_get (D := D) (ci := 5) (v := .int (rg_br ua)) (C := "FirmStoreModel") (T := F_Ref) (N := 12) hx hb hts iz_Ref hown hK hP 0 rfl rfl 8 (by decide) (hts _ q_545) (fun _ h9 => h9) rfl d_Ref_putRight_156 ?_
      refine lv_if_ne (tgt := 213) hx hb d_Ref_putRight_159 (by decide) (fun hc => ?_) (fun hc => ?_)
      · rw [if_neg hc] at hm
        exact kx  ua (Option.some.inj hm).symm _ _ _ hP hD hS (lv_sub hl [] rfl)
      · rw [if_pos hc] at hm
        refine lv_iload hx hb d_Ref_putRight_162 (lv_at hl 2 rfl) ?_
        refine lv_aload_n hx hb d_Ref_putRight_164 rfl (lv_at hl 0 rfl) ?_
        refine lv_iload_n hx hb d_Ref_putRight_165 rfl (lv_at hl 1 rfl) ?_
        obtain ⟨r5, u6, h7, hm⟩ := ob_some hm
        refine goVI (As := [.int x1]) (rest := [.int x5]) (b0 := G 0) 0 C0 (k_Ref_length l D G Y h7) q_617 q_6 q_614 q_616 qs_32 e_Ref_length (by decide) rfl rfl hP hD hS hl.1 rfl (Nat.le_of_ble_eq_true rfl) d_Ref_putRight_166 (fun H locs hP hD hS => ?_)
        refine lv_icmp_ge (tgt := 213) hx hb d_Ref_putRight_169 (by decide) (fun hc => ?_) (fun hc => ?_)
        · rw [if_pos hc] at hm
          exact kx  u6 (Option.some.inj hm).symm _ _ _ hP hD hS (lv_sub hl [] rfl)
        · rw [if_neg hc] at hm
          refine lv_aload_n hx hb d_Ref_putRight_172 rfl (lv_at hl 0 rfl) ?_
          refine lv_iload_n hx hb d_Ref_putRight_173 rfl (lv_at hl 1 rfl) ?_
          refine lv_iload hx hb d_Ref_putRight_174 (lv_at hl 2 rfl) ?_
          obtain ⟨r9, u10, h11, hm⟩ := ob_some hm
          refine goVI (As := [.int x1, .int x5]) (rest := []) (b0 := G 0) 0 C0 (k_Ref_keyAt l D G Y h11) q_666 q_6 q_663 q_665 qs_43 e_Ref_keyAt (by decide) rfl rfl hP hD hS hl.1 rfl (Nat.le_of_ble_eq_true rfl) d_Ref_putRight_176 (fun H locs hP hD hS => ?_)
          refine lv_aload_n hx hb d_Ref_putRight_179 rfl (lv_at hl 0 rfl) ?_
          refine lv_iload_n hx hb d_Ref_putRight_180 rfl (lv_at hl 1 rfl) ?_
          refine lv_iload hx hb d_Ref_putRight_181 (lv_at hl 2 rfl) ?_
          refine lv_iconst (v := (1 : Int32)) hx hb d_Ref_putRight_183 (by decide) ?_
          refine lv_isub hx hb d_Ref_putRight_184 ?_
          obtain ⟨r13, u14, h15, hm⟩ := ob_some hm
          refine goVI (As := [.int x1, .int (x5 - (1 : Int32))]) (rest := [.int r9]) (b0 := G 0) 0 C0 (k_Ref_keyAt l D G Y h15) q_666 q_6 q_663 q_665 qs_43 e_Ref_keyAt (by decide) rfl rfl hP hD hS hl.1 rfl (Nat.le_of_ble_eq_true rfl) d_Ref_putRight_185 (fun H locs hP hD hS => ?_)
          refine lv_icmp_ne (tgt := 204) hx hb d_Ref_putRight_188 (by decide) (fun hc => ?_) (fun hc => ?_)
          · rw [if_neg hc] at hm
            refine lv_iload hx hb d_Ref_putRight_204 (lv_at hl 2 rfl) ?_
            refine lv_iconst (v := (1 : Int32)) hx hb d_Ref_putRight_206 (by decide) ?_
            refine lv_iadd hx hb d_Ref_putRight_207 ?_
            refine lv_istore (lv' := [(5, .int (x5 + (1 : Int32))), (0, .ref (G 0)), (1, .int x1)]) hx hb d_Ref_putRight_208 hl (by decide) rfl (fun ls hl => ?_)
            refine lv_goto (tgt := 155) hx hb d_Ref_putRight_210 (by decide) ?_
            exact ih u14 (x5 + (1 : Int32)) hm _ _ _ hP hD hS (lv_sub hl [1, 2, 0] rfl)
          · rw [if_pos hc] at hm
            refine lv_aload_n hx hb d_Ref_putRight_191 rfl (lv_at hl 0 rfl) ?_
            refine lv_iload_n hx hb d_Ref_putRight_192 rfl (lv_at hl 1 rfl) ?_
            refine lv_iload hx hb d_Ref_putRight_193 (lv_at hl 2 rfl) ?_
            obtain ⟨r17, u18, h19, hm⟩ := ob_some hm
            refine goVV (As := [.int x1, .int x5]) (rest := []) (b0 := G 0) 0 C0 (k_Ref_drop l D G Y h19) q_717 q_6 q_714 q_716 qs_54 e_Ref_drop (by decide) rfl rfl hP hD hS hl.1 rfl (Nat.le_of_ble_eq_true rfl) d_Ref_putRight_195 (fun H locs hP hD hS => ?_)
            refine lv_iconst (v := (1 : Int32)) hx hb d_Ref_putRight_198 (by decide) ?_
            refine lv_istore (lv' := [(5, .int (1 : Int32)), (0, .ref (G 0)), (1, .int x1)]) hx hb d_Ref_putRight_199 hl (by decide) rfl (fun ls hl => ?_)
            refine lv_goto (tgt := 155) hx hb d_Ref_putRight_201 (by decide) ?_
            exact ih u18 (1 : Int32) hm _ _ _ hP hD hS (lv_sub hl [1, 2, 0] rfl)
  have L14 : ∀ (x1 : Int32) (x3 : Int32) (o : (Unit × SR) ⊕ (Int32 × SR)) (kr : ∀ z, o = .inl z → z = ((), u')) (kx : ∀ (y2 : Int32) (ub : SR), o = .inr (y2, ub) → ∀ (H : Heap) (locs : List Loc) (ls : Array Slot), va_P D clz (wdR G Y ub) H → va_D A (wdR G Y ub) → va_S A s.heap H locs → lv_has ls 7 [(0, .ref (G 0)), (1, .int x1), (2, .int y2)] → W p l e (zRm 4 92) s m ([.ref (G 0), .int a1] : List Value).toArray below meth c H locs 0 0 Z (F0 m 110 ls [])) (n0 : Nat) (ua : SR) (x2 : Int32) (x4 : Int32) (x5 : Int32), m_Ref_putRight_L14 n0 ua x2 x4 x5 x1 x3 = some o → ∀ (H : Heap) (locs : List Loc) (ls : Array Slot), va_P D clz (wdR G Y ua) H → va_D A (wdR G Y ua) → va_S A s.heap H locs → lv_has ls 7 [(0, .ref (G 0)), (1, .int x1), (2, .int x2), (3, .int x3), (4, .int x4), (5, .int x5)] → W p l e (zRm 4 92) s m ([.ref (G 0), .int a1] : List Value).toArray below meth c H locs 0 0 Z (F0 m 14 ls []) := by
    intro x1 x3 o kr kx n0
    induction n0 with
    | zero => intro ua x2 x4 x5 hm; rw [m_Ref_putRight_L14] at hm; cases hm
    | succ n0 ih =>
      intro ua x2 x4 x5 hm H locs ls hP hD hS hl
      rw [m_Ref_putRight_L14] at hm
      refine lv_iload hx hb d_Ref_putRight_14 (lv_at hl 5 rfl) ?_
      refine lv_bipush (v := (6 : Int32)) hx hb d_Ref_putRight_16 (by decide) ?_
      refine lv_icmp_ge (tgt := 110) hx hb d_Ref_putRight_18 (by decide) (fun hc => ?_) (fun hc => ?_)
      · rw [if_pos hc] at hm
        exact kx x2 ua (Option.some.inj hm).symm _ _ _ hP hD hS (lv_sub hl [0, 1, 2] rfl)
      · rw [if_neg hc] at hm
        refine lv_aload_n hx hb d_Ref_putRight_21 rfl (lv_at hl 0 rfl) ?_
        refine lv_iload_n hx hb d_Ref_putRight_22 rfl (lv_at hl 1 rfl) ?_
        refine lv_iload hx hb d_Ref_putRight_23 (lv_at hl 5 rfl) ?_
        obtain ⟨r21, u22, h23, hm⟩ := ob_some hm
        refine goVL (As := [.int x1, .int x5]) (rest := []) (b0 := G 0) 0 C0 (k_Ref_at l D G Y h23) q_621 q_6 q_618 q_620 qs_33 e_Ref_at (by decide) rfl rfl hP hD hS hl.1 rfl (Nat.le_of_ble_eq_true rfl) d_Ref_putRight_25 (fun H locs hP hD hS => ?_)
        refine lv_lconst (v := (0 : Int64)) hx hb d_Ref_putRight_28 (by decide) ?_
        refine W.lcmp hx hb d_Ref_putRight_29 ?_
        refine lv_if_eq (tgt := 61) hx hb d_Ref_putRight_30 (by decide) (fun hc => ?_) (fun hc => ?_)
        · rw [if_pos hc] at hm
          refine lv_iconst (v := (0 : Int32)) hx hb d_Ref_putRight_61 (by decide) ?_
          refine lv_istore (lv' := [(6, .int (0 : Int32)), (0, .ref (G 0)), (1, .int x1), (2, .int x2), (3, .int x3), (4, .int x4), (5, .int x5)]) hx hb d_Ref_putRight_62 hl (by decide) rfl (fun ls hl => ?_)
          refine lv_iload hx hb d_Ref_putRight_64 (lv_at hl 0 rfl) ?_
          refine lv_if_eq (tgt := 78) hx hb d_Ref_putRight_66 (by decide) (fun _ => ?_) (fun hc => absurd hc (by decide))
          refine lv_iload_n hx hb d_Ref_putRight_78 rfl (lv_at hl 3 rfl) ?_
          refine lv_istore_n (lv' := [(2, .int x2), (6, .int (0 : Int32)), (0, .ref (G 0)), (1, .int x1), (3, .int x3), (4, .int x4), (5, .int x5)]) hx hb d_Ref_putRight_79 rfl hl (by decide) rfl (fun ls hl => ?_)
          refine lv_iload hx hb d_Ref_putRight_80 (lv_at hl 5 rfl) ?_
          refine lv_if_ne (tgt := 97) hx hb d_Ref_putRight_82 (by decide) (fun hc => ?_) (fun hc => ?_)
          · rw [if_neg hc] at hm
            refine lv_iconst (v := (1 : Int32)) hx hb d_Ref_putRight_97 (by decide) ?_
            refine lv_goto (tgt := 102) hx hb d_Ref_putRight_98 (by decide) ?_
            refine lv_istore (lv' := [(4, .int (1 : Int32)), (2, .int x2), (6, .int (0 : Int32)), (0, .ref (G 0)), (1, .int x1), (3, .int x3), (5, .int x5)]) hx hb d_Ref_putRight_102 hl (by decide) rfl (fun ls hl => ?_)
            refine lv_iinc (v := (x5 + (1 : Int32))) (lv' := [(5, .int (x5 + (1 : Int32))), (4, .int (1 : Int32)), (2, .int x2), (6, .int (0 : Int32)), (0, .ref (G 0)), (1, .int x1), (3, .int x3)]) hx hb d_Ref_putRight_104 hl (k := 6) rfl rfl (by decide) rfl (fun ls hl => ?_)
            refine lv_goto (tgt := 14) hx hb d_Ref_putRight_107 (by decide) ?_
            exact ih u22 x2 (1 : Int32) (x5 + (1 : Int32)) hm _ _ _ hP hD hS (lv_sub hl [4, 5, 2, 6, 1, 0] rfl)
          · rw [if_pos hc] at hm
            refine lv_aload_n hx hb d_Ref_putRight_85 rfl (lv_at hl 2 rfl) ?_
            refine lv_iload_n hx hb d_Ref_putRight_86 rfl (lv_at hl 3 rfl) ?_
            refine lv_iload hx hb d_Ref_putRight_87 (lv_at hl 6 rfl) ?_
            obtain ⟨r25, u26, h27, hm⟩ := ob_some hm
            refine goVL (As := [.int x1, .int x5]) (rest := []) (b0 := G 0) 0 C0 (k_Ref_at l D G Y h27) q_621 q_6 q_618 q_620 qs_33 e_Ref_at (by decide) rfl rfl hP hD hS hl.1 rfl (Nat.le_of_ble_eq_true rfl) d_Ref_putRight_89 (fun H locs hP hD hS => ?_)
            refine lv_lconst (v := (0 : Int64)) hx hb d_Ref_putRight_92 (by decide) ?_
            refine W.lcmp hx hb d_Ref_putRight_93 ?_
            refine lv_if_ne (tgt := 101) hx hb d_Ref_putRight_94 (by decide) (fun hc => ?_) (fun hc => ?_)
            · rw [if_neg hc] at hm
              refine lv_iconst (v := (0 : Int32)) hx hb d_Ref_putRight_101 (by decide) ?_
              refine lv_istore (lv' := [(4, .int (0 : Int32)), (2, .int x2), (6, .int (0 : Int32)), (0, .ref (G 0)), (1, .int x1), (3, .int x3), (5, .int x5)]) hx hb d_Ref_putRight_102 hl (by decide) rfl (fun ls hl => ?_)
              refine lv_iinc (v := (x5 + (1 : Int32))) (lv' := [(5, .int (x5 + (1 : Int32))), (4, .int (0 : Int32)), (2, .int x2), (6, .int (0 : Int32)), (0, .ref (G 0)), (1, .int x1), (3, .int x3)]) hx hb d_Ref_putRight_104 hl (k := 6) rfl rfl (by decide) rfl (fun ls hl => ?_)
              refine lv_goto (tgt := 14) hx hb d_Ref_putRight_107 (by decide) ?_
              exact ih u26 x2 (0 : Int32) (x5 + (1 : Int32)) hm _ _ _ hP hD hS (lv_sub hl [4, 5, 2, 6, 1, 0] rfl)
            · rw [if_pos hc] at hm
              refine lv_iconst (v := (1 : Int32)) hx hb d_Ref_putRight_97 (by decide) ?_
              refine lv_goto (tgt := 102) hx hb d_Ref_putRight_98 (by decide) ?_
              refine lv_istore (lv' := [(4, .int (1 : Int32)), (2, .int x2), (6, .int (0 : Int32)), (0, .ref (G 0)), (1, .int x1), (3, .int x3), (5, .int x5)]) hx hb d_Ref_putRight_102 hl (by decide) rfl (fun ls hl => ?_)
              refine lv_iinc (v := (x5 + (1 : Int32))) (lv' := [(5, .int (x5 + (1 : Int32))), (4, .int (1 : Int32)), (2, .int x2), (6, .int (0 : Int32)), (0, .ref (G 0)), (1, .int x1), (3, .int x3)]) hx hb d_Ref_putRight_104 hl (k := 6) rfl rfl (by decide) rfl (fun ls hl => ?_)
              refine lv_goto (tgt := 14) hx hb d_Ref_putRight_107 (by decide) ?_
              exact ih u26 x2 (1 : Int32) (x5 + (1 : Int32)) hm _ _ _ hP hD hS (lv_sub hl [4, 5, 2, 6, 1, 0] rfl)
        · rw [if_neg hc] at hm
          refine lv_iload hx hb d_Ref_putRight_33 (lv_at hl 4 rfl) ?_
          refine lv_if_ne (tgt := 57) hx hb d_Ref_putRight_35 (by decide) (fun hc => ?_) (fun hc => ?_)
          · rw [if_neg hc] at hm
            refine lv_iconst (v := (1 : Int32)) hx hb d_Ref_putRight_57 (by decide) ?_
            refine lv_goto (tgt := 62) hx hb d_Ref_putRight_58 (by decide) ?_
            refine lv_istore (lv' := [(6, .int (1 : Int32)), (0, .ref (G 0)), (1, .int x1), (2, .int x2), (3, .int x3), (4, .int x4), (5, .int x5)]) hx hb d_Ref_putRight_62 hl (by decide) rfl (fun ls hl => ?_)
            refine lv_iload hx hb d_Ref_putRight_64 (lv_at hl 0 rfl) ?_
            refine lv_if_eq (tgt := 78) hx hb d_Ref_putRight_66 (by decide) (fun hc => absurd hc (by decide)) (fun _ => ?_)
            refine lv_iload_n hx hb d_Ref_putRight_69 rfl (lv_at hl 3 rfl) ?_
            refine lv_iconst (v := (1 : Int32)) hx hb d_Ref_putRight_70 (by decide) ?_
            refine lv_iload hx hb d_Ref_putRight_71 (lv_at hl 6 rfl) ?_
            refine lv_ishl hx hb d_Ref_putRight_73 ?_
            refine lv_ior hx hb d_Ref_putRight_74 ?_
            refine lv_goto (tgt := 79) hx hb d_Ref_putRight_75 (by decide) ?_
            refine lv_istore_n (lv' := [(2, .int (x2 ||| ((1 : Int32) <<< (x5 &&& 31)))), (6, .int (1 : Int32)), (0, .ref (G 0)), (1, .int x1), (3, .int x3), (4, .int x4), (5, .int x5)]) hx hb d_Ref_putRight_79 rfl hl (by decide) rfl (fun ls hl => ?_)
            refine lv_iload hx hb d_Ref_putRight_80 (lv_at hl 5 rfl) ?_
            refine lv_if_ne (tgt := 97) hx hb d_Ref_putRight_82 (by decide) (fun hc => ?_) (fun hc => ?_)
            · rw [if_neg hc] at hm
              refine lv_iconst (v := (1 : Int32)) hx hb d_Ref_putRight_97 (by decide) ?_
              refine lv_goto (tgt := 102) hx hb d_Ref_putRight_98 (by decide) ?_
              refine lv_istore (lv' := [(4, .int (1 : Int32)), (2, .int (x2 ||| ((1 : Int32) <<< (x5 &&& 31)))), (6, .int (1 : Int32)), (0, .ref (G 0)), (1, .int x1), (3, .int x3), (5, .int x5)]) hx hb d_Ref_putRight_102 hl (by decide) rfl (fun ls hl => ?_)
              refine lv_iinc (v := (x5 + (1 : Int32))) (lv' := [(5, .int (x5 + (1 : Int32))), (4, .int (1 : Int32)), (2, .int (x2 ||| ((1 : Int32) <<< (x5 &&& 31)))), (6, .int (1 : Int32)), (0, .ref (G 0)), (1, .int x1), (3, .int x3)]) hx hb d_Ref_putRight_104 hl (k := 6) rfl rfl (by decide) rfl (fun ls hl => ?_)
              refine lv_goto (tgt := 14) hx hb d_Ref_putRight_107 (by decide) ?_
              exact ih u22 (x2 ||| ((1 : Int32) <<< (x5 &&& 31))) (1 : Int32) (x5 + (1 : Int32)) hm _ _ _ hP hD hS (lv_sub hl [4, 5, 2, 6, 1, 0] rfl)
            · rw [if_pos hc] at hm
              refine lv_aload_n hx hb d_Ref_putRight_85 rfl (lv_at hl 2 rfl) ?_
              refine lv_iload_n hx hb d_Ref_putRight_86 rfl (lv_at hl 3 rfl) ?_
              refine lv_iload hx hb d_Ref_putRight_87 (lv_at hl 6 rfl) ?_
              obtain ⟨r29, u30, h31, hm⟩ := ob_some hm
              refine goVL (As := [.int x1, .int x5]) (rest := []) (b0 := G 0) 0 C0 (k_Ref_at l D G Y h31) q_621 q_6 q_618 q_620 qs_33 e_Ref_at (by decide) rfl rfl hP hD hS hl.1 rfl (Nat.le_of_ble_eq_true rfl) d_Ref_putRight_89 (fun H locs hP hD hS => ?_)
              refine lv_lconst (v := (0 : Int64)) hx hb d_Ref_putRight_92 (by decide) ?_
              refine W.lcmp hx hb d_Ref_putRight_93 ?_
              refine lv_if_ne (tgt := 101) hx hb d_Ref_putRight_94 (by decide) (fun hc => ?_) (fun hc => ?_)
              · rw [if_neg hc] at hm
                refine lv_iconst (v := (0 : Int32)) hx hb d_Ref_putRight_101 (by decide) ?_
                refine lv_istore (lv' := [(4, .int (0 : Int32)), (2, .int (x2 ||| ((1 : Int32) <<< (x5 &&& 31)))), (6, .int (1 : Int32)), (0, .ref (G 0)), (1, .int x1), (3, .int x3), (5, .int x5)]) hx hb d_Ref_putRight_102 hl (by decide) rfl (fun ls hl => ?_)
                refine lv_iinc (v := (x5 + (1 : Int32))) (lv' := [(5, .int (x5 + (1 : Int32))), (4, .int (0 : Int32)), (2, .int (x2 ||| ((1 : Int32) <<< (x5 &&& 31)))), (6, .int (1 : Int32)), (0, .ref (G 0)), (1, .int x1), (3, .int x3)]) hx hb d_Ref_putRight_104 hl (k := 6) rfl rfl (by decide) rfl (fun ls hl => ?_)
                refine lv_goto (tgt := 14) hx hb d_Ref_putRight_107 (by decide) ?_
                exact ih u30 (x2 ||| ((1 : Int32) <<< (x5 &&& 31))) (0 : Int32) (x5 + (1 : Int32)) hm _ _ _ hP hD hS (lv_sub hl [4, 5, 2, 6, 1, 0] rfl)
              · rw [if_pos hc] at hm
                refine lv_iconst (v := (1 : Int32)) hx hb d_Ref_putRight_97 (by decide) ?_
                refine lv_goto (tgt := 102) hx hb d_Ref_putRight_98 (by decide) ?_
                refine lv_istore (lv' := [(4, .int (1 : Int32)), (2, .int (x2 ||| ((1 : Int32) <<< (x5 &&& 31)))), (6, .int (1 : Int32)), (0, .ref (G 0)), (1, .int x1), (3, .int x3), (5, .int x5)]) hx hb d_Ref_putRight_102 hl (by decide) rfl (fun ls hl => ?_)
                refine lv_iinc (v := (x5 + (1 : Int32))) (lv' := [(5, .int (x5 + (1 : Int32))), (4, .int (1 : Int32)), (2, .int (x2 ||| ((1 : Int32) <<< (x5 &&& 31)))), (6, .int (1 : Int32)), (0, .ref (G 0)), (1, .int x1), (3, .int x3)]) hx hb d_Ref_putRight_104 hl (k := 6) rfl rfl (by decide) rfl (fun ls hl => ?_)
                refine lv_goto (tgt := 14) hx hb d_Ref_putRight_107 (by decide) ?_
                exact ih u30 (x2 ||| ((1 : Int32) <<< (x5 &&& 31))) (1 : Int32) (x5 + (1 : Int32)) hm _ _ _ hP hD hS (lv_sub hl [4, 5, 2, 6, 1, 0] rfl)
          · rw [if_pos hc] at hm
            refine lv_iload_n hx hb d_Ref_putRight_38 rfl (lv_at hl 3 rfl) ?_
            refine lv_if_eq (tgt := 61) hx hb d_Ref_putRight_39 (by decide) (fun hc => ?_) (fun hc => ?_)
            · rw [if_pos hc] at hm
              refine lv_iconst (v := (0 : Int32)) hx hb d_Ref_putRight_61 (by decide) ?_
              refine lv_istore (lv' := [(6, .int (0 : Int32)), (0, .ref (G 0)), (1, .int x1), (2, .int x2), (3, .int x3), (4, .int x4), (5, .int x5)]) hx hb d_Ref_putRight_62 hl (by decide) rfl (fun ls hl => ?_)
              refine lv_iload hx hb d_Ref_putRight_64 (lv_at hl 0 rfl) ?_
              refine lv_if_eq (tgt := 78) hx hb d_Ref_putRight_66 (by decide) (fun _ => ?_) (fun hc => absurd hc (by decide))
              refine lv_iload_n hx hb d_Ref_putRight_78 rfl (lv_at hl 3 rfl) ?_
              refine lv_istore_n (lv' := [(2, .int x2), (6, .int (0 : Int32)), (0, .ref (G 0)), (1, .int x1), (3, .int x3), (4, .int x4), (5, .int x5)]) hx hb d_Ref_putRight_79 rfl hl (by decide) rfl (fun ls hl => ?_)
              refine lv_iload hx hb d_Ref_putRight_80 (lv_at hl 5 rfl) ?_
              refine lv_if_ne (tgt := 97) hx hb d_Ref_putRight_82 (by decide) (fun hc => ?_) (fun hc => ?_)
              · rw [if_neg hc] at hm
                refine lv_iconst (v := (1 : Int32)) hx hb d_Ref_putRight_97 (by decide) ?_
                refine lv_goto (tgt := 102) hx hb d_Ref_putRight_98 (by decide) ?_
                refine lv_istore (lv' := [(4, .int (1 : Int32)), (2, .int x2), (6, .int (0 : Int32)), (0, .ref (G 0)), (1, .int x1), (3, .int x3), (5, .int x5)]) hx hb d_Ref_putRight_102 hl (by decide) rfl (fun ls hl => ?_)
                refine lv_iinc (v := (x5 + (1 : Int32))) (lv' := [(5, .int (x5 + (1 : Int32))), (4, .int (1 : Int32)), (2, .int x2), (6, .int (0 : Int32)), (0, .ref (G 0)), (1, .int x1), (3, .int x3)]) hx hb d_Ref_putRight_104 hl (k := 6) rfl rfl (by decide) rfl (fun ls hl => ?_)
                refine lv_goto (tgt := 14) hx hb d_Ref_putRight_107 (by decide) ?_
                exact ih u22 x2 (1 : Int32) (x5 + (1 : Int32)) hm _ _ _ hP hD hS (lv_sub hl [4, 5, 2, 6, 1, 0] rfl)
              · rw [if_pos hc] at hm
                refine lv_aload_n hx hb d_Ref_putRight_85 rfl (lv_at hl 2 rfl) ?_
                refine lv_iload_n hx hb d_Ref_putRight_86 rfl (lv_at hl 3 rfl) ?_
                refine lv_iload hx hb d_Ref_putRight_87 (lv_at hl 6 rfl) ?_
                obtain ⟨r33, u34, h35, hm⟩ := ob_some hm
                refine goVL (As := [.int x1, .int x5]) (rest := []) (b0 := G 0) 0 C0 (k_Ref_at l D G Y h35) q_621 q_6 q_618 q_620 qs_33 e_Ref_at (by decide) rfl rfl hP hD hS hl.1 rfl (Nat.le_of_ble_eq_true rfl) d_Ref_putRight_89 (fun H locs hP hD hS => ?_)
                refine lv_lconst (v := (0 : Int64)) hx hb d_Ref_putRight_92 (by decide) ?_
                refine W.lcmp hx hb d_Ref_putRight_93 ?_
                refine lv_if_ne (tgt := 101) hx hb d_Ref_putRight_94 (by decide) (fun hc => ?_) (fun hc => ?_)
                · rw [if_neg hc] at hm
                  refine lv_iconst (v := (0 : Int32)) hx hb d_Ref_putRight_101 (by decide) ?_
                  refine lv_istore (lv' := [(4, .int (0 : Int32)), (2, .int x2), (6, .int (0 : Int32)), (0, .ref (G 0)), (1, .int x1), (3, .int x3), (5, .int x5)]) hx hb d_Ref_putRight_102 hl (by decide) rfl (fun ls hl => ?_)
                  refine lv_iinc (v := (x5 + (1 : Int32))) (lv' := [(5, .int (x5 + (1 : Int32))), (4, .int (0 : Int32)), (2, .int x2), (6, .int (0 : Int32)), (0, .ref (G 0)), (1, .int x1), (3, .int x3)]) hx hb d_Ref_putRight_104 hl (k := 6) rfl rfl (by decide) rfl (fun ls hl => ?_)
                  refine lv_goto (tgt := 14) hx hb d_Ref_putRight_107 (by decide) ?_
                  exact ih u34 x2 (0 : Int32) (x5 + (1 : Int32)) hm _ _ _ hP hD hS (lv_sub hl [4, 5, 2, 6, 1, 0] rfl)
                · rw [if_pos hc] at hm
                  refine lv_iconst (v := (1 : Int32)) hx hb d_Ref_putRight_97 (by decide) ?_
                  refine lv_goto (tgt := 102) hx hb d_Ref_putRight_98 (by decide) ?_
                  refine lv_istore (lv' := [(4, .int (1 : Int32)), (2, .int x2), (6, .int (0 : Int32)), (0, .ref (G 0)), (1, .int x1), (3, .int x3), (5, .int x5)]) hx hb d_Ref_putRight_102 hl (by decide) rfl (fun ls hl => ?_)
                  refine lv_iinc (v := (x5 + (1 : Int32))) (lv' := [(5, .int (x5 + (1 : Int32))), (4, .int (1 : Int32)), (2, .int x2), (6, .int (0 : Int32)), (0, .ref (G 0)), (1, .int x1), (3, .int x3)]) hx hb d_Ref_putRight_104 hl (k := 6) rfl rfl (by decide) rfl (fun ls hl => ?_)
                  refine lv_goto (tgt := 14) hx hb d_Ref_putRight_107 (by decide) ?_
                  exact ih u34 x2 (1 : Int32) (x5 + (1 : Int32)) hm _ _ _ hP hD hS (lv_sub hl [4, 5, 2, 6, 1, 0] rfl)
            · rw [if_neg hc] at hm
              refine lv_aload_n hx hb d_Ref_putRight_42 rfl (lv_at hl 0 rfl) ?_
              refine lv_iload_n hx hb d_Ref_putRight_43 rfl (lv_at hl 1 rfl) ?_
              refine lv_iload hx hb d_Ref_putRight_44 (lv_at hl 5 rfl) ?_
              obtain ⟨r37, u38, h39, hm⟩ := ob_some hm
              refine goVI (As := [.int x1, .int x5]) (rest := []) (b0 := G 0) 0 C0 (k_Ref_keyAt l D G Y h39) q_666 q_6 q_663 q_665 qs_43 e_Ref_keyAt (by decide) rfl rfl hP hD hS hl.1 rfl (Nat.le_of_ble_eq_true rfl) d_Ref_putRight_46 (fun H locs hP hD hS => ?_)
              refine lv_aload_n hx hb d_Ref_putRight_49 rfl (lv_at hl 0 rfl) ?_
              refine lv_iload_n hx hb d_Ref_putRight_50 rfl (lv_at hl 3 rfl) ?_
              obtain ⟨r41, u42, h43, hm⟩ := ob_some hm
              refine goVI (As := [.int x3]) (rest := [.int r37]) (b0 := G 0) 0 C0 (k_Ref_low l D G Y h43) q_658 q_6 q_655 q_657 qs_41 e_Ref_low (by decide) rfl rfl hP hD hS hl.1 rfl (Nat.le_of_ble_eq_true rfl) d_Ref_putRight_51 (fun H locs hP hD hS => ?_)
              refine lv_icmp_lt (tgt := 61) hx hb d_Ref_putRight_54 (by decide) (fun hc => ?_) (fun hc => ?_)
              · rw [if_pos hc] at hm
                refine lv_iconst (v := (0 : Int32)) hx hb d_Ref_putRight_61 (by decide) ?_
                refine lv_istore (lv' := [(6, .int (0 : Int32)), (0, .ref (G 0)), (1, .int x1), (2, .int x2), (3, .int x3), (4, .int x4), (5, .int x5)]) hx hb d_Ref_putRight_62 hl (by decide) rfl (fun ls hl => ?_)
                refine lv_iload hx hb d_Ref_putRight_64 (lv_at hl 0 rfl) ?_
                refine lv_if_eq (tgt := 78) hx hb d_Ref_putRight_66 (by decide) (fun _ => ?_) (fun hc => absurd hc (by decide))
                refine lv_iload_n hx hb d_Ref_putRight_78 rfl (lv_at hl 3 rfl) ?_
                refine lv_istore_n (lv' := [(2, .int x2), (6, .int (0 : Int32)), (0, .ref (G 0)), (1, .int x1), (3, .int x3), (4, .int x4), (5, .int x5)]) hx hb d_Ref_putRight_79 rfl hl (by decide) rfl (fun ls hl => ?_)
                refine lv_iload hx hb d_Ref_putRight_80 (lv_at hl 5 rfl) ?_
                refine lv_if_ne (tgt := 97) hx hb d_Ref_putRight_82 (by decide) (fun hc => ?_) (fun hc => ?_)
                · rw [if_neg hc] at hm
                  refine lv_iconst (v := (1 : Int32)) hx hb d_Ref_putRight_97 (by decide) ?_
                  refine lv_goto (tgt := 102) hx hb d_Ref_putRight_98 (by decide) ?_
                  refine lv_istore (lv' := [(4, .int (1 : Int32)), (2, .int x2), (6, .int (0 : Int32)), (0, .ref (G 0)), (1, .int x1), (3, .int x3), (5, .int x5)]) hx hb d_Ref_putRight_102 hl (by decide) rfl (fun ls hl => ?_)
                  refine lv_iinc (v := (x5 + (1 : Int32))) (lv' := [(5, .int (x5 + (1 : Int32))), (4, .int (1 : Int32)), (2, .int x2), (6, .int (0 : Int32)), (0, .ref (G 0)), (1, .int x1), (3, .int x3)]) hx hb d_Ref_putRight_104 hl (k := 6) rfl rfl (by decide) rfl (fun ls hl => ?_)
                  refine lv_goto (tgt := 14) hx hb d_Ref_putRight_107 (by decide) ?_
                  exact ih u42 x2 (1 : Int32) (x5 + (1 : Int32)) hm _ _ _ hP hD hS (lv_sub hl [4, 5, 2, 6, 1, 0] rfl)
                · rw [if_pos hc] at hm
                  refine lv_aload_n hx hb d_Ref_putRight_85 rfl (lv_at hl 2 rfl) ?_
                  refine lv_iload_n hx hb d_Ref_putRight_86 rfl (lv_at hl 3 rfl) ?_
                  refine lv_iload hx hb d_Ref_putRight_87 (lv_at hl 6 rfl) ?_
                  obtain ⟨r45, u46, h47, hm⟩ := ob_some hm
                  refine goVL (As := [.int x1, .int x5]) (rest := []) (b0 := G 0) 0 C0 (k_Ref_at l D G Y h47) q_621 q_6 q_618 q_620 qs_33 e_Ref_at (by decide) rfl rfl hP hD hS hl.1 rfl (Nat.le_of_ble_eq_true rfl) d_Ref_putRight_89 (fun H locs hP hD hS => ?_)
                  refine lv_lconst (v := (0 : Int64)) hx hb d_Ref_putRight_92 (by decide) ?_
                  refine W.lcmp hx hb d_Ref_putRight_93 ?_
                  refine lv_if_ne (tgt := 101) hx hb d_Ref_putRight_94 (by decide) (fun hc => ?_) (fun hc => ?_)
                  · rw [if_neg hc] at hm
                    refine lv_iconst (v := (0 : Int32)) hx hb d_Ref_putRight_101 (by decide) ?_
                    refine lv_istore (lv' := [(4, .int (0 : Int32)), (2, .int x2), (6, .int (0 : Int32)), (0, .ref (G 0)), (1, .int x1), (3, .int x3), (5, .int x5)]) hx hb d_Ref_putRight_102 hl (by decide) rfl (fun ls hl => ?_)
                    refine lv_iinc (v := (x5 + (1 : Int32))) (lv' := [(5, .int (x5 + (1 : Int32))), (4, .int (0 : Int32)), (2, .int x2), (6, .int (0 : Int32)), (0, .ref (G 0)), (1, .int x1), (3, .int x3)]) hx hb d_Ref_putRight_104 hl (k := 6) rfl rfl (by decide) rfl (fun ls hl => ?_)
                    refine lv_goto (tgt := 14) hx hb d_Ref_putRight_107 (by decide) ?_
                    exact ih u46 x2 (0 : Int32) (x5 + (1 : Int32)) hm _ _ _ hP hD hS (lv_sub hl [4, 5, 2, 6, 1, 0] rfl)
                  · rw [if_pos hc] at hm
                    refine lv_iconst (v := (1 : Int32)) hx hb d_Ref_putRight_97 (by decide) ?_
                    refine lv_goto (tgt := 102) hx hb d_Ref_putRight_98 (by decide) ?_
                    refine lv_istore (lv' := [(4, .int (1 : Int32)), (2, .int x2), (6, .int (0 : Int32)), (0, .ref (G 0)), (1, .int x1), (3, .int x3), (5, .int x5)]) hx hb d_Ref_putRight_102 hl (by decide) rfl (fun ls hl => ?_)
                    refine lv_iinc (v := (x5 + (1 : Int32))) (lv' := [(5, .int (x5 + (1 : Int32))), (4, .int (1 : Int32)), (2, .int x2), (6, .int (0 : Int32)), (0, .ref (G 0)), (1, .int x1), (3, .int x3)]) hx hb d_Ref_putRight_104 hl (k := 6) rfl rfl (by decide) rfl (fun ls hl => ?_)
                    refine lv_goto (tgt := 14) hx hb d_Ref_putRight_107 (by decide) ?_
                    exact ih u46 x2 (1 : Int32) (x5 + (1 : Int32)) hm _ _ _ hP hD hS (lv_sub hl [4, 5, 2, 6, 1, 0] rfl)
              · rw [if_neg hc] at hm
                refine lv_iconst (v := (1 : Int32)) hx hb d_Ref_putRight_57 (by decide) ?_
                refine lv_goto (tgt := 62) hx hb d_Ref_putRight_58 (by decide) ?_
                refine lv_istore (lv' := [(6, .int (1 : Int32)), (0, .ref (G 0)), (1, .int x1), (2, .int x2), (3, .int x3), (4, .int x4), (5, .int x5)]) hx hb d_Ref_putRight_62 hl (by decide) rfl (fun ls hl => ?_)
                refine lv_iload hx hb d_Ref_putRight_64 (lv_at hl 0 rfl) ?_
                refine lv_if_eq (tgt := 78) hx hb d_Ref_putRight_66 (by decide) (fun hc => absurd hc (by decide)) (fun _ => ?_)
                refine lv_iload_n hx hb d_Ref_putRight_69 rfl (lv_at hl 3 rfl) ?_
                refine lv_iconst (v := (1 : Int32)) hx hb d_Ref_putRight_70 (by decide) ?_
                refine lv_iload hx hb d_Ref_putRight_71 (lv_at hl 6 rfl) ?_
                refine lv_ishl hx hb d_Ref_putRight_73 ?_
                refine lv_ior hx hb d_Ref_putRight_74 ?_
                refine lv_goto (tgt := 79) hx hb d_Ref_putRight_75 (by decide) ?_
                refine lv_istore_n (lv' := [(2, .int (x2 ||| ((1 : Int32) <<< (x5 &&& 31)))), (6, .int (1 : Int32)), (0, .ref (G 0)), (1, .int x1), (3, .int x3), (4, .int x4), (5, .int x5)]) hx hb d_Ref_putRight_79 rfl hl (by decide) rfl (fun ls hl => ?_)
                refine lv_iload hx hb d_Ref_putRight_80 (lv_at hl 5 rfl) ?_
                refine lv_if_ne (tgt := 97) hx hb d_Ref_putRight_82 (by decide) (fun hc => ?_) (fun hc => ?_)
                · rw [if_neg hc] at hm
                  refine lv_iconst (v := (1 : Int32)) hx hb d_Ref_putRight_97 (by decide) ?_
                  refine lv_goto (tgt := 102) hx hb d_Ref_putRight_98 (by decide) ?_
                  refine lv_istore (lv' := [(4, .int (1 : Int32)), (2, .int (x2 ||| ((1 : Int32) <<< (x5 &&& 31)))), (6, .int (1 : Int32)), (0, .ref (G 0)), (1, .int x1), (3, .int x3), (5, .int x5)]) hx hb d_Ref_putRight_102 hl (by decide) rfl (fun ls hl => ?_)
                  refine lv_iinc (v := (x5 + (1 : Int32))) (lv' := [(5, .int (x5 + (1 : Int32))), (4, .int (1 : Int32)), (2, .int (x2 ||| ((1 : Int32) <<< (x5 &&& 31)))), (6, .int (1 : Int32)), (0, .ref (G 0)), (1, .int x1), (3, .int x3)]) hx hb d_Ref_putRight_104 hl (k := 6) rfl rfl (by decide) rfl (fun ls hl => ?_)
                  refine lv_goto (tgt := 14) hx hb d_Ref_putRight_107 (by decide) ?_
                  exact ih u42 (x2 ||| ((1 : Int32) <<< (x5 &&& 31))) (1 : Int32) (x5 + (1 : Int32)) hm _ _ _ hP hD hS (lv_sub hl [4, 5, 2, 6, 1, 0] rfl)
                · rw [if_pos hc] at hm
                  refine lv_aload_n hx hb d_Ref_putRight_85 rfl (lv_at hl 2 rfl) ?_
                  refine lv_iload_n hx hb d_Ref_putRight_86 rfl (lv_at hl 3 rfl) ?_
                  refine lv_iload hx hb d_Ref_putRight_87 (lv_at hl 6 rfl) ?_
                  obtain ⟨r49, u50, h51, hm⟩ := ob_some hm
                  refine goVL (As := [.int x1, .int x5]) (rest := []) (b0 := G 0) 0 C0 (k_Ref_at l D G Y h51) q_621 q_6 q_618 q_620 qs_33 e_Ref_at (by decide) rfl rfl hP hD hS hl.1 rfl (Nat.le_of_ble_eq_true rfl) d_Ref_putRight_89 (fun H locs hP hD hS => ?_)
                  refine lv_lconst (v := (0 : Int64)) hx hb d_Ref_putRight_92 (by decide) ?_
                  refine W.lcmp hx hb d_Ref_putRight_93 ?_
                  refine lv_if_ne (tgt := 101) hx hb d_Ref_putRight_94 (by decide) (fun hc => ?_) (fun hc => ?_)
                  · rw [if_neg hc] at hm
                    refine lv_iconst (v := (0 : Int32)) hx hb d_Ref_putRight_101 (by decide) ?_
                    refine lv_istore (lv' := [(4, .int (0 : Int32)), (2, .int (x2 ||| ((1 : Int32) <<< (x5 &&& 31)))), (6, .int (1 : Int32)), (0, .ref (G 0)), (1, .int x1), (3, .int x3), (5, .int x5)]) hx hb d_Ref_putRight_102 hl (by decide) rfl (fun ls hl => ?_)
                    refine lv_iinc (v := (x5 + (1 : Int32))) (lv' := [(5, .int (x5 + (1 : Int32))), (4, .int (0 : Int32)), (2, .int (x2 ||| ((1 : Int32) <<< (x5 &&& 31)))), (6, .int (1 : Int32)), (0, .ref (G 0)), (1, .int x1), (3, .int x3)]) hx hb d_Ref_putRight_104 hl (k := 6) rfl rfl (by decide) rfl (fun ls hl => ?_)
                    refine lv_goto (tgt := 14) hx hb d_Ref_putRight_107 (by decide) ?_
                    exact ih u50 (x2 ||| ((1 : Int32) <<< (x5 &&& 31))) (0 : Int32) (x5 + (1 : Int32)) hm _ _ _ hP hD hS (lv_sub hl [4, 5, 2, 6, 1, 0] rfl)
                  · rw [if_pos hc] at hm
                    refine lv_iconst (v := (1 : Int32)) hx hb d_Ref_putRight_97 (by decide) ?_
                    refine lv_goto (tgt := 102) hx hb d_Ref_putRight_98 (by decide) ?_
                    refine lv_istore (lv' := [(4, .int (1 : Int32)), (2, .int (x2 ||| ((1 : Int32) <<< (x5 &&& 31)))), (6, .int (1 : Int32)), (0, .ref (G 0)), (1, .int x1), (3, .int x3), (5, .int x5)]) hx hb d_Ref_putRight_102 hl (by decide) rfl (fun ls hl => ?_)
                    refine lv_iinc (v := (x5 + (1 : Int32))) (lv' := [(5, .int (x5 + (1 : Int32))), (4, .int (1 : Int32)), (2, .int (x2 ||| ((1 : Int32) <<< (x5 &&& 31)))), (6, .int (1 : Int32)), (0, .ref (G 0)), (1, .int x1), (3, .int x3)]) hx hb d_Ref_putRight_104 hl (k := 6) rfl rfl (by decide) rfl (fun ls hl => ?_)
                    refine lv_goto (tgt := 14) hx hb d_Ref_putRight_107 (by decide) ?_
                    exact ih u50 (x2 ||| ((1 : Int32) <<< (x5 &&& 31))) (1 : Int32) (x5 + (1 : Int32)) hm _ _ _ hP hD hS (lv_sub hl [4, 5, 2, 6, 1, 0] rfl)
  rw [m_Ref_putRight] at hm
  refine lv_iconst (v := (0 : Int32)) hx hb d_Ref_putRight_0 (by decide) ?_
  refine lv_istore_n (lv' := [(2, .int (0 : Int32)), (0, .ref (G 0)), (1, .int a1)]) hx hb d_Ref_putRight_1 rfl hl (by decide) rfl (fun ls hl => ?_)
  refine lv_aload_n hx hb d_Ref_putRight_2 rfl (lv_at hl 1 rfl) ?_
  refine lv_iload_n hx hb d_Ref_putRight_3 rfl (lv_at hl 2 rfl) ?_
  obtain ⟨r53, u54, h55, hm⟩ := ob_some hm
  refine goVI (As := [.int a1]) (rest := []) (b0 := G 0) 0 C0 (k_Ref_next l D G Y h55) q_609 q_6 q_606 q_608 qs_30 e_Ref_next (by decide) rfl rfl hP hD hS hl.1 rfl (Nat.le_of_ble_eq_true rfl) d_Ref_putRight_4 (fun H locs hP hD hS => ?_)
  refine lv_istore_n (lv' := [(3, .int r53), (2, .int (0 : Int32)), (0, .ref (G 0)), (1, .int a1)]) hx hb d_Ref_putRight_7 rfl hl (by decide) rfl (fun ls hl => ?_)
  refine lv_iconst (v := (0 : Int32)) hx hb d_Ref_putRight_8 (by decide) ?_
  refine lv_istore (lv' := [(4, .int (0 : Int32)), (3, .int r53), (2, .int (0 : Int32)), (0, .ref (G 0)), (1, .int a1)]) hx hb d_Ref_putRight_9 hl (by decide) rfl (fun ls hl => ?_)
  refine lv_iconst (v := (0 : Int32)) hx hb d_Ref_putRight_11 (by decide) ?_
  refine lv_istore (lv' := [(5, .int (0 : Int32)), (4, .int (0 : Int32)), (3, .int r53), (2, .int (0 : Int32)), (0, .ref (G 0)), (1, .int a1)]) hx hb d_Ref_putRight_12 hl (by decide) rfl (fun ls hl => ?_)
  obtain ⟨qq, hq, hi, ho⟩ := ol1_some hm
  refine L14 a1 r53 qq (fun z hz => hi z hz) (fun x57 u58 hz H locs ls hP hD hS hl => ?_) fz u54 (0 : Int32) (0 : Int32) (0 : Int32) hq _ _ _ hP hD hS (lv_sub hl [4, 5, 3, 2, 1, 0] rfl)
  have hm := ho x57 u58 hz
  refine lv_iconst (v := (5 : Int32)) hx hb d_Ref_putRight_110 (by decide) ?_
  refine lv_istore (lv' := [(5, .int (5 : Int32)), (0, .ref (G 0)), (1, .int a1), (2, .int x57)]) hx hb d_Ref_putRight_111 hl (by decide) rfl (fun ls hl => ?_)
  obtain ⟨qq, hq, hi, ho⟩ := ol0_some hm
  refine L113 a1 x57 qq (fun z hz => hi z hz) (fun  u59 hz H locs ls hP hD hS hl => ?_) fz u58 (5 : Int32) hq _ _ _ hP hD hS (lv_sub hl [1, 2, 3, 0] rfl)
  have hm := ho  u59 hz
  refine lv_aload_n hx hb d_Ref_putRight_148 rfl (lv_at hl 0 rfl) ?_
  obtain ⟨r60, u61, h62, hm⟩ := ob_some hm
  refine goVV (As := []) (rest := []) (b0 := G 0) 0 C0 (k_Ref_fence l D G Y h62) q_646 q_6 q_643 q_645 qs_38 e_Ref_fence (by decide) rfl rfl hP hD hS hl.1 rfl (Nat.le_of_ble_eq_true rfl) d_Ref_putRight_149 (fun H locs hP hD hS => ?_)
  refine lv_iconst (v := (1 : Int32)) hx hb d_Ref_putRight_152 (by decide) ?_
  refine lv_istore (lv' := [(5, .int (1 : Int32)), (0, .ref (G 0)), (1, .int a1)]) hx hb d_Ref_putRight_153 hl (by decide) rfl (fun ls hl => ?_)
  obtain ⟨qq, hq, hi, ho⟩ := ol0_some hm
  refine L155 a1 qq (fun z hz => hi z hz) (fun  u64 hz H locs ls hP hD hS hl => ?_) fz u61 (1 : Int32) hq _ _ _ hP hD hS (lv_sub hl [1, 2, 0] rfl)
  have hm := ho  u64 hz
  exact hret _ _ _ _ () u64 (Option.some.inj hm) hP hD hS d_Ref_putRight_213
theorem d_Ref_isValue_0 : decode b_Ref_isValue 0 = .ok (.aload_n 0, 1) := by decide +kernel
theorem d_Ref_isValue_1 : decode b_Ref_isValue 1 = .ok (.aload_n 0, 1) := by decide +kernel
theorem d_Ref_isValue_2 : decode b_Ref_isValue 2 = .ok (.invokevirtual 72, 3) := by decide +kernel
theorem d_Ref_isValue_5 : decode b_Ref_isValue 5 = .ok (.invokevirtual 84, 3) := by decide +kernel
theorem d_Ref_isValue_8 : decode b_Ref_isValue 8 = .ok (.iload_n 2, 1) := by decide +kernel
theorem d_Ref_isValue_9 : decode b_Ref_isValue 9 = .ok (.if_icmp .ge 5, 3) := by decide +kernel
theorem d_Ref_isValue_12 : decode b_Ref_isValue 12 = .ok (.iconst 0, 1) := by decide +kernel
theorem d_Ref_isValue_13 : decode b_Ref_isValue 13 = .ok (.ireturn, 1) := by decide +kernel
theorem d_Ref_isValue_14 : decode b_Ref_isValue 14 = .ok (.iconst 0, 1) := by decide +kernel
theorem d_Ref_isValue_15 : decode b_Ref_isValue 15 = .ok (.istore_n 3, 1) := by decide +kernel
theorem d_Ref_isValue_16 : decode b_Ref_isValue 16 = .ok (.aload_n 0, 1) := by decide +kernel
theorem d_Ref_isValue_17 : decode b_Ref_isValue 17 = .ok (.iload_n 2, 1) := by decide +kernel
theorem d_Ref_isValue_18 : decode b_Ref_isValue 18 = .ok (.invokevirtual 167, 3) := by decide +kernel
theorem d_Ref_isValue_21 : decode b_Ref_isValue 21 = .ok (.istore 4, 2) := by decide +kernel
theorem d_Ref_isValue_23 : decode b_Ref_isValue 23 = .ok (.iload 4, 2) := by decide +kernel
theorem d_Ref_isValue_25 : decode b_Ref_isValue 25 = .ok (.ifCond .eq 56, 3) := by decide +kernel
theorem d_Ref_isValue_28 : decode b_Ref_isValue 28 = .ok (.iconst 0, 1) := by decide +kernel
theorem d_Ref_isValue_29 : decode b_Ref_isValue 29 = .ok (.istore 5, 2) := by decide +kernel
theorem d_Ref_isValue_31 : decode b_Ref_isValue 31 = .ok (.iload 5, 2) := by decide +kernel
theorem d_Ref_isValue_33 : decode b_Ref_isValue 33 = .ok (.aload_n 0, 1) := by decide +kernel
theorem d_Ref_isValue_34 : decode b_Ref_isValue 34 = .ok (.iload 4, 2) := by decide +kernel
theorem d_Ref_isValue_36 : decode b_Ref_isValue 36 = .ok (.invokevirtual 87, 3) := by decide +kernel
theorem d_Ref_isValue_39 : decode b_Ref_isValue 39 = .ok (.if_icmp .ge 31, 3) := by decide +kernel
theorem d_Ref_isValue_42 : decode b_Ref_isValue 42 = .ok (.iload_n 3, 1) := by decide +kernel
theorem d_Ref_isValue_43 : decode b_Ref_isValue 43 = .ok (.ifCond .ne 15, 3) := by decide +kernel
theorem d_Ref_isValue_46 : decode b_Ref_isValue 46 = .ok (.aload_n 0, 1) := by decide +kernel
theorem d_Ref_isValue_47 : decode b_Ref_isValue 47 = .ok (.iload 4, 2) := by decide +kernel
theorem d_Ref_isValue_49 : decode b_Ref_isValue 49 = .ok (.iload 5, 2) := by decide +kernel
theorem d_Ref_isValue_51 : decode b_Ref_isValue 51 = .ok (.invokevirtual 90, 3) := by decide +kernel
theorem d_Ref_isValue_54 : decode b_Ref_isValue 54 = .ok (.iload_n 1, 1) := by decide +kernel
theorem d_Ref_isValue_55 : decode b_Ref_isValue 55 = .ok (.if_icmp .ne 7, 3) := by decide +kernel
theorem d_Ref_isValue_58 : decode b_Ref_isValue 58 = .ok (.iconst 1, 1) := by decide +kernel
theorem d_Ref_isValue_59 : decode b_Ref_isValue 59 = .ok (.goto 4, 3) := by decide +kernel
theorem d_Ref_isValue_62 : decode b_Ref_isValue 62 = .ok (.iconst 0, 1) := by decide +kernel
theorem d_Ref_isValue_63 : decode b_Ref_isValue 63 = .ok (.istore_n 3, 1) := by decide +kernel
theorem d_Ref_isValue_64 : decode b_Ref_isValue 64 = .ok (.iinc 5 1, 3) := by decide +kernel
theorem d_Ref_isValue_67 : decode b_Ref_isValue 67 = .ok (.goto (-36), 3) := by decide +kernel
theorem d_Ref_isValue_70 : decode b_Ref_isValue 70 = .ok (.aload_n 0, 1) := by decide +kernel
theorem d_Ref_isValue_71 : decode b_Ref_isValue 71 = .ok (.iload 4, 2) := by decide +kernel
theorem d_Ref_isValue_73 : decode b_Ref_isValue 73 = .ok (.invokevirtual 80, 3) := by decide +kernel
theorem d_Ref_isValue_76 : decode b_Ref_isValue 76 = .ok (.istore 4, 2) := by decide +kernel
theorem d_Ref_isValue_78 : decode b_Ref_isValue 78 = .ok (.goto (-55), 3) := by decide +kernel
theorem d_Ref_isValue_81 : decode b_Ref_isValue 81 = .ok (.iload_n 3, 1) := by decide +kernel
theorem d_Ref_isValue_82 : decode b_Ref_isValue 82 = .ok (.ireturn, 1) := by decide +kernel
set_option maxRecDepth 100000 in
set_option maxHeartbeats 4000000 in
theorem k_Ref_isValue (l : Launch) (D : va_G) (G : Nat → Nat) (Y : Nat → ClassId) {u : SR} {a1 : Int32} {a2 : Int32} {r : Int32} {u' : SR} (hm : m_Ref_isValue u a1 a2 = some (r, u')) : KZ l D clz (tyz Y) (wdR G Y) y_Ref_isValue b_Ref_isValue 6 (some .boolean) 3 66 [.ref (G 0), .int a1, .int a2] u r u' := by
  refine mkZ (by decide) (Nat.le_of_ble_eq_true rfl) ?_
  intro p e s m below meth c A Z ls C0 hP hD hS hl hret
  obtain ⟨hx, hb, hml, hown, hts, hK, hN, hA⟩ := id C0
  have hl : lv_has ls 6 [(0, .ref (G 0)), (1, .int a1), (2, .int a2)] := hl
  have L31 : ∀ (x1 : Int32) (x4 : Int32) (o : (Int32 × SR) ⊕ (Int32 × SR)) (kr : ∀ z, o = .inl z → z = (r, u')) (kx : ∀ (y3 : Int32) (ub : SR), o = .inr (y3, ub) → ∀ (H : Heap) (locs : List Loc) (ls : Array Slot), va_P D clz (wdR G Y ub) H → va_D A (wdR G Y ub) → va_S A s.heap H locs → lv_has ls 6 [(0, .ref (G 0)), (1, .int x1), (3, .int y3), (4, .int x4)] → W p l e (zRm 3 66) s m ([.ref (G 0), .int a1, .int a2] : List Value).toArray below meth c H locs 0 0 Z (F0 m 70 ls [])) (n0 : Nat) (ua : SR) (x3 : Int32) (x5 : Int32), m_Ref_isValue_L31 n0 ua x3 x5 x1 x4 = some o → ∀ (H : Heap) (locs : List Loc) (ls : Array Slot), va_P D clz (wdR G Y ua) H → va_D A (wdR G Y ua) → va_S A s.heap H locs → lv_has ls 6 [(0, .ref (G 0)), (1, .int x1), (3, .int x3), (4, .int x4), (5, .int x5)] → W p l e (zRm 3 66) s m ([.ref (G 0), .int a1, .int a2] : List Value).toArray below meth c H locs 0 0 Z (F0 m 31 ls []) := by
    intro x1 x4 o kr kx n0
    induction n0 with
    | zero => intro ua x3 x5 hm; rw [m_Ref_isValue_L31] at hm; cases hm
    | succ n0 ih =>
      intro ua x3 x5 hm H locs ls hP hD hS hl
      rw [m_Ref_isValue_L31] at hm
      refine lv_iload hx hb d_Ref_isValue_31 (lv_at hl 4 rfl) ?_
      refine lv_aload_n hx hb d_Ref_isValue_33 rfl (lv_at hl 0 rfl) ?_
      refine lv_iload hx hb d_Ref_isValue_34 (lv_at hl 3 rfl) ?_
      obtain ⟨r1, u2, h3, hm⟩ := ob_some hm
      refine goVI (As := [.int x4]) (rest := [.int x5]) (b0 := G 0) 0 C0 (k_Ref_length l D G Y h3) q_617 q_6 q_614 q_616 qs_32 e_Ref_length (by decide) rfl rfl hP hD hS hl.1 rfl (Nat.le_of_ble_eq_true rfl) d_Ref_isValue_36 (fun H locs hP hD hS => ?_)
      refine lv_icmp_ge (tgt := 70) hx hb d_Ref_isValue_39 (by decide) (fun hc => ?_) (fun hc => ?_)
      · rw [if_pos hc] at hm
        exact kx x3 u2 (Option.some.inj hm).symm _ _ _ hP hD hS (lv_sub hl [0, 1, 2, 3] rfl)
      · rw [if_neg hc] at hm
        refine lv_iload_n hx hb d_Ref_isValue_42 rfl (lv_at hl 2 rfl) ?_
        refine lv_if_ne (tgt := 58) hx hb d_Ref_isValue_43 (by decide) (fun hc => ?_) (fun hc => ?_)
        · rw [if_neg hc] at hm
          refine lv_iconst (v := (1 : Int32)) hx hb d_Ref_isValue_58 (by decide) ?_
          refine lv_goto (tgt := 63) hx hb d_Ref_isValue_59 (by decide) ?_
          refine lv_istore_n (lv' := [(3, .int (1 : Int32)), (0, .ref (G 0)), (1, .int x1), (4, .int x4), (5, .int x5)]) hx hb d_Ref_isValue_63 rfl hl (by decide) rfl (fun ls hl => ?_)
          refine lv_iinc (v := (x5 + (1 : Int32))) (lv' := [(5, .int (x5 + (1 : Int32))), (3, .int (1 : Int32)), (0, .ref (G 0)), (1, .int x1), (4, .int x4)]) hx hb d_Ref_isValue_64 hl (k := 4) rfl rfl (by decide) rfl (fun ls hl => ?_)
          refine lv_goto (tgt := 31) hx hb d_Ref_isValue_67 (by decide) ?_
          exact ih u2 (1 : Int32) (x5 + (1 : Int32)) hm _ _ _ hP hD hS (lv_sub hl [2, 3, 1, 4, 0] rfl)
        · rw [if_pos hc] at hm
          refine lv_aload_n hx hb d_Ref_isValue_46 rfl (lv_at hl 0 rfl) ?_
          refine lv_iload hx hb d_Ref_isValue_47 (lv_at hl 3 rfl) ?_
          refine lv_iload hx hb d_Ref_isValue_49 (lv_at hl 4 rfl) ?_
          obtain ⟨r5, u6, h7, hm⟩ := ob_some hm
          refine goVI (As := [.int x4, .int x5]) (rest := []) (b0 := G 0) 0 C0 (k_Ref_blockAt l D G Y h7) q_625 q_6 q_622 q_624 qs_34 e_Ref_blockAt (by decide) rfl rfl hP hD hS hl.1 rfl (Nat.le_of_ble_eq_true rfl) d_Ref_isValue_51 (fun H locs hP hD hS => ?_)
          refine lv_iload_n hx hb d_Ref_isValue_54 rfl (lv_at hl 1 rfl) ?_
          refine lv_icmp_ne (tgt := 62) hx hb d_Ref_isValue_55 (by decide) (fun hc => ?_) (fun hc => ?_)
          · rw [if_neg hc] at hm
            refine lv_iconst (v := (0 : Int32)) hx hb d_Ref_isValue_62 (by decide) ?_
            refine lv_istore_n (lv' := [(3, .int (0 : Int32)), (0, .ref (G 0)), (1, .int x1), (4, .int x4), (5, .int x5)]) hx hb d_Ref_isValue_63 rfl hl (by decide) rfl (fun ls hl => ?_)
            refine lv_iinc (v := (x5 + (1 : Int32))) (lv' := [(5, .int (x5 + (1 : Int32))), (3, .int (0 : Int32)), (0, .ref (G 0)), (1, .int x1), (4, .int x4)]) hx hb d_Ref_isValue_64 hl (k := 4) rfl rfl (by decide) rfl (fun ls hl => ?_)
            refine lv_goto (tgt := 31) hx hb d_Ref_isValue_67 (by decide) ?_
            exact ih u6 (0 : Int32) (x5 + (1 : Int32)) hm _ _ _ hP hD hS (lv_sub hl [2, 3, 1, 4, 0] rfl)
          · rw [if_pos hc] at hm
            refine lv_iconst (v := (1 : Int32)) hx hb d_Ref_isValue_58 (by decide) ?_
            refine lv_goto (tgt := 63) hx hb d_Ref_isValue_59 (by decide) ?_
            refine lv_istore_n (lv' := [(3, .int (1 : Int32)), (0, .ref (G 0)), (1, .int x1), (4, .int x4), (5, .int x5)]) hx hb d_Ref_isValue_63 rfl hl (by decide) rfl (fun ls hl => ?_)
            refine lv_iinc (v := (x5 + (1 : Int32))) (lv' := [(5, .int (x5 + (1 : Int32))), (3, .int (1 : Int32)), (0, .ref (G 0)), (1, .int x1), (4, .int x4)]) hx hb d_Ref_isValue_64 hl (k := 4) rfl rfl (by decide) rfl (fun ls hl => ?_)
            refine lv_goto (tgt := 31) hx hb d_Ref_isValue_67 (by decide) ?_
            exact ih u6 (1 : Int32) (x5 + (1 : Int32)) hm _ _ _ hP hD hS (lv_sub hl [2, 3, 1, 4, 0] rfl)
  have L23 : ∀ (x1 : Int32) (o : (Int32 × SR) ⊕ (Int32 × SR)) (kr : ∀ z, o = .inl z → z = (r, u')) (kx : ∀ (y3 : Int32) (ub : SR), o = .inr (y3, ub) → ∀ (H : Heap) (locs : List Loc) (ls : Array Slot), va_P D clz (wdR G Y ub) H → va_D A (wdR G Y ub) → va_S A s.heap H locs → lv_has ls 6 [(3, .int y3)] → W p l e (zRm 3 66) s m ([.ref (G 0), .int a1, .int a2] : List Value).toArray below meth c H locs 0 0 Z (F0 m 81 ls [])) (n0 : Nat) (ua : SR) (x3 : Int32) (x4 : Int32), m_Ref_isValue_L23 n0 ua x3 x4 x1 = some o → ∀ (H : Heap) (locs : List Loc) (ls : Array Slot), va_P D clz (wdR G Y ua) H → va_D A (wdR G Y ua) → va_S A s.heap H locs → lv_has ls 6 [(0, .ref (G 0)), (1, .int x1), (3, .int x3), (4, .int x4)] → W p l e (zRm 3 66) s m ([.ref (G 0), .int a1, .int a2] : List Value).toArray below meth c H locs 0 0 Z (F0 m 23 ls []) := by
    intro x1 o kr kx n0
    induction n0 with
    | zero => intro ua x3 x4 hm; rw [m_Ref_isValue_L23] at hm; cases hm
    | succ n0 ih =>
      intro ua x3 x4 hm H locs ls hP hD hS hl
      rw [m_Ref_isValue_L23] at hm
      refine lv_iload hx hb d_Ref_isValue_23 (lv_at hl 3 rfl) ?_
      refine lv_if_eq (tgt := 81) hx hb d_Ref_isValue_25 (by decide) (fun hc => ?_) (fun hc => ?_)
      · rw [if_pos hc] at hm
        exact kx x3 ua (Option.some.inj hm).symm _ _ _ hP hD hS (lv_sub hl [2] rfl)
      · rw [if_neg hc] at hm
        refine lv_iconst (v := (0 : Int32)) hx hb d_Ref_isValue_28 (by decide) ?_
        refine lv_istore (lv' := [(5, .int (0 : Int32)), (0, .ref (G 0)), (1, .int x1), (3, .int x3), (4, .int x4)]) hx hb d_Ref_isValue_29 hl (by decide) rfl (fun ls hl => ?_)
        obtain ⟨qq, hq, hi, ho⟩ := ol1_some hm
        refine L31 x1 x4 qq (fun z hz => kr z (hi z hz).symm) (fun x9 u10 hz H locs ls hP hD hS hl => ?_) fz ua x3 (0 : Int32) hq _ _ _ hP hD hS (lv_sub hl [1, 2, 3, 4, 0] rfl)
        have hm := ho x9 u10 hz
        refine lv_aload_n hx hb d_Ref_isValue_70 rfl (lv_at hl 0 rfl) ?_
        refine lv_iload hx hb d_Ref_isValue_71 (lv_at hl 3 rfl) ?_
        obtain ⟨r11, u12, h13, hm⟩ := ob_some hm
        refine goVI (As := [.int x4]) (rest := []) (b0 := G 0) 0 C0 (k_Ref_next l D G Y h13) q_609 q_6 q_606 q_608 qs_30 e_Ref_next (by decide) rfl rfl hP hD hS hl.1 rfl (Nat.le_of_ble_eq_true rfl) d_Ref_isValue_73 (fun H locs hP hD hS => ?_)
        refine lv_istore (lv' := [(4, .int r11), (0, .ref (G 0)), (1, .int x1), (3, .int x9)]) hx hb d_Ref_isValue_76 hl (by decide) rfl (fun ls hl => ?_)
        refine lv_goto (tgt := 23) hx hb d_Ref_isValue_78 (by decide) ?_
        exact ih u12 x9 r11 hm _ _ _ hP hD hS (lv_sub hl [1, 2, 3, 0] rfl)
  rw [m_Ref_isValue] at hm
  refine lv_aload_n hx hb d_Ref_isValue_0 rfl (lv_at hl 0 rfl) ?_
  refine lv_aload_n hx hb d_Ref_isValue_1 rfl (lv_at hl 0 rfl) ?_
  obtain ⟨r15, u16, h17, hm⟩ := ob_some hm
  refine goVI (As := []) (rest := [.ref (G 0)]) (b0 := G 0) 0 C0 (k_Ref_root l D G Y h17) q_593 q_6 q_590 q_592 qs_26 e_Ref_root (by decide) rfl rfl hP hD hS hl.1 rfl (Nat.le_of_ble_eq_true rfl) d_Ref_isValue_2 (fun H locs hP hD hS => ?_)
  obtain ⟨r19, u20, h21, hm⟩ := ob_some hm
  refine goVI (As := [.int r15]) (rest := []) (b0 := G 0) 0 C0 (k_Ref_level l D G Y h21) q_613 q_6 q_610 q_612 qs_31 e_Ref_level (by decide) rfl rfl hP hD hS hl.1 rfl (Nat.le_of_ble_eq_true rfl) d_Ref_isValue_5 (fun H locs hP hD hS => ?_)
  refine lv_iload_n hx hb d_Ref_isValue_8 rfl (lv_at hl 2 rfl) ?_
  refine lv_icmp_ge (tgt := 14) hx hb d_Ref_isValue_9 (by decide) (fun hc => ?_) (fun hc => ?_)
  · rw [if_pos hc] at hm
    refine lv_iconst (v := (0 : Int32)) hx hb d_Ref_isValue_14 (by decide) ?_
    refine lv_istore_n (lv' := [(3, .int (0 : Int32)), (0, .ref (G 0)), (1, .int a1), (2, .int a2)]) hx hb d_Ref_isValue_15 rfl hl (by decide) rfl (fun ls hl => ?_)
    refine lv_aload_n hx hb d_Ref_isValue_16 rfl (lv_at hl 1 rfl) ?_
    refine lv_iload_n hx hb d_Ref_isValue_17 rfl (lv_at hl 3 rfl) ?_
    obtain ⟨r23, u24, h25, hm⟩ := ob_some hm
    refine goVI (As := [.int a2]) (rest := []) (b0 := G 0) 0 C0 (k_Ref_firstAt l D G Y h25) q_745 q_6 q_742 q_744 qs_57 e_Ref_firstAt (by decide) rfl rfl hP hD hS hl.1 rfl (Nat.le_of_ble_eq_true rfl) d_Ref_isValue_18 (fun H locs hP hD hS => ?_)
    refine lv_istore (lv' := [(4, .int r23), (3, .int (0 : Int32)), (0, .ref (G 0)), (1, .int a1), (2, .int a2)]) hx hb d_Ref_isValue_21 hl (by decide) rfl (fun ls hl => ?_)
    obtain ⟨qq, hq, hi, ho⟩ := ol1_some hm
    refine L23 a1 qq (fun z hz => hi z hz) (fun x27 u28 hz H locs ls hP hD hS hl => ?_) fz u24 (0 : Int32) r23 hq _ _ _ hP hD hS (lv_sub hl [2, 3, 1, 0] rfl)
    have hm := ho x27 u28 hz
    refine lv_iload_n hx hb d_Ref_isValue_81 rfl (lv_at hl 0 rfl) ?_
    obtain ⟨hg, hm⟩ := gd hm
    exact hret _ _ _ _ x27 u28 (Option.some.inj hm) (of_decide_eq_true hg) hP hD hS d_Ref_isValue_82
  · rw [if_neg hc] at hm
    refine lv_iconst (v := (0 : Int32)) hx hb d_Ref_isValue_12 (by decide) ?_
    exact hret _ _ _ _ (0 : Int32) u20 (Option.some.inj hm) (Or.inl rfl) hP hD hS d_Ref_isValue_13
theorem d_Ref_repair_0 : decode b_Ref_repair 0 = .ok (.iconst 0, 1) := by decide +kernel
theorem d_Ref_repair_1 : decode b_Ref_repair 1 = .ok (.istore_n 1, 1) := by decide +kernel
theorem d_Ref_repair_2 : decode b_Ref_repair 2 = .ok (.iload_n 1, 1) := by decide +kernel
theorem d_Ref_repair_3 : decode b_Ref_repair 3 = .ok (.aload_n 0, 1) := by decide +kernel
theorem d_Ref_repair_4 : decode b_Ref_repair 4 = .ok (.aload_n 0, 1) := by decide +kernel
theorem d_Ref_repair_5 : decode b_Ref_repair 5 = .ok (.invokevirtual 72, 3) := by decide +kernel
theorem d_Ref_repair_8 : decode b_Ref_repair 8 = .ok (.invokevirtual 84, 3) := by decide +kernel
theorem d_Ref_repair_11 : decode b_Ref_repair 11 = .ok (.if_icmp .gt 47, 3) := by decide +kernel
theorem d_Ref_repair_14 : decode b_Ref_repair 14 = .ok (.aload_n 0, 1) := by decide +kernel
theorem d_Ref_repair_15 : decode b_Ref_repair 15 = .ok (.getfield 44, 3) := by decide +kernel
theorem d_Ref_repair_18 : decode b_Ref_repair 18 = .ok (.ifCond .ne 40, 3) := by decide +kernel
theorem d_Ref_repair_21 : decode b_Ref_repair 21 = .ok (.aload_n 0, 1) := by decide +kernel
theorem d_Ref_repair_22 : decode b_Ref_repair 22 = .ok (.iload_n 1, 1) := by decide +kernel
theorem d_Ref_repair_23 : decode b_Ref_repair 23 = .ok (.invokevirtual 167, 3) := by decide +kernel
theorem d_Ref_repair_26 : decode b_Ref_repair 26 = .ok (.istore_n 2, 1) := by decide +kernel
theorem d_Ref_repair_27 : decode b_Ref_repair 27 = .ok (.iload_n 2, 1) := by decide +kernel
theorem d_Ref_repair_28 : decode b_Ref_repair 28 = .ok (.ifCond .eq 24, 3) := by decide +kernel
theorem d_Ref_repair_31 : decode b_Ref_repair 31 = .ok (.aload_n 0, 1) := by decide +kernel
theorem d_Ref_repair_32 : decode b_Ref_repair 32 = .ok (.getfield 44, 3) := by decide +kernel
theorem d_Ref_repair_35 : decode b_Ref_repair 35 = .ok (.ifCond .ne 17, 3) := by decide +kernel
theorem d_Ref_repair_38 : decode b_Ref_repair 38 = .ok (.aload_n 0, 1) := by decide +kernel
theorem d_Ref_repair_39 : decode b_Ref_repair 39 = .ok (.iload_n 2, 1) := by decide +kernel
theorem d_Ref_repair_40 : decode b_Ref_repair 40 = .ok (.invokevirtual 170, 3) := by decide +kernel
theorem d_Ref_repair_43 : decode b_Ref_repair 43 = .ok (.aload_n 0, 1) := by decide +kernel
theorem d_Ref_repair_44 : decode b_Ref_repair 44 = .ok (.iload_n 2, 1) := by decide +kernel
theorem d_Ref_repair_45 : decode b_Ref_repair 45 = .ok (.invokevirtual 80, 3) := by decide +kernel
theorem d_Ref_repair_48 : decode b_Ref_repair 48 = .ok (.istore_n 2, 1) := by decide +kernel
theorem d_Ref_repair_49 : decode b_Ref_repair 49 = .ok (.goto (-22), 3) := by decide +kernel
theorem d_Ref_repair_52 : decode b_Ref_repair 52 = .ok (.iinc 1 1, 3) := by decide +kernel
theorem d_Ref_repair_55 : decode b_Ref_repair 55 = .ok (.goto (-53), 3) := by decide +kernel
theorem d_Ref_repair_58 : decode b_Ref_repair 58 = .ok (.iconst 0, 1) := by decide +kernel
theorem d_Ref_repair_59 : decode b_Ref_repair 59 = .ok (.istore_n 1, 1) := by decide +kernel
theorem d_Ref_repair_60 : decode b_Ref_repair 60 = .ok (.iload_n 1, 1) := by decide +kernel
theorem d_Ref_repair_61 : decode b_Ref_repair 61 = .ok (.aload_n 0, 1) := by decide +kernel
theorem d_Ref_repair_62 : decode b_Ref_repair 62 = .ok (.aload_n 0, 1) := by decide +kernel
theorem d_Ref_repair_63 : decode b_Ref_repair 63 = .ok (.invokevirtual 72, 3) := by decide +kernel
theorem d_Ref_repair_66 : decode b_Ref_repair 66 = .ok (.invokevirtual 84, 3) := by decide +kernel
theorem d_Ref_repair_69 : decode b_Ref_repair 69 = .ok (.if_icmp .gt 65, 3) := by decide +kernel
theorem d_Ref_repair_72 : decode b_Ref_repair 72 = .ok (.aload_n 0, 1) := by decide +kernel
theorem d_Ref_repair_73 : decode b_Ref_repair 73 = .ok (.getfield 44, 3) := by decide +kernel
theorem d_Ref_repair_76 : decode b_Ref_repair 76 = .ok (.ifCond .ne 58, 3) := by decide +kernel
theorem d_Ref_repair_79 : decode b_Ref_repair 79 = .ok (.aload_n 0, 1) := by decide +kernel
theorem d_Ref_repair_80 : decode b_Ref_repair 80 = .ok (.aload_n 0, 1) := by decide +kernel
theorem d_Ref_repair_81 : decode b_Ref_repair 81 = .ok (.iload_n 1, 1) := by decide +kernel
theorem d_Ref_repair_82 : decode b_Ref_repair 82 = .ok (.invokevirtual 167, 3) := by decide +kernel
theorem d_Ref_repair_85 : decode b_Ref_repair 85 = .ok (.invokevirtual 80, 3) := by decide +kernel
theorem d_Ref_repair_88 : decode b_Ref_repair 88 = .ok (.istore_n 2, 1) := by decide +kernel
theorem d_Ref_repair_89 : decode b_Ref_repair 89 = .ok (.iload_n 2, 1) := by decide +kernel
theorem d_Ref_repair_90 : decode b_Ref_repair 90 = .ok (.ifCond .eq 38, 3) := by decide +kernel
theorem d_Ref_repair_93 : decode b_Ref_repair 93 = .ok (.aload_n 0, 1) := by decide +kernel
theorem d_Ref_repair_94 : decode b_Ref_repair 94 = .ok (.getfield 44, 3) := by decide +kernel
theorem d_Ref_repair_97 : decode b_Ref_repair 97 = .ok (.ifCond .ne 31, 3) := by decide +kernel
theorem d_Ref_repair_100 : decode b_Ref_repair 100 = .ok (.aload_n 0, 1) := by decide +kernel
theorem d_Ref_repair_101 : decode b_Ref_repair 101 = .ok (.iload_n 2, 1) := by decide +kernel
theorem d_Ref_repair_102 : decode b_Ref_repair 102 = .ok (.iload_n 1, 1) := by decide +kernel
theorem d_Ref_repair_103 : decode b_Ref_repair 103 = .ok (.iconst 1, 1) := by decide +kernel
theorem d_Ref_repair_104 : decode b_Ref_repair 104 = .ok (.iadd, 1) := by decide +kernel
theorem d_Ref_repair_105 : decode b_Ref_repair 105 = .ok (.invokevirtual 174, 3) := by decide +kernel
theorem d_Ref_repair_108 : decode b_Ref_repair 108 = .ok (.ifCond .ne 11, 3) := by decide +kernel
theorem d_Ref_repair_111 : decode b_Ref_repair 111 = .ok (.aload_n 0, 1) := by decide +kernel
theorem d_Ref_repair_112 : decode b_Ref_repair 112 = .ok (.iload_n 2, 1) := by decide +kernel
theorem d_Ref_repair_113 : decode b_Ref_repair 113 = .ok (.iload_n 1, 1) := by decide +kernel
theorem d_Ref_repair_114 : decode b_Ref_repair 114 = .ok (.iconst 1, 1) := by decide +kernel
theorem d_Ref_repair_115 : decode b_Ref_repair 115 = .ok (.iadd, 1) := by decide +kernel
theorem d_Ref_repair_116 : decode b_Ref_repair 116 = .ok (.invokevirtual 138, 3) := by decide +kernel
theorem d_Ref_repair_119 : decode b_Ref_repair 119 = .ok (.aload_n 0, 1) := by decide +kernel
theorem d_Ref_repair_120 : decode b_Ref_repair 120 = .ok (.iload_n 2, 1) := by decide +kernel
theorem d_Ref_repair_121 : decode b_Ref_repair 121 = .ok (.invokevirtual 80, 3) := by decide +kernel
theorem d_Ref_repair_124 : decode b_Ref_repair 124 = .ok (.istore_n 2, 1) := by decide +kernel
theorem d_Ref_repair_125 : decode b_Ref_repair 125 = .ok (.goto (-36), 3) := by decide +kernel
theorem d_Ref_repair_128 : decode b_Ref_repair 128 = .ok (.iinc 1 1, 3) := by decide +kernel
theorem d_Ref_repair_131 : decode b_Ref_repair 131 = .ok (.goto (-71), 3) := by decide +kernel
theorem d_Ref_repair_134 : decode b_Ref_repair 134 = .ok (.return_, 1) := by decide +kernel
set_option maxRecDepth 100000 in
set_option maxHeartbeats 4000000 in
theorem k_Ref_repair (l : Launch) (D : va_G) (G : Nat → Nat) (Y : Nat → ClassId) {u : SR}  {u' : SR} (hm : m_Ref_repair u  = some ((), u')) : KV l D clz (tyz Y) (wdR G Y) y_Ref_repair b_Ref_repair 3 none 6 156 [.ref (G 0)] u u' := by
  refine mkV (by decide) (Nat.le_of_ble_eq_true rfl) ?_
  intro p e s m below meth c A Z ls C0 hP hD hS hl hret
  obtain ⟨hx, hb, hml, hown, hts, hK, hN, hA⟩ := id C0
  have hl : lv_has ls 3 [(0, .ref (G 0))] := hl
  have L27 : ∀ (x1 : Int32) (o : (Unit × SR) ⊕ (SR)) (kr : ∀ z, o = .inl z → z = ((), u')) (kx : ∀  (ub : SR), o = .inr ub → ∀ (H : Heap) (locs : List Loc) (ls : Array Slot), va_P D clz (wdR G Y ub) H → va_D A (wdR G Y ub) → va_S A s.heap H locs → lv_has ls 3 [(0, .ref (G 0)), (1, .int x1)] → W p l e (zRm 6 156) s m ([.ref (G 0)] : List Value).toArray below meth c H locs 0 0 Z (F0 m 52 ls [])) (n0 : Nat) (ua : SR) (x2 : Int32), m_Ref_repair_L27 n0 ua x2 x1 = some o → ∀ (H : Heap) (locs : List Loc) (ls : Array Slot), va_P D clz (wdR G Y ua) H → va_D A (wdR G Y ua) → va_S A s.heap H locs → lv_has ls 3 [(0, .ref (G 0)), (1, .int x1), (2, .int x2)] → W p l e (zRm 6 156) s m ([.ref (G 0)] : List Value).toArray below meth c H locs 0 0 Z (F0 m 27 ls []) := by
    intro x1 o kr kx n0
    induction n0 with
    | zero => intro ua x2 hm; rw [m_Ref_repair_L27] at hm; cases hm
    | succ n0 ih =>
      intro ua x2 hm H locs ls hP hD hS hl
      rw [m_Ref_repair_L27] at hm
      refine lv_iload_n hx hb d_Ref_repair_27 rfl (lv_at hl 2 rfl) ?_
      refine lv_if_eq (tgt := 52) hx hb d_Ref_repair_28 (by decide) (fun hc => ?_) (fun hc => ?_)
      · rw [if_pos hc] at hm
        exact kx  ua (Option.some.inj hm).symm _ _ _ hP hD hS (lv_sub hl [0, 1] rfl)
      · rw [if_neg hc] at hm
        refine lv_aload_n hx hb d_Ref_repair_31 rfl (lv_at hl 0 rfl) ?_
        refine va_get (D := D) (ci := 5) (v := .int (rg_br ua)) (C := "FirmStoreModel") (T := F_Ref) (N := 12) hx hb hts iz_Ref hown hK hP 0 rfl rfl 8 (by decide) (hts _ q_545) (fun _ h9 => h9) rfl d_Ref_repair_32 ?_
        refine lv_if_ne (tgt := 52) hx hb d_Ref_repair_35 (by decide) (fun hc => ?_) (fun hc => ?_)
        · rw [if_neg hc] at hm
          exact kx  ua (Option.some.inj hm).symm _ _ _ hP hD hS (lv_sub hl [0, 1] rfl)
        · rw [if_pos hc] at hm
          refine lv_aload_n hx hb d_Ref_repair_38 rfl (lv_at hl 0 rfl) ?_
          refine lv_iload_n hx hb d_Ref_repair_39 rfl (lv_at hl 2 rfl) ?_
          obtain ⟨r1, u2, h3, hm⟩ := ob_some hm
          refine goVV (As := [.int x2]) (rest := []) (b0 := G 0) 0 C0 (k_Ref_putRight l D G Y h3) q_749 q_6 q_746 q_748 qs_58 e_Ref_putRight (by decide) rfl rfl hP hD hS hl.1 rfl (Nat.le_of_ble_eq_true rfl) d_Ref_repair_40 (fun H locs hP hD hS => ?_)
          refine lv_aload_n hx hb d_Ref_repair_43 rfl (lv_at hl 0 rfl) ?_
          refine lv_iload_n hx hb d_Ref_repair_44 rfl (lv_at hl 2 rfl) ?_
          obtain ⟨r5, u6, h7, hm⟩ := ob_some hm
          refine goVI (As := [.int x2]) (rest := []) (b0 := G 0) 0 C0 (k_Ref_next l D G Y h7) q_609 q_6 q_606 q_608 qs_30 e_Ref_next (by decide) rfl rfl hP hD hS hl.1 rfl (Nat.le_of_ble_eq_true rfl) d_Ref_repair_45 (fun H locs hP hD hS => ?_)
          refine lv_istore_n (lv' := [(2, .int r5), (0, .ref (G 0)), (1, .int x1)]) hx hb d_Ref_repair_48 rfl hl (by decide) rfl (fun ls hl => ?_)
          refine lv_goto (tgt := 27) hx hb d_Ref_repair_49 (by decide) ?_
          exact ih u6 r5 hm _ _ _ hP hD hS (lv_sub hl [1, 2, 0] rfl)
  have L89 : ∀ (x1 : Int32) (o : (Unit × SR) ⊕ (SR)) (kr : ∀ z, o = .inl z → z = ((), u')) (kx : ∀  (ub : SR), o = .inr ub → ∀ (H : Heap) (locs : List Loc) (ls : Array Slot), va_P D clz (wdR G Y ub) H → va_D A (wdR G Y ub) → va_S A s.heap H locs → lv_has ls 3 [(0, .ref (G 0)), (1, .int x1)] → W p l e (zRm 6 156) s m ([.ref (G 0)] : List Value).toArray below meth c H locs 0 0 Z (F0 m 128 ls [])) (n0 : Nat) (ua : SR) (x2 : Int32), m_Ref_repair_L89 n0 ua x2 x1 = some o → ∀ (H : Heap) (locs : List Loc) (ls : Array Slot), va_P D clz (wdR G Y ua) H → va_D A (wdR G Y ua) → va_S A s.heap H locs → lv_has ls 3 [(0, .ref (G 0)), (1, .int x1), (2, .int x2)] → W p l e (zRm 6 156) s m ([.ref (G 0)] : List Value).toArray below meth c H locs 0 0 Z (F0 m 89 ls []) := by
    intro x1 o kr kx n0
    induction n0 with
    | zero => intro ua x2 hm; rw [m_Ref_repair_L89] at hm; cases hm
    | succ n0 ih =>
      intro ua x2 hm H locs ls hP hD hS hl
      rw [m_Ref_repair_L89] at hm
      refine lv_iload_n hx hb d_Ref_repair_89 rfl (lv_at hl 2 rfl) ?_
      refine lv_if_eq (tgt := 128) hx hb d_Ref_repair_90 (by decide) (fun hc => ?_) (fun hc => ?_)
      · rw [if_pos hc] at hm
        exact kx  ua (Option.some.inj hm).symm _ _ _ hP hD hS (lv_sub hl [0, 1] rfl)
      · rw [if_neg hc] at hm
        refine lv_aload_n hx hb d_Ref_repair_93 rfl (lv_at hl 0 rfl) ?_
        refine va_get (D := D) (ci := 5) (v := .int (rg_br ua)) (C := "FirmStoreModel") (T := F_Ref) (N := 12) hx hb hts iz_Ref hown hK hP 0 rfl rfl 8 (by decide) (hts _ q_545) (fun _ h9 => h9) rfl d_Ref_repair_94 ?_
        refine lv_if_ne (tgt := 128) hx hb d_Ref_repair_97 (by decide) (fun hc => ?_) (fun hc => ?_)
        · rw [if_neg hc] at hm
          exact kx  ua (Option.some.inj hm).symm _ _ _ hP hD hS (lv_sub hl [0, 1] rfl)
        · rw [if_pos hc] at hm
          refine lv_aload_n hx hb d_Ref_repair_100 rfl (lv_at hl 0 rfl) ?_
          refine lv_iload_n hx hb d_Ref_repair_101 rfl (lv_at hl 2 rfl) ?_
          refine lv_iload_n hx hb d_Ref_repair_102 rfl (lv_at hl 1 rfl) ?_
          refine lv_iconst (v := (1 : Int32)) hx hb d_Ref_repair_103 (by decide) ?_
          refine lv_iadd hx hb d_Ref_repair_104 ?_
          obtain ⟨r9, u10, h11, hm⟩ := ob_some hm
          refine goVZ (As := [.int x2, .int (x1 + (1 : Int32))]) (rest := []) (b0 := G 0) 0 C0 (k_Ref_isValue l D G Y h11) q_753 q_6 q_750 q_752 qs_59 e_Ref_isValue (by decide) rfl rfl hP hD hS hl.1 rfl (Nat.le_of_ble_eq_true rfl) d_Ref_repair_105 (fun H locs hz12 hP hD hS => ?_)
          refine lv_if_ne (tgt := 119) hx hb d_Ref_repair_108 (by decide) (fun hc => ?_) (fun hc => ?_)
          · rw [if_neg hc] at hm
            refine lv_aload_n hx hb d_Ref_repair_119 rfl (lv_at hl 0 rfl) ?_
            refine lv_iload_n hx hb d_Ref_repair_120 rfl (lv_at hl 2 rfl) ?_
            obtain ⟨r13, u14, h15, hm⟩ := ob_some hm
            refine goVI (As := [.int x2]) (rest := []) (b0 := G 0) 0 C0 (k_Ref_next l D G Y h15) q_609 q_6 q_606 q_608 qs_30 e_Ref_next (by decide) rfl rfl hP hD hS hl.1 rfl (Nat.le_of_ble_eq_true rfl) d_Ref_repair_121 (fun H locs hP hD hS => ?_)
            refine lv_istore_n (lv' := [(2, .int r13), (0, .ref (G 0)), (1, .int x1)]) hx hb d_Ref_repair_124 rfl hl (by decide) rfl (fun ls hl => ?_)
            refine lv_goto (tgt := 89) hx hb d_Ref_repair_125 (by decide) ?_
            exact ih u14 r13 hm _ _ _ hP hD hS (lv_sub hl [1, 2, 0] rfl)
          · rw [if_pos hc] at hm
            refine lv_aload_n hx hb d_Ref_repair_111 rfl (lv_at hl 0 rfl) ?_
            refine lv_iload_n hx hb d_Ref_repair_112 rfl (lv_at hl 2 rfl) ?_
            refine lv_iload_n hx hb d_Ref_repair_113 rfl (lv_at hl 1 rfl) ?_
            refine lv_iconst (v := (1 : Int32)) hx hb d_Ref_repair_114 (by decide) ?_
            refine lv_iadd hx hb d_Ref_repair_115 ?_
            obtain ⟨r17, u18, h19, hm⟩ := ob_some hm
            refine goVV (As := [.int x2, .int (x1 + (1 : Int32))]) (rest := []) (b0 := G 0) 0 C0 (k_Ref_hang l D G Y h19) q_685 q_6 q_682 q_684 qs_47 e_Ref_hang (by decide) rfl rfl hP hD hS hl.1 rfl (Nat.le_of_ble_eq_true rfl) d_Ref_repair_116 (fun H locs hP hD hS => ?_)
            refine lv_aload_n hx hb d_Ref_repair_119 rfl (lv_at hl 0 rfl) ?_
            refine lv_iload_n hx hb d_Ref_repair_120 rfl (lv_at hl 2 rfl) ?_
            obtain ⟨r21, u22, h23, hm⟩ := ob_some hm
            refine goVI (As := [.int x2]) (rest := []) (b0 := G 0) 0 C0 (k_Ref_next l D G Y h23) q_609 q_6 q_606 q_608 qs_30 e_Ref_next (by decide) rfl rfl hP hD hS hl.1 rfl (Nat.le_of_ble_eq_true rfl) d_Ref_repair_121 (fun H locs hP hD hS => ?_)
            refine lv_istore_n (lv' := [(2, .int r21), (0, .ref (G 0)), (1, .int x1)]) hx hb d_Ref_repair_124 rfl hl (by decide) rfl (fun ls hl => ?_)
            refine lv_goto (tgt := 89) hx hb d_Ref_repair_125 (by decide) ?_
            exact ih u22 r21 hm _ _ _ hP hD hS (lv_sub hl [1, 2, 0] rfl)
  have L2 : ∀  (o : (Unit × SR) ⊕ (SR)) (kr : ∀ z, o = .inl z → z = ((), u')) (kx : ∀  (ub : SR), o = .inr ub → ∀ (H : Heap) (locs : List Loc) (ls : Array Slot), va_P D clz (wdR G Y ub) H → va_D A (wdR G Y ub) → va_S A s.heap H locs → lv_has ls 3 [(0, .ref (G 0))] → W p l e (zRm 6 156) s m ([.ref (G 0)] : List Value).toArray below meth c H locs 0 0 Z (F0 m 58 ls [])) (n0 : Nat) (ua : SR) (x1 : Int32), m_Ref_repair_L2 n0 ua x1 = some o → ∀ (H : Heap) (locs : List Loc) (ls : Array Slot), va_P D clz (wdR G Y ua) H → va_D A (wdR G Y ua) → va_S A s.heap H locs → lv_has ls 3 [(0, .ref (G 0)), (1, .int x1)] → W p l e (zRm 6 156) s m ([.ref (G 0)] : List Value).toArray below meth c H locs 0 0 Z (F0 m 2 ls []) := by
    intro  o kr kx n0
    induction n0 with
    | zero => intro ua x1 hm; rw [m_Ref_repair_L2] at hm; cases hm
    | succ n0 ih =>
      intro ua x1 hm H locs ls hP hD hS hl
      rw [m_Ref_repair_L2] at hm
      refine lv_iload_n hx hb d_Ref_repair_2 rfl (lv_at hl 1 rfl) ?_
      refine lv_aload_n hx hb d_Ref_repair_3 rfl (lv_at hl 0 rfl) ?_
      refine lv_aload_n hx hb d_Ref_repair_4 rfl (lv_at hl 0 rfl) ?_
      obtain ⟨r25, u26, h27, hm⟩ := ob_some hm
      refine goVI (As := []) (rest := [.ref (G 0), .int x1]) (b0 := G 0) 0 C0 (k_Ref_root l D G Y h27) q_593 q_6 q_590 q_592 qs_26 e_Ref_root (by decide) rfl rfl hP hD hS hl.1 rfl (Nat.le_of_ble_eq_true rfl) d_Ref_repair_5 (fun H locs hP hD hS => ?_)
      obtain ⟨r29, u30, h31, hm⟩ := ob_some hm
      refine goVI (As := [.int r25]) (rest := [.int x1]) (b0 := G 0) 0 C0 (k_Ref_level l D G Y h31) q_613 q_6 q_610 q_612 qs_31 e_Ref_level (by decide) rfl rfl hP hD hS hl.1 rfl (Nat.le_of_ble_eq_true rfl) d_Ref_repair_8 (fun H locs hP hD hS => ?_)
      refine lv_icmp_gt (tgt := 58) hx hb d_Ref_repair_11 (by decide) (fun hc => ?_) (fun hc => ?_)
      · rw [if_pos hc] at hm
        exact kx  u30 (Option.some.inj hm).symm _ _ _ hP hD hS (lv_sub hl [0] rfl)
      · rw [if_neg hc] at hm
        refine lv_aload_n hx hb d_Ref_repair_14 rfl (lv_at hl 0 rfl) ?_
        refine va_get (D := D) (ci := 5) (v := .int (rg_br u30)) (C := "FirmStoreModel") (T := F_Ref) (N := 12) hx hb hts iz_Ref hown hK hP 0 rfl rfl 8 (by decide) (hts _ q_545) (fun _ h9 => h9) rfl d_Ref_repair_15 ?_
        refine lv_if_ne (tgt := 58) hx hb d_Ref_repair_18 (by decide) (fun hc => ?_) (fun hc => ?_)
        · rw [if_neg hc] at hm
          exact kx  u30 (Option.some.inj hm).symm _ _ _ hP hD hS (lv_sub hl [0] rfl)
        · rw [if_pos hc] at hm
          refine lv_aload_n hx hb d_Ref_repair_21 rfl (lv_at hl 0 rfl) ?_
          refine lv_iload_n hx hb d_Ref_repair_22 rfl (lv_at hl 1 rfl) ?_
          obtain ⟨r33, u34, h35, hm⟩ := ob_some hm
          refine goVI (As := [.int x1]) (rest := []) (b0 := G 0) 0 C0 (k_Ref_firstAt l D G Y h35) q_745 q_6 q_742 q_744 qs_57 e_Ref_firstAt (by decide) rfl rfl hP hD hS hl.1 rfl (Nat.le_of_ble_eq_true rfl) d_Ref_repair_23 (fun H locs hP hD hS => ?_)
          refine lv_istore_n (lv' := [(2, .int r33), (0, .ref (G 0)), (1, .int x1)]) hx hb d_Ref_repair_26 rfl hl (by decide) rfl (fun ls hl => ?_)
          obtain ⟨qq, hq, hi, ho⟩ := ol0_some hm
          refine L27 x1 qq (fun z hz => kr z (hi z hz).symm) (fun  u37 hz H locs ls hP hD hS hl => ?_) fz u34 r33 hq _ _ _ hP hD hS (lv_sub hl [1, 2, 0] rfl)
          have hm := ho  u37 hz
          refine lv_iinc (v := (x1 + (1 : Int32))) (lv' := [(1, .int (x1 + (1 : Int32))), (0, .ref (G 0))]) hx hb d_Ref_repair_52 hl (k := 1) rfl rfl (by decide) rfl (fun ls hl => ?_)
          refine lv_goto (tgt := 2) hx hb d_Ref_repair_55 (by decide) ?_
          exact ih u37 (x1 + (1 : Int32)) hm _ _ _ hP hD hS (lv_sub hl [1, 0] rfl)
  have L60 : ∀  (o : (Unit × SR) ⊕ (SR)) (kr : ∀ z, o = .inl z → z = ((), u')) (kx : ∀  (ub : SR), o = .inr ub → ∀ (H : Heap) (locs : List Loc) (ls : Array Slot), va_P D clz (wdR G Y ub) H → va_D A (wdR G Y ub) → va_S A s.heap H locs → lv_has ls 3 [] → W p l e (zRm 6 156) s m ([.ref (G 0)] : List Value).toArray below meth c H locs 0 0 Z (F0 m 134 ls [])) (n0 : Nat) (ua : SR) (x1 : Int32), m_Ref_repair_L60 n0 ua x1 = some o → ∀ (H : Heap) (locs : List Loc) (ls : Array Slot), va_P D clz (wdR G Y ua) H → va_D A (wdR G Y ua) → va_S A s.heap H locs → lv_has ls 3 [(0, .ref (G 0)), (1, .int x1)] → W p l e (zRm 6 156) s m ([.ref (G 0)] : List Value).toArray below meth c H locs 0 0 Z (F0 m 60 ls []) := by
    intro  o kr kx n0
    induction n0 with
    | zero => intro ua x1 hm; rw [m_Ref_repair_L60] at hm; cases hm
    | succ n0 ih =>
      intro ua x1 hm H locs ls hP hD hS hl
      rw [m_Ref_repair_L60] at hm
      refine lv_iload_n hx hb d_Ref_repair_60 rfl (lv_at hl 1 rfl) ?_
      refine lv_aload_n hx hb d_Ref_repair_61 rfl (lv_at hl 0 rfl) ?_
      refine lv_aload_n hx hb d_Ref_repair_62 rfl (lv_at hl 0 rfl) ?_
      obtain ⟨r38, u39, h40, hm⟩ := ob_some hm
      refine goVI (As := []) (rest := [.ref (G 0), .int x1]) (b0 := G 0) 0 C0 (k_Ref_root l D G Y h40) q_593 q_6 q_590 q_592 qs_26 e_Ref_root (by decide) rfl rfl hP hD hS hl.1 rfl (Nat.le_of_ble_eq_true rfl) d_Ref_repair_63 (fun H locs hP hD hS => ?_)
      obtain ⟨r42, u43, h44, hm⟩ := ob_some hm
      refine goVI (As := [.int r38]) (rest := [.int x1]) (b0 := G 0) 0 C0 (k_Ref_level l D G Y h44) q_613 q_6 q_610 q_612 qs_31 e_Ref_level (by decide) rfl rfl hP hD hS hl.1 rfl (Nat.le_of_ble_eq_true rfl) d_Ref_repair_66 (fun H locs hP hD hS => ?_)
      refine lv_icmp_gt (tgt := 134) hx hb d_Ref_repair_69 (by decide) (fun hc => ?_) (fun hc => ?_)
      · rw [if_pos hc] at hm
        exact kx  u43 (Option.some.inj hm).symm _ _ _ hP hD hS (lv_sub hl [] rfl)
      · rw [if_neg hc] at hm
        refine lv_aload_n hx hb d_Ref_repair_72 rfl (lv_at hl 0 rfl) ?_
        refine va_get (D := D) (ci := 5) (v := .int (rg_br u43)) (C := "FirmStoreModel") (T := F_Ref) (N := 12) hx hb hts iz_Ref hown hK hP 0 rfl rfl 8 (by decide) (hts _ q_545) (fun _ h9 => h9) rfl d_Ref_repair_73 ?_
        refine lv_if_ne (tgt := 134) hx hb d_Ref_repair_76 (by decide) (fun hc => ?_) (fun hc => ?_)
        · rw [if_neg hc] at hm
          exact kx  u43 (Option.some.inj hm).symm _ _ _ hP hD hS (lv_sub hl [] rfl)
        · rw [if_pos hc] at hm
          refine lv_aload_n hx hb d_Ref_repair_79 rfl (lv_at hl 0 rfl) ?_
          refine lv_aload_n hx hb d_Ref_repair_80 rfl (lv_at hl 0 rfl) ?_
          refine lv_iload_n hx hb d_Ref_repair_81 rfl (lv_at hl 1 rfl) ?_
          obtain ⟨r46, u47, h48, hm⟩ := ob_some hm
          refine goVI (As := [.int x1]) (rest := [.ref (G 0)]) (b0 := G 0) 0 C0 (k_Ref_firstAt l D G Y h48) q_745 q_6 q_742 q_744 qs_57 e_Ref_firstAt (by decide) rfl rfl hP hD hS hl.1 rfl (Nat.le_of_ble_eq_true rfl) d_Ref_repair_82 (fun H locs hP hD hS => ?_)
          obtain ⟨r50, u51, h52, hm⟩ := ob_some hm
          refine goVI (As := [.int r46]) (rest := []) (b0 := G 0) 0 C0 (k_Ref_next l D G Y h52) q_609 q_6 q_606 q_608 qs_30 e_Ref_next (by decide) rfl rfl hP hD hS hl.1 rfl (Nat.le_of_ble_eq_true rfl) d_Ref_repair_85 (fun H locs hP hD hS => ?_)
          refine lv_istore_n (lv' := [(2, .int r50), (0, .ref (G 0)), (1, .int x1)]) hx hb d_Ref_repair_88 rfl hl (by decide) rfl (fun ls hl => ?_)
          obtain ⟨qq, hq, hi, ho⟩ := ol0_some hm
          refine L89 x1 qq (fun z hz => kr z (hi z hz).symm) (fun  u54 hz H locs ls hP hD hS hl => ?_) fz u51 r50 hq _ _ _ hP hD hS (lv_sub hl [1, 2, 0] rfl)
          have hm := ho  u54 hz
          refine lv_iinc (v := (x1 + (1 : Int32))) (lv' := [(1, .int (x1 + (1 : Int32))), (0, .ref (G 0))]) hx hb d_Ref_repair_128 hl (k := 1) rfl rfl (by decide) rfl (fun ls hl => ?_)
          refine lv_goto (tgt := 60) hx hb d_Ref_repair_131 (by decide) ?_
          exact ih u54 (x1 + (1 : Int32)) hm _ _ _ hP hD hS (lv_sub hl [1, 0] rfl)
  rw [m_Ref_repair] at hm
  refine lv_iconst (v := (0 : Int32)) hx hb d_Ref_repair_0 (by decide) ?_
  refine lv_istore_n (lv' := [(1, .int (0 : Int32)), (0, .ref (G 0))]) hx hb d_Ref_repair_1 rfl hl (by decide) rfl (fun ls hl => ?_)
  obtain ⟨qq, hq, hi, ho⟩ := ol0_some hm
  refine L2  qq (fun z hz => hi z hz) (fun  u55 hz H locs ls hP hD hS hl => ?_) fz u (0 : Int32) hq _ _ _ hP hD hS (lv_sub hl [1, 0] rfl)
  have hm := ho  u55 hz
  refine lv_iconst (v := (0 : Int32)) hx hb d_Ref_repair_58 (by decide) ?_
  refine lv_istore_n (lv' := [(1, .int (0 : Int32)), (0, .ref (G 0))]) hx hb d_Ref_repair_59 rfl hl (by decide) rfl (fun ls hl => ?_)
  obtain ⟨qq, hq, hi, ho⟩ := ol0_some hm
  refine L60  qq (fun z hz => hi z hz) (fun  u56 hz H locs ls hP hD hS hl => ?_) fz u55 (0 : Int32) hq _ _ _ hP hD hS (lv_sub hl [1, 0] rfl)
  have hm := ho  u56 hz
  exact hret _ _ _ _ () u56 (Option.some.inj hm) hP hD hS d_Ref_repair_134
theorem d_Ref_recover_0 : decode b_Ref_recover 0 = .ok (.aload_n 0, 1) := by decide +kernel
theorem d_Ref_recover_1 : decode b_Ref_recover 1 = .ok (.aload_n 0, 1) := by decide +kernel
theorem d_Ref_recover_2 : decode b_Ref_recover 2 = .ok (.getfield 40, 3) := by decide +kernel
theorem d_Ref_recover_5 : decode b_Ref_recover 5 = .ok (.ifCond .eq 7, 3) := by decide +kernel
theorem d_Ref_recover_8 : decode b_Ref_recover 8 = .ok (.iconst 0, 1) := by decide +kernel
theorem d_Ref_recover_9 : decode b_Ref_recover 9 = .ok (.goto 4, 3) := by decide +kernel
theorem d_Ref_recover_12 : decode b_Ref_recover 12 = .ok (.iconst 1, 1) := by decide +kernel
theorem d_Ref_recover_13 : decode b_Ref_recover 13 = .ok (.putfield 31, 3) := by decide +kernel
theorem d_Ref_recover_16 : decode b_Ref_recover 16 = .ok (.aload_n 0, 1) := by decide +kernel
theorem d_Ref_recover_17 : decode b_Ref_recover 17 = .ok (.getfield 31, 3) := by decide +kernel
theorem d_Ref_recover_20 : decode b_Ref_recover 20 = .ok (.ifCond .le 5, 3) := by decide +kernel
theorem d_Ref_recover_23 : decode b_Ref_recover 23 = .ok (.iconst 0, 1) := by decide +kernel
theorem d_Ref_recover_24 : decode b_Ref_recover 24 = .ok (.ireturn, 1) := by decide +kernel
theorem d_Ref_recover_25 : decode b_Ref_recover 25 = .ok (.aload_n 0, 1) := by decide +kernel
theorem d_Ref_recover_26 : decode b_Ref_recover 26 = .ok (.iconst 0, 1) := by decide +kernel
theorem d_Ref_recover_27 : decode b_Ref_recover 27 = .ok (.putfield 44, 3) := by decide +kernel
theorem d_Ref_recover_30 : decode b_Ref_recover 30 = .ok (.aload_n 0, 1) := by decide +kernel
theorem d_Ref_recover_31 : decode b_Ref_recover 31 = .ok (.getfield 50, 3) := by decide +kernel
theorem d_Ref_recover_34 : decode b_Ref_recover 34 = .ok (.istore_n 1, 1) := by decide +kernel
theorem d_Ref_recover_35 : decode b_Ref_recover 35 = .ok (.aload_n 0, 1) := by decide +kernel
theorem d_Ref_recover_36 : decode b_Ref_recover 36 = .ok (.invokevirtual 72, 3) := by decide +kernel
theorem d_Ref_recover_39 : decode b_Ref_recover 39 = .ok (.ifCond .eq 7, 3) := by decide +kernel
theorem d_Ref_recover_42 : decode b_Ref_recover 42 = .ok (.aload_n 0, 1) := by decide +kernel
theorem d_Ref_recover_43 : decode b_Ref_recover 43 = .ok (.invokevirtual 177, 3) := by decide +kernel
theorem d_Ref_recover_46 : decode b_Ref_recover 46 = .ok (.aload_n 0, 1) := by decide +kernel
theorem d_Ref_recover_47 : decode b_Ref_recover 47 = .ok (.getfield 44, 3) := by decide +kernel
theorem d_Ref_recover_50 : decode b_Ref_recover 50 = .ok (.ifCond .eq 6, 3) := by decide +kernel
theorem d_Ref_recover_53 : decode b_Ref_recover 53 = .ok (.bipush (-2), 2) := by decide +kernel
theorem d_Ref_recover_55 : decode b_Ref_recover 55 = .ok (.ireturn, 1) := by decide +kernel
theorem d_Ref_recover_56 : decode b_Ref_recover 56 = .ok (.aload_n 0, 1) := by decide +kernel
theorem d_Ref_recover_57 : decode b_Ref_recover 57 = .ok (.iconst 0, 1) := by decide +kernel
theorem d_Ref_recover_58 : decode b_Ref_recover 58 = .ok (.putfield 40, 3) := by decide +kernel
theorem d_Ref_recover_61 : decode b_Ref_recover 61 = .ok (.aload_n 0, 1) := by decide +kernel
theorem d_Ref_recover_62 : decode b_Ref_recover 62 = .ok (.getfield 50, 3) := by decide +kernel
theorem d_Ref_recover_65 : decode b_Ref_recover 65 = .ok (.iload_n 1, 1) := by decide +kernel
theorem d_Ref_recover_66 : decode b_Ref_recover 66 = .ok (.isub, 1) := by decide +kernel
theorem d_Ref_recover_67 : decode b_Ref_recover 67 = .ok (.ireturn, 1) := by decide +kernel
set_option maxRecDepth 100000 in
set_option maxHeartbeats 4000000 in
theorem k_Ref_recover (l : Launch) (D : va_G) (G : Nat → Nat) (Y : Nat → ClassId) {u : SR}  {r : Int32} {u' : SR} (hm : m_Ref_recover u  = some (r, u')) : KI l D clz (tyz Y) (wdR G Y) y_Ref_recover b_Ref_recover 2 (some .int) 7 178 [.ref (G 0)] u r u' := by
  refine mkI (by decide) (Nat.le_of_ble_eq_true rfl) ?_
  intro p e s m below meth c A Z ls C0 hP hD hS hl hret
  obtain ⟨hx, hb, hml, hown, hts, hK, hN, hA⟩ := id C0
  have hl : lv_has ls 2 [(0, .ref (G 0))] := hl
  have J46 : ∀ (ua : SR) (x1 : Int32), m_Ref_recover_J46 ua x1 = some (r, u') → ∀ (H : Heap) (locs : List Loc) (ls : Array Slot), va_P D clz (wdR G Y ua) H → va_D A (wdR G Y ua) → va_S A s.heap H locs → lv_has ls 2 [(0, .ref (G 0)), (1, .int x1)] → W p l e (zRm 7 178) s m ([.ref (G 0)] : List Value).toArray below meth c H locs 0 0 Z (F0 m 46 ls []) := by
    intro ua x1 hm H locs ls hP hD hS hl
    rw [m_Ref_recover_J46] at hm
    refine lv_aload_n hx hb d_Ref_recover_46 rfl (lv_at hl 0 rfl) ?_
    refine va_get (D := D) (ci := 5) (v := .int (rg_br ua)) (C := "FirmStoreModel") (T := F_Ref) (N := 12) hx hb hts iz_Ref hown hK hP 0 rfl rfl 8 (by decide) (hts _ q_545) (fun _ h9 => h9) rfl d_Ref_recover_47 ?_
    refine lv_if_eq (tgt := 56) hx hb d_Ref_recover_50 (by decide) (fun hc => ?_) (fun hc => ?_)
    · rw [if_pos hc] at hm
      refine lv_aload_n hx hb d_Ref_recover_56 rfl (lv_at hl 0 rfl) ?_
      refine lv_iconst (v := (0 : Int32)) hx hb d_Ref_recover_57 (by decide) ?_
      refine va_put (D := D) (ci := 5) (v := .int (0 : Int32)) (ty := .boolean) (C := "FirmStoreModel") (T := F_Ref) (N := 12) hx hb hts iz_Ref t_Ref t_Ref_ok n_Ref hown hK hP hD hS 0 rfl rfl 7 (by decide) (hts _ q_544) (fun _ h9 => h9) rfl (by decide +kernel) (nz (Or.inl rfl)) (by decide) (Nat.le_of_ble_eq_true rfl) d_Ref_recover_58 (fun H locs hP hD hS => ?_)
      have hP : va_P D clz (wdR G Y (rs_dn ua (0 : Int32))) H := hP
      have hD : va_D A (wdR G Y (rs_dn ua (0 : Int32))) := hD
      refine lv_aload_n hx hb d_Ref_recover_61 rfl (lv_at hl 0 rfl) ?_
      refine va_get (D := D) (ci := 5) (v := .int (rg_st ua)) (C := "FirmStoreModel") (T := F_Ref) (N := 12) hx hb hts iz_Ref hown hK hP 0 rfl rfl 6 (by decide) (hts _ q_543) (fun _ h9 => h9) rfl d_Ref_recover_62 ?_
      refine lv_iload_n hx hb d_Ref_recover_65 rfl (lv_at hl 1 rfl) ?_
      refine lv_isub hx hb d_Ref_recover_66 ?_
      exact hret _ _ _ _ ((rg_st ua) - x1) (rs_dn ua (0 : Int32)) (Option.some.inj hm) hP hD hS d_Ref_recover_67
    · rw [if_neg hc] at hm
      refine lv_bipush (v := (-2 : Int32)) hx hb d_Ref_recover_53 (by decide) ?_
      exact hret _ _ _ _ (-2 : Int32) ua (Option.some.inj hm) hP hD hS d_Ref_recover_55
  have J13 : ∀ (ua : SR) (s0 : Int32), m_Ref_recover_J13 ua s0 = some (r, u') → ∀ (H : Heap) (locs : List Loc) (ls : Array Slot), va_P D clz (wdR G Y ua) H → va_D A (wdR G Y ua) → va_S A s.heap H locs → lv_has ls 2 [(0, .ref (G 0))] → W p l e (zRm 7 178) s m ([.ref (G 0)] : List Value).toArray below meth c H locs 0 0 Z (F0 m 13 ls [.int s0, .ref (G 0)]) := by
    intro ua s0 hm H locs ls hP hD hS hl
    rw [m_Ref_recover_J13] at hm
    refine va_put (D := D) (ci := 5) (v := .int s0) (ty := .int) (C := "FirmStoreModel") (T := F_Ref) (N := 12) hx hb hts iz_Ref t_Ref t_Ref_ok n_Ref hown hK hP hD hS 0 rfl rfl 9 (by decide) (hts _ q_546) (fun _ h9 => h9) rfl (by decide +kernel) rfl rfl (Nat.le_of_ble_eq_true rfl) d_Ref_recover_13 (fun H locs hP hD hS => ?_)
    have hP : va_P D clz (wdR G Y (rs_cd ua s0)) H := hP
    have hD : va_D A (wdR G Y (rs_cd ua s0)) := hD
    refine lv_aload_n hx hb d_Ref_recover_16 rfl (lv_at hl 0 rfl) ?_
    refine va_get (D := D) (ci := 5) (v := .int s0) (C := "FirmStoreModel") (T := F_Ref) (N := 12) hx hb hts iz_Ref hown hK hP 0 rfl rfl 9 (by decide) (hts _ q_546) (fun _ h9 => h9) rfl d_Ref_recover_17 ?_
    refine lv_if_le (tgt := 25) hx hb d_Ref_recover_20 (by decide) (fun hc => ?_) (fun hc => ?_)
    · rw [if_pos hc] at hm
      refine lv_aload_n hx hb d_Ref_recover_25 rfl (lv_at hl 0 rfl) ?_
      refine lv_iconst (v := (0 : Int32)) hx hb d_Ref_recover_26 (by decide) ?_
      refine va_put (D := D) (ci := 5) (v := .int (0 : Int32)) (ty := .boolean) (C := "FirmStoreModel") (T := F_Ref) (N := 12) hx hb hts iz_Ref t_Ref t_Ref_ok n_Ref hown hK hP hD hS 0 rfl rfl 8 (by decide) (hts _ q_545) (fun _ h9 => h9) rfl (by decide +kernel) (nz (Or.inl rfl)) (by decide) (Nat.le_of_ble_eq_true rfl) d_Ref_recover_27 (fun H locs hP hD hS => ?_)
      have hP : va_P D clz (wdR G Y (rs_br (rs_cd ua s0) (0 : Int32))) H := hP
      have hD : va_D A (wdR G Y (rs_br (rs_cd ua s0) (0 : Int32))) := hD
      refine lv_aload_n hx hb d_Ref_recover_30 rfl (lv_at hl 0 rfl) ?_
      refine va_get (D := D) (ci := 5) (v := .int (rg_st ua)) (C := "FirmStoreModel") (T := F_Ref) (N := 12) hx hb hts iz_Ref hown hK hP 0 rfl rfl 6 (by decide) (hts _ q_543) (fun _ h9 => h9) rfl d_Ref_recover_31 ?_
      refine lv_istore_n (lv' := [(1, .int (rg_st ua)), (0, .ref (G 0))]) hx hb d_Ref_recover_34 rfl hl (by decide) rfl (fun ls hl => ?_)
      refine lv_aload_n hx hb d_Ref_recover_35 rfl (lv_at hl 1 rfl) ?_
      obtain ⟨r1, u2, h3, hm⟩ := ob_some hm
      refine goVI (As := []) (rest := []) (b0 := G 0) 0 C0 (k_Ref_root l D G Y h3) q_593 q_6 q_590 q_592 qs_26 e_Ref_root (by decide) rfl rfl hP hD hS hl.1 rfl (Nat.le_of_ble_eq_true rfl) d_Ref_recover_36 (fun H locs hP hD hS => ?_)
      refine lv_if_eq (tgt := 46) hx hb d_Ref_recover_39 (by decide) (fun hc => ?_) (fun hc => ?_)
      · rw [if_pos hc] at hm
        exact J46 u2 (rg_st ua) hm _ _ _ hP hD hS (lv_sub hl [1, 0] rfl)
      · rw [if_neg hc] at hm
        refine lv_aload_n hx hb d_Ref_recover_42 rfl (lv_at hl 1 rfl) ?_
        obtain ⟨r5, u6, h7, hm⟩ := ob_some hm
        refine goVV (As := []) (rest := []) (b0 := G 0) 0 C0 (k_Ref_repair l D G Y h7) q_741 q_6 q_738 q_740 qs_56 e_Ref_repair (by decide) rfl rfl hP hD hS hl.1 rfl (Nat.le_of_ble_eq_true rfl) d_Ref_recover_43 (fun H locs hP hD hS => ?_)
        exact J46 u6 (rg_st ua) hm _ _ _ hP hD hS (lv_sub hl [1, 0] rfl)
    · rw [if_neg hc] at hm
      refine lv_iconst (v := (0 : Int32)) hx hb d_Ref_recover_23 (by decide) ?_
      exact hret _ _ _ _ (0 : Int32) (rs_cd ua s0) (Option.some.inj hm) hP hD hS d_Ref_recover_24
  rw [m_Ref_recover] at hm
  refine lv_aload_n hx hb d_Ref_recover_0 rfl (lv_at hl 0 rfl) ?_
  refine lv_aload_n hx hb d_Ref_recover_1 rfl (lv_at hl 0 rfl) ?_
  refine va_get (D := D) (ci := 5) (v := .int (rg_dn u)) (C := "FirmStoreModel") (T := F_Ref) (N := 12) hx hb hts iz_Ref hown hK hP 0 rfl rfl 7 (by decide) (hts _ q_544) (fun _ h9 => h9) rfl d_Ref_recover_2 ?_
  refine lv_if_eq (tgt := 12) hx hb d_Ref_recover_5 (by decide) (fun hc => ?_) (fun hc => ?_)
  · rw [if_pos hc] at hm
    refine lv_iconst (v := (1 : Int32)) hx hb d_Ref_recover_12 (by decide) ?_
    exact J13 u (1 : Int32) hm _ _ _ hP hD hS (lv_sub hl [0] rfl)
  · rw [if_neg hc] at hm
    refine lv_iconst (v := (0 : Int32)) hx hb d_Ref_recover_8 (by decide) ?_
    refine lv_goto (tgt := 13) hx hb d_Ref_recover_9 (by decide) ?_
    exact J13 u (0 : Int32) hm _ _ _ hP hD hS (lv_sub hl [0] rfl)
theorem d_Ref_size_0 : decode b_Ref_size 0 = .ok (.aload_n 0, 1) := by decide +kernel
theorem d_Ref_size_1 : decode b_Ref_size 1 = .ok (.iconst 0, 1) := by decide +kernel
theorem d_Ref_size_2 : decode b_Ref_size 2 = .ok (.putfield 31, 3) := by decide +kernel
theorem d_Ref_size_5 : decode b_Ref_size 5 = .ok (.iload_n 1, 1) := by decide +kernel
theorem d_Ref_size_6 : decode b_Ref_size 6 = .ok (.ifCond .lt 8, 3) := by decide +kernel
theorem d_Ref_size_9 : decode b_Ref_size 9 = .ok (.iload_n 1, 1) := by decide +kernel
theorem d_Ref_size_10 : decode b_Ref_size 10 = .ok (.iconst 1, 1) := by decide +kernel
theorem d_Ref_size_11 : decode b_Ref_size 11 = .ok (.if_icmp .le 5, 3) := by decide +kernel
theorem d_Ref_size_14 : decode b_Ref_size 14 = .ok (.iconst (-1), 1) := by decide +kernel
theorem d_Ref_size_15 : decode b_Ref_size 15 = .ok (.ireturn, 1) := by decide +kernel
theorem d_Ref_size_16 : decode b_Ref_size 16 = .ok (.aload_n 0, 1) := by decide +kernel
theorem d_Ref_size_17 : decode b_Ref_size 17 = .ok (.invokevirtual 94, 3) := by decide +kernel
theorem d_Ref_size_20 : decode b_Ref_size 20 = .ok (.iconst 0, 1) := by decide +kernel
theorem d_Ref_size_21 : decode b_Ref_size 21 = .ok (.istore_n 2, 1) := by decide +kernel
theorem d_Ref_size_22 : decode b_Ref_size 22 = .ok (.iconst 1, 1) := by decide +kernel
theorem d_Ref_size_23 : decode b_Ref_size 23 = .ok (.istore_n 3, 1) := by decide +kernel
theorem d_Ref_size_24 : decode b_Ref_size 24 = .ok (.iload_n 3, 1) := by decide +kernel
theorem d_Ref_size_25 : decode b_Ref_size 25 = .ok (.bipush 30, 2) := by decide +kernel
theorem d_Ref_size_27 : decode b_Ref_size 27 = .ok (.if_icmp .gt 69, 3) := by decide +kernel
theorem d_Ref_size_30 : decode b_Ref_size 30 = .ok (.iconst 0, 1) := by decide +kernel
theorem d_Ref_size_31 : decode b_Ref_size 31 = .ok (.istore 4, 2) := by decide +kernel
theorem d_Ref_size_33 : decode b_Ref_size 33 = .ok (.iload 4, 2) := by decide +kernel
theorem d_Ref_size_35 : decode b_Ref_size 35 = .ok (.bipush 6, 2) := by decide +kernel
theorem d_Ref_size_37 : decode b_Ref_size 37 = .ok (.if_icmp .ge 53, 3) := by decide +kernel
theorem d_Ref_size_40 : decode b_Ref_size 40 = .ok (.aload_n 0, 1) := by decide +kernel
theorem d_Ref_size_41 : decode b_Ref_size 41 = .ok (.getfield 24, 3) := by decide +kernel
theorem d_Ref_size_44 : decode b_Ref_size 44 = .ok (.iload_n 3, 1) := by decide +kernel
theorem d_Ref_size_45 : decode b_Ref_size 45 = .ok (.baload, 1) := by decide +kernel
theorem d_Ref_size_46 : decode b_Ref_size 46 = .ok (.ifCond .eq 44, 3) := by decide +kernel
theorem d_Ref_size_49 : decode b_Ref_size 49 = .ok (.aload_n 0, 1) := by decide +kernel
theorem d_Ref_size_50 : decode b_Ref_size 50 = .ok (.iload_n 3, 1) := by decide +kernel
theorem d_Ref_size_51 : decode b_Ref_size 51 = .ok (.invokevirtual 84, 3) := by decide +kernel
theorem d_Ref_size_54 : decode b_Ref_size 54 = .ok (.iload_n 1, 1) := by decide +kernel
theorem d_Ref_size_55 : decode b_Ref_size 55 = .ok (.ineg, 1) := by decide +kernel
theorem d_Ref_size_56 : decode b_Ref_size 56 = .ok (.if_icmp .ne 34, 3) := by decide +kernel
theorem d_Ref_size_59 : decode b_Ref_size 59 = .ok (.aload_n 0, 1) := by decide +kernel
theorem d_Ref_size_60 : decode b_Ref_size 60 = .ok (.iload_n 1, 1) := by decide +kernel
theorem d_Ref_size_61 : decode b_Ref_size 61 = .ok (.bipush 9, 2) := by decide +kernel
theorem d_Ref_size_63 : decode b_Ref_size 63 = .ok (.iload_n 3, 1) := by decide +kernel
theorem d_Ref_size_64 : decode b_Ref_size 64 = .ok (.imul, 1) := by decide +kernel
theorem d_Ref_size_65 : decode b_Ref_size 65 = .ok (.iconst 3, 1) := by decide +kernel
theorem d_Ref_size_66 : decode b_Ref_size 66 = .ok (.iadd, 1) := by decide +kernel
theorem d_Ref_size_67 : decode b_Ref_size 67 = .ok (.iload 4, 2) := by decide +kernel
theorem d_Ref_size_69 : decode b_Ref_size 69 = .ok (.iadd, 1) := by decide +kernel
theorem d_Ref_size_70 : decode b_Ref_size 70 = .ok (.invokevirtual 164, 3) := by decide +kernel
theorem d_Ref_size_73 : decode b_Ref_size 73 = .ok (.ifCond .eq 9, 3) := by decide +kernel
theorem d_Ref_size_76 : decode b_Ref_size 76 = .ok (.iload_n 2, 1) := by decide +kernel
theorem d_Ref_size_77 : decode b_Ref_size 77 = .ok (.iconst 1, 1) := by decide +kernel
theorem d_Ref_size_78 : decode b_Ref_size 78 = .ok (.iadd, 1) := by decide +kernel
theorem d_Ref_size_79 : decode b_Ref_size 79 = .ok (.goto 4, 3) := by decide +kernel
theorem d_Ref_size_82 : decode b_Ref_size 82 = .ok (.iload_n 2, 1) := by decide +kernel
theorem d_Ref_size_83 : decode b_Ref_size 83 = .ok (.istore_n 2, 1) := by decide +kernel
theorem d_Ref_size_84 : decode b_Ref_size 84 = .ok (.iinc 4 1, 3) := by decide +kernel
theorem d_Ref_size_87 : decode b_Ref_size 87 = .ok (.goto (-54), 3) := by decide +kernel
theorem d_Ref_size_90 : decode b_Ref_size 90 = .ok (.iinc 3 1, 3) := by decide +kernel
theorem d_Ref_size_93 : decode b_Ref_size 93 = .ok (.goto (-69), 3) := by decide +kernel
theorem d_Ref_size_96 : decode b_Ref_size 96 = .ok (.iload_n 2, 1) := by decide +kernel
theorem d_Ref_size_97 : decode b_Ref_size 97 = .ok (.ireturn, 1) := by decide +kernel
set_option maxRecDepth 100000 in
set_option maxHeartbeats 4000000 in
theorem k_Ref_size (l : Launch) (D : va_G) (G : Nat → Nat) (Y : Nat → ClassId) {u : SR} {a1 : Int32} {r : Int32} {u' : SR} (hm : m_Ref_size u a1 = some (r, u')) : KI l D clz (tyz Y) (wdR G Y) y_Ref_size b_Ref_size 5 (some .int) 6 140 [.ref (G 0), .int a1] u r u' := by
  refine mkI (by decide) (Nat.le_of_ble_eq_true rfl) ?_
  intro p e s m below meth c A Z ls C0 hP hD hS hl hret
  obtain ⟨hx, hb, hml, hown, hts, hK, hN, hA⟩ := id C0
  have hl : lv_has ls 5 [(0, .ref (G 0)), (1, .int a1)] := hl
  have L33 : ∀ (x1 : Int32) (x3 : Int32) (o : (Int32 × SR) ⊕ (Int32 × SR)) (kr : ∀ z, o = .inl z → z = (r, u')) (kx : ∀ (y2 : Int32) (ub : SR), o = .inr (y2, ub) → ∀ (H : Heap) (locs : List Loc) (ls : Array Slot), va_P D clz (wdR G Y ub) H → va_D A (wdR G Y ub) → va_S A s.heap H locs → lv_has ls 5 [(0, .ref (G 0)), (1, .int x1), (2, .int y2), (3, .int x3)] → W p l e (zRm 6 140) s m ([.ref (G 0), .int a1] : List Value).toArray below meth c H locs 0 0 Z (F0 m 90 ls [])) (n0 : Nat) (ua : SR) (x2 : Int32) (x4 : Int32), m_Ref_size_L33 n0 ua x2 x4 x1 x3 = some o → ∀ (H : Heap) (locs : List Loc) (ls : Array Slot), va_P D clz (wdR G Y ua) H → va_D A (wdR G Y ua) → va_S A s.heap H locs → lv_has ls 5 [(0, .ref (G 0)), (1, .int x1), (2, .int x2), (3, .int x3), (4, .int x4)] → W p l e (zRm 6 140) s m ([.ref (G 0), .int a1] : List Value).toArray below meth c H locs 0 0 Z (F0 m 33 ls []) := by
    intro x1 x3 o kr kx n0
    induction n0 with
    | zero => intro ua x2 x4 hm; rw [m_Ref_size_L33] at hm; cases hm
    | succ n0 ih =>
      intro ua x2 x4 hm H locs ls hP hD hS hl
      rw [m_Ref_size_L33] at hm
      refine lv_iload hx hb d_Ref_size_33 (lv_at hl 4 rfl) ?_
      refine lv_bipush (v := (6 : Int32)) hx hb d_Ref_size_35 (by decide) ?_
      refine lv_icmp_ge (tgt := 90) hx hb d_Ref_size_37 (by decide) (fun hc => ?_) (fun hc => ?_)
      · rw [if_pos hc] at hm
        exact kx x2 ua (Option.some.inj hm).symm _ _ _ hP hD hS (lv_sub hl [0, 1, 2, 3] rfl)
      · rw [if_neg hc] at hm
        refine lv_aload_n hx hb d_Ref_size_40 rfl (lv_at hl 0 rfl) ?_
        refine va_get (D := D) (ci := 5) (v := .ref (G 4)) (C := "FirmStoreModel") (T := F_Ref) (N := 12) hx hb hts iz_Ref hown hK hP 0 rfl rfl 10 (by decide) (hts _ q_547) (fun _ h9 => h9) rfl d_Ref_size_41 ?_
        refine lv_iload_n hx hb d_Ref_size_44 rfl (lv_at hl 3 rfl) ?_
        obtain ⟨hg, hm⟩ := gd hm
        refine va_zald hx hb hK hP 4 2 (f := (rg_rea ua)) rfl rfl (inb_in hg) d_Ref_size_45 ?_
        refine lv_if_eq (tgt := 90) hx hb d_Ref_size_46 (by decide) (fun hc => ?_) (fun hc => ?_)
        · rw [if_pos hc] at hm
          exact kx x2 ua (Option.some.inj hm).symm _ _ _ hP hD hS (lv_sub hl [0, 1, 2, 3] rfl)
        · rw [if_neg hc] at hm
          refine lv_aload_n hx hb d_Ref_size_49 rfl (lv_at hl 0 rfl) ?_
          refine lv_iload_n hx hb d_Ref_size_50 rfl (lv_at hl 3 rfl) ?_
          obtain ⟨r1, u2, h3, hm⟩ := ob_some hm
          refine goVI (As := [.int x3]) (rest := []) (b0 := G 0) 0 C0 (k_Ref_level l D G Y h3) q_613 q_6 q_610 q_612 qs_31 e_Ref_level (by decide) rfl rfl hP hD hS hl.1 rfl (Nat.le_of_ble_eq_true rfl) d_Ref_size_51 (fun H locs hP hD hS => ?_)
          refine lv_iload_n hx hb d_Ref_size_54 rfl (lv_at hl 1 rfl) ?_
          refine lv_ineg hx hb d_Ref_size_55 ?_
          refine lv_icmp_ne (tgt := 90) hx hb d_Ref_size_56 (by decide) (fun hc => ?_) (fun hc => ?_)
          · rw [if_neg hc] at hm
            exact kx x2 u2 (Option.some.inj hm).symm _ _ _ hP hD hS (lv_sub hl [0, 1, 2, 3] rfl)
          · rw [if_pos hc] at hm
            refine lv_aload_n hx hb d_Ref_size_59 rfl (lv_at hl 0 rfl) ?_
            refine lv_iload_n hx hb d_Ref_size_60 rfl (lv_at hl 1 rfl) ?_
            refine lv_bipush (v := (9 : Int32)) hx hb d_Ref_size_61 (by decide) ?_
            refine lv_iload_n hx hb d_Ref_size_63 rfl (lv_at hl 3 rfl) ?_
            refine lv_imul hx hb d_Ref_size_64 ?_
            refine lv_iconst (v := (3 : Int32)) hx hb d_Ref_size_65 (by decide) ?_
            refine lv_iadd hx hb d_Ref_size_66 ?_
            refine lv_iload hx hb d_Ref_size_67 (lv_at hl 4 rfl) ?_
            refine lv_iadd hx hb d_Ref_size_69 ?_
            obtain ⟨r5, u6, h7, hm⟩ := ob_some hm
            refine goVZ (As := [.int x1, .int ((((9 : Int32) * x3) + (3 : Int32)) + x4)]) (rest := []) (b0 := G 0) 0 C0 (k_Ref_isRead l D G Y h7) q_729 q_6 q_726 q_728 qs_55 e_Ref_isRead (by decide) rfl rfl hP hD hS hl.1 rfl (Nat.le_of_ble_eq_true rfl) d_Ref_size_70 (fun H locs hz8 hP hD hS => ?_)
            refine lv_if_eq (tgt := 82) hx hb d_Ref_size_73 (by decide) (fun hc => ?_) (fun hc => ?_)
            · rw [if_pos hc] at hm
              refine lv_iload_n hx hb d_Ref_size_82 rfl (lv_at hl 2 rfl) ?_
              refine lv_istore_n (lv' := [(2, .int x2), (0, .ref (G 0)), (1, .int x1), (3, .int x3), (4, .int x4)]) hx hb d_Ref_size_83 rfl hl (by decide) rfl (fun ls hl => ?_)
              refine lv_iinc (v := (x4 + (1 : Int32))) (lv' := [(4, .int (x4 + (1 : Int32))), (2, .int x2), (0, .ref (G 0)), (1, .int x1), (3, .int x3)]) hx hb d_Ref_size_84 hl (k := 4) rfl rfl (by decide) rfl (fun ls hl => ?_)
              refine lv_goto (tgt := 33) hx hb d_Ref_size_87 (by decide) ?_
              exact ih u6 x2 (x4 + (1 : Int32)) hm _ _ _ hP hD hS (lv_sub hl [2, 3, 1, 4, 0] rfl)
            · rw [if_neg hc] at hm
              refine lv_iload_n hx hb d_Ref_size_76 rfl (lv_at hl 2 rfl) ?_
              refine lv_iconst (v := (1 : Int32)) hx hb d_Ref_size_77 (by decide) ?_
              refine lv_iadd hx hb d_Ref_size_78 ?_
              refine lv_goto (tgt := 83) hx hb d_Ref_size_79 (by decide) ?_
              refine lv_istore_n (lv' := [(2, .int (x2 + (1 : Int32))), (0, .ref (G 0)), (1, .int x1), (3, .int x3), (4, .int x4)]) hx hb d_Ref_size_83 rfl hl (by decide) rfl (fun ls hl => ?_)
              refine lv_iinc (v := (x4 + (1 : Int32))) (lv' := [(4, .int (x4 + (1 : Int32))), (2, .int (x2 + (1 : Int32))), (0, .ref (G 0)), (1, .int x1), (3, .int x3)]) hx hb d_Ref_size_84 hl (k := 4) rfl rfl (by decide) rfl (fun ls hl => ?_)
              refine lv_goto (tgt := 33) hx hb d_Ref_size_87 (by decide) ?_
              exact ih u6 (x2 + (1 : Int32)) (x4 + (1 : Int32)) hm _ _ _ hP hD hS (lv_sub hl [2, 3, 1, 4, 0] rfl)
  have L24 : ∀ (x1 : Int32) (o : (Int32 × SR) ⊕ (Int32 × SR)) (kr : ∀ z, o = .inl z → z = (r, u')) (kx : ∀ (y2 : Int32) (ub : SR), o = .inr (y2, ub) → ∀ (H : Heap) (locs : List Loc) (ls : Array Slot), va_P D clz (wdR G Y ub) H → va_D A (wdR G Y ub) → va_S A s.heap H locs → lv_has ls 5 [(2, .int y2)] → W p l e (zRm 6 140) s m ([.ref (G 0), .int a1] : List Value).toArray below meth c H locs 0 0 Z (F0 m 96 ls [])) (n0 : Nat) (ua : SR) (x2 : Int32) (x3 : Int32), m_Ref_size_L24 n0 ua x2 x3 x1 = some o → ∀ (H : Heap) (locs : List Loc) (ls : Array Slot), va_P D clz (wdR G Y ua) H → va_D A (wdR G Y ua) → va_S A s.heap H locs → lv_has ls 5 [(0, .ref (G 0)), (1, .int x1), (2, .int x2), (3, .int x3)] → W p l e (zRm 6 140) s m ([.ref (G 0), .int a1] : List Value).toArray below meth c H locs 0 0 Z (F0 m 24 ls []) := by
    intro x1 o kr kx n0
    induction n0 with
    | zero => intro ua x2 x3 hm; rw [m_Ref_size_L24] at hm; cases hm
    | succ n0 ih =>
      intro ua x2 x3 hm H locs ls hP hD hS hl
      rw [m_Ref_size_L24] at hm
      refine lv_iload_n hx hb d_Ref_size_24 rfl (lv_at hl 3 rfl) ?_
      refine lv_bipush (v := (30 : Int32)) hx hb d_Ref_size_25 (by decide) ?_
      refine lv_icmp_gt (tgt := 96) hx hb d_Ref_size_27 (by decide) (fun hc => ?_) (fun hc => ?_)
      · rw [if_pos hc] at hm
        exact kx x2 ua (Option.some.inj hm).symm _ _ _ hP hD hS (lv_sub hl [2] rfl)
      · rw [if_neg hc] at hm
        refine lv_iconst (v := (0 : Int32)) hx hb d_Ref_size_30 (by decide) ?_
        refine lv_istore (lv' := [(4, .int (0 : Int32)), (0, .ref (G 0)), (1, .int x1), (2, .int x2), (3, .int x3)]) hx hb d_Ref_size_31 hl (by decide) rfl (fun ls hl => ?_)
        obtain ⟨qq, hq, hi, ho⟩ := ol1_some hm
        refine L33 x1 x3 qq (fun z hz => kr z (hi z hz).symm) (fun x9 u10 hz H locs ls hP hD hS hl => ?_) fz ua x2 (0 : Int32) hq _ _ _ hP hD hS (lv_sub hl [1, 2, 3, 4, 0] rfl)
        have hm := ho x9 u10 hz
        refine lv_iinc (v := (x3 + (1 : Int32))) (lv' := [(3, .int (x3 + (1 : Int32))), (0, .ref (G 0)), (1, .int x1), (2, .int x9)]) hx hb d_Ref_size_90 hl (k := 3) rfl rfl (by decide) rfl (fun ls hl => ?_)
        refine lv_goto (tgt := 24) hx hb d_Ref_size_93 (by decide) ?_
        exact ih u10 x9 (x3 + (1 : Int32)) hm _ _ _ hP hD hS (lv_sub hl [1, 2, 3, 0] rfl)
  rw [m_Ref_size] at hm
  refine lv_aload_n hx hb d_Ref_size_0 rfl (lv_at hl 0 rfl) ?_
  refine lv_iconst (v := (0 : Int32)) hx hb d_Ref_size_1 (by decide) ?_
  refine va_put (D := D) (ci := 5) (v := .int (0 : Int32)) (ty := .int) (C := "FirmStoreModel") (T := F_Ref) (N := 12) hx hb hts iz_Ref t_Ref t_Ref_ok n_Ref hown hK hP hD hS 0 rfl rfl 9 (by decide) (hts _ q_546) (fun _ h9 => h9) rfl (by decide +kernel) rfl rfl (Nat.le_of_ble_eq_true rfl) d_Ref_size_2 (fun H locs hP hD hS => ?_)
  have hP : va_P D clz (wdR G Y (rs_cd u (0 : Int32))) H := hP
  have hD : va_D A (wdR G Y (rs_cd u (0 : Int32))) := hD
  refine lv_iload_n hx hb d_Ref_size_5 rfl (lv_at hl 1 rfl) ?_
  refine lv_if_lt (tgt := 14) hx hb d_Ref_size_6 (by decide) (fun hc => ?_) (fun hc => ?_)
  · rw [if_pos hc] at hm
    refine lv_iconst (v := (-1 : Int32)) hx hb d_Ref_size_14 (by decide) ?_
    exact hret _ _ _ _ (-1 : Int32) (rs_cd u (0 : Int32)) (Option.some.inj hm) hP hD hS d_Ref_size_15
  · rw [if_neg hc] at hm
    refine lv_iload_n hx hb d_Ref_size_9 rfl (lv_at hl 1 rfl) ?_
    refine lv_iconst (v := (1 : Int32)) hx hb d_Ref_size_10 (by decide) ?_
    refine lv_icmp_le (tgt := 16) hx hb d_Ref_size_11 (by decide) (fun hc => ?_) (fun hc => ?_)
    · rw [if_pos hc] at hm
      refine lv_aload_n hx hb d_Ref_size_16 rfl (lv_at hl 0 rfl) ?_
      obtain ⟨r11, u12, h13, hm⟩ := ob_some hm
      refine goVV (As := []) (rest := []) (b0 := G 0) 0 C0 (k_Ref_mark l D G Y h13) q_601 q_6 q_598 q_600 qs_28 e_Ref_mark (by decide) rfl rfl hP hD hS hl.1 rfl (Nat.le_of_ble_eq_true rfl) d_Ref_size_17 (fun H locs hP hD hS => ?_)
      refine lv_iconst (v := (0 : Int32)) hx hb d_Ref_size_20 (by decide) ?_
      refine lv_istore_n (lv' := [(2, .int (0 : Int32)), (0, .ref (G 0)), (1, .int a1)]) hx hb d_Ref_size_21 rfl hl (by decide) rfl (fun ls hl => ?_)
      refine lv_iconst (v := (1 : Int32)) hx hb d_Ref_size_22 (by decide) ?_
      refine lv_istore_n (lv' := [(3, .int (1 : Int32)), (2, .int (0 : Int32)), (0, .ref (G 0)), (1, .int a1)]) hx hb d_Ref_size_23 rfl hl (by decide) rfl (fun ls hl => ?_)
      obtain ⟨qq, hq, hi, ho⟩ := ol1_some hm
      refine L24 a1 qq (fun z hz => hi z hz) (fun x15 u16 hz H locs ls hP hD hS hl => ?_) fz u12 (0 : Int32) (1 : Int32) hq _ _ _ hP hD hS (lv_sub hl [2, 3, 1, 0] rfl)
      have hm := ho x15 u16 hz
      refine lv_iload_n hx hb d_Ref_size_96 rfl (lv_at hl 0 rfl) ?_
      exact hret _ _ _ _ x15 u16 (Option.some.inj hm) hP hD hS d_Ref_size_97
    · rw [if_neg hc] at hm
      refine lv_iconst (v := (-1 : Int32)) hx hb d_Ref_size_14 (by decide) ?_
      exact hret _ _ _ _ (-1 : Int32) (rs_cd u (0 : Int32)) (Option.some.inj hm) hP hD hS d_Ref_size_15
theorem d_Ref_free_0 : decode b_Ref_free 0 = .ok (.aload_n 0, 1) := by decide +kernel
theorem d_Ref_free_1 : decode b_Ref_free 1 = .ok (.iconst 0, 1) := by decide +kernel
theorem d_Ref_free_2 : decode b_Ref_free 2 = .ok (.putfield 31, 3) := by decide +kernel
theorem d_Ref_free_5 : decode b_Ref_free 5 = .ok (.aload_n 0, 1) := by decide +kernel
theorem d_Ref_free_6 : decode b_Ref_free 6 = .ok (.invokevirtual 129, 3) := by decide +kernel
theorem d_Ref_free_9 : decode b_Ref_free 9 = .ok (.ireturn, 1) := by decide +kernel
set_option maxRecDepth 100000 in
set_option maxHeartbeats 4000000 in
theorem k_Ref_free (l : Launch) (D : va_G) (G : Nat → Nat) (Y : Nat → ClassId) {u : SR}  {r : Int32} {u' : SR} (hm : m_Ref_free u  = some (r, u')) : KI l D clz (tyz Y) (wdR G Y) y_Ref_free b_Ref_free 1 (some .int) 4 90 [.ref (G 0)] u r u' := by
  refine mkI (by decide) (Nat.le_of_ble_eq_true rfl) ?_
  intro p e s m below meth c A Z ls C0 hP hD hS hl hret
  obtain ⟨hx, hb, hml, hown, hts, hK, hN, hA⟩ := id C0
  have hl : lv_has ls 1 [(0, .ref (G 0))] := hl
  rw [m_Ref_free] at hm
  refine lv_aload_n hx hb d_Ref_free_0 rfl (lv_at hl 0 rfl) ?_
  refine lv_iconst (v := (0 : Int32)) hx hb d_Ref_free_1 (by decide) ?_
  refine va_put (D := D) (ci := 5) (v := .int (0 : Int32)) (ty := .int) (C := "FirmStoreModel") (T := F_Ref) (N := 12) hx hb hts iz_Ref t_Ref t_Ref_ok n_Ref hown hK hP hD hS 0 rfl rfl 9 (by decide) (hts _ q_546) (fun _ h9 => h9) rfl (by decide +kernel) rfl rfl (Nat.le_of_ble_eq_true rfl) d_Ref_free_2 (fun H locs hP hD hS => ?_)
  have hP : va_P D clz (wdR G Y (rs_cd u (0 : Int32))) H := hP
  have hD : va_D A (wdR G Y (rs_cd u (0 : Int32))) := hD
  refine lv_aload_n hx hb d_Ref_free_5 rfl (lv_at hl 0 rfl) ?_
  obtain ⟨r1, u2, h3, hm⟩ := ob_some hm
  refine goVI (As := []) (rest := []) (b0 := G 0) 0 C0 (k_Ref_countFree l D G Y h3) q_597 q_6 q_594 q_596 qs_27 e_Ref_countFree (by decide) rfl rfl hP hD hS hl.1 rfl (Nat.le_of_ble_eq_true rfl) d_Ref_free_6 (fun H locs hP hD hS => ?_)
  exact hret _ _ _ _ r1 u2 (Option.some.inj hm) hP hD hS d_Ref_free_9
theorem d_Ref_height_0 : decode b_Ref_height 0 = .ok (.aload_n 0, 1) := by decide +kernel
theorem d_Ref_height_1 : decode b_Ref_height 1 = .ok (.iconst 0, 1) := by decide +kernel
theorem d_Ref_height_2 : decode b_Ref_height 2 = .ok (.putfield 31, 3) := by decide +kernel
theorem d_Ref_height_5 : decode b_Ref_height 5 = .ok (.aload_n 0, 1) := by decide +kernel
theorem d_Ref_height_6 : decode b_Ref_height 6 = .ok (.invokevirtual 72, 3) := by decide +kernel
theorem d_Ref_height_9 : decode b_Ref_height 9 = .ok (.ifCond .ne 7, 3) := by decide +kernel
theorem d_Ref_height_12 : decode b_Ref_height 12 = .ok (.iconst 0, 1) := by decide +kernel
theorem d_Ref_height_13 : decode b_Ref_height 13 = .ok (.goto 13, 3) := by decide +kernel
theorem d_Ref_height_16 : decode b_Ref_height 16 = .ok (.aload_n 0, 1) := by decide +kernel
theorem d_Ref_height_17 : decode b_Ref_height 17 = .ok (.aload_n 0, 1) := by decide +kernel
theorem d_Ref_height_18 : decode b_Ref_height 18 = .ok (.invokevirtual 72, 3) := by decide +kernel
theorem d_Ref_height_21 : decode b_Ref_height 21 = .ok (.invokevirtual 84, 3) := by decide +kernel
theorem d_Ref_height_24 : decode b_Ref_height 24 = .ok (.iconst 1, 1) := by decide +kernel
theorem d_Ref_height_25 : decode b_Ref_height 25 = .ok (.iadd, 1) := by decide +kernel
theorem d_Ref_height_26 : decode b_Ref_height 26 = .ok (.ireturn, 1) := by decide +kernel
set_option maxRecDepth 100000 in
set_option maxHeartbeats 4000000 in
theorem k_Ref_height (l : Launch) (D : va_G) (G : Nat → Nat) (Y : Nat → ClassId) {u : SR}  {r : Int32} {u' : SR} (hm : m_Ref_height u  = some (r, u')) : KI l D clz (tyz Y) (wdR G Y) y_Ref_height b_Ref_height 1 (some .int) 1 21 [.ref (G 0)] u r u' := by
  refine mkI (by decide) (Nat.le_of_ble_eq_true rfl) ?_
  intro p e s m below meth c A Z ls C0 hP hD hS hl hret
  obtain ⟨hx, hb, hml, hown, hts, hK, hN, hA⟩ := id C0
  have hl : lv_has ls 1 [(0, .ref (G 0))] := hl
  rw [m_Ref_height] at hm
  refine lv_aload_n hx hb d_Ref_height_0 rfl (lv_at hl 0 rfl) ?_
  refine lv_iconst (v := (0 : Int32)) hx hb d_Ref_height_1 (by decide) ?_
  refine va_put (D := D) (ci := 5) (v := .int (0 : Int32)) (ty := .int) (C := "FirmStoreModel") (T := F_Ref) (N := 12) hx hb hts iz_Ref t_Ref t_Ref_ok n_Ref hown hK hP hD hS 0 rfl rfl 9 (by decide) (hts _ q_546) (fun _ h9 => h9) rfl (by decide +kernel) rfl rfl (Nat.le_of_ble_eq_true rfl) d_Ref_height_2 (fun H locs hP hD hS => ?_)
  have hP : va_P D clz (wdR G Y (rs_cd u (0 : Int32))) H := hP
  have hD : va_D A (wdR G Y (rs_cd u (0 : Int32))) := hD
  refine lv_aload_n hx hb d_Ref_height_5 rfl (lv_at hl 0 rfl) ?_
  obtain ⟨r1, u2, h3, hm⟩ := ob_some hm
  refine goVI (As := []) (rest := []) (b0 := G 0) 0 C0 (k_Ref_root l D G Y h3) q_593 q_6 q_590 q_592 qs_26 e_Ref_root (by decide) rfl rfl hP hD hS hl.1 rfl (Nat.le_of_ble_eq_true rfl) d_Ref_height_6 (fun H locs hP hD hS => ?_)
  refine lv_if_ne (tgt := 16) hx hb d_Ref_height_9 (by decide) (fun hc => ?_) (fun hc => ?_)
  · rw [if_neg hc] at hm
    refine lv_aload_n hx hb d_Ref_height_16 rfl (lv_at hl 0 rfl) ?_
    refine lv_aload_n hx hb d_Ref_height_17 rfl (lv_at hl 0 rfl) ?_
    obtain ⟨r5, u6, h7, hm⟩ := ob_some hm
    refine goVI (As := []) (rest := [.ref (G 0)]) (b0 := G 0) 0 C0 (k_Ref_root l D G Y h7) q_593 q_6 q_590 q_592 qs_26 e_Ref_root (by decide) rfl rfl hP hD hS hl.1 rfl (Nat.le_of_ble_eq_true rfl) d_Ref_height_18 (fun H locs hP hD hS => ?_)
    obtain ⟨r9, u10, h11, hm⟩ := ob_some hm
    refine goVI (As := [.int r5]) (rest := []) (b0 := G 0) 0 C0 (k_Ref_level l D G Y h11) q_613 q_6 q_610 q_612 qs_31 e_Ref_level (by decide) rfl rfl hP hD hS hl.1 rfl (Nat.le_of_ble_eq_true rfl) d_Ref_height_21 (fun H locs hP hD hS => ?_)
    refine lv_iconst (v := (1 : Int32)) hx hb d_Ref_height_24 (by decide) ?_
    refine lv_iadd hx hb d_Ref_height_25 ?_
    exact hret _ _ _ _ (r9 + (1 : Int32)) u10 (Option.some.inj hm) hP hD hS d_Ref_height_26
  · rw [if_pos hc] at hm
    refine lv_iconst (v := (0 : Int32)) hx hb d_Ref_height_12 (by decide) ?_
    refine lv_goto (tgt := 26) hx hb d_Ref_height_13 (by decide) ?_
    exact hret _ _ _ _ (0 : Int32) u2 (Option.some.inj hm) hP hD hS d_Ref_height_26
theorem d_Ref_word_0 : decode b_Ref_word 0 = .ok (.aload_n 0, 1) := by decide +kernel
theorem d_Ref_word_1 : decode b_Ref_word 1 = .ok (.iconst 0, 1) := by decide +kernel
theorem d_Ref_word_2 : decode b_Ref_word 2 = .ok (.putfield 31, 3) := by decide +kernel
theorem d_Ref_word_5 : decode b_Ref_word 5 = .ok (.iload_n 1, 1) := by decide +kernel
theorem d_Ref_word_6 : decode b_Ref_word 6 = .ok (.ifCond .lt 10, 3) := by decide +kernel
theorem d_Ref_word_9 : decode b_Ref_word 9 = .ok (.iload_n 1, 1) := by decide +kernel
theorem d_Ref_word_10 : decode b_Ref_word 10 = .ok (.sipush 279, 3) := by decide +kernel
theorem d_Ref_word_13 : decode b_Ref_word 13 = .ok (.if_icmp .lt 7, 3) := by decide +kernel
theorem d_Ref_word_16 : decode b_Ref_word 16 = .ok (.lconst 0, 1) := by decide +kernel
theorem d_Ref_word_17 : decode b_Ref_word 17 = .ok (.goto 9, 3) := by decide +kernel
theorem d_Ref_word_20 : decode b_Ref_word 20 = .ok (.aload_n 0, 1) := by decide +kernel
theorem d_Ref_word_21 : decode b_Ref_word 21 = .ok (.getfield 7, 3) := by decide +kernel
theorem d_Ref_word_24 : decode b_Ref_word 24 = .ok (.iload_n 1, 1) := by decide +kernel
theorem d_Ref_word_25 : decode b_Ref_word 25 = .ok (.laload, 1) := by decide +kernel
theorem d_Ref_word_26 : decode b_Ref_word 26 = .ok (.lreturn, 1) := by decide +kernel
set_option maxRecDepth 100000 in
set_option maxHeartbeats 4000000 in
theorem k_Ref_word (l : Launch) (D : va_G) (G : Nat → Nat) (Y : Nat → ClassId) {u : SR} {a1 : Int32} {r : Int64} {u' : SR} (hm : m_Ref_word u a1 = some (r, u')) : KL l D clz (tyz Y) (wdR G Y) y_Ref_word b_Ref_word 2 (some .long) 0 0 [.ref (G 0), .int a1] u r u' := by
  refine mkL (by decide) (Nat.le_of_ble_eq_true rfl) ?_
  intro p e s m below meth c A Z ls C0 hP hD hS hl hret
  obtain ⟨hx, hb, hml, hown, hts, hK, hN, hA⟩ := id C0
  have hl : lv_has ls 2 [(0, .ref (G 0)), (1, .int a1)] := hl
  rw [m_Ref_word] at hm
  refine lv_aload_n hx hb d_Ref_word_0 rfl (lv_at hl 0 rfl) ?_
  refine lv_iconst (v := (0 : Int32)) hx hb d_Ref_word_1 (by decide) ?_
  refine va_put (D := D) (ci := 5) (v := .int (0 : Int32)) (ty := .int) (C := "FirmStoreModel") (T := F_Ref) (N := 12) hx hb hts iz_Ref t_Ref t_Ref_ok n_Ref hown hK hP hD hS 0 rfl rfl 9 (by decide) (hts _ q_546) (fun _ h9 => h9) rfl (by decide +kernel) rfl rfl (Nat.le_of_ble_eq_true rfl) d_Ref_word_2 (fun H locs hP hD hS => ?_)
  have hP : va_P D clz (wdR G Y (rs_cd u (0 : Int32))) H := hP
  have hD : va_D A (wdR G Y (rs_cd u (0 : Int32))) := hD
  refine lv_iload_n hx hb d_Ref_word_5 rfl (lv_at hl 1 rfl) ?_
  refine lv_if_lt (tgt := 16) hx hb d_Ref_word_6 (by decide) (fun hc => ?_) (fun hc => ?_)
  · rw [if_pos hc] at hm
    refine lv_lconst (v := (0 : Int64)) hx hb d_Ref_word_16 (by decide) ?_
    refine lv_goto (tgt := 26) hx hb d_Ref_word_17 (by decide) ?_
    exact hret _ _ _ _ (0 : Int64) (rs_cd u (0 : Int32)) (Option.some.inj hm) hP hD hS d_Ref_word_26
  · rw [if_neg hc] at hm
    refine lv_iload_n hx hb d_Ref_word_9 rfl (lv_at hl 1 rfl) ?_
    refine lv_sipush (v := (279 : Int32)) hx hb d_Ref_word_10 (by decide) ?_
    refine lv_icmp_lt (tgt := 20) hx hb d_Ref_word_13 (by decide) (fun hc => ?_) (fun hc => ?_)
    · rw [if_pos hc] at hm
      refine lv_aload_n hx hb d_Ref_word_20 rfl (lv_at hl 0 rfl) ?_
      refine va_get (D := D) (ci := 5) (v := .ref (G 1)) (C := "FirmStoreModel") (T := F_Ref) (N := 12) hx hb hts iz_Ref hown hK hP 0 rfl rfl 0 (by decide) (hts _ q_537) (fun _ h9 => h9) rfl d_Ref_word_21 ?_
      refine lv_iload_n hx hb d_Ref_word_24 rfl (lv_at hl 1 rfl) ?_
      obtain ⟨hg, hm⟩ := gd hm
      refine va_lald hx hb hK hP 1 0 (f := (rg_mem u)) rfl rfl (inb_in hg) d_Ref_word_25 ?_
      exact hret _ _ _ _ ((rg_mem u) a1.toNatClampNeg) (rs_cd u (0 : Int32)) (Option.some.inj hm) hP hD hS d_Ref_word_26
    · rw [if_neg hc] at hm
      refine lv_lconst (v := (0 : Int64)) hx hb d_Ref_word_16 (by decide) ?_
      refine lv_goto (tgt := 26) hx hb d_Ref_word_17 (by decide) ?_
      exact hret _ _ _ _ (0 : Int64) (rs_cd u (0 : Int32)) (Option.some.inj hm) hP hD hS d_Ref_word_26
theorem d_Ref_stores_0 : decode b_Ref_stores 0 = .ok (.aload_n 0, 1) := by decide +kernel
theorem d_Ref_stores_1 : decode b_Ref_stores 1 = .ok (.iconst 0, 1) := by decide +kernel
theorem d_Ref_stores_2 : decode b_Ref_stores 2 = .ok (.putfield 31, 3) := by decide +kernel
theorem d_Ref_stores_5 : decode b_Ref_stores 5 = .ok (.aload_n 0, 1) := by decide +kernel
theorem d_Ref_stores_6 : decode b_Ref_stores 6 = .ok (.getfield 50, 3) := by decide +kernel
theorem d_Ref_stores_9 : decode b_Ref_stores 9 = .ok (.ireturn, 1) := by decide +kernel
set_option maxRecDepth 100000 in
set_option maxHeartbeats 4000000 in
theorem k_Ref_stores (l : Launch) (D : va_G) (G : Nat → Nat) (Y : Nat → ClassId) {u : SR}  {r : Int32} {u' : SR} (hm : m_Ref_stores u  = some (r, u')) : KI l D clz (tyz Y) (wdR G Y) y_Ref_stores b_Ref_stores 1 (some .int) 0 0 [.ref (G 0)] u r u' := by
  refine mkI (by decide) (Nat.le_of_ble_eq_true rfl) ?_
  intro p e s m below meth c A Z ls C0 hP hD hS hl hret
  obtain ⟨hx, hb, hml, hown, hts, hK, hN, hA⟩ := id C0
  have hl : lv_has ls 1 [(0, .ref (G 0))] := hl
  rw [m_Ref_stores] at hm
  refine lv_aload_n hx hb d_Ref_stores_0 rfl (lv_at hl 0 rfl) ?_
  refine lv_iconst (v := (0 : Int32)) hx hb d_Ref_stores_1 (by decide) ?_
  refine va_put (D := D) (ci := 5) (v := .int (0 : Int32)) (ty := .int) (C := "FirmStoreModel") (T := F_Ref) (N := 12) hx hb hts iz_Ref t_Ref t_Ref_ok n_Ref hown hK hP hD hS 0 rfl rfl 9 (by decide) (hts _ q_546) (fun _ h9 => h9) rfl (by decide +kernel) rfl rfl (Nat.le_of_ble_eq_true rfl) d_Ref_stores_2 (fun H locs hP hD hS => ?_)
  have hP : va_P D clz (wdR G Y (rs_cd u (0 : Int32))) H := hP
  have hD : va_D A (wdR G Y (rs_cd u (0 : Int32))) := hD
  refine lv_aload_n hx hb d_Ref_stores_5 rfl (lv_at hl 0 rfl) ?_
  refine va_get (D := D) (ci := 5) (v := .int (rg_st u)) (C := "FirmStoreModel") (T := F_Ref) (N := 12) hx hb hts iz_Ref hown hK hP 0 rfl rfl 6 (by decide) (hts _ q_543) (fun _ h9 => h9) rfl d_Ref_stores_6 ?_
  exact hret _ _ _ _ (rg_st u) (rs_cd u (0 : Int32)) (Option.some.inj hm) hP hD hS d_Ref_stores_9
theorem d_Ref_down_0 : decode b_Ref_down 0 = .ok (.aload_n 0, 1) := by decide +kernel
theorem d_Ref_down_1 : decode b_Ref_down 1 = .ok (.iconst 0, 1) := by decide +kernel
theorem d_Ref_down_2 : decode b_Ref_down 2 = .ok (.putfield 31, 3) := by decide +kernel
theorem d_Ref_down_5 : decode b_Ref_down 5 = .ok (.aload_n 0, 1) := by decide +kernel
theorem d_Ref_down_6 : decode b_Ref_down 6 = .ok (.getfield 40, 3) := by decide +kernel
theorem d_Ref_down_9 : decode b_Ref_down 9 = .ok (.ireturn, 1) := by decide +kernel
set_option maxRecDepth 100000 in
set_option maxHeartbeats 4000000 in
theorem k_Ref_down (l : Launch) (D : va_G) (G : Nat → Nat) (Y : Nat → ClassId) {u : SR}  {r : Int32} {u' : SR} (hm : m_Ref_down u  = some (r, u')) : KZ l D clz (tyz Y) (wdR G Y) y_Ref_down b_Ref_down 1 (some .boolean) 0 0 [.ref (G 0)] u r u' := by
  refine mkZ (by decide) (Nat.le_of_ble_eq_true rfl) ?_
  intro p e s m below meth c A Z ls C0 hP hD hS hl hret
  obtain ⟨hx, hb, hml, hown, hts, hK, hN, hA⟩ := id C0
  have hl : lv_has ls 1 [(0, .ref (G 0))] := hl
  rw [m_Ref_down] at hm
  refine lv_aload_n hx hb d_Ref_down_0 rfl (lv_at hl 0 rfl) ?_
  refine lv_iconst (v := (0 : Int32)) hx hb d_Ref_down_1 (by decide) ?_
  refine va_put (D := D) (ci := 5) (v := .int (0 : Int32)) (ty := .int) (C := "FirmStoreModel") (T := F_Ref) (N := 12) hx hb hts iz_Ref t_Ref t_Ref_ok n_Ref hown hK hP hD hS 0 rfl rfl 9 (by decide) (hts _ q_546) (fun _ h9 => h9) rfl (by decide +kernel) rfl rfl (Nat.le_of_ble_eq_true rfl) d_Ref_down_2 (fun H locs hP hD hS => ?_)
  have hP : va_P D clz (wdR G Y (rs_cd u (0 : Int32))) H := hP
  have hD : va_D A (wdR G Y (rs_cd u (0 : Int32))) := hD
  refine lv_aload_n hx hb d_Ref_down_5 rfl (lv_at hl 0 rfl) ?_
  refine va_get (D := D) (ci := 5) (v := .int (rg_dn u)) (C := "FirmStoreModel") (T := F_Ref) (N := 12) hx hb hts iz_Ref hown hK hP 0 rfl rfl 7 (by decide) (hts _ q_544) (fun _ h9 => h9) rfl d_Ref_down_6 ?_
  obtain ⟨hg, hm⟩ := gd hm
  exact hret _ _ _ _ (rg_dn u) (rs_cd u (0 : Int32)) (Option.some.inj hm) (of_decide_eq_true hg) hP hD hS d_Ref_down_9
