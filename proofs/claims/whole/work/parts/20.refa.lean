/-! models and contracts; written by wip/whole/gen.py -/
def m_Ref_thrown (u : SR)  : Option (Int32 × SR) := some ((rg_cd u), u)
def m_Ref_cutNow_L2 : Nat → SR → Int32 → Option ((Unit × SR) ⊕ (SR))
  | 0, _, _ => none
  | n0 + 1, ua, x1 => if (rg_lo ua) ≤ x1 then (some (.inr ua)) else (if (((rg_cm ua) >>> (x1 &&& 31)) &&& (1 : Int32)) = 0 then (if inb x1 16 = true then if inb x1 16 = true then if inb ((rg_lat ua) x1.toNatClampNeg) 279 = true then m_Ref_cutNow_L2 n0 (rs_mem ua (vp_updL (rg_mem ua) ((rg_lat ua) x1.toNatClampNeg).toNatClampNeg ((rg_old ua) x1.toNatClampNeg))) (x1 + (1 : Int32)) else none else none else none) else (m_Ref_cutNow_L2 n0 ua (x1 + (1 : Int32))))
def m_Ref_cutNow (u : SR)  : Option (Unit × SR) := ol0 (m_Ref_cutNow_L2 fz u (0 : Int32)) id (fun u1 => some ((), (rs_br (rs_dn (rs_ca (rs_lo u1 (0 : Int32)) (-1 : Int32)) (1 : Int32)) (1 : Int32))))
def m_Ref_store_J46 (ua : SR) (x1 : Int32) (x2 : Int64) (s0 : Int32) : Option (Unit × SR) := if inb (rg_lo ua) 16 = true then if inb x1 279 = true then if inb (rg_lo ua) 16 = true then if inb x1 279 = true then some ((), (rs_st (rs_mem (rs_lo (rs_old (rs_lat (rs_ca ua s0) (upd (rg_lat ua) (rg_lo ua).toNatClampNeg x1)) (vp_updL (rg_old ua) (rg_lo ua).toNatClampNeg ((rg_mem ua) x1.toNatClampNeg))) ((rg_lo ua) + (1 : Int32))) (vp_updL (rg_mem ua) x1.toNatClampNeg x2)) ((rg_st ua) + (1 : Int32)))) else none else none else none else none
def m_Ref_store_J18 (ua : SR) (x1 : Int32) (x2 : Int64) : Option (Unit × SR) := if (rg_br ua) = 0 then (if (rg_ca ua) ≤ 0 then (m_Ref_store_J46 ua x1 x2 (rg_ca ua)) else (m_Ref_store_J46 ua x1 x2 ((rg_ca ua) - (1 : Int32)))) else (some ((), ua))
def m_Ref_store (u : SR) (a1 : Int32) (a2 : Int64) : Option (Unit × SR) := if (rg_ca u) = 0 then (if (rg_br u) = 0 then (ob (m_Ref_cutNow u) (fun _ u2 => m_Ref_store_J18 u2 a1 a2)) else (m_Ref_store_J18 u a1 a2)) else (m_Ref_store_J18 u a1 a2)
def m_Ref_fence (u : SR)  : Option (Unit × SR) := some ((), (rs_lo u (0 : Int32)))
def m_Ref_firm (u : SR) (a1 : Int32) (a2 : Int64) : Option (Unit × SR) := ob (m_Ref_store u a1 a2) (fun _ u2 => ob (m_Ref_fence u2) (fun _ u6 => some ((), u6)))
def m_Ref_entry (u : SR) (a1 : Int32) (a2 : Int32) : Option (Int64 × SR) := some (((((a1.toInt64) + (1 : Int64)) * (4294967296 : Int64)) + ((a2.toInt64) &&& (4294967295 : Int64))), u)
def m_Ref_keyOf (u : SR) (a1 : Int64) : Option (Int32 × SR) := some ((((zLushr a1 (32 : Int32)).toInt32) - (1 : Int32)), u)
def m_Ref_root (u : SR)  : Option (Int32 × SR) := if inb (0 : Int32) 279 = true then some ((((rg_mem u) (0 : Int32).toNatClampNeg).toInt32), u) else none
def m_Ref_level (u : SR) (a1 : Int32) : Option (Int32 × SR) := if inb ((9 : Int32) * a1) 279 = true then some ((((rg_mem u) ((9 : Int32) * a1).toNatClampNeg).toInt32), u) else none
def m_Ref_next (u : SR) (a1 : Int32) : Option (Int32 × SR) := if inb (((9 : Int32) * a1) + (1 : Int32)) 279 = true then some ((((rg_mem u) (((9 : Int32) * a1) + (1 : Int32)).toNatClampNeg).toInt32), u) else none
def m_Ref_low (u : SR) (a1 : Int32) : Option (Int32 × SR) := if inb (((9 : Int32) * a1) + (2 : Int32)) 279 = true then some ((((rg_mem u) (((9 : Int32) * a1) + (2 : Int32)).toNatClampNeg).toInt32), u) else none
def m_Ref_at (u : SR) (a1 : Int32) (a2 : Int32) : Option (Int64 × SR) := if a2 ≤ (5 : Int32) then (if inb ((((9 : Int32) * a1) + (3 : Int32)) + a2) 279 = true then some (((rg_mem u) ((((9 : Int32) * a1) + (3 : Int32)) + a2).toNatClampNeg), u) else none) else (some ((0 : Int64), u))
def m_Ref_keyAt (u : SR) (a1 : Int32) (a2 : Int32) : Option (Int32 × SR) := ob (m_Ref_at u a1 a2) (fun r1 u2 => ob (m_Ref_keyOf u2 r1) (fun r5 u6 => some (r5, u6)))
def m_Ref_blockAt (u : SR) (a1 : Int32) (a2 : Int32) : Option (Int32 × SR) := ob (m_Ref_at u a1 a2) (fun r1 u2 => some ((r1.toInt32), u2))
def m_Ref_length_L2 : Nat → SR → Int32 → Int32 → Option ((Int32 × SR) ⊕ (Int32 × SR))
  | 0, _, _, _ => none
  | n0 + 1, ua, x2, x1 => if (6 : Int32) ≤ x2 then (some (.inr (x2, ua))) else (ob (m_Ref_at ua x1 x2) (fun r1 u2 => if (lg_cmp r1 (0 : Int64)) = 0 then (some (.inr (x2, u2))) else (m_Ref_length_L2 n0 u2 (x2 + (1 : Int32)) x1)))
def m_Ref_length (u : SR) (a1 : Int32) : Option (Int32 × SR) := ol1 (m_Ref_length_L2 fz u (0 : Int32) a1) id (fun x5 u6 => some (x5, u6))
def m_Ref_reach_J17 (ua : SR) (x1 : Int32) : Option (Int32 × SR) := if inb x1 31 = true then some ((0 : Int32), (rs_rea ua (upd (rg_rea ua) x1.toNatClampNeg (vp_nar .boolean (1 : Int32))))) else none
def m_Ref_reach (u : SR) (a1 : Int32) : Option (Int32 × SR) := if a1 = 0 then (m_Ref_reach_J17 u a1) else (if inb a1 31 = true then if ((rg_rea u) a1.toNatClampNeg) = 0 then (if inb a1 31 = true then some ((1 : Int32), (rs_rea u (upd (rg_rea u) a1.toNatClampNeg (vp_nar .boolean (1 : Int32))))) else none) else (m_Ref_reach_J17 u a1) else none)
theorem d_Ref_thrown_0 : decode b_Ref_thrown 0 = .ok (.aload_n 0, 1) := by decide +kernel
theorem d_Ref_thrown_1 : decode b_Ref_thrown 1 = .ok (.getfield 31, 3) := by decide +kernel
theorem d_Ref_thrown_4 : decode b_Ref_thrown 4 = .ok (.ireturn, 1) := by decide +kernel
set_option maxRecDepth 100000 in
set_option maxHeartbeats 4000000 in
theorem k_Ref_thrown (l : Launch) (D : va_G) (G : Nat → Nat) (Y : Nat → ClassId) {u : SR}  {r : Int32} {u' : SR} (hm : m_Ref_thrown u  = some (r, u')) : KI l D clz (tyz Y) (wdR G Y) y_Ref_thrown b_Ref_thrown 1 (some .int) 0 0 [.ref (G 0)] u r u' := by
  refine mkI (by decide) (Nat.le_of_ble_eq_true rfl) ?_
  intro p e s m below meth c A Z ls C0 hP hD hS hl hret
  obtain ⟨hx, hb, hml, hown, hts, hK, hN, hA⟩ := id C0
  have hl : lv_has ls 1 [(0, .ref (G 0))] := hl
  rw [m_Ref_thrown] at hm
  refine lv_aload_n hx hb d_Ref_thrown_0 rfl (lv_at hl 0 rfl) ?_
  refine va_get (D := D) (ci := 5) (v := .int (rg_cd u)) (C := "FirmStoreModel") (T := F_Ref) (N := 12) hx hb hts iz_Ref hown hK hP 0 rfl rfl 9 (by decide) (hts _ q_546) (fun _ h9 => h9) rfl d_Ref_thrown_1 ?_
  exact hret _ _ _ _ (rg_cd u) u (Option.some.inj hm) hP hD hS d_Ref_thrown_4
theorem d_Ref_cutNow_0 : decode b_Ref_cutNow 0 = .ok (.iconst 0, 1) := by decide +kernel
theorem d_Ref_cutNow_1 : decode b_Ref_cutNow 1 = .ok (.istore_n 1, 1) := by decide +kernel
theorem d_Ref_cutNow_2 : decode b_Ref_cutNow 2 = .ok (.iload_n 1, 1) := by decide +kernel
theorem d_Ref_cutNow_3 : decode b_Ref_cutNow 3 = .ok (.aload_n 0, 1) := by decide +kernel
theorem d_Ref_cutNow_4 : decode b_Ref_cutNow 4 = .ok (.getfield 34, 3) := by decide +kernel
theorem d_Ref_cutNow_7 : decode b_Ref_cutNow 7 = .ok (.if_icmp .ge 37, 3) := by decide +kernel
theorem d_Ref_cutNow_10 : decode b_Ref_cutNow 10 = .ok (.aload_n 0, 1) := by decide +kernel
theorem d_Ref_cutNow_11 : decode b_Ref_cutNow 11 = .ok (.getfield 37, 3) := by decide +kernel
theorem d_Ref_cutNow_14 : decode b_Ref_cutNow 14 = .ok (.iload_n 1, 1) := by decide +kernel
theorem d_Ref_cutNow_15 : decode b_Ref_cutNow 15 = .ok (.ishr, 1) := by decide +kernel
theorem d_Ref_cutNow_16 : decode b_Ref_cutNow 16 = .ok (.iconst 1, 1) := by decide +kernel
theorem d_Ref_cutNow_17 : decode b_Ref_cutNow 17 = .ok (.iand, 1) := by decide +kernel
theorem d_Ref_cutNow_18 : decode b_Ref_cutNow 18 = .ok (.ifCond .ne 20, 3) := by decide +kernel
theorem d_Ref_cutNow_21 : decode b_Ref_cutNow 21 = .ok (.aload_n 0, 1) := by decide +kernel
theorem d_Ref_cutNow_22 : decode b_Ref_cutNow 22 = .ok (.getfield 7, 3) := by decide +kernel
theorem d_Ref_cutNow_25 : decode b_Ref_cutNow 25 = .ok (.aload_n 0, 1) := by decide +kernel
theorem d_Ref_cutNow_26 : decode b_Ref_cutNow 26 = .ok (.getfield 13, 3) := by decide +kernel
theorem d_Ref_cutNow_29 : decode b_Ref_cutNow 29 = .ok (.iload_n 1, 1) := by decide +kernel
theorem d_Ref_cutNow_30 : decode b_Ref_cutNow 30 = .ok (.iaload, 1) := by decide +kernel
theorem d_Ref_cutNow_31 : decode b_Ref_cutNow 31 = .ok (.aload_n 0, 1) := by decide +kernel
theorem d_Ref_cutNow_32 : decode b_Ref_cutNow 32 = .ok (.getfield 17, 3) := by decide +kernel
theorem d_Ref_cutNow_35 : decode b_Ref_cutNow 35 = .ok (.iload_n 1, 1) := by decide +kernel
theorem d_Ref_cutNow_36 : decode b_Ref_cutNow 36 = .ok (.laload, 1) := by decide +kernel
theorem d_Ref_cutNow_37 : decode b_Ref_cutNow 37 = .ok (.lastore, 1) := by decide +kernel
theorem d_Ref_cutNow_38 : decode b_Ref_cutNow 38 = .ok (.iinc 1 1, 3) := by decide +kernel
theorem d_Ref_cutNow_41 : decode b_Ref_cutNow 41 = .ok (.goto (-39), 3) := by decide +kernel
theorem d_Ref_cutNow_44 : decode b_Ref_cutNow 44 = .ok (.aload_n 0, 1) := by decide +kernel
theorem d_Ref_cutNow_45 : decode b_Ref_cutNow 45 = .ok (.iconst 0, 1) := by decide +kernel
theorem d_Ref_cutNow_46 : decode b_Ref_cutNow 46 = .ok (.putfield 34, 3) := by decide +kernel
theorem d_Ref_cutNow_49 : decode b_Ref_cutNow 49 = .ok (.aload_n 0, 1) := by decide +kernel
theorem d_Ref_cutNow_50 : decode b_Ref_cutNow 50 = .ok (.iconst (-1), 1) := by decide +kernel
theorem d_Ref_cutNow_51 : decode b_Ref_cutNow 51 = .ok (.putfield 20, 3) := by decide +kernel
theorem d_Ref_cutNow_54 : decode b_Ref_cutNow 54 = .ok (.aload_n 0, 1) := by decide +kernel
theorem d_Ref_cutNow_55 : decode b_Ref_cutNow 55 = .ok (.iconst 1, 1) := by decide +kernel
theorem d_Ref_cutNow_56 : decode b_Ref_cutNow 56 = .ok (.putfield 40, 3) := by decide +kernel
theorem d_Ref_cutNow_59 : decode b_Ref_cutNow 59 = .ok (.aload_n 0, 1) := by decide +kernel
theorem d_Ref_cutNow_60 : decode b_Ref_cutNow 60 = .ok (.iconst 1, 1) := by decide +kernel
theorem d_Ref_cutNow_61 : decode b_Ref_cutNow 61 = .ok (.putfield 44, 3) := by decide +kernel
theorem d_Ref_cutNow_64 : decode b_Ref_cutNow 64 = .ok (.return_, 1) := by decide +kernel
set_option maxRecDepth 100000 in
set_option maxHeartbeats 4000000 in
theorem k_Ref_cutNow (l : Launch) (D : va_G) (G : Nat → Nat) (Y : Nat → ClassId) {u : SR}  {u' : SR} (hm : m_Ref_cutNow u  = some ((), u')) : KV l D clz (tyz Y) (wdR G Y) y_Ref_cutNow b_Ref_cutNow 2 none 0 0 [.ref (G 0)] u u' := by
  refine mkV (by decide) (Nat.le_of_ble_eq_true rfl) ?_
  intro p e s m below meth c A Z ls C0 hP hD hS hl hret
  obtain ⟨hx, hb, hml, hown, hts, hK, hN, hA⟩ := id C0
  have hl : lv_has ls 2 [(0, .ref (G 0))] := hl
  have L2 : ∀  (o : (Unit × SR) ⊕ (SR)) (kr : ∀ z, o = .inl z → z = ((), u')) (kx : ∀  (ub : SR), o = .inr ub → ∀ (H : Heap) (locs : List Loc) (ls : Array Slot), va_P D clz (wdR G Y ub) H → va_D A (wdR G Y ub) → va_S A s.heap H locs → lv_has ls 2 [(0, .ref (G 0))] → W p l e (zRm 0 0) s m ([.ref (G 0)] : List Value).toArray below meth c H locs 0 0 Z (F0 m 44 ls [])) (n0 : Nat) (ua : SR) (x1 : Int32), m_Ref_cutNow_L2 n0 ua x1 = some o → ∀ (H : Heap) (locs : List Loc) (ls : Array Slot), va_P D clz (wdR G Y ua) H → va_D A (wdR G Y ua) → va_S A s.heap H locs → lv_has ls 2 [(0, .ref (G 0)), (1, .int x1)] → W p l e (zRm 0 0) s m ([.ref (G 0)] : List Value).toArray below meth c H locs 0 0 Z (F0 m 2 ls []) := by
    intro  o kr kx n0
    induction n0 with
    | zero => intro ua x1 hm; rw [m_Ref_cutNow_L2] at hm; cases hm
    | succ n0 ih =>
      intro ua x1 hm H locs ls hP hD hS hl
      rw [m_Ref_cutNow_L2] at hm
      refine lv_iload_n hx hb d_Ref_cutNow_2 rfl (lv_at hl 1 rfl) ?_
      refine lv_aload_n hx hb d_Ref_cutNow_3 rfl (lv_at hl 0 rfl) ?_
      refine va_get (D := D) (ci := 5) (v := .int (rg_lo ua)) (C := "FirmStoreModel") (T := F_Ref) (N := 12) hx hb hts iz_Ref hown hK hP 0 rfl rfl 1 (by decide) (hts _ q_538) (fun _ h9 => h9) rfl d_Ref_cutNow_4 ?_
      refine lv_icmp_ge (tgt := 44) hx hb d_Ref_cutNow_7 (by decide) (fun hc => ?_) (fun hc => ?_)
      · rw [if_pos hc] at hm
        exact kx  ua (Option.some.inj hm).symm _ _ _ hP hD hS (lv_sub hl [0] rfl)
      · rw [if_neg hc] at hm
        refine lv_aload_n hx hb d_Ref_cutNow_10 rfl (lv_at hl 0 rfl) ?_
        refine va_get (D := D) (ci := 5) (v := .int (rg_cm ua)) (C := "FirmStoreModel") (T := F_Ref) (N := 12) hx hb hts iz_Ref hown hK hP 0 rfl rfl 5 (by decide) (hts _ q_542) (fun _ h9 => h9) rfl d_Ref_cutNow_11 ?_
        refine lv_iload_n hx hb d_Ref_cutNow_14 rfl (lv_at hl 1 rfl) ?_
        refine lv_ishr hx hb d_Ref_cutNow_15 ?_
        refine lv_iconst (v := (1 : Int32)) hx hb d_Ref_cutNow_16 (by decide) ?_
        refine lv_iand hx hb d_Ref_cutNow_17 ?_
        refine lv_if_ne (tgt := 38) hx hb d_Ref_cutNow_18 (by decide) (fun hc => ?_) (fun hc => ?_)
        · rw [if_neg hc] at hm
          refine lv_iinc (v := (x1 + (1 : Int32))) (lv' := [(1, .int (x1 + (1 : Int32))), (0, .ref (G 0))]) hx hb d_Ref_cutNow_38 hl (k := 1) rfl rfl (by decide) rfl (fun ls hl => ?_)
          refine lv_goto (tgt := 2) hx hb d_Ref_cutNow_41 (by decide) ?_
          exact ih ua (x1 + (1 : Int32)) hm _ _ _ hP hD hS (lv_sub hl [1, 0] rfl)
        · rw [if_pos hc] at hm
          refine lv_aload_n hx hb d_Ref_cutNow_21 rfl (lv_at hl 0 rfl) ?_
          refine va_get (D := D) (ci := 5) (v := .ref (G 1)) (C := "FirmStoreModel") (T := F_Ref) (N := 12) hx hb hts iz_Ref hown hK hP 0 rfl rfl 0 (by decide) (hts _ q_537) (fun _ h9 => h9) rfl d_Ref_cutNow_22 ?_
          refine lv_aload_n hx hb d_Ref_cutNow_25 rfl (lv_at hl 0 rfl) ?_
          refine va_get (D := D) (ci := 5) (v := .ref (G 2)) (C := "FirmStoreModel") (T := F_Ref) (N := 12) hx hb hts iz_Ref hown hK hP 0 rfl rfl 2 (by decide) (hts _ q_539) (fun _ h9 => h9) rfl d_Ref_cutNow_26 ?_
          refine lv_iload_n hx hb d_Ref_cutNow_29 rfl (lv_at hl 1 rfl) ?_
          obtain ⟨hg, hm⟩ := gd hm
          refine va_iald hx hb hK hP 2 1 (f := (rg_lat ua)) rfl rfl (inb_in hg) d_Ref_cutNow_30 ?_
          refine lv_aload_n hx hb d_Ref_cutNow_31 rfl (lv_at hl 0 rfl) ?_
          refine va_get (D := D) (ci := 5) (v := .ref (G 3)) (C := "FirmStoreModel") (T := F_Ref) (N := 12) hx hb hts iz_Ref hown hK hP 0 rfl rfl 3 (by decide) (hts _ q_540) (fun _ h9 => h9) rfl d_Ref_cutNow_32 ?_
          refine lv_iload_n hx hb d_Ref_cutNow_35 rfl (lv_at hl 1 rfl) ?_
          obtain ⟨hg, hm⟩ := gd hm
          refine va_lald hx hb hK hP 3 0 (f := (rg_old ua)) rfl rfl (inb_in hg) d_Ref_cutNow_36 ?_
          obtain ⟨hg, hm⟩ := gd hm
          refine va_last hx hb hK hP hD hS 1 0 (f := (rg_mem ua)) rfl rfl (inb_in hg) d_Ref_cutNow_37 (fun H locs hP hD hS => ?_)
          have hP : va_P D clz (wdR G Y (rs_mem ua (vp_updL (rg_mem ua) ((rg_lat ua) x1.toNatClampNeg).toNatClampNeg ((rg_old ua) x1.toNatClampNeg)))) H := hP
          have hD : va_D A (wdR G Y (rs_mem ua (vp_updL (rg_mem ua) ((rg_lat ua) x1.toNatClampNeg).toNatClampNeg ((rg_old ua) x1.toNatClampNeg)))) := hD
          refine lv_iinc (v := (x1 + (1 : Int32))) (lv' := [(1, .int (x1 + (1 : Int32))), (0, .ref (G 0))]) hx hb d_Ref_cutNow_38 hl (k := 1) rfl rfl (by decide) rfl (fun ls hl => ?_)
          refine lv_goto (tgt := 2) hx hb d_Ref_cutNow_41 (by decide) ?_
          exact ih (rs_mem ua (vp_updL (rg_mem ua) ((rg_lat ua) x1.toNatClampNeg).toNatClampNeg ((rg_old ua) x1.toNatClampNeg))) (x1 + (1 : Int32)) hm _ _ _ hP hD hS (lv_sub hl [1, 0] rfl)
  rw [m_Ref_cutNow] at hm
  refine lv_iconst (v := (0 : Int32)) hx hb d_Ref_cutNow_0 (by decide) ?_
  refine lv_istore_n (lv' := [(1, .int (0 : Int32)), (0, .ref (G 0))]) hx hb d_Ref_cutNow_1 rfl hl (by decide) rfl (fun ls hl => ?_)
  obtain ⟨qq, hq, hi, ho⟩ := ol0_some hm
  refine L2  qq (fun z hz => hi z hz) (fun  u1 hz H locs ls hP hD hS hl => ?_) fz u (0 : Int32) hq _ _ _ hP hD hS (lv_sub hl [1, 0] rfl)
  have hm := ho  u1 hz
  refine lv_aload_n hx hb d_Ref_cutNow_44 rfl (lv_at hl 0 rfl) ?_
  refine lv_iconst (v := (0 : Int32)) hx hb d_Ref_cutNow_45 (by decide) ?_
  refine va_put (D := D) (ci := 5) (v := .int (0 : Int32)) (ty := .int) (C := "FirmStoreModel") (T := F_Ref) (N := 12) hx hb hts iz_Ref t_Ref t_Ref_ok n_Ref hown hK hP hD hS 0 rfl rfl 1 (by decide) (hts _ q_538) (fun _ h9 => h9) rfl (by decide +kernel) rfl rfl (Nat.le_of_ble_eq_true rfl) d_Ref_cutNow_46 (fun H locs hP hD hS => ?_)
  have hP : va_P D clz (wdR G Y (rs_lo u1 (0 : Int32))) H := hP
  have hD : va_D A (wdR G Y (rs_lo u1 (0 : Int32))) := hD
  refine lv_aload_n hx hb d_Ref_cutNow_49 rfl (lv_at hl 0 rfl) ?_
  refine lv_iconst (v := (-1 : Int32)) hx hb d_Ref_cutNow_50 (by decide) ?_
  refine va_put (D := D) (ci := 5) (v := .int (-1 : Int32)) (ty := .int) (C := "FirmStoreModel") (T := F_Ref) (N := 12) hx hb hts iz_Ref t_Ref t_Ref_ok n_Ref hown hK hP hD hS 0 rfl rfl 4 (by decide) (hts _ q_541) (fun _ h9 => h9) rfl (by decide +kernel) rfl rfl (Nat.le_of_ble_eq_true rfl) d_Ref_cutNow_51 (fun H locs hP hD hS => ?_)
  have hP : va_P D clz (wdR G Y (rs_ca (rs_lo u1 (0 : Int32)) (-1 : Int32))) H := hP
  have hD : va_D A (wdR G Y (rs_ca (rs_lo u1 (0 : Int32)) (-1 : Int32))) := hD
  refine lv_aload_n hx hb d_Ref_cutNow_54 rfl (lv_at hl 0 rfl) ?_
  refine lv_iconst (v := (1 : Int32)) hx hb d_Ref_cutNow_55 (by decide) ?_
  refine va_put (D := D) (ci := 5) (v := .int (1 : Int32)) (ty := .boolean) (C := "FirmStoreModel") (T := F_Ref) (N := 12) hx hb hts iz_Ref t_Ref t_Ref_ok n_Ref hown hK hP hD hS 0 rfl rfl 7 (by decide) (hts _ q_544) (fun _ h9 => h9) rfl (by decide +kernel) (nz (Or.inr rfl)) (by decide) (Nat.le_of_ble_eq_true rfl) d_Ref_cutNow_56 (fun H locs hP hD hS => ?_)
  have hP : va_P D clz (wdR G Y (rs_dn (rs_ca (rs_lo u1 (0 : Int32)) (-1 : Int32)) (1 : Int32))) H := hP
  have hD : va_D A (wdR G Y (rs_dn (rs_ca (rs_lo u1 (0 : Int32)) (-1 : Int32)) (1 : Int32))) := hD
  refine lv_aload_n hx hb d_Ref_cutNow_59 rfl (lv_at hl 0 rfl) ?_
  refine lv_iconst (v := (1 : Int32)) hx hb d_Ref_cutNow_60 (by decide) ?_
  refine va_put (D := D) (ci := 5) (v := .int (1 : Int32)) (ty := .boolean) (C := "FirmStoreModel") (T := F_Ref) (N := 12) hx hb hts iz_Ref t_Ref t_Ref_ok n_Ref hown hK hP hD hS 0 rfl rfl 8 (by decide) (hts _ q_545) (fun _ h9 => h9) rfl (by decide +kernel) (nz (Or.inr rfl)) (by decide) (Nat.le_of_ble_eq_true rfl) d_Ref_cutNow_61 (fun H locs hP hD hS => ?_)
  have hP : va_P D clz (wdR G Y (rs_br (rs_dn (rs_ca (rs_lo u1 (0 : Int32)) (-1 : Int32)) (1 : Int32)) (1 : Int32))) H := hP
  have hD : va_D A (wdR G Y (rs_br (rs_dn (rs_ca (rs_lo u1 (0 : Int32)) (-1 : Int32)) (1 : Int32)) (1 : Int32))) := hD
  exact hret _ _ _ _ () (rs_br (rs_dn (rs_ca (rs_lo u1 (0 : Int32)) (-1 : Int32)) (1 : Int32)) (1 : Int32)) (Option.some.inj hm) hP hD hS d_Ref_cutNow_64
theorem d_Ref_store_0 : decode b_Ref_store 0 = .ok (.aload_n 0, 1) := by decide +kernel
theorem d_Ref_store_1 : decode b_Ref_store 1 = .ok (.getfield 20, 3) := by decide +kernel
theorem d_Ref_store_4 : decode b_Ref_store 4 = .ok (.ifCond .ne 14, 3) := by decide +kernel
theorem d_Ref_store_7 : decode b_Ref_store 7 = .ok (.aload_n 0, 1) := by decide +kernel
theorem d_Ref_store_8 : decode b_Ref_store 8 = .ok (.getfield 44, 3) := by decide +kernel
theorem d_Ref_store_11 : decode b_Ref_store 11 = .ok (.ifCond .ne 7, 3) := by decide +kernel
theorem d_Ref_store_14 : decode b_Ref_store 14 = .ok (.aload_n 0, 1) := by decide +kernel
theorem d_Ref_store_15 : decode b_Ref_store 15 = .ok (.invokevirtual 47, 3) := by decide +kernel
theorem d_Ref_store_18 : decode b_Ref_store 18 = .ok (.aload_n 0, 1) := by decide +kernel
theorem d_Ref_store_19 : decode b_Ref_store 19 = .ok (.getfield 44, 3) := by decide +kernel
theorem d_Ref_store_22 : decode b_Ref_store 22 = .ok (.ifCond .ne 79, 3) := by decide +kernel
theorem d_Ref_store_25 : decode b_Ref_store 25 = .ok (.aload_n 0, 1) := by decide +kernel
theorem d_Ref_store_26 : decode b_Ref_store 26 = .ok (.aload_n 0, 1) := by decide +kernel
theorem d_Ref_store_27 : decode b_Ref_store 27 = .ok (.getfield 20, 3) := by decide +kernel
theorem d_Ref_store_30 : decode b_Ref_store 30 = .ok (.ifCond .le 12, 3) := by decide +kernel
theorem d_Ref_store_33 : decode b_Ref_store 33 = .ok (.aload_n 0, 1) := by decide +kernel
theorem d_Ref_store_34 : decode b_Ref_store 34 = .ok (.getfield 20, 3) := by decide +kernel
theorem d_Ref_store_37 : decode b_Ref_store 37 = .ok (.iconst 1, 1) := by decide +kernel
theorem d_Ref_store_38 : decode b_Ref_store 38 = .ok (.isub, 1) := by decide +kernel
theorem d_Ref_store_39 : decode b_Ref_store 39 = .ok (.goto 7, 3) := by decide +kernel
theorem d_Ref_store_42 : decode b_Ref_store 42 = .ok (.aload_n 0, 1) := by decide +kernel
theorem d_Ref_store_43 : decode b_Ref_store 43 = .ok (.getfield 20, 3) := by decide +kernel
theorem d_Ref_store_46 : decode b_Ref_store 46 = .ok (.putfield 20, 3) := by decide +kernel
theorem d_Ref_store_49 : decode b_Ref_store 49 = .ok (.aload_n 0, 1) := by decide +kernel
theorem d_Ref_store_50 : decode b_Ref_store 50 = .ok (.getfield 13, 3) := by decide +kernel
theorem d_Ref_store_53 : decode b_Ref_store 53 = .ok (.aload_n 0, 1) := by decide +kernel
theorem d_Ref_store_54 : decode b_Ref_store 54 = .ok (.getfield 34, 3) := by decide +kernel
theorem d_Ref_store_57 : decode b_Ref_store 57 = .ok (.iload_n 1, 1) := by decide +kernel
theorem d_Ref_store_58 : decode b_Ref_store 58 = .ok (.iastore, 1) := by decide +kernel
theorem d_Ref_store_59 : decode b_Ref_store 59 = .ok (.aload_n 0, 1) := by decide +kernel
theorem d_Ref_store_60 : decode b_Ref_store 60 = .ok (.getfield 17, 3) := by decide +kernel
theorem d_Ref_store_63 : decode b_Ref_store 63 = .ok (.aload_n 0, 1) := by decide +kernel
theorem d_Ref_store_64 : decode b_Ref_store 64 = .ok (.getfield 34, 3) := by decide +kernel
theorem d_Ref_store_67 : decode b_Ref_store 67 = .ok (.aload_n 0, 1) := by decide +kernel
theorem d_Ref_store_68 : decode b_Ref_store 68 = .ok (.getfield 7, 3) := by decide +kernel
theorem d_Ref_store_71 : decode b_Ref_store 71 = .ok (.iload_n 1, 1) := by decide +kernel
theorem d_Ref_store_72 : decode b_Ref_store 72 = .ok (.laload, 1) := by decide +kernel
theorem d_Ref_store_73 : decode b_Ref_store 73 = .ok (.lastore, 1) := by decide +kernel
theorem d_Ref_store_74 : decode b_Ref_store 74 = .ok (.aload_n 0, 1) := by decide +kernel
theorem d_Ref_store_75 : decode b_Ref_store 75 = .ok (.aload_n 0, 1) := by decide +kernel
theorem d_Ref_store_76 : decode b_Ref_store 76 = .ok (.getfield 34, 3) := by decide +kernel
theorem d_Ref_store_79 : decode b_Ref_store 79 = .ok (.iconst 1, 1) := by decide +kernel
theorem d_Ref_store_80 : decode b_Ref_store 80 = .ok (.iadd, 1) := by decide +kernel
theorem d_Ref_store_81 : decode b_Ref_store 81 = .ok (.putfield 34, 3) := by decide +kernel
theorem d_Ref_store_84 : decode b_Ref_store 84 = .ok (.aload_n 0, 1) := by decide +kernel
theorem d_Ref_store_85 : decode b_Ref_store 85 = .ok (.getfield 7, 3) := by decide +kernel
theorem d_Ref_store_88 : decode b_Ref_store 88 = .ok (.iload_n 1, 1) := by decide +kernel
theorem d_Ref_store_89 : decode b_Ref_store 89 = .ok (.lload_n 2, 1) := by decide +kernel
theorem d_Ref_store_90 : decode b_Ref_store 90 = .ok (.lastore, 1) := by decide +kernel
theorem d_Ref_store_91 : decode b_Ref_store 91 = .ok (.aload_n 0, 1) := by decide +kernel
theorem d_Ref_store_92 : decode b_Ref_store 92 = .ok (.aload_n 0, 1) := by decide +kernel
theorem d_Ref_store_93 : decode b_Ref_store 93 = .ok (.getfield 50, 3) := by decide +kernel
theorem d_Ref_store_96 : decode b_Ref_store 96 = .ok (.iconst 1, 1) := by decide +kernel
theorem d_Ref_store_97 : decode b_Ref_store 97 = .ok (.iadd, 1) := by decide +kernel
theorem d_Ref_store_98 : decode b_Ref_store 98 = .ok (.putfield 50, 3) := by decide +kernel
theorem d_Ref_store_101 : decode b_Ref_store 101 = .ok (.return_, 1) := by decide +kernel
set_option maxRecDepth 100000 in
set_option maxHeartbeats 4000000 in
theorem k_Ref_store (l : Launch) (D : va_G) (G : Nat → Nat) (Y : Nat → ClassId) {u : SR} {a1 : Int32} {a2 : Int64} {u' : SR} (hm : m_Ref_store u a1 a2 = some ((), u')) : KV l D clz (tyz Y) (wdR G Y) y_Ref_store b_Ref_store 4 none 1 21 [.ref (G 0), .int a1, .long a2] u u' := by
  refine mkV (by decide) (Nat.le_of_ble_eq_true rfl) ?_
  intro p e s m below meth c A Z ls C0 hP hD hS hl hret
  obtain ⟨hx, hb, hml, hown, hts, hK, hN, hA⟩ := id C0
  have hl : lv_has ls 4 [(0, .ref (G 0)), (1, .int a1), (2, .long a2)] := hl
  have J46 : ∀ (ua : SR) (x1 : Int32) (x2 : Int64) (s0 : Int32), m_Ref_store_J46 ua x1 x2 s0 = some ((), u') → ∀ (H : Heap) (locs : List Loc) (ls : Array Slot), va_P D clz (wdR G Y ua) H → va_D A (wdR G Y ua) → va_S A s.heap H locs → lv_has ls 4 [(0, .ref (G 0)), (1, .int x1), (2, .long x2)] → W p l e (zRm 1 21) s m ([.ref (G 0), .int a1, .long a2] : List Value).toArray below meth c H locs 0 0 Z (F0 m 46 ls [.int s0, .ref (G 0)]) := by
    intro ua x1 x2 s0 hm H locs ls hP hD hS hl
    rw [m_Ref_store_J46] at hm
    refine va_put (D := D) (ci := 5) (v := .int s0) (ty := .int) (C := "FirmStoreModel") (T := F_Ref) (N := 12) hx hb hts iz_Ref t_Ref t_Ref_ok n_Ref hown hK hP hD hS 0 rfl rfl 4 (by decide) (hts _ q_541) (fun _ h9 => h9) rfl (by decide +kernel) rfl rfl (Nat.le_of_ble_eq_true rfl) d_Ref_store_46 (fun H locs hP hD hS => ?_)
    have hP : va_P D clz (wdR G Y (rs_ca ua s0)) H := hP
    have hD : va_D A (wdR G Y (rs_ca ua s0)) := hD
    refine lv_aload_n hx hb d_Ref_store_49 rfl (lv_at hl 0 rfl) ?_
    refine va_get (D := D) (ci := 5) (v := .ref (G 2)) (C := "FirmStoreModel") (T := F_Ref) (N := 12) hx hb hts iz_Ref hown hK hP 0 rfl rfl 2 (by decide) (hts _ q_539) (fun _ h9 => h9) rfl d_Ref_store_50 ?_
    refine lv_aload_n hx hb d_Ref_store_53 rfl (lv_at hl 0 rfl) ?_
    refine va_get (D := D) (ci := 5) (v := .int (rg_lo ua)) (C := "FirmStoreModel") (T := F_Ref) (N := 12) hx hb hts iz_Ref hown hK hP 0 rfl rfl 1 (by decide) (hts _ q_538) (fun _ h9 => h9) rfl d_Ref_store_54 ?_
    refine lv_iload_n hx hb d_Ref_store_57 rfl (lv_at hl 1 rfl) ?_
    obtain ⟨hg, hm⟩ := gd hm
    refine va_iast hx hb hK hP hD hS 2 1 (f := (rg_lat ua)) rfl rfl (inb_in hg) d_Ref_store_58 (fun H locs hP hD hS => ?_)
    have hP : va_P D clz (wdR G Y (rs_lat (rs_ca ua s0) (upd (rg_lat ua) (rg_lo ua).toNatClampNeg x1))) H := hP
    have hD : va_D A (wdR G Y (rs_lat (rs_ca ua s0) (upd (rg_lat ua) (rg_lo ua).toNatClampNeg x1))) := hD
    refine lv_aload_n hx hb d_Ref_store_59 rfl (lv_at hl 0 rfl) ?_
    refine va_get (D := D) (ci := 5) (v := .ref (G 3)) (C := "FirmStoreModel") (T := F_Ref) (N := 12) hx hb hts iz_Ref hown hK hP 0 rfl rfl 3 (by decide) (hts _ q_540) (fun _ h9 => h9) rfl d_Ref_store_60 ?_
    refine lv_aload_n hx hb d_Ref_store_63 rfl (lv_at hl 0 rfl) ?_
    refine va_get (D := D) (ci := 5) (v := .int (rg_lo ua)) (C := "FirmStoreModel") (T := F_Ref) (N := 12) hx hb hts iz_Ref hown hK hP 0 rfl rfl 1 (by decide) (hts _ q_538) (fun _ h9 => h9) rfl d_Ref_store_64 ?_
    refine lv_aload_n hx hb d_Ref_store_67 rfl (lv_at hl 0 rfl) ?_
    refine va_get (D := D) (ci := 5) (v := .ref (G 1)) (C := "FirmStoreModel") (T := F_Ref) (N := 12) hx hb hts iz_Ref hown hK hP 0 rfl rfl 0 (by decide) (hts _ q_537) (fun _ h9 => h9) rfl d_Ref_store_68 ?_
    refine lv_iload_n hx hb d_Ref_store_71 rfl (lv_at hl 1 rfl) ?_
    obtain ⟨hg, hm⟩ := gd hm
    refine va_lald hx hb hK hP 1 0 (f := (rg_mem ua)) rfl rfl (inb_in hg) d_Ref_store_72 ?_
    obtain ⟨hg, hm⟩ := gd hm
    refine va_last hx hb hK hP hD hS 3 0 (f := (rg_old ua)) rfl rfl (inb_in hg) d_Ref_store_73 (fun H locs hP hD hS => ?_)
    have hP : va_P D clz (wdR G Y (rs_old (rs_lat (rs_ca ua s0) (upd (rg_lat ua) (rg_lo ua).toNatClampNeg x1)) (vp_updL (rg_old ua) (rg_lo ua).toNatClampNeg ((rg_mem ua) x1.toNatClampNeg)))) H := hP
    have hD : va_D A (wdR G Y (rs_old (rs_lat (rs_ca ua s0) (upd (rg_lat ua) (rg_lo ua).toNatClampNeg x1)) (vp_updL (rg_old ua) (rg_lo ua).toNatClampNeg ((rg_mem ua) x1.toNatClampNeg)))) := hD
    refine lv_aload_n hx hb d_Ref_store_74 rfl (lv_at hl 0 rfl) ?_
    refine lv_aload_n hx hb d_Ref_store_75 rfl (lv_at hl 0 rfl) ?_
    refine va_get (D := D) (ci := 5) (v := .int (rg_lo ua)) (C := "FirmStoreModel") (T := F_Ref) (N := 12) hx hb hts iz_Ref hown hK hP 0 rfl rfl 1 (by decide) (hts _ q_538) (fun _ h9 => h9) rfl d_Ref_store_76 ?_
    refine lv_iconst (v := (1 : Int32)) hx hb d_Ref_store_79 (by decide) ?_
    refine lv_iadd hx hb d_Ref_store_80 ?_
    refine va_put (D := D) (ci := 5) (v := .int ((rg_lo ua) + (1 : Int32))) (ty := .int) (C := "FirmStoreModel") (T := F_Ref) (N := 12) hx hb hts iz_Ref t_Ref t_Ref_ok n_Ref hown hK hP hD hS 0 rfl rfl 1 (by decide) (hts _ q_538) (fun _ h9 => h9) rfl (by decide +kernel) rfl rfl (Nat.le_of_ble_eq_true rfl) d_Ref_store_81 (fun H locs hP hD hS => ?_)
    have hP : va_P D clz (wdR G Y (rs_lo (rs_old (rs_lat (rs_ca ua s0) (upd (rg_lat ua) (rg_lo ua).toNatClampNeg x1)) (vp_updL (rg_old ua) (rg_lo ua).toNatClampNeg ((rg_mem ua) x1.toNatClampNeg))) ((rg_lo ua) + (1 : Int32)))) H := hP
    have hD : va_D A (wdR G Y (rs_lo (rs_old (rs_lat (rs_ca ua s0) (upd (rg_lat ua) (rg_lo ua).toNatClampNeg x1)) (vp_updL (rg_old ua) (rg_lo ua).toNatClampNeg ((rg_mem ua) x1.toNatClampNeg))) ((rg_lo ua) + (1 : Int32)))) := hD
    refine lv_aload_n hx hb d_Ref_store_84 rfl (lv_at hl 0 rfl) ?_
    refine va_get (D := D) (ci := 5) (v := .ref (G 1)) (C := "FirmStoreModel") (T := F_Ref) (N := 12) hx hb hts iz_Ref hown hK hP 0 rfl rfl 0 (by decide) (hts _ q_537) (fun _ h9 => h9) rfl d_Ref_store_85 ?_
    refine lv_iload_n hx hb d_Ref_store_88 rfl (lv_at hl 1 rfl) ?_
    refine lv_lload_n hx hb d_Ref_store_89 rfl (lv_at hl 2 rfl) ?_
    obtain ⟨hg, hm⟩ := gd hm
    refine va_last hx hb hK hP hD hS 1 0 (f := (rg_mem ua)) rfl rfl (inb_in hg) d_Ref_store_90 (fun H locs hP hD hS => ?_)
    have hP : va_P D clz (wdR G Y (rs_mem (rs_lo (rs_old (rs_lat (rs_ca ua s0) (upd (rg_lat ua) (rg_lo ua).toNatClampNeg x1)) (vp_updL (rg_old ua) (rg_lo ua).toNatClampNeg ((rg_mem ua) x1.toNatClampNeg))) ((rg_lo ua) + (1 : Int32))) (vp_updL (rg_mem ua) x1.toNatClampNeg x2))) H := hP
    have hD : va_D A (wdR G Y (rs_mem (rs_lo (rs_old (rs_lat (rs_ca ua s0) (upd (rg_lat ua) (rg_lo ua).toNatClampNeg x1)) (vp_updL (rg_old ua) (rg_lo ua).toNatClampNeg ((rg_mem ua) x1.toNatClampNeg))) ((rg_lo ua) + (1 : Int32))) (vp_updL (rg_mem ua) x1.toNatClampNeg x2))) := hD
    refine lv_aload_n hx hb d_Ref_store_91 rfl (lv_at hl 0 rfl) ?_
    refine lv_aload_n hx hb d_Ref_store_92 rfl (lv_at hl 0 rfl) ?_
    refine va_get (D := D) (ci := 5) (v := .int (rg_st ua)) (C := "FirmStoreModel") (T := F_Ref) (N := 12) hx hb hts iz_Ref hown hK hP 0 rfl rfl 6 (by decide) (hts _ q_543) (fun _ h9 => h9) rfl d_Ref_store_93 ?_
    refine lv_iconst (v := (1 : Int32)) hx hb d_Ref_store_96 (by decide) ?_
    refine lv_iadd hx hb d_Ref_store_97 ?_
    refine va_put (D := D) (ci := 5) (v := .int ((rg_st ua) + (1 : Int32))) (ty := .int) (C := "FirmStoreModel") (T := F_Ref) (N := 12) hx hb hts iz_Ref t_Ref t_Ref_ok n_Ref hown hK hP hD hS 0 rfl rfl 6 (by decide) (hts _ q_543) (fun _ h9 => h9) rfl (by decide +kernel) rfl rfl (Nat.le_of_ble_eq_true rfl) d_Ref_store_98 (fun H locs hP hD hS => ?_)
    have hP : va_P D clz (wdR G Y (rs_st (rs_mem (rs_lo (rs_old (rs_lat (rs_ca ua s0) (upd (rg_lat ua) (rg_lo ua).toNatClampNeg x1)) (vp_updL (rg_old ua) (rg_lo ua).toNatClampNeg ((rg_mem ua) x1.toNatClampNeg))) ((rg_lo ua) + (1 : Int32))) (vp_updL (rg_mem ua) x1.toNatClampNeg x2)) ((rg_st ua) + (1 : Int32)))) H := hP
    have hD : va_D A (wdR G Y (rs_st (rs_mem (rs_lo (rs_old (rs_lat (rs_ca ua s0) (upd (rg_lat ua) (rg_lo ua).toNatClampNeg x1)) (vp_updL (rg_old ua) (rg_lo ua).toNatClampNeg ((rg_mem ua) x1.toNatClampNeg))) ((rg_lo ua) + (1 : Int32))) (vp_updL (rg_mem ua) x1.toNatClampNeg x2)) ((rg_st ua) + (1 : Int32)))) := hD
    exact hret _ _ _ _ () (rs_st (rs_mem (rs_lo (rs_old (rs_lat (rs_ca ua s0) (upd (rg_lat ua) (rg_lo ua).toNatClampNeg x1)) (vp_updL (rg_old ua) (rg_lo ua).toNatClampNeg ((rg_mem ua) x1.toNatClampNeg))) ((rg_lo ua) + (1 : Int32))) (vp_updL (rg_mem ua) x1.toNatClampNeg x2)) ((rg_st ua) + (1 : Int32))) (Option.some.inj hm) hP hD hS d_Ref_store_101
  have J18 : ∀ (ua : SR) (x1 : Int32) (x2 : Int64), m_Ref_store_J18 ua x1 x2 = some ((), u') → ∀ (H : Heap) (locs : List Loc) (ls : Array Slot), va_P D clz (wdR G Y ua) H → va_D A (wdR G Y ua) → va_S A s.heap H locs → lv_has ls 4 [(0, .ref (G 0)), (1, .int x1), (2, .long x2)] → W p l e (zRm 1 21) s m ([.ref (G 0), .int a1, .long a2] : List Value).toArray below meth c H locs 0 0 Z (F0 m 18 ls []) := by
    intro ua x1 x2 hm H locs ls hP hD hS hl
    rw [m_Ref_store_J18] at hm
    refine lv_aload_n hx hb d_Ref_store_18 rfl (lv_at hl 0 rfl) ?_
    refine va_get (D := D) (ci := 5) (v := .int (rg_br ua)) (C := "FirmStoreModel") (T := F_Ref) (N := 12) hx hb hts iz_Ref hown hK hP 0 rfl rfl 8 (by decide) (hts _ q_545) (fun _ h9 => h9) rfl d_Ref_store_19 ?_
    refine lv_if_ne (tgt := 101) hx hb d_Ref_store_22 (by decide) (fun hc => ?_) (fun hc => ?_)
    · rw [if_neg hc] at hm
      exact hret _ _ _ _ () ua (Option.some.inj hm) hP hD hS d_Ref_store_101
    · rw [if_pos hc] at hm
      refine lv_aload_n hx hb d_Ref_store_25 rfl (lv_at hl 0 rfl) ?_
      refine lv_aload_n hx hb d_Ref_store_26 rfl (lv_at hl 0 rfl) ?_
      refine va_get (D := D) (ci := 5) (v := .int (rg_ca ua)) (C := "FirmStoreModel") (T := F_Ref) (N := 12) hx hb hts iz_Ref hown hK hP 0 rfl rfl 4 (by decide) (hts _ q_541) (fun _ h9 => h9) rfl d_Ref_store_27 ?_
      refine lv_if_le (tgt := 42) hx hb d_Ref_store_30 (by decide) (fun hc => ?_) (fun hc => ?_)
      · rw [if_pos hc] at hm
        refine lv_aload_n hx hb d_Ref_store_42 rfl (lv_at hl 0 rfl) ?_
        refine va_get (D := D) (ci := 5) (v := .int (rg_ca ua)) (C := "FirmStoreModel") (T := F_Ref) (N := 12) hx hb hts iz_Ref hown hK hP 0 rfl rfl 4 (by decide) (hts _ q_541) (fun _ h9 => h9) rfl d_Ref_store_43 ?_
        exact J46 ua x1 x2 (rg_ca ua) hm _ _ _ hP hD hS (lv_sub hl [0, 1, 2] rfl)
      · rw [if_neg hc] at hm
        refine lv_aload_n hx hb d_Ref_store_33 rfl (lv_at hl 0 rfl) ?_
        refine va_get (D := D) (ci := 5) (v := .int (rg_ca ua)) (C := "FirmStoreModel") (T := F_Ref) (N := 12) hx hb hts iz_Ref hown hK hP 0 rfl rfl 4 (by decide) (hts _ q_541) (fun _ h9 => h9) rfl d_Ref_store_34 ?_
        refine lv_iconst (v := (1 : Int32)) hx hb d_Ref_store_37 (by decide) ?_
        refine lv_isub hx hb d_Ref_store_38 ?_
        refine lv_goto (tgt := 46) hx hb d_Ref_store_39 (by decide) ?_
        exact J46 ua x1 x2 ((rg_ca ua) - (1 : Int32)) hm _ _ _ hP hD hS (lv_sub hl [0, 1, 2] rfl)
  rw [m_Ref_store] at hm
  refine lv_aload_n hx hb d_Ref_store_0 rfl (lv_at hl 0 rfl) ?_
  refine va_get (D := D) (ci := 5) (v := .int (rg_ca u)) (C := "FirmStoreModel") (T := F_Ref) (N := 12) hx hb hts iz_Ref hown hK hP 0 rfl rfl 4 (by decide) (hts _ q_541) (fun _ h9 => h9) rfl d_Ref_store_1 ?_
  refine lv_if_ne (tgt := 18) hx hb d_Ref_store_4 (by decide) (fun hc => ?_) (fun hc => ?_)
  · rw [if_neg hc] at hm
    exact J18 u a1 a2 hm _ _ _ hP hD hS (lv_sub hl [0, 1, 2] rfl)
  · rw [if_pos hc] at hm
    refine lv_aload_n hx hb d_Ref_store_7 rfl (lv_at hl 0 rfl) ?_
    refine va_get (D := D) (ci := 5) (v := .int (rg_br u)) (C := "FirmStoreModel") (T := F_Ref) (N := 12) hx hb hts iz_Ref hown hK hP 0 rfl rfl 8 (by decide) (hts _ q_545) (fun _ h9 => h9) rfl d_Ref_store_8 ?_
    refine lv_if_ne (tgt := 18) hx hb d_Ref_store_11 (by decide) (fun hc => ?_) (fun hc => ?_)
    · rw [if_neg hc] at hm
      exact J18 u a1 a2 hm _ _ _ hP hD hS (lv_sub hl [0, 1, 2] rfl)
    · rw [if_pos hc] at hm
      refine lv_aload_n hx hb d_Ref_store_14 rfl (lv_at hl 0 rfl) ?_
      obtain ⟨r1, u2, h3, hm⟩ := ob_some hm
      refine goVV (As := []) (rest := []) (b0 := G 0) 0 C0 (k_Ref_cutNow l D G Y h3) q_642 q_6 q_639 q_641 qs_37 e_Ref_cutNow (by decide) rfl rfl hP hD hS hl.1 rfl (Nat.le_of_ble_eq_true rfl) d_Ref_store_15 (fun H locs hP hD hS => ?_)
      exact J18 u2 a1 a2 hm _ _ _ hP hD hS (lv_sub hl [0, 1, 2] rfl)
theorem d_Ref_fence_0 : decode b_Ref_fence 0 = .ok (.aload_n 0, 1) := by decide +kernel
theorem d_Ref_fence_1 : decode b_Ref_fence 1 = .ok (.iconst 0, 1) := by decide +kernel
theorem d_Ref_fence_2 : decode b_Ref_fence 2 = .ok (.putfield 34, 3) := by decide +kernel
theorem d_Ref_fence_5 : decode b_Ref_fence 5 = .ok (.return_, 1) := by decide +kernel
set_option maxRecDepth 100000 in
set_option maxHeartbeats 4000000 in
theorem k_Ref_fence (l : Launch) (D : va_G) (G : Nat → Nat) (Y : Nat → ClassId) {u : SR}  {u' : SR} (hm : m_Ref_fence u  = some ((), u')) : KV l D clz (tyz Y) (wdR G Y) y_Ref_fence b_Ref_fence 1 none 0 0 [.ref (G 0)] u u' := by
  refine mkV (by decide) (Nat.le_of_ble_eq_true rfl) ?_
  intro p e s m below meth c A Z ls C0 hP hD hS hl hret
  obtain ⟨hx, hb, hml, hown, hts, hK, hN, hA⟩ := id C0
  have hl : lv_has ls 1 [(0, .ref (G 0))] := hl
  rw [m_Ref_fence] at hm
  refine lv_aload_n hx hb d_Ref_fence_0 rfl (lv_at hl 0 rfl) ?_
  refine lv_iconst (v := (0 : Int32)) hx hb d_Ref_fence_1 (by decide) ?_
  refine va_put (D := D) (ci := 5) (v := .int (0 : Int32)) (ty := .int) (C := "FirmStoreModel") (T := F_Ref) (N := 12) hx hb hts iz_Ref t_Ref t_Ref_ok n_Ref hown hK hP hD hS 0 rfl rfl 1 (by decide) (hts _ q_538) (fun _ h9 => h9) rfl (by decide +kernel) rfl rfl (Nat.le_of_ble_eq_true rfl) d_Ref_fence_2 (fun H locs hP hD hS => ?_)
  have hP : va_P D clz (wdR G Y (rs_lo u (0 : Int32))) H := hP
  have hD : va_D A (wdR G Y (rs_lo u (0 : Int32))) := hD
  exact hret _ _ _ _ () (rs_lo u (0 : Int32)) (Option.some.inj hm) hP hD hS d_Ref_fence_5
theorem d_Ref_firm_0 : decode b_Ref_firm 0 = .ok (.aload_n 0, 1) := by decide +kernel
theorem d_Ref_firm_1 : decode b_Ref_firm 1 = .ok (.iload_n 1, 1) := by decide +kernel
theorem d_Ref_firm_2 : decode b_Ref_firm 2 = .ok (.lload_n 2, 1) := by decide +kernel
theorem d_Ref_firm_3 : decode b_Ref_firm 3 = .ok (.invokevirtual 53, 3) := by decide +kernel
theorem d_Ref_firm_6 : decode b_Ref_firm 6 = .ok (.aload_n 0, 1) := by decide +kernel
theorem d_Ref_firm_7 : decode b_Ref_firm 7 = .ok (.invokevirtual 57, 3) := by decide +kernel
theorem d_Ref_firm_10 : decode b_Ref_firm 10 = .ok (.return_, 1) := by decide +kernel
set_option maxRecDepth 100000 in
set_option maxHeartbeats 4000000 in
theorem k_Ref_firm (l : Launch) (D : va_G) (G : Nat → Nat) (Y : Nat → ClassId) {u : SR} {a1 : Int32} {a2 : Int64} {u' : SR} (hm : m_Ref_firm u a1 a2 = some ((), u')) : KV l D clz (tyz Y) (wdR G Y) y_Ref_firm b_Ref_firm 4 none 2 44 [.ref (G 0), .int a1, .long a2] u u' := by
  refine mkV (by decide) (Nat.le_of_ble_eq_true rfl) ?_
  intro p e s m below meth c A Z ls C0 hP hD hS hl hret
  obtain ⟨hx, hb, hml, hown, hts, hK, hN, hA⟩ := id C0
  have hl : lv_has ls 4 [(0, .ref (G 0)), (1, .int a1), (2, .long a2)] := hl
  rw [m_Ref_firm] at hm
  refine lv_aload_n hx hb d_Ref_firm_0 rfl (lv_at hl 0 rfl) ?_
  refine lv_iload_n hx hb d_Ref_firm_1 rfl (lv_at hl 1 rfl) ?_
  refine lv_lload_n hx hb d_Ref_firm_2 rfl (lv_at hl 2 rfl) ?_
  obtain ⟨r1, u2, h3, hm⟩ := ob_some hm
  refine goVV (As := [.int a1, .long a2]) (rest := []) (b0 := G 0) 0 C0 (k_Ref_store l D G Y h3) q_638 q_6 q_635 q_637 qs_36 e_Ref_store (by decide) rfl rfl hP hD hS hl.1 rfl (Nat.le_of_ble_eq_true rfl) d_Ref_firm_3 (fun H locs hP hD hS => ?_)
  refine lv_aload_n hx hb d_Ref_firm_6 rfl (lv_at hl 0 rfl) ?_
  obtain ⟨r5, u6, h7, hm⟩ := ob_some hm
  refine goVV (As := []) (rest := []) (b0 := G 0) 0 C0 (k_Ref_fence l D G Y h7) q_646 q_6 q_643 q_645 qs_38 e_Ref_fence (by decide) rfl rfl hP hD hS hl.1 rfl (Nat.le_of_ble_eq_true rfl) d_Ref_firm_7 (fun H locs hP hD hS => ?_)
  exact hret _ _ _ _ () u6 (Option.some.inj hm) hP hD hS d_Ref_firm_10
theorem d_Ref_entry_0 : decode b_Ref_entry 0 = .ok (.iload_n 0, 1) := by decide +kernel
theorem d_Ref_entry_1 : decode b_Ref_entry 1 = .ok (.i2l, 1) := by decide +kernel
theorem d_Ref_entry_2 : decode b_Ref_entry 2 = .ok (.lconst 1, 1) := by decide +kernel
theorem d_Ref_entry_3 : decode b_Ref_entry 3 = .ok (.ladd, 1) := by decide +kernel
theorem d_Ref_entry_4 : decode b_Ref_entry 4 = .ok (.ldc2_w 60, 3) := by decide +kernel
theorem d_Ref_entry_7 : decode b_Ref_entry 7 = .ok (.lmul, 1) := by decide +kernel
theorem d_Ref_entry_8 : decode b_Ref_entry 8 = .ok (.iload_n 1, 1) := by decide +kernel
theorem d_Ref_entry_9 : decode b_Ref_entry 9 = .ok (.i2l, 1) := by decide +kernel
theorem d_Ref_entry_10 : decode b_Ref_entry 10 = .ok (.ldc2_w 62, 3) := by decide +kernel
theorem d_Ref_entry_13 : decode b_Ref_entry 13 = .ok (.land, 1) := by decide +kernel
theorem d_Ref_entry_14 : decode b_Ref_entry 14 = .ok (.ladd, 1) := by decide +kernel
theorem d_Ref_entry_15 : decode b_Ref_entry 15 = .ok (.lreturn, 1) := by decide +kernel
set_option maxRecDepth 100000 in
set_option maxHeartbeats 4000000 in
theorem k_Ref_entry (l : Launch) (D : va_G) (G : Nat → Nat) (Y : Nat → ClassId) {u : SR} {a1 : Int32} {a2 : Int32} {r : Int64} {u' : SR} (hm : m_Ref_entry u a1 a2 = some (r, u')) : KL l D clz (tyz Y) (wdR G Y) y_Ref_entry b_Ref_entry 2 (some .long) 0 0 [.int a1, .int a2] u r u' := by
  refine mkL (by decide) (Nat.le_of_ble_eq_true rfl) ?_
  intro p e s m below meth c A Z ls C0 hP hD hS hl hret
  obtain ⟨hx, hb, hml, hown, hts, hK, hN, hA⟩ := id C0
  have hl : lv_has ls 2 [(0, .int a1), (1, .int a2)] := hl
  rw [m_Ref_entry] at hm
  refine lv_iload_n hx hb d_Ref_entry_0 rfl (lv_at hl 0 rfl) ?_
  refine lv_i2l (v := (a1.toInt64)) hx hb d_Ref_entry_1 rfl ?_
  refine lv_lconst (v := (1 : Int64)) hx hb d_Ref_entry_2 (by decide) ?_
  refine lv_ladd hx hb d_Ref_entry_3 ?_
  refine lv_ldc2 (v := (4294967296 : Int64)) hx hb hown (hts _ q_629) d_Ref_entry_4 ?_
  refine lv_lmul hx hb d_Ref_entry_7 ?_
  refine lv_iload_n hx hb d_Ref_entry_8 rfl (lv_at hl 1 rfl) ?_
  refine lv_i2l (v := (a2.toInt64)) hx hb d_Ref_entry_9 rfl ?_
  refine lv_ldc2 (v := (4294967295 : Int64)) hx hb hown (hts _ q_630) d_Ref_entry_10 ?_
  refine lv_land hx hb d_Ref_entry_13 ?_
  refine lv_ladd hx hb d_Ref_entry_14 ?_
  exact hret _ _ _ _ ((((a1.toInt64) + (1 : Int64)) * (4294967296 : Int64)) + ((a2.toInt64) &&& (4294967295 : Int64))) u (Option.some.inj hm) hP hD hS d_Ref_entry_15
theorem d_Ref_keyOf_0 : decode b_Ref_keyOf 0 = .ok (.lload_n 0, 1) := by decide +kernel
theorem d_Ref_keyOf_1 : decode b_Ref_keyOf 1 = .ok (.bipush 32, 2) := by decide +kernel
theorem d_Ref_keyOf_3 : decode b_Ref_keyOf 3 = .ok (.lushr, 1) := by decide +kernel
theorem d_Ref_keyOf_4 : decode b_Ref_keyOf 4 = .ok (.l2i, 1) := by decide +kernel
theorem d_Ref_keyOf_5 : decode b_Ref_keyOf 5 = .ok (.iconst 1, 1) := by decide +kernel
theorem d_Ref_keyOf_6 : decode b_Ref_keyOf 6 = .ok (.isub, 1) := by decide +kernel
theorem d_Ref_keyOf_7 : decode b_Ref_keyOf 7 = .ok (.ireturn, 1) := by decide +kernel
set_option maxRecDepth 100000 in
set_option maxHeartbeats 4000000 in
theorem k_Ref_keyOf (l : Launch) (D : va_G) (G : Nat → Nat) (Y : Nat → ClassId) {u : SR} {a1 : Int64} {r : Int32} {u' : SR} (hm : m_Ref_keyOf u a1 = some (r, u')) : KI l D clz (tyz Y) (wdR G Y) y_Ref_keyOf b_Ref_keyOf 2 (some .int) 0 0 [.long a1] u r u' := by
  refine mkI (by decide) (Nat.le_of_ble_eq_true rfl) ?_
  intro p e s m below meth c A Z ls C0 hP hD hS hl hret
  obtain ⟨hx, hb, hml, hown, hts, hK, hN, hA⟩ := id C0
  have hl : lv_has ls 2 [(0, .long a1)] := hl
  rw [m_Ref_keyOf] at hm
  refine lv_lload_n hx hb d_Ref_keyOf_0 rfl (lv_at hl 0 rfl) ?_
  refine lv_bipush (v := (32 : Int32)) hx hb d_Ref_keyOf_1 (by decide) ?_
  refine lv_lushr (v := (zLushr a1 (32 : Int32))) hx hb d_Ref_keyOf_3 rfl ?_
  refine lv_l2i (v := ((zLushr a1 (32 : Int32)).toInt32)) hx hb d_Ref_keyOf_4 rfl ?_
  refine lv_iconst (v := (1 : Int32)) hx hb d_Ref_keyOf_5 (by decide) ?_
  refine lv_isub hx hb d_Ref_keyOf_6 ?_
  exact hret _ _ _ _ (((zLushr a1 (32 : Int32)).toInt32) - (1 : Int32)) u (Option.some.inj hm) hP hD hS d_Ref_keyOf_7
theorem d_Ref_root_0 : decode b_Ref_root 0 = .ok (.aload_n 0, 1) := by decide +kernel
theorem d_Ref_root_1 : decode b_Ref_root 1 = .ok (.getfield 7, 3) := by decide +kernel
theorem d_Ref_root_4 : decode b_Ref_root 4 = .ok (.iconst 0, 1) := by decide +kernel
theorem d_Ref_root_5 : decode b_Ref_root 5 = .ok (.laload, 1) := by decide +kernel
theorem d_Ref_root_6 : decode b_Ref_root 6 = .ok (.l2i, 1) := by decide +kernel
theorem d_Ref_root_7 : decode b_Ref_root 7 = .ok (.ireturn, 1) := by decide +kernel
set_option maxRecDepth 100000 in
set_option maxHeartbeats 4000000 in
theorem k_Ref_root (l : Launch) (D : va_G) (G : Nat → Nat) (Y : Nat → ClassId) {u : SR}  {r : Int32} {u' : SR} (hm : m_Ref_root u  = some (r, u')) : KI l D clz (tyz Y) (wdR G Y) y_Ref_root b_Ref_root 1 (some .int) 0 0 [.ref (G 0)] u r u' := by
  refine mkI (by decide) (Nat.le_of_ble_eq_true rfl) ?_
  intro p e s m below meth c A Z ls C0 hP hD hS hl hret
  obtain ⟨hx, hb, hml, hown, hts, hK, hN, hA⟩ := id C0
  have hl : lv_has ls 1 [(0, .ref (G 0))] := hl
  rw [m_Ref_root] at hm
  refine lv_aload_n hx hb d_Ref_root_0 rfl (lv_at hl 0 rfl) ?_
  refine va_get (D := D) (ci := 5) (v := .ref (G 1)) (C := "FirmStoreModel") (T := F_Ref) (N := 12) hx hb hts iz_Ref hown hK hP 0 rfl rfl 0 (by decide) (hts _ q_537) (fun _ h9 => h9) rfl d_Ref_root_1 ?_
  refine lv_iconst (v := (0 : Int32)) hx hb d_Ref_root_4 (by decide) ?_
  obtain ⟨hg, hm⟩ := gd hm
  refine va_lald hx hb hK hP 1 0 (f := (rg_mem u)) rfl rfl (inb_in hg) d_Ref_root_5 ?_
  refine lv_l2i (v := (((rg_mem u) (0 : Int32).toNatClampNeg).toInt32)) hx hb d_Ref_root_6 rfl ?_
  exact hret _ _ _ _ (((rg_mem u) (0 : Int32).toNatClampNeg).toInt32) u (Option.some.inj hm) hP hD hS d_Ref_root_7
theorem d_Ref_level_0 : decode b_Ref_level 0 = .ok (.aload_n 0, 1) := by decide +kernel
theorem d_Ref_level_1 : decode b_Ref_level 1 = .ok (.getfield 7, 3) := by decide +kernel
theorem d_Ref_level_4 : decode b_Ref_level 4 = .ok (.bipush 9, 2) := by decide +kernel
theorem d_Ref_level_6 : decode b_Ref_level 6 = .ok (.iload_n 1, 1) := by decide +kernel
theorem d_Ref_level_7 : decode b_Ref_level 7 = .ok (.imul, 1) := by decide +kernel
theorem d_Ref_level_8 : decode b_Ref_level 8 = .ok (.laload, 1) := by decide +kernel
theorem d_Ref_level_9 : decode b_Ref_level 9 = .ok (.l2i, 1) := by decide +kernel
theorem d_Ref_level_10 : decode b_Ref_level 10 = .ok (.ireturn, 1) := by decide +kernel
set_option maxRecDepth 100000 in
set_option maxHeartbeats 4000000 in
theorem k_Ref_level (l : Launch) (D : va_G) (G : Nat → Nat) (Y : Nat → ClassId) {u : SR} {a1 : Int32} {r : Int32} {u' : SR} (hm : m_Ref_level u a1 = some (r, u')) : KI l D clz (tyz Y) (wdR G Y) y_Ref_level b_Ref_level 2 (some .int) 0 0 [.ref (G 0), .int a1] u r u' := by
  refine mkI (by decide) (Nat.le_of_ble_eq_true rfl) ?_
  intro p e s m below meth c A Z ls C0 hP hD hS hl hret
  obtain ⟨hx, hb, hml, hown, hts, hK, hN, hA⟩ := id C0
  have hl : lv_has ls 2 [(0, .ref (G 0)), (1, .int a1)] := hl
  rw [m_Ref_level] at hm
  refine lv_aload_n hx hb d_Ref_level_0 rfl (lv_at hl 0 rfl) ?_
  refine va_get (D := D) (ci := 5) (v := .ref (G 1)) (C := "FirmStoreModel") (T := F_Ref) (N := 12) hx hb hts iz_Ref hown hK hP 0 rfl rfl 0 (by decide) (hts _ q_537) (fun _ h9 => h9) rfl d_Ref_level_1 ?_
  refine lv_bipush (v := (9 : Int32)) hx hb d_Ref_level_4 (by decide) ?_
  refine lv_iload_n hx hb d_Ref_level_6 rfl (lv_at hl 1 rfl) ?_
  refine lv_imul hx hb d_Ref_level_7 ?_
  obtain ⟨hg, hm⟩ := gd hm
  refine va_lald hx hb hK hP 1 0 (f := (rg_mem u)) rfl rfl (inb_in hg) d_Ref_level_8 ?_
  refine lv_l2i (v := (((rg_mem u) ((9 : Int32) * a1).toNatClampNeg).toInt32)) hx hb d_Ref_level_9 rfl ?_
  exact hret _ _ _ _ (((rg_mem u) ((9 : Int32) * a1).toNatClampNeg).toInt32) u (Option.some.inj hm) hP hD hS d_Ref_level_10
theorem d_Ref_next_0 : decode b_Ref_next 0 = .ok (.aload_n 0, 1) := by decide +kernel
theorem d_Ref_next_1 : decode b_Ref_next 1 = .ok (.getfield 7, 3) := by decide +kernel
theorem d_Ref_next_4 : decode b_Ref_next 4 = .ok (.bipush 9, 2) := by decide +kernel
theorem d_Ref_next_6 : decode b_Ref_next 6 = .ok (.iload_n 1, 1) := by decide +kernel
theorem d_Ref_next_7 : decode b_Ref_next 7 = .ok (.imul, 1) := by decide +kernel
theorem d_Ref_next_8 : decode b_Ref_next 8 = .ok (.iconst 1, 1) := by decide +kernel
theorem d_Ref_next_9 : decode b_Ref_next 9 = .ok (.iadd, 1) := by decide +kernel
theorem d_Ref_next_10 : decode b_Ref_next 10 = .ok (.laload, 1) := by decide +kernel
theorem d_Ref_next_11 : decode b_Ref_next 11 = .ok (.l2i, 1) := by decide +kernel
theorem d_Ref_next_12 : decode b_Ref_next 12 = .ok (.ireturn, 1) := by decide +kernel
set_option maxRecDepth 100000 in
set_option maxHeartbeats 4000000 in
theorem k_Ref_next (l : Launch) (D : va_G) (G : Nat → Nat) (Y : Nat → ClassId) {u : SR} {a1 : Int32} {r : Int32} {u' : SR} (hm : m_Ref_next u a1 = some (r, u')) : KI l D clz (tyz Y) (wdR G Y) y_Ref_next b_Ref_next 2 (some .int) 0 0 [.ref (G 0), .int a1] u r u' := by
  refine mkI (by decide) (Nat.le_of_ble_eq_true rfl) ?_
  intro p e s m below meth c A Z ls C0 hP hD hS hl hret
  obtain ⟨hx, hb, hml, hown, hts, hK, hN, hA⟩ := id C0
  have hl : lv_has ls 2 [(0, .ref (G 0)), (1, .int a1)] := hl
  rw [m_Ref_next] at hm
  refine lv_aload_n hx hb d_Ref_next_0 rfl (lv_at hl 0 rfl) ?_
  refine va_get (D := D) (ci := 5) (v := .ref (G 1)) (C := "FirmStoreModel") (T := F_Ref) (N := 12) hx hb hts iz_Ref hown hK hP 0 rfl rfl 0 (by decide) (hts _ q_537) (fun _ h9 => h9) rfl d_Ref_next_1 ?_
  refine lv_bipush (v := (9 : Int32)) hx hb d_Ref_next_4 (by decide) ?_
  refine lv_iload_n hx hb d_Ref_next_6 rfl (lv_at hl 1 rfl) ?_
  refine lv_imul hx hb d_Ref_next_7 ?_
  refine lv_iconst (v := (1 : Int32)) hx hb d_Ref_next_8 (by decide) ?_
  refine lv_iadd hx hb d_Ref_next_9 ?_
  obtain ⟨hg, hm⟩ := gd hm
  refine va_lald hx hb hK hP 1 0 (f := (rg_mem u)) rfl rfl (inb_in hg) d_Ref_next_10 ?_
  refine lv_l2i (v := (((rg_mem u) (((9 : Int32) * a1) + (1 : Int32)).toNatClampNeg).toInt32)) hx hb d_Ref_next_11 rfl ?_
  exact hret _ _ _ _ (((rg_mem u) (((9 : Int32) * a1) + (1 : Int32)).toNatClampNeg).toInt32) u (Option.some.inj hm) hP hD hS d_Ref_next_12
theorem d_Ref_low_0 : decode b_Ref_low 0 = .ok (.aload_n 0, 1) := by decide +kernel
theorem d_Ref_low_1 : decode b_Ref_low 1 = .ok (.getfield 7, 3) := by decide +kernel
theorem d_Ref_low_4 : decode b_Ref_low 4 = .ok (.bipush 9, 2) := by decide +kernel
theorem d_Ref_low_6 : decode b_Ref_low 6 = .ok (.iload_n 1, 1) := by decide +kernel
theorem d_Ref_low_7 : decode b_Ref_low 7 = .ok (.imul, 1) := by decide +kernel
theorem d_Ref_low_8 : decode b_Ref_low 8 = .ok (.iconst 2, 1) := by decide +kernel
theorem d_Ref_low_9 : decode b_Ref_low 9 = .ok (.iadd, 1) := by decide +kernel
theorem d_Ref_low_10 : decode b_Ref_low 10 = .ok (.laload, 1) := by decide +kernel
theorem d_Ref_low_11 : decode b_Ref_low 11 = .ok (.l2i, 1) := by decide +kernel
theorem d_Ref_low_12 : decode b_Ref_low 12 = .ok (.ireturn, 1) := by decide +kernel
set_option maxRecDepth 100000 in
set_option maxHeartbeats 4000000 in
theorem k_Ref_low (l : Launch) (D : va_G) (G : Nat → Nat) (Y : Nat → ClassId) {u : SR} {a1 : Int32} {r : Int32} {u' : SR} (hm : m_Ref_low u a1 = some (r, u')) : KI l D clz (tyz Y) (wdR G Y) y_Ref_low b_Ref_low 2 (some .int) 0 0 [.ref (G 0), .int a1] u r u' := by
  refine mkI (by decide) (Nat.le_of_ble_eq_true rfl) ?_
  intro p e s m below meth c A Z ls C0 hP hD hS hl hret
  obtain ⟨hx, hb, hml, hown, hts, hK, hN, hA⟩ := id C0
  have hl : lv_has ls 2 [(0, .ref (G 0)), (1, .int a1)] := hl
  rw [m_Ref_low] at hm
  refine lv_aload_n hx hb d_Ref_low_0 rfl (lv_at hl 0 rfl) ?_
  refine va_get (D := D) (ci := 5) (v := .ref (G 1)) (C := "FirmStoreModel") (T := F_Ref) (N := 12) hx hb hts iz_Ref hown hK hP 0 rfl rfl 0 (by decide) (hts _ q_537) (fun _ h9 => h9) rfl d_Ref_low_1 ?_
  refine lv_bipush (v := (9 : Int32)) hx hb d_Ref_low_4 (by decide) ?_
  refine lv_iload_n hx hb d_Ref_low_6 rfl (lv_at hl 1 rfl) ?_
  refine lv_imul hx hb d_Ref_low_7 ?_
  refine lv_iconst (v := (2 : Int32)) hx hb d_Ref_low_8 (by decide) ?_
  refine lv_iadd hx hb d_Ref_low_9 ?_
  obtain ⟨hg, hm⟩ := gd hm
  refine va_lald hx hb hK hP 1 0 (f := (rg_mem u)) rfl rfl (inb_in hg) d_Ref_low_10 ?_
  refine lv_l2i (v := (((rg_mem u) (((9 : Int32) * a1) + (2 : Int32)).toNatClampNeg).toInt32)) hx hb d_Ref_low_11 rfl ?_
  exact hret _ _ _ _ (((rg_mem u) (((9 : Int32) * a1) + (2 : Int32)).toNatClampNeg).toInt32) u (Option.some.inj hm) hP hD hS d_Ref_low_12
theorem d_Ref_at_0 : decode b_Ref_at 0 = .ok (.iload_n 2, 1) := by decide +kernel
theorem d_Ref_at_1 : decode b_Ref_at 1 = .ok (.iconst 5, 1) := by decide +kernel
theorem d_Ref_at_2 : decode b_Ref_at 2 = .ok (.if_icmp .le 7, 3) := by decide +kernel
theorem d_Ref_at_5 : decode b_Ref_at 5 = .ok (.lconst 0, 1) := by decide +kernel
theorem d_Ref_at_6 : decode b_Ref_at 6 = .ok (.goto 16, 3) := by decide +kernel
theorem d_Ref_at_9 : decode b_Ref_at 9 = .ok (.aload_n 0, 1) := by decide +kernel
theorem d_Ref_at_10 : decode b_Ref_at 10 = .ok (.getfield 7, 3) := by decide +kernel
theorem d_Ref_at_13 : decode b_Ref_at 13 = .ok (.bipush 9, 2) := by decide +kernel
theorem d_Ref_at_15 : decode b_Ref_at 15 = .ok (.iload_n 1, 1) := by decide +kernel
theorem d_Ref_at_16 : decode b_Ref_at 16 = .ok (.imul, 1) := by decide +kernel
theorem d_Ref_at_17 : decode b_Ref_at 17 = .ok (.iconst 3, 1) := by decide +kernel
theorem d_Ref_at_18 : decode b_Ref_at 18 = .ok (.iadd, 1) := by decide +kernel
theorem d_Ref_at_19 : decode b_Ref_at 19 = .ok (.iload_n 2, 1) := by decide +kernel
theorem d_Ref_at_20 : decode b_Ref_at 20 = .ok (.iadd, 1) := by decide +kernel
theorem d_Ref_at_21 : decode b_Ref_at 21 = .ok (.laload, 1) := by decide +kernel
theorem d_Ref_at_22 : decode b_Ref_at 22 = .ok (.lreturn, 1) := by decide +kernel
set_option maxRecDepth 100000 in
set_option maxHeartbeats 4000000 in
theorem k_Ref_at (l : Launch) (D : va_G) (G : Nat → Nat) (Y : Nat → ClassId) {u : SR} {a1 : Int32} {a2 : Int32} {r : Int64} {u' : SR} (hm : m_Ref_at u a1 a2 = some (r, u')) : KL l D clz (tyz Y) (wdR G Y) y_Ref_at b_Ref_at 3 (some .long) 0 0 [.ref (G 0), .int a1, .int a2] u r u' := by
  refine mkL (by decide) (Nat.le_of_ble_eq_true rfl) ?_
  intro p e s m below meth c A Z ls C0 hP hD hS hl hret
  obtain ⟨hx, hb, hml, hown, hts, hK, hN, hA⟩ := id C0
  have hl : lv_has ls 3 [(0, .ref (G 0)), (1, .int a1), (2, .int a2)] := hl
  rw [m_Ref_at] at hm
  refine lv_iload_n hx hb d_Ref_at_0 rfl (lv_at hl 2 rfl) ?_
  refine lv_iconst (v := (5 : Int32)) hx hb d_Ref_at_1 (by decide) ?_
  refine lv_icmp_le (tgt := 9) hx hb d_Ref_at_2 (by decide) (fun hc => ?_) (fun hc => ?_)
  · rw [if_pos hc] at hm
    refine lv_aload_n hx hb d_Ref_at_9 rfl (lv_at hl 0 rfl) ?_
    refine va_get (D := D) (ci := 5) (v := .ref (G 1)) (C := "FirmStoreModel") (T := F_Ref) (N := 12) hx hb hts iz_Ref hown hK hP 0 rfl rfl 0 (by decide) (hts _ q_537) (fun _ h9 => h9) rfl d_Ref_at_10 ?_
    refine lv_bipush (v := (9 : Int32)) hx hb d_Ref_at_13 (by decide) ?_
    refine lv_iload_n hx hb d_Ref_at_15 rfl (lv_at hl 1 rfl) ?_
    refine lv_imul hx hb d_Ref_at_16 ?_
    refine lv_iconst (v := (3 : Int32)) hx hb d_Ref_at_17 (by decide) ?_
    refine lv_iadd hx hb d_Ref_at_18 ?_
    refine lv_iload_n hx hb d_Ref_at_19 rfl (lv_at hl 2 rfl) ?_
    refine lv_iadd hx hb d_Ref_at_20 ?_
    obtain ⟨hg, hm⟩ := gd hm
    refine va_lald hx hb hK hP 1 0 (f := (rg_mem u)) rfl rfl (inb_in hg) d_Ref_at_21 ?_
    exact hret _ _ _ _ ((rg_mem u) ((((9 : Int32) * a1) + (3 : Int32)) + a2).toNatClampNeg) u (Option.some.inj hm) hP hD hS d_Ref_at_22
  · rw [if_neg hc] at hm
    refine lv_lconst (v := (0 : Int64)) hx hb d_Ref_at_5 (by decide) ?_
    refine lv_goto (tgt := 22) hx hb d_Ref_at_6 (by decide) ?_
    exact hret _ _ _ _ (0 : Int64) u (Option.some.inj hm) hP hD hS d_Ref_at_22
theorem d_Ref_keyAt_0 : decode b_Ref_keyAt 0 = .ok (.aload_n 0, 1) := by decide +kernel
theorem d_Ref_keyAt_1 : decode b_Ref_keyAt 1 = .ok (.iload_n 1, 1) := by decide +kernel
theorem d_Ref_keyAt_2 : decode b_Ref_keyAt 2 = .ok (.iload_n 2, 1) := by decide +kernel
theorem d_Ref_keyAt_3 : decode b_Ref_keyAt 3 = .ok (.invokevirtual 64, 3) := by decide +kernel
theorem d_Ref_keyAt_6 : decode b_Ref_keyAt 6 = .ok (.invokestatic 68, 3) := by decide +kernel
theorem d_Ref_keyAt_9 : decode b_Ref_keyAt 9 = .ok (.ireturn, 1) := by decide +kernel
set_option maxRecDepth 100000 in
set_option maxHeartbeats 4000000 in
theorem k_Ref_keyAt (l : Launch) (D : va_G) (G : Nat → Nat) (Y : Nat → ClassId) {u : SR} {a1 : Int32} {a2 : Int32} {r : Int32} {u' : SR} (hm : m_Ref_keyAt u a1 a2 = some (r, u')) : KI l D clz (tyz Y) (wdR G Y) y_Ref_keyAt b_Ref_keyAt 3 (some .int) 1 22 [.ref (G 0), .int a1, .int a2] u r u' := by
  refine mkI (by decide) (Nat.le_of_ble_eq_true rfl) ?_
  intro p e s m below meth c A Z ls C0 hP hD hS hl hret
  obtain ⟨hx, hb, hml, hown, hts, hK, hN, hA⟩ := id C0
  have hl : lv_has ls 3 [(0, .ref (G 0)), (1, .int a1), (2, .int a2)] := hl
  rw [m_Ref_keyAt] at hm
  refine lv_aload_n hx hb d_Ref_keyAt_0 rfl (lv_at hl 0 rfl) ?_
  refine lv_iload_n hx hb d_Ref_keyAt_1 rfl (lv_at hl 1 rfl) ?_
  refine lv_iload_n hx hb d_Ref_keyAt_2 rfl (lv_at hl 2 rfl) ?_
  obtain ⟨r1, u2, h3, hm⟩ := ob_some hm
  refine goVL (As := [.int a1, .int a2]) (rest := []) (b0 := G 0) 0 C0 (k_Ref_at l D G Y h3) q_621 q_6 q_618 q_620 qs_33 e_Ref_at (by decide) rfl rfl hP hD hS hl.1 rfl (Nat.le_of_ble_eq_true rfl) d_Ref_keyAt_3 (fun H locs hP hD hS => ?_)
  obtain ⟨r5, u6, h7, hm⟩ := ob_some hm
  refine goSI (As := [.long r1]) (rest := []) C0 (k_Ref_keyOf l D G Y h7) q_669 q_6 q_667 q_668 e_Ref_keyOf (by decide) hP hD hS hl.1 rfl (Nat.le_of_ble_eq_true rfl) d_Ref_keyAt_6 (fun H locs hP hD hS => ?_)
  exact hret _ _ _ _ r5 u6 (Option.some.inj hm) hP hD hS d_Ref_keyAt_9
theorem d_Ref_blockAt_0 : decode b_Ref_blockAt 0 = .ok (.aload_n 0, 1) := by decide +kernel
theorem d_Ref_blockAt_1 : decode b_Ref_blockAt 1 = .ok (.iload_n 1, 1) := by decide +kernel
theorem d_Ref_blockAt_2 : decode b_Ref_blockAt 2 = .ok (.iload_n 2, 1) := by decide +kernel
theorem d_Ref_blockAt_3 : decode b_Ref_blockAt 3 = .ok (.invokevirtual 64, 3) := by decide +kernel
theorem d_Ref_blockAt_6 : decode b_Ref_blockAt 6 = .ok (.l2i, 1) := by decide +kernel
theorem d_Ref_blockAt_7 : decode b_Ref_blockAt 7 = .ok (.ireturn, 1) := by decide +kernel
set_option maxRecDepth 100000 in
set_option maxHeartbeats 4000000 in
theorem k_Ref_blockAt (l : Launch) (D : va_G) (G : Nat → Nat) (Y : Nat → ClassId) {u : SR} {a1 : Int32} {a2 : Int32} {r : Int32} {u' : SR} (hm : m_Ref_blockAt u a1 a2 = some (r, u')) : KI l D clz (tyz Y) (wdR G Y) y_Ref_blockAt b_Ref_blockAt 3 (some .int) 1 22 [.ref (G 0), .int a1, .int a2] u r u' := by
  refine mkI (by decide) (Nat.le_of_ble_eq_true rfl) ?_
  intro p e s m below meth c A Z ls C0 hP hD hS hl hret
  obtain ⟨hx, hb, hml, hown, hts, hK, hN, hA⟩ := id C0
  have hl : lv_has ls 3 [(0, .ref (G 0)), (1, .int a1), (2, .int a2)] := hl
  rw [m_Ref_blockAt] at hm
  refine lv_aload_n hx hb d_Ref_blockAt_0 rfl (lv_at hl 0 rfl) ?_
  refine lv_iload_n hx hb d_Ref_blockAt_1 rfl (lv_at hl 1 rfl) ?_
  refine lv_iload_n hx hb d_Ref_blockAt_2 rfl (lv_at hl 2 rfl) ?_
  obtain ⟨r1, u2, h3, hm⟩ := ob_some hm
  refine goVL (As := [.int a1, .int a2]) (rest := []) (b0 := G 0) 0 C0 (k_Ref_at l D G Y h3) q_621 q_6 q_618 q_620 qs_33 e_Ref_at (by decide) rfl rfl hP hD hS hl.1 rfl (Nat.le_of_ble_eq_true rfl) d_Ref_blockAt_3 (fun H locs hP hD hS => ?_)
  refine lv_l2i (v := (r1.toInt32)) hx hb d_Ref_blockAt_6 rfl ?_
  exact hret _ _ _ _ (r1.toInt32) u2 (Option.some.inj hm) hP hD hS d_Ref_blockAt_7
theorem d_Ref_length_0 : decode b_Ref_length 0 = .ok (.iconst 0, 1) := by decide +kernel
theorem d_Ref_length_1 : decode b_Ref_length 1 = .ok (.istore_n 2, 1) := by decide +kernel
theorem d_Ref_length_2 : decode b_Ref_length 2 = .ok (.iload_n 2, 1) := by decide +kernel
theorem d_Ref_length_3 : decode b_Ref_length 3 = .ok (.bipush 6, 2) := by decide +kernel
theorem d_Ref_length_5 : decode b_Ref_length 5 = .ok (.if_icmp .ge 21, 3) := by decide +kernel
theorem d_Ref_length_8 : decode b_Ref_length 8 = .ok (.aload_n 0, 1) := by decide +kernel
theorem d_Ref_length_9 : decode b_Ref_length 9 = .ok (.iload_n 1, 1) := by decide +kernel
theorem d_Ref_length_10 : decode b_Ref_length 10 = .ok (.iload_n 2, 1) := by decide +kernel
theorem d_Ref_length_11 : decode b_Ref_length 11 = .ok (.invokevirtual 64, 3) := by decide +kernel
theorem d_Ref_length_14 : decode b_Ref_length 14 = .ok (.lconst 0, 1) := by decide +kernel
theorem d_Ref_length_15 : decode b_Ref_length 15 = .ok (.lcmp, 1) := by decide +kernel
theorem d_Ref_length_16 : decode b_Ref_length 16 = .ok (.ifCond .eq 10, 3) := by decide +kernel
theorem d_Ref_length_19 : decode b_Ref_length 19 = .ok (.iload_n 2, 1) := by decide +kernel
theorem d_Ref_length_20 : decode b_Ref_length 20 = .ok (.iconst 1, 1) := by decide +kernel
theorem d_Ref_length_21 : decode b_Ref_length 21 = .ok (.iadd, 1) := by decide +kernel
theorem d_Ref_length_22 : decode b_Ref_length 22 = .ok (.istore_n 2, 1) := by decide +kernel
theorem d_Ref_length_23 : decode b_Ref_length 23 = .ok (.goto (-21), 3) := by decide +kernel
theorem d_Ref_length_26 : decode b_Ref_length 26 = .ok (.iload_n 2, 1) := by decide +kernel
theorem d_Ref_length_27 : decode b_Ref_length 27 = .ok (.ireturn, 1) := by decide +kernel
set_option maxRecDepth 100000 in
set_option maxHeartbeats 4000000 in
theorem k_Ref_length (l : Launch) (D : va_G) (G : Nat → Nat) (Y : Nat → ClassId) {u : SR} {a1 : Int32} {r : Int32} {u' : SR} (hm : m_Ref_length u a1 = some (r, u')) : KI l D clz (tyz Y) (wdR G Y) y_Ref_length b_Ref_length 3 (some .int) 1 22 [.ref (G 0), .int a1] u r u' := by
  refine mkI (by decide) (Nat.le_of_ble_eq_true rfl) ?_
  intro p e s m below meth c A Z ls C0 hP hD hS hl hret
  obtain ⟨hx, hb, hml, hown, hts, hK, hN, hA⟩ := id C0
  have hl : lv_has ls 3 [(0, .ref (G 0)), (1, .int a1)] := hl
  have L2 : ∀ (x1 : Int32) (o : (Int32 × SR) ⊕ (Int32 × SR)) (kr : ∀ z, o = .inl z → z = (r, u')) (kx : ∀ (y2 : Int32) (ub : SR), o = .inr (y2, ub) → ∀ (H : Heap) (locs : List Loc) (ls : Array Slot), va_P D clz (wdR G Y ub) H → va_D A (wdR G Y ub) → va_S A s.heap H locs → lv_has ls 3 [(2, .int y2)] → W p l e (zRm 1 22) s m ([.ref (G 0), .int a1] : List Value).toArray below meth c H locs 0 0 Z (F0 m 26 ls [])) (n0 : Nat) (ua : SR) (x2 : Int32), m_Ref_length_L2 n0 ua x2 x1 = some o → ∀ (H : Heap) (locs : List Loc) (ls : Array Slot), va_P D clz (wdR G Y ua) H → va_D A (wdR G Y ua) → va_S A s.heap H locs → lv_has ls 3 [(0, .ref (G 0)), (1, .int x1), (2, .int x2)] → W p l e (zRm 1 22) s m ([.ref (G 0), .int a1] : List Value).toArray below meth c H locs 0 0 Z (F0 m 2 ls []) := by
    intro x1 o kr kx n0
    induction n0 with
    | zero => intro ua x2 hm; rw [m_Ref_length_L2] at hm; cases hm
    | succ n0 ih =>
      intro ua x2 hm H locs ls hP hD hS hl
      rw [m_Ref_length_L2] at hm
      refine lv_iload_n hx hb d_Ref_length_2 rfl (lv_at hl 2 rfl) ?_
      refine lv_bipush (v := (6 : Int32)) hx hb d_Ref_length_3 (by decide) ?_
      refine lv_icmp_ge (tgt := 26) hx hb d_Ref_length_5 (by decide) (fun hc => ?_) (fun hc => ?_)
      · rw [if_pos hc] at hm
        exact kx x2 ua (Option.some.inj hm).symm _ _ _ hP hD hS (lv_sub hl [2] rfl)
      · rw [if_neg hc] at hm
        refine lv_aload_n hx hb d_Ref_length_8 rfl (lv_at hl 0 rfl) ?_
        refine lv_iload_n hx hb d_Ref_length_9 rfl (lv_at hl 1 rfl) ?_
        refine lv_iload_n hx hb d_Ref_length_10 rfl (lv_at hl 2 rfl) ?_
        obtain ⟨r1, u2, h3, hm⟩ := ob_some hm
        refine goVL (As := [.int x1, .int x2]) (rest := []) (b0 := G 0) 0 C0 (k_Ref_at l D G Y h3) q_621 q_6 q_618 q_620 qs_33 e_Ref_at (by decide) rfl rfl hP hD hS hl.1 rfl (Nat.le_of_ble_eq_true rfl) d_Ref_length_11 (fun H locs hP hD hS => ?_)
        refine lv_lconst (v := (0 : Int64)) hx hb d_Ref_length_14 (by decide) ?_
        refine W.lcmp hx hb d_Ref_length_15 ?_
        refine lv_if_eq (tgt := 26) hx hb d_Ref_length_16 (by decide) (fun hc => ?_) (fun hc => ?_)
        · rw [if_pos hc] at hm
          exact kx x2 u2 (Option.some.inj hm).symm _ _ _ hP hD hS (lv_sub hl [2] rfl)
        · rw [if_neg hc] at hm
          refine lv_iload_n hx hb d_Ref_length_19 rfl (lv_at hl 2 rfl) ?_
          refine lv_iconst (v := (1 : Int32)) hx hb d_Ref_length_20 (by decide) ?_
          refine lv_iadd hx hb d_Ref_length_21 ?_
          refine lv_istore_n (lv' := [(2, .int (x2 + (1 : Int32))), (0, .ref (G 0)), (1, .int x1)]) hx hb d_Ref_length_22 rfl hl (by decide) rfl (fun ls hl => ?_)
          refine lv_goto (tgt := 2) hx hb d_Ref_length_23 (by decide) ?_
          exact ih u2 (x2 + (1 : Int32)) hm _ _ _ hP hD hS (lv_sub hl [1, 2, 0] rfl)
  rw [m_Ref_length] at hm
  refine lv_iconst (v := (0 : Int32)) hx hb d_Ref_length_0 (by decide) ?_
  refine lv_istore_n (lv' := [(2, .int (0 : Int32)), (0, .ref (G 0)), (1, .int a1)]) hx hb d_Ref_length_1 rfl hl (by decide) rfl (fun ls hl => ?_)
  obtain ⟨qq, hq, hi, ho⟩ := ol1_some hm
  refine L2 a1 qq (fun z hz => hi z hz) (fun x5 u6 hz H locs ls hP hD hS hl => ?_) fz u (0 : Int32) hq _ _ _ hP hD hS (lv_sub hl [1, 2, 0] rfl)
  have hm := ho x5 u6 hz
  refine lv_iload_n hx hb d_Ref_length_26 rfl (lv_at hl 0 rfl) ?_
  exact hret _ _ _ _ x5 u6 (Option.some.inj hm) hP hD hS d_Ref_length_27
theorem d_Ref_reach_0 : decode b_Ref_reach 0 = .ok (.iload_n 1, 1) := by decide +kernel
theorem d_Ref_reach_1 : decode b_Ref_reach 1 = .ok (.ifCond .eq 16, 3) := by decide +kernel
theorem d_Ref_reach_4 : decode b_Ref_reach 4 = .ok (.aload_n 0, 1) := by decide +kernel
theorem d_Ref_reach_5 : decode b_Ref_reach 5 = .ok (.getfield 24, 3) := by decide +kernel
theorem d_Ref_reach_8 : decode b_Ref_reach 8 = .ok (.iload_n 1, 1) := by decide +kernel
theorem d_Ref_reach_9 : decode b_Ref_reach 9 = .ok (.baload, 1) := by decide +kernel
theorem d_Ref_reach_10 : decode b_Ref_reach 10 = .ok (.ifCond .ne 7, 3) := by decide +kernel
theorem d_Ref_reach_13 : decode b_Ref_reach 13 = .ok (.iconst 1, 1) := by decide +kernel
theorem d_Ref_reach_14 : decode b_Ref_reach 14 = .ok (.goto 4, 3) := by decide +kernel
theorem d_Ref_reach_17 : decode b_Ref_reach 17 = .ok (.iconst 0, 1) := by decide +kernel
theorem d_Ref_reach_18 : decode b_Ref_reach 18 = .ok (.istore_n 2, 1) := by decide +kernel
theorem d_Ref_reach_19 : decode b_Ref_reach 19 = .ok (.aload_n 0, 1) := by decide +kernel
theorem d_Ref_reach_20 : decode b_Ref_reach 20 = .ok (.getfield 24, 3) := by decide +kernel
theorem d_Ref_reach_23 : decode b_Ref_reach 23 = .ok (.iload_n 1, 1) := by decide +kernel
theorem d_Ref_reach_24 : decode b_Ref_reach 24 = .ok (.iconst 1, 1) := by decide +kernel
theorem d_Ref_reach_25 : decode b_Ref_reach 25 = .ok (.bastore, 1) := by decide +kernel
theorem d_Ref_reach_26 : decode b_Ref_reach 26 = .ok (.iload_n 2, 1) := by decide +kernel
theorem d_Ref_reach_27 : decode b_Ref_reach 27 = .ok (.ireturn, 1) := by decide +kernel
set_option maxRecDepth 100000 in
set_option maxHeartbeats 4000000 in
theorem k_Ref_reach (l : Launch) (D : va_G) (G : Nat → Nat) (Y : Nat → ClassId) {u : SR} {a1 : Int32} {r : Int32} {u' : SR} (hm : m_Ref_reach u a1 = some (r, u')) : KZ l D clz (tyz Y) (wdR G Y) y_Ref_reach b_Ref_reach 3 (some .boolean) 0 0 [.ref (G 0), .int a1] u r u' := by
  refine mkZ (by decide) (Nat.le_of_ble_eq_true rfl) ?_
  intro p e s m below meth c A Z ls C0 hP hD hS hl hret
  obtain ⟨hx, hb, hml, hown, hts, hK, hN, hA⟩ := id C0
  have hl : lv_has ls 3 [(0, .ref (G 0)), (1, .int a1)] := hl
  have J17 : ∀ (ua : SR) (x1 : Int32), m_Ref_reach_J17 ua x1 = some (r, u') → ∀ (H : Heap) (locs : List Loc) (ls : Array Slot), va_P D clz (wdR G Y ua) H → va_D A (wdR G Y ua) → va_S A s.heap H locs → lv_has ls 3 [(0, .ref (G 0)), (1, .int x1)] → W p l e (zRm 0 0) s m ([.ref (G 0), .int a1] : List Value).toArray below meth c H locs 0 0 Z (F0 m 17 ls []) := by
    intro ua x1 hm H locs ls hP hD hS hl
    rw [m_Ref_reach_J17] at hm
    refine lv_iconst (v := (0 : Int32)) hx hb d_Ref_reach_17 (by decide) ?_
    refine lv_istore_n (lv' := [(2, .int (0 : Int32)), (0, .ref (G 0)), (1, .int x1)]) hx hb d_Ref_reach_18 rfl hl (by decide) rfl (fun ls hl => ?_)
    refine lv_aload_n hx hb d_Ref_reach_19 rfl (lv_at hl 1 rfl) ?_
    refine va_get (D := D) (ci := 5) (v := .ref (G 4)) (C := "FirmStoreModel") (T := F_Ref) (N := 12) hx hb hts iz_Ref hown hK hP 0 rfl rfl 10 (by decide) (hts _ q_547) (fun _ h9 => h9) rfl d_Ref_reach_20 ?_
    refine lv_iload_n hx hb d_Ref_reach_23 rfl (lv_at hl 2 rfl) ?_
    refine lv_iconst (v := (1 : Int32)) hx hb d_Ref_reach_24 (by decide) ?_
    obtain ⟨hg, hm⟩ := gd hm
    refine va_zast hx hb hK hP hD hS 4 2 (f := (rg_rea ua)) rfl rfl (inb_in hg) d_Ref_reach_25 (fun H locs hP hD hS => ?_)
    have hP : va_P D clz (wdR G Y (rs_rea ua (upd (rg_rea ua) x1.toNatClampNeg (vp_nar .boolean (1 : Int32))))) H := hP
    have hD : va_D A (wdR G Y (rs_rea ua (upd (rg_rea ua) x1.toNatClampNeg (vp_nar .boolean (1 : Int32))))) := hD
    refine lv_iload_n hx hb d_Ref_reach_26 rfl (lv_at hl 0 rfl) ?_
    exact hret _ _ _ _ (0 : Int32) (rs_rea ua (upd (rg_rea ua) x1.toNatClampNeg (vp_nar .boolean (1 : Int32)))) (Option.some.inj hm) (Or.inl rfl) hP hD hS d_Ref_reach_27
  rw [m_Ref_reach] at hm
  refine lv_iload_n hx hb d_Ref_reach_0 rfl (lv_at hl 1 rfl) ?_
  refine lv_if_eq (tgt := 17) hx hb d_Ref_reach_1 (by decide) (fun hc => ?_) (fun hc => ?_)
  · rw [if_pos hc] at hm
    exact J17 u a1 hm _ _ _ hP hD hS (lv_sub hl [0, 1] rfl)
  · rw [if_neg hc] at hm
    refine lv_aload_n hx hb d_Ref_reach_4 rfl (lv_at hl 0 rfl) ?_
    refine va_get (D := D) (ci := 5) (v := .ref (G 4)) (C := "FirmStoreModel") (T := F_Ref) (N := 12) hx hb hts iz_Ref hown hK hP 0 rfl rfl 10 (by decide) (hts _ q_547) (fun _ h9 => h9) rfl d_Ref_reach_5 ?_
    refine lv_iload_n hx hb d_Ref_reach_8 rfl (lv_at hl 1 rfl) ?_
    obtain ⟨hg, hm⟩ := gd hm
    refine va_zald hx hb hK hP 4 2 (f := (rg_rea u)) rfl rfl (inb_in hg) d_Ref_reach_9 ?_
    refine lv_if_ne (tgt := 17) hx hb d_Ref_reach_10 (by decide) (fun hc => ?_) (fun hc => ?_)
    · rw [if_neg hc] at hm
      exact J17 u a1 hm _ _ _ hP hD hS (lv_sub hl [0, 1] rfl)
    · rw [if_pos hc] at hm
      refine lv_iconst (v := (1 : Int32)) hx hb d_Ref_reach_13 (by decide) ?_
      refine lv_goto (tgt := 18) hx hb d_Ref_reach_14 (by decide) ?_
      refine lv_istore_n (lv' := [(2, .int (1 : Int32)), (0, .ref (G 0)), (1, .int a1)]) hx hb d_Ref_reach_18 rfl hl (by decide) rfl (fun ls hl => ?_)
      refine lv_aload_n hx hb d_Ref_reach_19 rfl (lv_at hl 1 rfl) ?_
      refine va_get (D := D) (ci := 5) (v := .ref (G 4)) (C := "FirmStoreModel") (T := F_Ref) (N := 12) hx hb hts iz_Ref hown hK hP 0 rfl rfl 10 (by decide) (hts _ q_547) (fun _ h9 => h9) rfl d_Ref_reach_20 ?_
      refine lv_iload_n hx hb d_Ref_reach_23 rfl (lv_at hl 2 rfl) ?_
      refine lv_iconst (v := (1 : Int32)) hx hb d_Ref_reach_24 (by decide) ?_
      obtain ⟨hg, hm⟩ := gd hm
      refine va_zast hx hb hK hP hD hS 4 2 (f := (rg_rea u)) rfl rfl (inb_in hg) d_Ref_reach_25 (fun H locs hP hD hS => ?_)
      have hP : va_P D clz (wdR G Y (rs_rea u (upd (rg_rea u) a1.toNatClampNeg (vp_nar .boolean (1 : Int32))))) H := hP
      have hD : va_D A (wdR G Y (rs_rea u (upd (rg_rea u) a1.toNatClampNeg (vp_nar .boolean (1 : Int32))))) := hD
      refine lv_iload_n hx hb d_Ref_reach_26 rfl (lv_at hl 0 rfl) ?_
      exact hret _ _ _ _ (1 : Int32) (rs_rea u (upd (rg_rea u) a1.toNatClampNeg (vp_nar .boolean (1 : Int32)))) (Option.some.inj hm) (Or.inr rfl) hP hD hS d_Ref_reach_27
