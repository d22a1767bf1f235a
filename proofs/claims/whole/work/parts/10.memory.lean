/-! models and contracts; written by wip/whole/gen.py -/
def m_Memory_wordAt (u : SM) (a1 : Int32) : Option (Int64 × SM) := if a1 < 0 then (some ((0 : Int64), u)) else (if (279 : Int32) ≤ a1 then (some ((0 : Int64), u)) else (if inb a1 279 = true then some (((cg_w u) a1.toNatClampNeg), u) else none))
def m_Memory_orderCut (u : SM) (a1 : Int32) (a2 : Int32) : Option (Unit × SM) := some ((), (cs_cm (cs_sb u a1) a2))
def m_Memory_cutPower_L2 : Nat → SM → Int32 → Option ((Unit × SM) ⊕ (SM))
  | 0, _, _ => none
  | n0 + 1, ua, x1 => if (cg_lc ua) ≤ x1 then (some (.inr ua)) else (if ((zIushr (cg_cm ua) x1) &&& (1 : Int32)) = 0 then (if inb x1 9 = true then if inb x1 9 = true then if inb ((cg_la ua) x1.toNatClampNeg) 279 = true then m_Memory_cutPower_L2 n0 (cs_w ua (vp_updL (cg_w ua) ((cg_la ua) x1.toNatClampNeg).toNatClampNeg ((cg_fw ua) x1.toNatClampNeg))) (x1 + (1 : Int32)) else none else none else none) else (m_Memory_cutPower_L2 n0 ua (x1 + (1 : Int32))))
def m_Memory_cutPower (u : SM)  : Option (Unit × SM) := ol0 (m_Memory_cutPower_L2 fz u (0 : Int32)) id (fun u1 => some ((), (cs_dn (cs_sb (cs_lc u1 (0 : Int32)) (-1 : Int32)) (1 : Int32))))
def m_Memory_store_J30 (ua : SM) (x1 : Int32) (x2 : Int64) : Option (Int32 × SM) := if x1 < 0 then (some ((1 : Int32), (cs_sc ua ((cg_sc ua) + (1 : Int32))))) else (if (279 : Int32) ≤ x1 then (some ((1 : Int32), (cs_sc ua ((cg_sc ua) + (1 : Int32))))) else (if (9 : Int32) ≤ (cg_lc ua) then (some ((1 : Int32), (cs_sc ua ((cg_sc ua) + (1 : Int32))))) else (if inb (cg_lc ua) 9 = true then if inb x1 279 = true then if inb (cg_lc ua) 9 = true then if inb x1 279 = true then some ((1 : Int32), (cs_sc (cs_w (cs_lc (cs_fw (cs_la ua (upd (cg_la ua) (cg_lc ua).toNatClampNeg x1)) (vp_updL (cg_fw ua) (cg_lc ua).toNatClampNeg ((cg_w ua) x1.toNatClampNeg))) ((cg_lc ua) + (1 : Int32))) (vp_updL (cg_w ua) x1.toNatClampNeg x2)) ((cg_sc ua) + (1 : Int32)))) else none else none else none else none)))
def m_Memory_store (u : SM) (a1 : Int32) (a2 : Int64) : Option (Int32 × SM) := if (cg_sb u) = 0 then (ob (m_Memory_cutPower u) (fun _ u2 => some ((0 : Int32), u2))) else (if (cg_sb u) ≤ 0 then (m_Memory_store_J30 u a1 a2) else (m_Memory_store_J30 (cs_sb u ((cg_sb u) - (1 : Int32))) a1 a2))
def m_Memory_fence (u : SM)  : Option (Unit × SM) := some ((), (cs_lc u (0 : Int32)))
def m_Memory_firmStore (u : SM) (a1 : Int32) (a2 : Int64) : Option (Int32 × SM) := ob (m_Memory_store u a1 a2) (fun r1 u2 => if r1 = 0 then (some ((0 : Int32), u2)) else (ob (m_Memory_fence u2) (fun _ u6 => some ((1 : Int32), u6))))
theorem d_Memory_wordAt_0 : decode b_Memory_wordAt 0 = .ok (.iload_n 1, 1) := by decide +kernel
theorem d_Memory_wordAt_1 : decode b_Memory_wordAt 1 = .ok (.ifCond .lt 19, 3) := by decide +kernel
theorem d_Memory_wordAt_4 : decode b_Memory_wordAt 4 = .ok (.iload_n 1, 1) := by decide +kernel
theorem d_Memory_wordAt_5 : decode b_Memory_wordAt 5 = .ok (.sipush 279, 3) := by decide +kernel
theorem d_Memory_wordAt_8 : decode b_Memory_wordAt 8 = .ok (.if_icmp .ge 12, 3) := by decide +kernel
theorem d_Memory_wordAt_11 : decode b_Memory_wordAt 11 = .ok (.aload_n 0, 1) := by decide +kernel
theorem d_Memory_wordAt_12 : decode b_Memory_wordAt 12 = .ok (.getfield 9, 3) := by decide +kernel
theorem d_Memory_wordAt_15 : decode b_Memory_wordAt 15 = .ok (.iload_n 1, 1) := by decide +kernel
theorem d_Memory_wordAt_16 : decode b_Memory_wordAt 16 = .ok (.laload, 1) := by decide +kernel
theorem d_Memory_wordAt_17 : decode b_Memory_wordAt 17 = .ok (.goto 4, 3) := by decide +kernel
theorem d_Memory_wordAt_20 : decode b_Memory_wordAt 20 = .ok (.lconst 0, 1) := by decide +kernel
theorem d_Memory_wordAt_21 : decode b_Memory_wordAt 21 = .ok (.lreturn, 1) := by decide +kernel
set_option maxRecDepth 100000 in
set_option maxHeartbeats 4000000 in
theorem k_Memory_wordAt (l : Launch) (D : va_G) (G : Nat → Nat) (Y : Nat → ClassId) {u : SM} {a1 : Int32} {r : Int64} {u' : SM} (hm : m_Memory_wordAt u a1 = some (r, u')) : KL l D clz (tyz Y) (wdC G Y) y_Memory_wordAt b_Memory_wordAt 2 (some .long) 0 0 [.ref (G 1), .int a1] u r u' := by
  refine mkL (by decide) (Nat.le_of_ble_eq_true rfl) ?_
  intro p e s m below meth c A Z ls C0 hP hD hS hl hret
  obtain ⟨hx, hb, hml, hown, hts, hK, hN, hA⟩ := id C0
  have hl : lv_has ls 2 [(0, .ref (G 1)), (1, .int a1)] := hl
  rw [m_Memory_wordAt] at hm
  refine lv_iload_n hx hb d_Memory_wordAt_0 rfl (lv_at hl 1 rfl) ?_
  refine lv_if_lt (tgt := 20) hx hb d_Memory_wordAt_1 (by decide) (fun hc => ?_) (fun hc => ?_)
  · rw [if_pos hc] at hm
    refine lv_lconst (v := (0 : Int64)) hx hb d_Memory_wordAt_20 (by decide) ?_
    exact hret _ _ _ _ (0 : Int64) u (Option.some.inj hm) hP hD hS d_Memory_wordAt_21
  · rw [if_neg hc] at hm
    refine lv_iload_n hx hb d_Memory_wordAt_4 rfl (lv_at hl 1 rfl) ?_
    refine lv_sipush (v := (279 : Int32)) hx hb d_Memory_wordAt_5 (by decide) ?_
    refine lv_icmp_ge (tgt := 20) hx hb d_Memory_wordAt_8 (by decide) (fun hc => ?_) (fun hc => ?_)
    · rw [if_pos hc] at hm
      refine lv_lconst (v := (0 : Int64)) hx hb d_Memory_wordAt_20 (by decide) ?_
      exact hret _ _ _ _ (0 : Int64) u (Option.some.inj hm) hP hD hS d_Memory_wordAt_21
    · rw [if_neg hc] at hm
      refine lv_aload_n hx hb d_Memory_wordAt_11 rfl (lv_at hl 0 rfl) ?_
      refine va_get (D := D) (ci := 1) (v := .ref (G 2)) (C := "FirmStore$Memory") (T := F_Memory) (N := 8) hx hb hts iz_Memory hown hK hP 1 rfl rfl 0 (by decide) (hts _ q_28) (fun _ h9 => h9) rfl d_Memory_wordAt_12 ?_
      refine lv_iload_n hx hb d_Memory_wordAt_15 rfl (lv_at hl 1 rfl) ?_
      obtain ⟨hg, hm⟩ := gd hm
      refine va_lald hx hb hK hP 2 0 (f := (cg_w u)) rfl rfl (inb_in hg) d_Memory_wordAt_16 ?_
      refine lv_goto (tgt := 21) hx hb d_Memory_wordAt_17 (by decide) ?_
      exact hret _ _ _ _ ((cg_w u) a1.toNatClampNeg) u (Option.some.inj hm) hP hD hS d_Memory_wordAt_21
theorem d_Memory_orderCut_0 : decode b_Memory_orderCut 0 = .ok (.aload_n 0, 1) := by decide +kernel
theorem d_Memory_orderCut_1 : decode b_Memory_orderCut 1 = .ok (.iload_n 1, 1) := by decide +kernel
theorem d_Memory_orderCut_2 : decode b_Memory_orderCut 2 = .ok (.putfield 24, 3) := by decide +kernel
theorem d_Memory_orderCut_5 : decode b_Memory_orderCut 5 = .ok (.aload_n 0, 1) := by decide +kernel
theorem d_Memory_orderCut_6 : decode b_Memory_orderCut 6 = .ok (.iload_n 2, 1) := by decide +kernel
theorem d_Memory_orderCut_7 : decode b_Memory_orderCut 7 = .ok (.putfield 27, 3) := by decide +kernel
theorem d_Memory_orderCut_10 : decode b_Memory_orderCut 10 = .ok (.return_, 1) := by decide +kernel
set_option maxRecDepth 100000 in
set_option maxHeartbeats 4000000 in
theorem k_Memory_orderCut (l : Launch) (D : va_G) (G : Nat → Nat) (Y : Nat → ClassId) {u : SM} {a1 : Int32} {a2 : Int32} {u' : SM} (hm : m_Memory_orderCut u a1 a2 = some ((), u')) : KV l D clz (tyz Y) (wdC G Y) y_Memory_orderCut b_Memory_orderCut 3 none 0 0 [.ref (G 1), .int a1, .int a2] u u' := by
  refine mkV (by decide) (Nat.le_of_ble_eq_true rfl) ?_
  intro p e s m below meth c A Z ls C0 hP hD hS hl hret
  obtain ⟨hx, hb, hml, hown, hts, hK, hN, hA⟩ := id C0
  have hl : lv_has ls 3 [(0, .ref (G 1)), (1, .int a1), (2, .int a2)] := hl
  rw [m_Memory_orderCut] at hm
  refine lv_aload_n hx hb d_Memory_orderCut_0 rfl (lv_at hl 0 rfl) ?_
  refine lv_iload_n hx hb d_Memory_orderCut_1 rfl (lv_at hl 1 rfl) ?_
  refine va_put (D := D) (ci := 1) (v := .int a1) (ty := .int) (C := "FirmStore$Memory") (T := F_Memory) (N := 8) hx hb hts iz_Memory t_Memory t_Memory_ok n_Memory hown hK hP hD hS 1 rfl rfl 4 (by decide) (hts _ q_32) (fun _ h9 => h9) rfl (by decide +kernel) rfl rfl (Nat.le_of_ble_eq_true rfl) d_Memory_orderCut_2 (fun H locs hP hD hS => ?_)
  have hP : va_P D clz (wdC G Y (cs_sb u a1)) H := hP
  have hD : va_D A (wdC G Y (cs_sb u a1)) := hD
  refine lv_aload_n hx hb d_Memory_orderCut_5 rfl (lv_at hl 0 rfl) ?_
  refine lv_iload_n hx hb d_Memory_orderCut_6 rfl (lv_at hl 2 rfl) ?_
  refine va_put (D := D) (ci := 1) (v := .int a2) (ty := .int) (C := "FirmStore$Memory") (T := F_Memory) (N := 8) hx hb hts iz_Memory t_Memory t_Memory_ok n_Memory hown hK hP hD hS 1 rfl rfl 5 (by decide) (hts _ q_33) (fun _ h9 => h9) rfl (by decide +kernel) rfl rfl (Nat.le_of_ble_eq_true rfl) d_Memory_orderCut_7 (fun H locs hP hD hS => ?_)
  have hP : va_P D clz (wdC G Y (cs_cm (cs_sb u a1) a2)) H := hP
  have hD : va_D A (wdC G Y (cs_cm (cs_sb u a1) a2)) := hD
  exact hret _ _ _ _ () (cs_cm (cs_sb u a1) a2) (Option.some.inj hm) hP hD hS d_Memory_orderCut_10
theorem d_Memory_cutPower_0 : decode b_Memory_cutPower 0 = .ok (.iconst 0, 1) := by decide +kernel
theorem d_Memory_cutPower_1 : decode b_Memory_cutPower 1 = .ok (.istore_n 1, 1) := by decide +kernel
theorem d_Memory_cutPower_2 : decode b_Memory_cutPower 2 = .ok (.iload_n 1, 1) := by decide +kernel
theorem d_Memory_cutPower_3 : decode b_Memory_cutPower 3 = .ok (.aload_n 0, 1) := by decide +kernel
theorem d_Memory_cutPower_4 : decode b_Memory_cutPower 4 = .ok (.getfield 20, 3) := by decide +kernel
theorem d_Memory_cutPower_7 : decode b_Memory_cutPower 7 = .ok (.if_icmp .ge 37, 3) := by decide +kernel
theorem d_Memory_cutPower_10 : decode b_Memory_cutPower 10 = .ok (.aload_n 0, 1) := by decide +kernel
theorem d_Memory_cutPower_11 : decode b_Memory_cutPower 11 = .ok (.getfield 27, 3) := by decide +kernel
theorem d_Memory_cutPower_14 : decode b_Memory_cutPower 14 = .ok (.iload_n 1, 1) := by decide +kernel
theorem d_Memory_cutPower_15 : decode b_Memory_cutPower 15 = .ok (.iushr, 1) := by decide +kernel
theorem d_Memory_cutPower_16 : decode b_Memory_cutPower 16 = .ok (.iconst 1, 1) := by decide +kernel
theorem d_Memory_cutPower_17 : decode b_Memory_cutPower 17 = .ok (.iand, 1) := by decide +kernel
theorem d_Memory_cutPower_18 : decode b_Memory_cutPower 18 = .ok (.ifCond .ne 20, 3) := by decide +kernel
theorem d_Memory_cutPower_21 : decode b_Memory_cutPower 21 = .ok (.aload_n 0, 1) := by decide +kernel
theorem d_Memory_cutPower_22 : decode b_Memory_cutPower 22 = .ok (.getfield 9, 3) := by decide +kernel
theorem d_Memory_cutPower_25 : decode b_Memory_cutPower 25 = .ok (.aload_n 0, 1) := by decide +kernel
theorem d_Memory_cutPower_26 : decode b_Memory_cutPower 26 = .ok (.getfield 13, 3) := by decide +kernel
theorem d_Memory_cutPower_29 : decode b_Memory_cutPower 29 = .ok (.iload_n 1, 1) := by decide +kernel
theorem d_Memory_cutPower_30 : decode b_Memory_cutPower 30 = .ok (.iaload, 1) := by decide +kernel
theorem d_Memory_cutPower_31 : decode b_Memory_cutPower 31 = .ok (.aload_n 0, 1) := by decide +kernel
theorem d_Memory_cutPower_32 : decode b_Memory_cutPower 32 = .ok (.getfield 17, 3) := by decide +kernel
theorem d_Memory_cutPower_35 : decode b_Memory_cutPower 35 = .ok (.iload_n 1, 1) := by decide +kernel
theorem d_Memory_cutPower_36 : decode b_Memory_cutPower 36 = .ok (.laload, 1) := by decide +kernel
theorem d_Memory_cutPower_37 : decode b_Memory_cutPower 37 = .ok (.lastore, 1) := by decide +kernel
theorem d_Memory_cutPower_38 : decode b_Memory_cutPower 38 = .ok (.iinc 1 1, 3) := by decide +kernel
theorem d_Memory_cutPower_41 : decode b_Memory_cutPower 41 = .ok (.goto (-39), 3) := by decide +kernel
theorem d_Memory_cutPower_44 : decode b_Memory_cutPower 44 = .ok (.aload_n 0, 1) := by decide +kernel
theorem d_Memory_cutPower_45 : decode b_Memory_cutPower 45 = .ok (.iconst 0, 1) := by decide +kernel
theorem d_Memory_cutPower_46 : decode b_Memory_cutPower 46 = .ok (.putfield 20, 3) := by decide +kernel
theorem d_Memory_cutPower_49 : decode b_Memory_cutPower 49 = .ok (.aload_n 0, 1) := by decide +kernel
theorem d_Memory_cutPower_50 : decode b_Memory_cutPower 50 = .ok (.iconst (-1), 1) := by decide +kernel
theorem d_Memory_cutPower_51 : decode b_Memory_cutPower 51 = .ok (.putfield 24, 3) := by decide +kernel
theorem d_Memory_cutPower_54 : decode b_Memory_cutPower 54 = .ok (.aload_n 0, 1) := by decide +kernel
theorem d_Memory_cutPower_55 : decode b_Memory_cutPower 55 = .ok (.iconst 1, 1) := by decide +kernel
theorem d_Memory_cutPower_56 : decode b_Memory_cutPower 56 = .ok (.putfield 33, 3) := by decide +kernel
theorem d_Memory_cutPower_59 : decode b_Memory_cutPower 59 = .ok (.return_, 1) := by decide +kernel
set_option maxRecDepth 100000 in
set_option maxHeartbeats 4000000 in
theorem k_Memory_cutPower (l : Launch) (D : va_G) (G : Nat → Nat) (Y : Nat → ClassId) {u : SM}  {u' : SM} (hm : m_Memory_cutPower u  = some ((), u')) : KV l D clz (tyz Y) (wdC G Y) y_Memory_cutPower b_Memory_cutPower 2 none 0 0 [.ref (G 1)] u u' := by
  refine mkV (by decide) (Nat.le_of_ble_eq_true rfl) ?_
  intro p e s m below meth c A Z ls C0 hP hD hS hl hret
  obtain ⟨hx, hb, hml, hown, hts, hK, hN, hA⟩ := id C0
  have hl : lv_has ls 2 [(0, .ref (G 1))] := hl
  have L2 : ∀  (o : (Unit × SM) ⊕ (SM)) (kr : ∀ z, o = .inl z → z = ((), u')) (kx : ∀  (ub : SM), o = .inr ub → ∀ (H : Heap) (locs : List Loc) (ls : Array Slot), va_P D clz (wdC G Y ub) H → va_D A (wdC G Y ub) → va_S A s.heap H locs → lv_has ls 2 [(0, .ref (G 1))] → W p l e (zRm 0 0) s m ([.ref (G 1)] : List Value).toArray below meth c H locs 0 0 Z (F0 m 44 ls [])) (n0 : Nat) (ua : SM) (x1 : Int32), m_Memory_cutPower_L2 n0 ua x1 = some o → ∀ (H : Heap) (locs : List Loc) (ls : Array Slot), va_P D clz (wdC G Y ua) H → va_D A (wdC G Y ua) → va_S A s.heap H locs → lv_has ls 2 [(0, .ref (G 1)), (1, .int x1)] → W p l e (zRm 0 0) s m ([.ref (G 1)] : List Value).toArray below meth c H locs 0 0 Z (F0 m 2 ls []) := by
    intro  o kr kx n0
    induction n0 with
    | zero => intro ua x1 hm; rw [m_Memory_cutPower_L2] at hm; cases hm
    | succ n0 ih =>
      intro ua x1 hm H locs ls hP hD hS hl
      rw [m_Memory_cutPower_L2] at hm
      refine lv_iload_n hx hb d_Memory_cutPower_2 rfl (lv_at hl 1 rfl) ?_
      refine lv_aload_n hx hb d_Memory_cutPower_3 rfl (lv_at hl 0 rfl) ?_
      refine va_get (D := D) (ci := 1) (v := .int (cg_lc ua)) (C := "FirmStore$Memory") (T := F_Memory) (N := 8) hx hb hts iz_Memory hown hK hP 1 rfl rfl 3 (by decide) (hts _ q_31) (fun _ h9 => h9) rfl d_Memory_cutPower_4 ?_
      refine lv_icmp_ge (tgt := 44) hx hb d_Memory_cutPower_7 (by decide) (fun hc => ?_) (fun hc => ?_)
      · rw [if_pos hc] at hm
        exact kx  ua (Option.some.inj hm).symm _ _ _ hP hD hS (lv_sub hl [0] rfl)
      · rw [if_neg hc] at hm
        refine lv_aload_n hx hb d_Memory_cutPower_10 rfl (lv_at hl 0 rfl) ?_
        refine va_get (D := D) (ci := 1) (v := .int (cg_cm ua)) (C := "FirmStore$Memory") (T := F_Memory) (N := 8) hx hb hts iz_Memory hown hK hP 1 rfl rfl 5 (by decide) (hts _ q_33) (fun _ h9 => h9) rfl d_Memory_cutPower_11 ?_
        refine lv_iload_n hx hb d_Memory_cutPower_14 rfl (lv_at hl 1 rfl) ?_
        refine lv_iushr (v := (zIushr (cg_cm ua) x1)) hx hb d_Memory_cutPower_15 rfl ?_
        refine lv_iconst (v := (1 : Int32)) hx hb d_Memory_cutPower_16 (by decide) ?_
        refine lv_iand hx hb d_Memory_cutPower_17 ?_
        refine lv_if_ne (tgt := 38) hx hb d_Memory_cutPower_18 (by decide) (fun hc => ?_) (fun hc => ?_)
        · rw [if_neg hc] at hm
          refine lv_iinc (v := (x1 + (1 : Int32))) (lv' := [(1, .int (x1 + (1 : Int32))), (0, .ref (G 1))]) hx hb d_Memory_cutPower_38 hl (k := 1) rfl rfl (by decide) rfl (fun ls hl => ?_)
          refine lv_goto (tgt := 2) hx hb d_Memory_cutPower_41 (by decide) ?_
          exact ih ua (x1 + (1 : Int32)) hm _ _ _ hP hD hS (lv_sub hl [1, 0] rfl)
        · rw [if_pos hc] at hm
          refine lv_aload_n hx hb d_Memory_cutPower_21 rfl (lv_at hl 0 rfl) ?_
          refine va_get (D := D) (ci := 1) (v := .ref (G 2)) (C := "FirmStore$Memory") (T := F_Memory) (N := 8) hx hb hts iz_Memory hown hK hP 1 rfl rfl 0 (by decide) (hts _ q_28) (fun _ h9 => h9) rfl d_Memory_cutPower_22 ?_
          refine lv_aload_n hx hb d_Memory_cutPower_25 rfl (lv_at hl 0 rfl) ?_
          refine va_get (D := D) (ci := 1) (v := .ref (G 3)) (C := "FirmStore$Memory") (T := F_Memory) (N := 8) hx hb hts iz_Memory hown hK hP 1 rfl rfl 1 (by decide) (hts _ q_29) (fun _ h9 => h9) rfl d_Memory_cutPower_26 ?_
          refine lv_iload_n hx hb d_Memory_cutPower_29 rfl (lv_at hl 1 rfl) ?_
          obtain ⟨hg, hm⟩ := gd hm
          refine va_iald hx hb hK hP 3 1 (f := (cg_la ua)) rfl rfl (inb_in hg) d_Memory_cutPower_30 ?_
          refine lv_aload_n hx hb d_Memory_cutPower_31 rfl (lv_at hl 0 rfl) ?_
          refine va_get (D := D) (ci := 1) (v := .ref (G 4)) (C := "FirmStore$Memory") (T := F_Memory) (N := 8) hx hb hts iz_Memory hown hK hP 1 rfl rfl 2 (by decide) (hts _ q_30) (fun _ h9 => h9) rfl d_Memory_cutPower_32 ?_
          refine lv_iload_n hx hb d_Memory_cutPower_35 rfl (lv_at hl 1 rfl) ?_
          obtain ⟨hg, hm⟩ := gd hm
          refine va_lald hx hb hK hP 4 0 (f := (cg_fw ua)) rfl rfl (inb_in hg) d_Memory_cutPower_36 ?_
          obtain ⟨hg, hm⟩ := gd hm
          refine va_last hx hb hK hP hD hS 2 0 (f := (cg_w ua)) rfl rfl (inb_in hg) d_Memory_cutPower_37 (fun H locs hP hD hS => ?_)
          have hP : va_P D clz (wdC G Y (cs_w ua (vp_updL (cg_w ua) ((cg_la ua) x1.toNatClampNeg).toNatClampNeg ((cg_fw ua) x1.toNatClampNeg)))) H := hP
          have hD : va_D A (wdC G Y (cs_w ua (vp_updL (cg_w ua) ((cg_la ua) x1.toNatClampNeg).toNatClampNeg ((cg_fw ua) x1.toNatClampNeg)))) := hD
          refine lv_iinc (v := (x1 + (1 : Int32))) (lv' := [(1, .int (x1 + (1 : Int32))), (0, .ref (G 1))]) hx hb d_Memory_cutPower_38 hl (k := 1) rfl rfl (by decide) rfl (fun ls hl => ?_)
          refine lv_goto (tgt := 2) hx hb d_Memory_cutPower_41 (by decide) ?_
          exact ih (cs_w ua (vp_updL (cg_w ua) ((cg_la ua) x1.toNatClampNeg).toNatClampNeg ((cg_fw ua) x1.toNatClampNeg))) (x1 + (1 : Int32)) hm _ _ _ hP hD hS (lv_sub hl [1, 0] rfl)
  rw [m_Memory_cutPower] at hm
  refine lv_iconst (v := (0 : Int32)) hx hb d_Memory_cutPower_0 (by decide) ?_
  refine lv_istore_n (lv' := [(1, .int (0 : Int32)), (0, .ref (G 1))]) hx hb d_Memory_cutPower_1 rfl hl (by decide) rfl (fun ls hl => ?_)
  obtain ⟨qq, hq, hi, ho⟩ := ol0_some hm
  refine L2  qq (fun z hz => hi z hz) (fun  u1 hz H locs ls hP hD hS hl => ?_) fz u (0 : Int32) hq _ _ _ hP hD hS (lv_sub hl [1, 0] rfl)
  have hm := ho  u1 hz
  refine lv_aload_n hx hb d_Memory_cutPower_44 rfl (lv_at hl 0 rfl) ?_
  refine lv_iconst (v := (0 : Int32)) hx hb d_Memory_cutPower_45 (by decide) ?_
  refine va_put (D := D) (ci := 1) (v := .int (0 : Int32)) (ty := .int) (C := "FirmStore$Memory") (T := F_Memory) (N := 8) hx hb hts iz_Memory t_Memory t_Memory_ok n_Memory hown hK hP hD hS 1 rfl rfl 3 (by decide) (hts _ q_31) (fun _ h9 => h9) rfl (by decide +kernel) rfl rfl (Nat.le_of_ble_eq_true rfl) d_Memory_cutPower_46 (fun H locs hP hD hS => ?_)
  have hP : va_P D clz (wdC G Y (cs_lc u1 (0 : Int32))) H := hP
  have hD : va_D A (wdC G Y (cs_lc u1 (0 : Int32))) := hD
  refine lv_aload_n hx hb d_Memory_cutPower_49 rfl (lv_at hl 0 rfl) ?_
  refine lv_iconst (v := (-1 : Int32)) hx hb d_Memory_cutPower_50 (by decide) ?_
  refine va_put (D := D) (ci := 1) (v := .int (-1 : Int32)) (ty := .int) (C := "FirmStore$Memory") (T := F_Memory) (N := 8) hx hb hts iz_Memory t_Memory t_Memory_ok n_Memory hown hK hP hD hS 1 rfl rfl 4 (by decide) (hts _ q_32) (fun _ h9 => h9) rfl (by decide +kernel) rfl rfl (Nat.le_of_ble_eq_true rfl) d_Memory_cutPower_51 (fun H locs hP hD hS => ?_)
  have hP : va_P D clz (wdC G Y (cs_sb (cs_lc u1 (0 : Int32)) (-1 : Int32))) H := hP
  have hD : va_D A (wdC G Y (cs_sb (cs_lc u1 (0 : Int32)) (-1 : Int32))) := hD
  refine lv_aload_n hx hb d_Memory_cutPower_54 rfl (lv_at hl 0 rfl) ?_
  refine lv_iconst (v := (1 : Int32)) hx hb d_Memory_cutPower_55 (by decide) ?_
  refine va_put (D := D) (ci := 1) (v := .int (1 : Int32)) (ty := .boolean) (C := "FirmStore$Memory") (T := F_Memory) (N := 8) hx hb hts iz_Memory t_Memory t_Memory_ok n_Memory hown hK hP hD hS 1 rfl rfl 7 (by decide) (hts _ q_36) (fun _ h9 => h9) rfl (by decide +kernel) (nz (Or.inr rfl)) (by decide) (Nat.le_of_ble_eq_true rfl) d_Memory_cutPower_56 (fun H locs hP hD hS => ?_)
  have hP : va_P D clz (wdC G Y (cs_dn (cs_sb (cs_lc u1 (0 : Int32)) (-1 : Int32)) (1 : Int32))) H := hP
  have hD : va_D A (wdC G Y (cs_dn (cs_sb (cs_lc u1 (0 : Int32)) (-1 : Int32)) (1 : Int32))) := hD
  exact hret _ _ _ _ () (cs_dn (cs_sb (cs_lc u1 (0 : Int32)) (-1 : Int32)) (1 : Int32)) (Option.some.inj hm) hP hD hS d_Memory_cutPower_59
theorem d_Memory_store_0 : decode b_Memory_store 0 = .ok (.aload_n 0, 1) := by decide +kernel
theorem d_Memory_store_1 : decode b_Memory_store 1 = .ok (.getfield 24, 3) := by decide +kernel
theorem d_Memory_store_4 : decode b_Memory_store 4 = .ok (.ifCond .ne 9, 3) := by decide +kernel
theorem d_Memory_store_7 : decode b_Memory_store 7 = .ok (.aload_n 0, 1) := by decide +kernel
theorem d_Memory_store_8 : decode b_Memory_store 8 = .ok (.invokevirtual 37, 3) := by decide +kernel
theorem d_Memory_store_11 : decode b_Memory_store 11 = .ok (.iconst 0, 1) := by decide +kernel
theorem d_Memory_store_12 : decode b_Memory_store 12 = .ok (.ireturn, 1) := by decide +kernel
theorem d_Memory_store_13 : decode b_Memory_store 13 = .ok (.aload_n 0, 1) := by decide +kernel
theorem d_Memory_store_14 : decode b_Memory_store 14 = .ok (.getfield 24, 3) := by decide +kernel
theorem d_Memory_store_17 : decode b_Memory_store 17 = .ok (.ifCond .le 13, 3) := by decide +kernel
theorem d_Memory_store_20 : decode b_Memory_store 20 = .ok (.aload_n 0, 1) := by decide +kernel
theorem d_Memory_store_21 : decode b_Memory_store 21 = .ok (.dup, 1) := by decide +kernel
theorem d_Memory_store_22 : decode b_Memory_store 22 = .ok (.getfield 24, 3) := by decide +kernel
theorem d_Memory_store_25 : decode b_Memory_store 25 = .ok (.iconst 1, 1) := by decide +kernel
theorem d_Memory_store_26 : decode b_Memory_store 26 = .ok (.isub, 1) := by decide +kernel
theorem d_Memory_store_27 : decode b_Memory_store 27 = .ok (.putfield 24, 3) := by decide +kernel
theorem d_Memory_store_30 : decode b_Memory_store 30 = .ok (.iload_n 1, 1) := by decide +kernel
theorem d_Memory_store_31 : decode b_Memory_store 31 = .ok (.ifCond .lt 61, 3) := by decide +kernel
theorem d_Memory_store_34 : decode b_Memory_store 34 = .ok (.iload_n 1, 1) := by decide +kernel
theorem d_Memory_store_35 : decode b_Memory_store 35 = .ok (.sipush 279, 3) := by decide +kernel
theorem d_Memory_store_38 : decode b_Memory_store 38 = .ok (.if_icmp .ge 54, 3) := by decide +kernel
theorem d_Memory_store_41 : decode b_Memory_store 41 = .ok (.aload_n 0, 1) := by decide +kernel
theorem d_Memory_store_42 : decode b_Memory_store 42 = .ok (.getfield 20, 3) := by decide +kernel
theorem d_Memory_store_45 : decode b_Memory_store 45 = .ok (.bipush 9, 2) := by decide +kernel
theorem d_Memory_store_47 : decode b_Memory_store 47 = .ok (.if_icmp .ge 45, 3) := by decide +kernel
theorem d_Memory_store_50 : decode b_Memory_store 50 = .ok (.aload_n 0, 1) := by decide +kernel
theorem d_Memory_store_51 : decode b_Memory_store 51 = .ok (.getfield 13, 3) := by decide +kernel
theorem d_Memory_store_54 : decode b_Memory_store 54 = .ok (.aload_n 0, 1) := by decide +kernel
theorem d_Memory_store_55 : decode b_Memory_store 55 = .ok (.getfield 20, 3) := by decide +kernel
theorem d_Memory_store_58 : decode b_Memory_store 58 = .ok (.iload_n 1, 1) := by decide +kernel
theorem d_Memory_store_59 : decode b_Memory_store 59 = .ok (.iastore, 1) := by decide +kernel
theorem d_Memory_store_60 : decode b_Memory_store 60 = .ok (.aload_n 0, 1) := by decide +kernel
theorem d_Memory_store_61 : decode b_Memory_store 61 = .ok (.getfield 17, 3) := by decide +kernel
theorem d_Memory_store_64 : decode b_Memory_store 64 = .ok (.aload_n 0, 1) := by decide +kernel
theorem d_Memory_store_65 : decode b_Memory_store 65 = .ok (.getfield 20, 3) := by decide +kernel
theorem d_Memory_store_68 : decode b_Memory_store 68 = .ok (.aload_n 0, 1) := by decide +kernel
theorem d_Memory_store_69 : decode b_Memory_store 69 = .ok (.getfield 9, 3) := by decide +kernel
theorem d_Memory_store_72 : decode b_Memory_store 72 = .ok (.iload_n 1, 1) := by decide +kernel
theorem d_Memory_store_73 : decode b_Memory_store 73 = .ok (.laload, 1) := by decide +kernel
theorem d_Memory_store_74 : decode b_Memory_store 74 = .ok (.lastore, 1) := by decide +kernel
theorem d_Memory_store_75 : decode b_Memory_store 75 = .ok (.aload_n 0, 1) := by decide +kernel
theorem d_Memory_store_76 : decode b_Memory_store 76 = .ok (.dup, 1) := by decide +kernel
theorem d_Memory_store_77 : decode b_Memory_store 77 = .ok (.getfield 20, 3) := by decide +kernel
theorem d_Memory_store_80 : decode b_Memory_store 80 = .ok (.iconst 1, 1) := by decide +kernel
theorem d_Memory_store_81 : decode b_Memory_store 81 = .ok (.iadd, 1) := by decide +kernel
theorem d_Memory_store_82 : decode b_Memory_store 82 = .ok (.putfield 20, 3) := by decide +kernel
theorem d_Memory_store_85 : decode b_Memory_store 85 = .ok (.aload_n 0, 1) := by decide +kernel
theorem d_Memory_store_86 : decode b_Memory_store 86 = .ok (.getfield 9, 3) := by decide +kernel
theorem d_Memory_store_89 : decode b_Memory_store 89 = .ok (.iload_n 1, 1) := by decide +kernel
theorem d_Memory_store_90 : decode b_Memory_store 90 = .ok (.lload_n 2, 1) := by decide +kernel
theorem d_Memory_store_91 : decode b_Memory_store 91 = .ok (.lastore, 1) := by decide +kernel
theorem d_Memory_store_92 : decode b_Memory_store 92 = .ok (.aload_n 0, 1) := by decide +kernel
theorem d_Memory_store_93 : decode b_Memory_store 93 = .ok (.dup, 1) := by decide +kernel
theorem d_Memory_store_94 : decode b_Memory_store 94 = .ok (.getfield 30, 3) := by decide +kernel
theorem d_Memory_store_97 : decode b_Memory_store 97 = .ok (.iconst 1, 1) := by decide +kernel
theorem d_Memory_store_98 : decode b_Memory_store 98 = .ok (.iadd, 1) := by decide +kernel
theorem d_Memory_store_99 : decode b_Memory_store 99 = .ok (.putfield 30, 3) := by decide +kernel
theorem d_Memory_store_102 : decode b_Memory_store 102 = .ok (.iconst 1, 1) := by decide +kernel
theorem d_Memory_store_103 : decode b_Memory_store 103 = .ok (.ireturn, 1) := by decide +kernel
set_option maxRecDepth 100000 in
set_option maxHeartbeats 4000000 in
theorem k_Memory_store (l : Launch) (D : va_G) (G : Nat → Nat) (Y : Nat → ClassId) {u : SM} {a1 : Int32} {a2 : Int64} {r : Int32} {u' : SM} (hm : m_Memory_store u a1 a2 = some (r, u')) : KZ l D clz (tyz Y) (wdC G Y) y_Memory_store b_Memory_store 4 (some .boolean) 1 21 [.ref (G 1), .int a1, .long a2] u r u' := by
  refine mkZ (by decide) (Nat.le_of_ble_eq_true rfl) ?_
  intro p e s m below meth c A Z ls C0 hP hD hS hl hret
  obtain ⟨hx, hb, hml, hown, hts, hK, hN, hA⟩ := id C0
  have hl : lv_has ls 4 [(0, .ref (G 1)), (1, .int a1), (2, .long a2)] := hl
  have J30 : ∀ (ua : SM) (x1 : Int32) (x2 : Int64), m_Memory_store_J30 ua x1 x2 = some (r, u') → ∀ (H : Heap) (locs : List Loc) (ls : Array Slot), va_P D clz (wdC G Y ua) H → va_D A (wdC G Y ua) → va_S A s.heap H locs → lv_has ls 4 [(0, .ref (G 1)), (1, .int x1), (2, .long x2)] → W p l e (zRm 1 21) s m ([.ref (G 1), .int a1, .long a2] : List Value).toArray below meth c H locs 0 0 Z (F0 m 30 ls []) := by
    intro ua x1 x2 hm H locs ls hP hD hS hl
    rw [m_Memory_store_J30] at hm
    refine lv_iload_n hx hb d_Memory_store_30 rfl (lv_at hl 1 rfl) ?_
    refine lv_if_lt (tgt := 92) hx hb d_Memory_store_31 (by decide) (fun hc => ?_) (fun hc => ?_)
    · rw [if_pos hc] at hm
      refine lv_aload_n hx hb d_Memory_store_92 rfl (lv_at hl 0 rfl) ?_
      refine lv_dup hx hb d_Memory_store_93 rfl ?_
      refine va_get (D := D) (ci := 1) (v := .int (cg_sc ua)) (C := "FirmStore$Memory") (T := F_Memory) (N := 8) hx hb hts iz_Memory hown hK hP 1 rfl rfl 6 (by decide) (hts _ q_34) (fun _ h9 => h9) rfl d_Memory_store_94 ?_
      refine lv_iconst (v := (1 : Int32)) hx hb d_Memory_store_97 (by decide) ?_
      refine lv_iadd hx hb d_Memory_store_98 ?_
      refine va_put (D := D) (ci := 1) (v := .int ((cg_sc ua) + (1 : Int32))) (ty := .int) (C := "FirmStore$Memory") (T := F_Memory) (N := 8) hx hb hts iz_Memory t_Memory t_Memory_ok n_Memory hown hK hP hD hS 1 rfl rfl 6 (by decide) (hts _ q_34) (fun _ h9 => h9) rfl (by decide +kernel) rfl rfl (Nat.le_of_ble_eq_true rfl) d_Memory_store_99 (fun H locs hP hD hS => ?_)
      have hP : va_P D clz (wdC G Y (cs_sc ua ((cg_sc ua) + (1 : Int32)))) H := hP
      have hD : va_D A (wdC G Y (cs_sc ua ((cg_sc ua) + (1 : Int32)))) := hD
      refine lv_iconst (v := (1 : Int32)) hx hb d_Memory_store_102 (by decide) ?_
      exact hret _ _ _ _ (1 : Int32) (cs_sc ua ((cg_sc ua) + (1 : Int32))) (Option.some.inj hm) (Or.inr rfl) hP hD hS d_Memory_store_103
    · rw [if_neg hc] at hm
      refine lv_iload_n hx hb d_Memory_store_34 rfl (lv_at hl 1 rfl) ?_
      refine lv_sipush (v := (279 : Int32)) hx hb d_Memory_store_35 (by decide) ?_
      refine lv_icmp_ge (tgt := 92) hx hb d_Memory_store_38 (by decide) (fun hc => ?_) (fun hc => ?_)
      · rw [if_pos hc] at hm
        refine lv_aload_n hx hb d_Memory_store_92 rfl (lv_at hl 0 rfl) ?_
        refine lv_dup hx hb d_Memory_store_93 rfl ?_
        refine va_get (D := D) (ci := 1) (v := .int (cg_sc ua)) (C := "FirmStore$Memory") (T := F_Memory) (N := 8) hx hb hts iz_Memory hown hK hP 1 rfl rfl 6 (by decide) (hts _ q_34) (fun _ h9 => h9) rfl d_Memory_store_94 ?_
        refine lv_iconst (v := (1 : Int32)) hx hb d_Memory_store_97 (by decide) ?_
        refine lv_iadd hx hb d_Memory_store_98 ?_
        refine va_put (D := D) (ci := 1) (v := .int ((cg_sc ua) + (1 : Int32))) (ty := .int) (C := "FirmStore$Memory") (T := F_Memory) (N := 8) hx hb hts iz_Memory t_Memory t_Memory_ok n_Memory hown hK hP hD hS 1 rfl rfl 6 (by decide) (hts _ q_34) (fun _ h9 => h9) rfl (by decide +kernel) rfl rfl (Nat.le_of_ble_eq_true rfl) d_Memory_store_99 (fun H locs hP hD hS => ?_)
        have hP : va_P D clz (wdC G Y (cs_sc ua ((cg_sc ua) + (1 : Int32)))) H := hP
        have hD : va_D A (wdC G Y (cs_sc ua ((cg_sc ua) + (1 : Int32)))) := hD
        refine lv_iconst (v := (1 : Int32)) hx hb d_Memory_store_102 (by decide) ?_
        exact hret _ _ _ _ (1 : Int32) (cs_sc ua ((cg_sc ua) + (1 : Int32))) (Option.some.inj hm) (Or.inr rfl) hP hD hS d_Memory_store_103
      · rw [if_neg hc] at hm
        refine lv_aload_n hx hb d_Memory_store_41 rfl (lv_at hl 0 rfl) ?_
        refine va_get (D := D) (ci := 1) (v := .int (cg_lc ua)) (C := "FirmStore$Memory") (T := F_Memory) (N := 8) hx hb hts iz_Memory hown hK hP 1 rfl rfl 3 (by decide) (hts _ q_31) (fun _ h9 => h9) rfl d_Memory_store_42 ?_
        refine lv_bipush (v := (9 : Int32)) hx hb d_Memory_store_45 (by decide) ?_
        refine lv_icmp_ge (tgt := 92) hx hb d_Memory_store_47 (by decide) (fun hc => ?_) (fun hc => ?_)
        · rw [if_pos hc] at hm
          refine lv_aload_n hx hb d_Memory_store_92 rfl (lv_at hl 0 rfl) ?_
          refine lv_dup hx hb d_Memory_store_93 rfl ?_
          refine va_get (D := D) (ci := 1) (v := .int (cg_sc ua)) (C := "FirmStore$Memory") (T := F_Memory) (N := 8) hx hb hts iz_Memory hown hK hP 1 rfl rfl 6 (by decide) (hts _ q_34) (fun _ h9 => h9) rfl d_Memory_store_94 ?_
          refine lv_iconst (v := (1 : Int32)) hx hb d_Memory_store_97 (by decide) ?_
          refine lv_iadd hx hb d_Memory_store_98 ?_
          refine va_put (D := D) (ci := 1) (v := .int ((cg_sc ua) + (1 : Int32))) (ty := .int) (C := "FirmStore$Memory") (T := F_Memory) (N := 8) hx hb hts iz_Memory t_Memory t_Memory_ok n_Memory hown hK hP hD hS 1 rfl rfl 6 (by decide) (hts _ q_34) (fun _ h9 => h9) rfl (by decide +kernel) rfl rfl (Nat.le_of_ble_eq_true rfl) d_Memory_store_99 (fun H locs hP hD hS => ?_)
          have hP : va_P D clz (wdC G Y (cs_sc ua ((cg_sc ua) + (1 : Int32)))) H := hP
          have hD : va_D A (wdC G Y (cs_sc ua ((cg_sc ua) + (1 : Int32)))) := hD
          refine lv_iconst (v := (1 : Int32)) hx hb d_Memory_store_102 (by decide) ?_
          exact hret _ _ _ _ (1 : Int32) (cs_sc ua ((cg_sc ua) + (1 : Int32))) (Option.some.inj hm) (Or.inr rfl) hP hD hS d_Memory_store_103
        · rw [if_neg hc] at hm
          refine lv_aload_n hx hb d_Memory_store_50 rfl (lv_at hl 0 rfl) ?_
          refine va_get (D := D) (ci := 1) (v := .ref (G 3)) (C := "FirmStore$Memory") (T := F_Memory) (N := 8) hx hb hts iz_Memory hown hK hP 1 rfl rfl 1 (by decide) (hts _ q_29) (fun _ h9 => h9) rfl d_Memory_store_51 ?_
          refine lv_aload_n hx hb d_Memory_store_54 rfl (lv_at hl 0 rfl) ?_
          refine va_get (D := D) (ci := 1) (v := .int (cg_lc ua)) (C := "FirmStore$Memory") (T := F_Memory) (N := 8) hx hb hts iz_Memory hown hK hP 1 rfl rfl 3 (by decide) (hts _ q_31) (fun _ h9 => h9) rfl d_Memory_store_55 ?_
          refine lv_iload_n hx hb d_Memory_store_58 rfl (lv_at hl 1 rfl) ?_
          obtain ⟨hg, hm⟩ := gd hm
          refine va_iast hx hb hK hP hD hS 3 1 (f := (cg_la ua)) rfl rfl (inb_in hg) d_Memory_store_59 (fun H locs hP hD hS => ?_)
          have hP : va_P D clz (wdC G Y (cs_la ua (upd (cg_la ua) (cg_lc ua).toNatClampNeg x1))) H := hP
          have hD : va_D A (wdC G Y (cs_la ua (upd (cg_la ua) (cg_lc ua).toNatClampNeg x1))) := hD
          refine lv_aload_n hx hb d_Memory_store_60 rfl (lv_at hl 0 rfl) ?_
          refine va_get (D := D) (ci := 1) (v := .ref (G 4)) (C := "FirmStore$Memory") (T := F_Memory) (N := 8) hx hb hts iz_Memory hown hK hP 1 rfl rfl 2 (by decide) (hts _ q_30) (fun _ h9 => h9) rfl d_Memory_store_61 ?_
          refine lv_aload_n hx hb d_Memory_store_64 rfl (lv_at hl 0 rfl) ?_
          refine va_get (D := D) (ci := 1) (v := .int (cg_lc ua)) (C := "FirmStore$Memory") (T := F_Memory) (N := 8) hx hb hts iz_Memory hown hK hP 1 rfl rfl 3 (by decide) (hts _ q_31) (fun _ h9 => h9) rfl d_Memory_store_65 ?_
          refine lv_aload_n hx hb d_Memory_store_68 rfl (lv_at hl 0 rfl) ?_
          refine va_get (D := D) (ci := 1) (v := .ref (G 2)) (C := "FirmStore$Memory") (T := F_Memory) (N := 8) hx hb hts iz_Memory hown hK hP 1 rfl rfl 0 (by decide) (hts _ q_28) (fun _ h9 => h9) rfl d_Memory_store_69 ?_
          refine lv_iload_n hx hb d_Memory_store_72 rfl (lv_at hl 1 rfl) ?_
          obtain ⟨hg, hm⟩ := gd hm
          refine va_lald hx hb hK hP 2 0 (f := (cg_w ua)) rfl rfl (inb_in hg) d_Memory_store_73 ?_
          obtain ⟨hg, hm⟩ := gd hm
          refine va_last hx hb hK hP hD hS 4 0 (f := (cg_fw ua)) rfl rfl (inb_in hg) d_Memory_store_74 (fun H locs hP hD hS => ?_)
          have hP : va_P D clz (wdC G Y (cs_fw (cs_la ua (upd (cg_la ua) (cg_lc ua).toNatClampNeg x1)) (vp_updL (cg_fw ua) (cg_lc ua).toNatClampNeg ((cg_w ua) x1.toNatClampNeg)))) H := hP
          have hD : va_D A (wdC G Y (cs_fw (cs_la ua (upd (cg_la ua) (cg_lc ua).toNatClampNeg x1)) (vp_updL (cg_fw ua) (cg_lc ua).toNatClampNeg ((cg_w ua) x1.toNatClampNeg)))) := hD
          refine lv_aload_n hx hb d_Memory_store_75 rfl (lv_at hl 0 rfl) ?_
          refine lv_dup hx hb d_Memory_store_76 rfl ?_
          refine va_get (D := D) (ci := 1) (v := .int (cg_lc ua)) (C := "FirmStore$Memory") (T := F_Memory) (N := 8) hx hb hts iz_Memory hown hK hP 1 rfl rfl 3 (by decide) (hts _ q_31) (fun _ h9 => h9) rfl d_Memory_store_77 ?_
          refine lv_iconst (v := (1 : Int32)) hx hb d_Memory_store_80 (by decide) ?_
          refine lv_iadd hx hb d_Memory_store_81 ?_
          refine va_put (D := D) (ci := 1) (v := .int ((cg_lc ua) + (1 : Int32))) (ty := .int) (C := "FirmStore$Memory") (T := F_Memory) (N := 8) hx hb hts iz_Memory t_Memory t_Memory_ok n_Memory hown hK hP hD hS 1 rfl rfl 3 (by decide) (hts _ q_31) (fun _ h9 => h9) rfl (by decide +kernel) rfl rfl (Nat.le_of_ble_eq_true rfl) d_Memory_store_82 (fun H locs hP hD hS => ?_)
          have hP : va_P D clz (wdC G Y (cs_lc (cs_fw (cs_la ua (upd (cg_la ua) (cg_lc ua).toNatClampNeg x1)) (vp_updL (cg_fw ua) (cg_lc ua).toNatClampNeg ((cg_w ua) x1.toNatClampNeg))) ((cg_lc ua) + (1 : Int32)))) H := hP
          have hD : va_D A (wdC G Y (cs_lc (cs_fw (cs_la ua (upd (cg_la ua) (cg_lc ua).toNatClampNeg x1)) (vp_updL (cg_fw ua) (cg_lc ua).toNatClampNeg ((cg_w ua) x1.toNatClampNeg))) ((cg_lc ua) + (1 : Int32)))) := hD
          refine lv_aload_n hx hb d_Memory_store_85 rfl (lv_at hl 0 rfl) ?_
          refine va_get (D := D) (ci := 1) (v := .ref (G 2)) (C := "FirmStore$Memory") (T := F_Memory) (N := 8) hx hb hts iz_Memory hown hK hP 1 rfl rfl 0 (by decide) (hts _ q_28) (fun _ h9 => h9) rfl d_Memory_store_86 ?_
          refine lv_iload_n hx hb d_Memory_store_89 rfl (lv_at hl 1 rfl) ?_
          refine lv_lload_n hx hb d_Memory_store_90 rfl (lv_at hl 2 rfl) ?_
          obtain ⟨hg, hm⟩ := gd hm
          refine va_last hx hb hK hP hD hS 2 0 (f := (cg_w ua)) rfl rfl (inb_in hg) d_Memory_store_91 (fun H locs hP hD hS => ?_)
          have hP : va_P D clz (wdC G Y (cs_w (cs_lc (cs_fw (cs_la ua (upd (cg_la ua) (cg_lc ua).toNatClampNeg x1)) (vp_updL (cg_fw ua) (cg_lc ua).toNatClampNeg ((cg_w ua) x1.toNatClampNeg))) ((cg_lc ua) + (1 : Int32))) (vp_updL (cg_w ua) x1.toNatClampNeg x2))) H := hP
          have hD : va_D A (wdC G Y (cs_w (cs_lc (cs_fw (cs_la ua (upd (cg_la ua) (cg_lc ua).toNatClampNeg x1)) (vp_updL (cg_fw ua) (cg_lc ua).toNatClampNeg ((cg_w ua) x1.toNatClampNeg))) ((cg_lc ua) + (1 : Int32))) (vp_updL (cg_w ua) x1.toNatClampNeg x2))) := hD
          refine lv_aload_n hx hb d_Memory_store_92 rfl (lv_at hl 0 rfl) ?_
          refine lv_dup hx hb d_Memory_store_93 rfl ?_
          refine va_get (D := D) (ci := 1) (v := .int (cg_sc ua)) (C := "FirmStore$Memory") (T := F_Memory) (N := 8) hx hb hts iz_Memory hown hK hP 1 rfl rfl 6 (by decide) (hts _ q_34) (fun _ h9 => h9) rfl d_Memory_store_94 ?_
          refine lv_iconst (v := (1 : Int32)) hx hb d_Memory_store_97 (by decide) ?_
          refine lv_iadd hx hb d_Memory_store_98 ?_
          refine va_put (D := D) (ci := 1) (v := .int ((cg_sc ua) + (1 : Int32))) (ty := .int) (C := "FirmStore$Memory") (T := F_Memory) (N := 8) hx hb hts iz_Memory t_Memory t_Memory_ok n_Memory hown hK hP hD hS 1 rfl rfl 6 (by decide) (hts _ q_34) (fun _ h9 => h9) rfl (by decide +kernel) rfl rfl (Nat.le_of_ble_eq_true rfl) d_Memory_store_99 (fun H locs hP hD hS => ?_)
          have hP : va_P D clz (wdC G Y (cs_sc (cs_w (cs_lc (cs_fw (cs_la ua (upd (cg_la ua) (cg_lc ua).toNatClampNeg x1)) (vp_updL (cg_fw ua) (cg_lc ua).toNatClampNeg ((cg_w ua) x1.toNatClampNeg))) ((cg_lc ua) + (1 : Int32))) (vp_updL (cg_w ua) x1.toNatClampNeg x2)) ((cg_sc ua) + (1 : Int32)))) H := hP
          have hD : va_D A (wdC G Y (cs_sc (cs_w (cs_lc (cs_fw (cs_la ua (upd (cg_la ua) (cg_lc ua).toNatClampNeg x1)) (vp_updL (cg_fw ua) (cg_lc ua).toNatClampNeg ((cg_w ua) x1.toNatClampNeg))) ((cg_lc ua) + (1 : Int32))) (vp_updL (cg_w ua) x1.toNatClampNeg x2)) ((cg_sc ua) + (1 : Int32)))) := hD
          refine lv_iconst (v := (1 : Int32)) hx hb d_Memory_store_102 (by decide) ?_
          exact hret _ _ _ _ (1 : Int32) (cs_sc (cs_w (cs_lc (cs_fw (cs_la ua (upd (cg_la ua) (cg_lc ua).toNatClampNeg x1)) (vp_updL (cg_fw ua) (cg_lc ua).toNatClampNeg ((cg_w ua) x1.toNatClampNeg))) ((cg_lc ua) + (1 : Int32))) (vp_updL (cg_w ua) x1.toNatClampNeg x2)) ((cg_sc ua) + (1 : Int32))) (Option.some.inj hm) (Or.inr rfl) hP hD hS d_Memory_store_103
  rw [m_Memory_store] at hm
  refine lv_aload_n hx hb d_Memory_store_0 rfl (lv_at hl 0 rfl) ?_
  refine va_get (D := D) (ci := 1) (v := .int (cg_sb u)) (C := "FirmStore$Memory") (T := F_Memory) (N := 8) hx hb hts iz_Memory hown hK hP 1 rfl rfl 4 (by decide) (hts _ q_32) (fun _ h9 => h9) rfl d_Memory_store_1 ?_
  refine lv_if_ne (tgt := 13) hx hb d_Memory_store_4 (by decide) (fun hc => ?_) (fun hc => ?_)
  · rw [if_neg hc] at hm
    refine lv_aload_n hx hb d_Memory_store_13 rfl (lv_at hl 0 rfl) ?_
    refine va_get (D := D) (ci := 1) (v := .int (cg_sb u)) (C := "FirmStore$Memory") (T := F_Memory) (N := 8) hx hb hts iz_Memory hown hK hP 1 rfl rfl 4 (by decide) (hts _ q_32) (fun _ h9 => h9) rfl d_Memory_store_14 ?_
    refine lv_if_le (tgt := 30) hx hb d_Memory_store_17 (by decide) (fun hc => ?_) (fun hc => ?_)
    · rw [if_pos hc] at hm
      exact J30 u a1 a2 hm _ _ _ hP hD hS (lv_sub hl [0, 1, 2] rfl)
    · rw [if_neg hc] at hm
      refine lv_aload_n hx hb d_Memory_store_20 rfl (lv_at hl 0 rfl) ?_
      refine lv_dup hx hb d_Memory_store_21 rfl ?_
      refine va_get (D := D) (ci := 1) (v := .int (cg_sb u)) (C := "FirmStore$Memory") (T := F_Memory) (N := 8) hx hb hts iz_Memory hown hK hP 1 rfl rfl 4 (by decide) (hts _ q_32) (fun _ h9 => h9) rfl d_Memory_store_22 ?_
      refine lv_iconst (v := (1 : Int32)) hx hb d_Memory_store_25 (by decide) ?_
      refine lv_isub hx hb d_Memory_store_26 ?_
      refine va_put (D := D) (ci := 1) (v := .int ((cg_sb u) - (1 : Int32))) (ty := .int) (C := "FirmStore$Memory") (T := F_Memory) (N := 8) hx hb hts iz_Memory t_Memory t_Memory_ok n_Memory hown hK hP hD hS 1 rfl rfl 4 (by decide) (hts _ q_32) (fun _ h9 => h9) rfl (by decide +kernel) rfl rfl (Nat.le_of_ble_eq_true rfl) d_Memory_store_27 (fun H locs hP hD hS => ?_)
      have hP : va_P D clz (wdC G Y (cs_sb u ((cg_sb u) - (1 : Int32)))) H := hP
      have hD : va_D A (wdC G Y (cs_sb u ((cg_sb u) - (1 : Int32)))) := hD
      exact J30 (cs_sb u ((cg_sb u) - (1 : Int32))) a1 a2 hm _ _ _ hP hD hS (lv_sub hl [0, 1, 2] rfl)
  · rw [if_pos hc] at hm
    refine lv_aload_n hx hb d_Memory_store_7 rfl (lv_at hl 0 rfl) ?_
    obtain ⟨r1, u2, h3, hm⟩ := ob_some hm
    refine goVV (As := []) (rest := []) (b0 := G 1) 1 C0 (k_Memory_cutPower l D G Y h3) q_354 q_2 q_351 q_353 qs_7 e_Memory_cutPower (by decide) rfl rfl hP hD hS hl.1 rfl (Nat.le_of_ble_eq_true rfl) d_Memory_store_8 (fun H locs hP hD hS => ?_)
    refine lv_iconst (v := (0 : Int32)) hx hb d_Memory_store_11 (by decide) ?_
    exact hret _ _ _ _ (0 : Int32) u2 (Option.some.inj hm) (Or.inl rfl) hP hD hS d_Memory_store_12
theorem d_Memory_fence_0 : decode b_Memory_fence 0 = .ok (.aload_n 0, 1) := by decide +kernel
theorem d_Memory_fence_1 : decode b_Memory_fence 1 = .ok (.iconst 0, 1) := by decide +kernel
theorem d_Memory_fence_2 : decode b_Memory_fence 2 = .ok (.putfield 20, 3) := by decide +kernel
theorem d_Memory_fence_5 : decode b_Memory_fence 5 = .ok (.return_, 1) := by decide +kernel
set_option maxRecDepth 100000 in
set_option maxHeartbeats 4000000 in
theorem k_Memory_fence (l : Launch) (D : va_G) (G : Nat → Nat) (Y : Nat → ClassId) {u : SM}  {u' : SM} (hm : m_Memory_fence u  = some ((), u')) : KV l D clz (tyz Y) (wdC G Y) y_Memory_fence b_Memory_fence 1 none 0 0 [.ref (G 1)] u u' := by
  refine mkV (by decide) (Nat.le_of_ble_eq_true rfl) ?_
  intro p e s m below meth c A Z ls C0 hP hD hS hl hret
  obtain ⟨hx, hb, hml, hown, hts, hK, hN, hA⟩ := id C0
  have hl : lv_has ls 1 [(0, .ref (G 1))] := hl
  rw [m_Memory_fence] at hm
  refine lv_aload_n hx hb d_Memory_fence_0 rfl (lv_at hl 0 rfl) ?_
  refine lv_iconst (v := (0 : Int32)) hx hb d_Memory_fence_1 (by decide) ?_
  refine va_put (D := D) (ci := 1) (v := .int (0 : Int32)) (ty := .int) (C := "FirmStore$Memory") (T := F_Memory) (N := 8) hx hb hts iz_Memory t_Memory t_Memory_ok n_Memory hown hK hP hD hS 1 rfl rfl 3 (by decide) (hts _ q_31) (fun _ h9 => h9) rfl (by decide +kernel) rfl rfl (Nat.le_of_ble_eq_true rfl) d_Memory_fence_2 (fun H locs hP hD hS => ?_)
  have hP : va_P D clz (wdC G Y (cs_lc u (0 : Int32))) H := hP
  have hD : va_D A (wdC G Y (cs_lc u (0 : Int32))) := hD
  exact hret _ _ _ _ () (cs_lc u (0 : Int32)) (Option.some.inj hm) hP hD hS d_Memory_fence_5
theorem d_Memory_firmStore_0 : decode b_Memory_firmStore 0 = .ok (.aload_n 0, 1) := by decide +kernel
theorem d_Memory_firmStore_1 : decode b_Memory_firmStore 1 = .ok (.iload_n 1, 1) := by decide +kernel
theorem d_Memory_firmStore_2 : decode b_Memory_firmStore 2 = .ok (.lload_n 2, 1) := by decide +kernel
theorem d_Memory_firmStore_3 : decode b_Memory_firmStore 3 = .ok (.invokevirtual 40, 3) := by decide +kernel
theorem d_Memory_firmStore_6 : decode b_Memory_firmStore 6 = .ok (.ifCond .ne 5, 3) := by decide +kernel
theorem d_Memory_firmStore_9 : decode b_Memory_firmStore 9 = .ok (.iconst 0, 1) := by decide +kernel
theorem d_Memory_firmStore_10 : decode b_Memory_firmStore 10 = .ok (.ireturn, 1) := by decide +kernel
theorem d_Memory_firmStore_11 : decode b_Memory_firmStore 11 = .ok (.aload_n 0, 1) := by decide +kernel
theorem d_Memory_firmStore_12 : decode b_Memory_firmStore 12 = .ok (.invokevirtual 44, 3) := by decide +kernel
theorem d_Memory_firmStore_15 : decode b_Memory_firmStore 15 = .ok (.iconst 1, 1) := by decide +kernel
theorem d_Memory_firmStore_16 : decode b_Memory_firmStore 16 = .ok (.ireturn, 1) := by decide +kernel
set_option maxRecDepth 100000 in
set_option maxHeartbeats 4000000 in
theorem k_Memory_firmStore (l : Launch) (D : va_G) (G : Nat → Nat) (Y : Nat → ClassId) {u : SM} {a1 : Int32} {a2 : Int64} {r : Int32} {u' : SM} (hm : m_Memory_firmStore u a1 a2 = some (r, u')) : KZ l D clz (tyz Y) (wdC G Y) y_Memory_firmStore b_Memory_firmStore 4 (some .boolean) 2 44 [.ref (G 1), .int a1, .long a2] u r u' := by
  refine mkZ (by decide) (Nat.le_of_ble_eq_true rfl) ?_
  intro p e s m below meth c A Z ls C0 hP hD hS hl hret
  obtain ⟨hx, hb, hml, hown, hts, hK, hN, hA⟩ := id C0
  have hl : lv_has ls 4 [(0, .ref (G 1)), (1, .int a1), (2, .long a2)] := hl
  rw [m_Memory_firmStore] at hm
  refine lv_aload_n hx hb d_Memory_firmStore_0 rfl (lv_at hl 0 rfl) ?_
  refine lv_iload_n hx hb d_Memory_firmStore_1 rfl (lv_at hl 1 rfl) ?_
  refine lv_lload_n hx hb d_Memory_firmStore_2 rfl (lv_at hl 2 rfl) ?_
  obtain ⟨r1, u2, h3, hm⟩ := ob_some hm
  refine goVZ (As := [.int a1, .long a2]) (rest := []) (b0 := G 1) 1 C0 (k_Memory_store l D G Y h3) q_350 q_2 q_363 q_348 q_349 e_Memory_store (by decide) rfl rfl hP hD hS hl.1 rfl (Nat.le_of_ble_eq_true rfl) d_Memory_firmStore_3 (fun H locs hz4 hP hD hS => ?_)
  refine lv_if_ne (tgt := 11) hx hb d_Memory_firmStore_6 (by decide) (fun hc => ?_) (fun hc => ?_)
  · rw [if_neg hc] at hm
    refine lv_aload_n hx hb d_Memory_firmStore_11 rfl (lv_at hl 0 rfl) ?_
    obtain ⟨r5, u6, h7, hm⟩ := ob_some hm
    refine goVV (As := []) (rest := []) (b0 := G 1) 1 C0 (k_Memory_fence l D G Y h7) q_358 q_2 q_364 q_356 q_357 e_Memory_fence (by decide) rfl rfl hP hD hS hl.1 rfl (Nat.le_of_ble_eq_true rfl) d_Memory_firmStore_12 (fun H locs hP hD hS => ?_)
    refine lv_iconst (v := (1 : Int32)) hx hb d_Memory_firmStore_15 (by decide) ?_
    exact hret _ _ _ _ (1 : Int32) u6 (Option.some.inj hm) (Or.inr rfl) hP hD hS d_Memory_firmStore_16
  · rw [if_pos hc] at hm
    refine lv_iconst (v := (0 : Int32)) hx hb d_Memory_firmStore_9 (by decide) ?_
    exact hret _ _ _ _ (0 : Int32) u2 (Option.some.inj hm) (Or.inl rfl) hP hD hS d_Memory_firmStore_10
