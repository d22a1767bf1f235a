/-! models and contracts of the throwing methods; written by wip/whole/gen2.py -/
abbrev b_Firm_put : ByteArray := prog_1_method_2_code
def y_Firm_put : MethodName := ⟨"FirmStore", "put", "(III)I"⟩
theorem e_Firm_put : y_Firm_put.cls ≠ "java/lang/invoke/MethodHandle" ∧ y_Firm_put.cls ≠ "java/lang/invoke/VarHandle" ∧ (parseMethodDescriptor y_Firm_put.desc).map (fun d => d.parameters.length) = some 3 := by decide +kernel
abbrev b_Firm_remove : ByteArray := prog_1_method_3_code
def y_Firm_remove : MethodName := ⟨"FirmStore", "remove", "(II)I"⟩
theorem e_Firm_remove : y_Firm_remove.cls ≠ "java/lang/invoke/MethodHandle" ∧ y_Firm_remove.cls ≠ "java/lang/invoke/VarHandle" ∧ (parseMethodDescriptor y_Firm_remove.desc).map (fun d => d.parameters.length) = some 2 := by decide +kernel
abbrev b_Firm_get : ByteArray := prog_1_method_4_code
def y_Firm_get : MethodName := ⟨"FirmStore", "get", "(II)I"⟩
theorem e_Firm_get : y_Firm_get.cls ≠ "java/lang/invoke/MethodHandle" ∧ y_Firm_get.cls ≠ "java/lang/invoke/VarHandle" ∧ (parseMethodDescriptor y_Firm_get.desc).map (fun d => d.parameters.length) = some 2 := by decide +kernel
abbrev b_Firm_from : ByteArray := prog_1_method_5_code
def y_Firm_from : MethodName := ⟨"FirmStore", "from", "(I)I"⟩
theorem e_Firm_from : y_Firm_from.cls ≠ "java/lang/invoke/MethodHandle" ∧ y_Firm_from.cls ≠ "java/lang/invoke/VarHandle" ∧ (parseMethodDescriptor y_Firm_from.desc).map (fun d => d.parameters.length) = some 1 := by decide +kernel
abbrev b_Firm_recover : ByteArray := prog_1_method_7_code
def y_Firm_recover : MethodName := ⟨"FirmStore", "recover", "()I"⟩
theorem e_Firm_recover : y_Firm_recover.cls ≠ "java/lang/invoke/MethodHandle" ∧ y_Firm_recover.cls ≠ "java/lang/invoke/VarHandle" ∧ (parseMethodDescriptor y_Firm_recover.desc).map (fun d => d.parameters.length) = some 0 := by decide +kernel
theorem q_249 : (Jvm.Cond.methodLink "FirmStore" (45 : Nat) ({ cls := "FirmStore", name := "isKey", desc := "(I)Z" } : Jvm.MethodName)) ∈ tbG := tbG_in (List.mem_of_getElem? (i := 309) (by decide +kernel)) rfl
theorem q_250 : (Jvm.Cond.static ({ cls := "FirmStore", name := "isKey", desc := "(I)Z" } : Jvm.MethodName)) ∈ tbG := tbG_in (List.mem_of_getElem? (i := 310) (by decide +kernel)) rfl
theorem q_251 : (Jvm.Cond.code ({ cls := "FirmStore", name := "isKey", desc := "(I)Z" } : Jvm.MethodName) prog_1_method_16_code (1 : Nat) (Option.some Jvm.ClassFile.FieldType.boolean)) ∈ tbG := tbG_in (List.mem_of_getElem? (i := 311) (by decide +kernel)) rfl
theorem q_330 : (Jvm.Cond.methodLink "FirmStore" (58 : Nat) ({ cls := "FirmStore$Tree", name := "enter", desc := "(II)I" } : Jvm.MethodName)) ∈ tbG := tbG_in (List.mem_of_getElem? (i := 390) (by decide +kernel)) rfl
theorem q_331 : (Jvm.Cond.instanceMethod ({ cls := "FirmStore$Tree", name := "enter", desc := "(II)I" } : Jvm.MethodName)) ∈ tbG := tbG_in (List.mem_of_getElem? (i := 391) (by decide +kernel)) rfl
theorem q_332 : (Jvm.Cond.selects "FirmStore$Tree" ({ cls := "FirmStore$Tree", name := "enter", desc := "(II)I" } : Jvm.MethodName) ({ cls := "FirmStore$Tree", name := "enter", desc := "(II)I" } : Jvm.MethodName)) ∈ tbG := tbG_in (List.mem_of_getElem? (i := 392) (by decide +kernel)) rfl
theorem q_333 : (Jvm.Cond.code ({ cls := "FirmStore$Tree", name := "enter", desc := "(II)I" } : Jvm.MethodName) prog_5_method_6_code (8 : Nat) (Option.some Jvm.ClassFile.FieldType.int)) ∈ tbG := tbG_in (List.mem_of_getElem? (i := 393) (by decide +kernel)) rfl
theorem q_417 : (Jvm.Cond.methodLink "FirmStore" (62 : Nat) ({ cls := "FirmStore$Table", name := "enter", desc := "(II)I" } : Jvm.MethodName)) ∈ tbG := tbG_in (List.mem_of_getElem? (i := 477) (by decide +kernel)) rfl
theorem q_418 : (Jvm.Cond.instanceMethod ({ cls := "FirmStore$Table", name := "enter", desc := "(II)I" } : Jvm.MethodName)) ∈ tbG := tbG_in (List.mem_of_getElem? (i := 478) (by decide +kernel)) rfl
theorem q_419 : (Jvm.Cond.selects "FirmStore$Table" ({ cls := "FirmStore$Table", name := "enter", desc := "(II)I" } : Jvm.MethodName) ({ cls := "FirmStore$Table", name := "enter", desc := "(II)I" } : Jvm.MethodName)) ∈ tbG := tbG_in (List.mem_of_getElem? (i := 479) (by decide +kernel)) rfl
theorem q_420 : (Jvm.Cond.code ({ cls := "FirmStore$Table", name := "enter", desc := "(II)I" } : Jvm.MethodName) prog_4_method_4_code (9 : Nat) (Option.some Jvm.ClassFile.FieldType.int)) ∈ tbG := tbG_in (List.mem_of_getElem? (i := 480) (by decide +kernel)) rfl
theorem q_447 : (Jvm.Cond.methodLink "FirmStore" (63 : Nat) ({ cls := "FirmStore", name := "addressOf", desc := "(II)I" } : Jvm.MethodName)) ∈ tbG := tbG_in (List.mem_of_getElem? (i := 507) (by decide +kernel)) rfl
theorem q_449 : (Jvm.Cond.instanceMethod ({ cls := "FirmStore", name := "addressOf", desc := "(II)I" } : Jvm.MethodName)) ∈ tbG := tbG_in (List.mem_of_getElem? (i := 509) (by decide +kernel)) rfl
theorem q_450 : (Jvm.Cond.code ({ cls := "FirmStore", name := "addressOf", desc := "(II)I" } : Jvm.MethodName) prog_1_method_14_code (3 : Nat) (Option.some Jvm.ClassFile.FieldType.int)) ∈ tbG := tbG_in (List.mem_of_getElem? (i := 510) (by decide +kernel)) rfl
theorem q_468 : (Jvm.Cond.methodLink "FirmStore" (69 : Nat) ({ cls := "FirmStore$Tree", name := "dropAt", desc := "(I)Z" } : Jvm.MethodName)) ∈ tbG := tbG_in (List.mem_of_getElem? (i := 528) (by decide +kernel)) rfl
theorem q_469 : (Jvm.Cond.instanceMethod ({ cls := "FirmStore$Tree", name := "dropAt", desc := "(I)Z" } : Jvm.MethodName)) ∈ tbG := tbG_in (List.mem_of_getElem? (i := 529) (by decide +kernel)) rfl
theorem q_470 : (Jvm.Cond.selects "FirmStore$Tree" ({ cls := "FirmStore$Tree", name := "dropAt", desc := "(I)Z" } : Jvm.MethodName) ({ cls := "FirmStore$Tree", name := "dropAt", desc := "(I)Z" } : Jvm.MethodName)) ∈ tbG := tbG_in (List.mem_of_getElem? (i := 530) (by decide +kernel)) rfl
theorem q_471 : (Jvm.Cond.code ({ cls := "FirmStore$Tree", name := "dropAt", desc := "(I)Z" } : Jvm.MethodName) prog_5_method_7_code (3 : Nat) (Option.some Jvm.ClassFile.FieldType.boolean)) ∈ tbG := tbG_in (List.mem_of_getElem? (i := 531) (by decide +kernel)) rfl
theorem q_476 : (Jvm.Cond.methodLink "FirmStore" (72 : Nat) ({ cls := "FirmStore$Memory", name := "firmStore", desc := "(IJ)Z" } : Jvm.MethodName)) ∈ tbG := tbG_in (List.mem_of_getElem? (i := 536) (by decide +kernel)) rfl
theorem q_484 : (Jvm.Cond.methodLink "FirmStore" (80 : Nat) ({ cls := "FirmStore", name := "valueOf", desc := "(J)I" } : Jvm.MethodName)) ∈ tbG := tbG_in (List.mem_of_getElem? (i := 544) (by decide +kernel)) rfl
theorem q_492 : (Jvm.Cond.methodLink "FirmStore" (84 : Nat) ({ cls := "FirmStore$Tree", name := "leastKeyFrom", desc := "(I)I" } : Jvm.MethodName)) ∈ tbG := tbG_in (List.mem_of_getElem? (i := 552) (by decide +kernel)) rfl
theorem q_493 : (Jvm.Cond.instanceMethod ({ cls := "FirmStore$Tree", name := "leastKeyFrom", desc := "(I)I" } : Jvm.MethodName)) ∈ tbG := tbG_in (List.mem_of_getElem? (i := 553) (by decide +kernel)) rfl
theorem q_494 : (Jvm.Cond.selects "FirmStore$Tree" ({ cls := "FirmStore$Tree", name := "leastKeyFrom", desc := "(I)I" } : Jvm.MethodName) ({ cls := "FirmStore$Tree", name := "leastKeyFrom", desc := "(I)I" } : Jvm.MethodName)) ∈ tbG := tbG_in (List.mem_of_getElem? (i := 554) (by decide +kernel)) rfl
theorem q_495 : (Jvm.Cond.code ({ cls := "FirmStore$Tree", name := "leastKeyFrom", desc := "(I)I" } : Jvm.MethodName) prog_5_method_4_code (5 : Nat) (Option.some Jvm.ClassFile.FieldType.int)) ∈ tbG := tbG_in (List.mem_of_getElem? (i := 555) (by decide +kernel)) rfl
theorem q_503 : (Jvm.Cond.methodLink "FirmStore" (96 : Nat) ({ cls := "FirmStore$Tree", name := "putRight", desc := "()Z" } : Jvm.MethodName)) ∈ tbG := tbG_in (List.mem_of_getElem? (i := 563) (by decide +kernel)) rfl
theorem q_504 : (Jvm.Cond.instanceMethod ({ cls := "FirmStore$Tree", name := "putRight", desc := "()Z" } : Jvm.MethodName)) ∈ tbG := tbG_in (List.mem_of_getElem? (i := 564) (by decide +kernel)) rfl
theorem q_505 : (Jvm.Cond.selects "FirmStore$Tree" ({ cls := "FirmStore$Tree", name := "putRight", desc := "()Z" } : Jvm.MethodName) ({ cls := "FirmStore$Tree", name := "putRight", desc := "()Z" } : Jvm.MethodName)) ∈ tbG := tbG_in (List.mem_of_getElem? (i := 565) (by decide +kernel)) rfl
theorem q_506 : (Jvm.Cond.code ({ cls := "FirmStore$Tree", name := "putRight", desc := "()Z" } : Jvm.MethodName) prog_5_method_8_code (5 : Nat) (Option.some Jvm.ClassFile.FieldType.boolean)) ∈ tbG := tbG_in (List.mem_of_getElem? (i := 566) (by decide +kernel)) rfl
theorem q_523 : (Jvm.Cond.methodLink "FirmStore" (100 : Nat) ({ cls := "FirmStore$Tree", name := "hangStrays", desc := "()Z" } : Jvm.MethodName)) ∈ tbG := tbG_in (List.mem_of_getElem? (i := 583) (by decide +kernel)) rfl
theorem q_524 : (Jvm.Cond.instanceMethod ({ cls := "FirmStore$Tree", name := "hangStrays", desc := "()Z" } : Jvm.MethodName)) ∈ tbG := tbG_in (List.mem_of_getElem? (i := 584) (by decide +kernel)) rfl
theorem q_525 : (Jvm.Cond.selects "FirmStore$Tree" ({ cls := "FirmStore$Tree", name := "hangStrays", desc := "()Z" } : Jvm.MethodName) ({ cls := "FirmStore$Tree", name := "hangStrays", desc := "()Z" } : Jvm.MethodName)) ∈ tbG := tbG_in (List.mem_of_getElem? (i := 585) (by decide +kernel)) rfl
theorem q_526 : (Jvm.Cond.code ({ cls := "FirmStore$Tree", name := "hangStrays", desc := "()Z" } : Jvm.MethodName) prog_5_method_9_code (4 : Nat) (Option.some Jvm.ClassFile.FieldType.boolean)) ∈ tbG := tbG_in (List.mem_of_getElem? (i := 586) (by decide +kernel)) rfl
theorem qs_18 : Jvm.Cond.selects "FirmStore" ({ cls := "FirmStore", name := "addressOf", desc := "(II)I" } : Jvm.MethodName) ({ cls := "FirmStore", name := "addressOf", desc := "(II)I" } : Jvm.MethodName) ∈ tbG := tbG_in (List.mem_of_getElem? (i := 18) (by decide +kernel)) rfl
def m_Firm_put (u : SM) (a1 : Int32) (a2 : Int32) (a3 : Int32) : Option ((Int32 ⊕ Nat) × SM) := ob (m_Firm_isPart u a1) (fun r1 u2 => if r1 = 0 then (some (.inr 0, u2)) else (ob (m_Firm_isKey u2 a2) (fun r5 u6 => if r5 = 0 then (some (.inr 0, u6)) else (if (cg_dn u6) = 0 then (if a1 = 0 then (ob (m_Tree_enter u6 a2 a3) (fun r13 u14 => some (.inl r13, u14))) else (ob (m_Table_enter u6 a2 a3) (fun r9 u10 => some (.inl r9, u10)))) else (some (.inr 1, u6))))))
def m_Firm_remove (u : SM) (a1 : Int32) (a2 : Int32) : Option ((Int32 ⊕ Nat) × SM) := ob (m_Firm_isPart u a1) (fun r1 u2 => if r1 = 0 then (some (.inr 0, u2)) else (ob (m_Firm_isKey u2 a2) (fun r5 u6 => if r5 = 0 then (some (.inr 0, u6)) else (if (cg_dn u6) = 0 then (ob (m_Firm_addressOf u6 a1 a2) (fun r9 u10 => if r9 = 0 then (some (.inr 2, u10)) else (if a1 = 0 then (ob (m_Tree_dropAt u10 r9) (fun r17 u18 => if r17 = 0 then (some (.inl (-2 : Int32), u18)) else (some (.inl (1 : Int32), u18)))) else (ob (m_Memory_firmStore u10 r9 (0 : Int64)) (fun r13 u14 => if r13 = 0 then (some (.inl (-2 : Int32), u14)) else (some (.inl (1 : Int32), u14))))))) else (some (.inr 1, u6))))))
def m_Firm_get (u : SM) (a1 : Int32) (a2 : Int32) : Option ((Int32 ⊕ Nat) × SM) := ob (m_Firm_isPart u a1) (fun r1 u2 => if r1 = 0 then (some (.inr 0, u2)) else (ob (m_Firm_isKey u2 a2) (fun r5 u6 => if r5 = 0 then (some (.inr 0, u6)) else (ob (m_Firm_addressOf u6 a1 a2) (fun r9 u10 => if r9 = 0 then (some (.inr 2, u10)) else (ob (m_Memory_wordAt u10 r9) (fun r13 u14 => ob (m_Firm_valueOf u14 r13) (fun r17 u18 => some (.inl r17, u18)))))))))
def m_Firm_from (u : SM) (a1 : Int32) : Option ((Int32 ⊕ Nat) × SM) := ob (m_Firm_isKey u a1) (fun r1 u2 => if r1 = 0 then (some (.inr 0, u2)) else (ob (m_Tree_leastKeyFrom u2 a1) (fun r5 u6 => if r5 = (1000 : Int32) then (some (.inr 2, u6)) else (some (.inl r5, u6)))))
def m_Firm_recover (u : SM)  : Option ((Int32 ⊕ Nat) × SM) := if (cg_dn u) = 0 then (some (.inr 1, u)) else (ob (m_Tree_putRight u) (fun r1 u2 => if r1 = 0 then (some (.inl (-2 : Int32), u2)) else (ob (m_Tree_hangStrays u2) (fun r5 u6 => if r5 = 0 then (some (.inl (-2 : Int32), u6)) else (some (.inl ((cg_sc u6) - (cg_sc u)), (cs_dn u6 (0 : Int32))))))))
theorem d_Firm_put_0 : decode b_Firm_put 0 = .ok (.iload_n 1, 1) := by decide +kernel
theorem d_Firm_put_1 : decode b_Firm_put 1 = .ok (.invokestatic 41, 3) := by decide +kernel
theorem d_Firm_put_4 : decode b_Firm_put 4 = .ok (.ifCond .eq 10, 3) := by decide +kernel
theorem d_Firm_put_7 : decode b_Firm_put 7 = .ok (.iload_n 2, 1) := by decide +kernel
theorem d_Firm_put_8 : decode b_Firm_put 8 = .ok (.invokestatic 45, 3) := by decide +kernel
theorem d_Firm_put_11 : decode b_Firm_put 11 = .ok (.ifCond .ne 11, 3) := by decide +kernel
theorem d_Firm_put_14 : decode b_Firm_put 14 = .ok (.new 48, 3) := by decide +kernel
theorem d_Firm_put_17 : decode b_Firm_put 17 = .ok (.dup, 1) := by decide +kernel
theorem d_Firm_put_18 : decode b_Firm_put 18 = .ok (.invokespecial 50, 3) := by decide +kernel
theorem d_Firm_put_21 : decode b_Firm_put 21 = .ok (.athrow, 1) := by decide +kernel
theorem d_Firm_put_22 : decode b_Firm_put 22 = .ok (.aload_n 0, 1) := by decide +kernel
theorem d_Firm_put_23 : decode b_Firm_put 23 = .ok (.getfield 10, 3) := by decide +kernel
theorem d_Firm_put_26 : decode b_Firm_put 26 = .ok (.getfield 51, 3) := by decide +kernel
theorem d_Firm_put_29 : decode b_Firm_put 29 = .ok (.ifCond .eq 11, 3) := by decide +kernel
theorem d_Firm_put_32 : decode b_Firm_put 32 = .ok (.new 55, 3) := by decide +kernel
theorem d_Firm_put_35 : decode b_Firm_put 35 = .ok (.dup, 1) := by decide +kernel
theorem d_Firm_put_36 : decode b_Firm_put 36 = .ok (.invokespecial 57, 3) := by decide +kernel
theorem d_Firm_put_39 : decode b_Firm_put 39 = .ok (.athrow, 1) := by decide +kernel
theorem d_Firm_put_40 : decode b_Firm_put 40 = .ok (.iload_n 1, 1) := by decide +kernel
theorem d_Firm_put_41 : decode b_Firm_put 41 = .ok (.ifCond .ne 15, 3) := by decide +kernel
theorem d_Firm_put_44 : decode b_Firm_put 44 = .ok (.aload_n 0, 1) := by decide +kernel
theorem d_Firm_put_45 : decode b_Firm_put 45 = .ok (.getfield 30, 3) := by decide +kernel
theorem d_Firm_put_48 : decode b_Firm_put 48 = .ok (.iload_n 2, 1) := by decide +kernel
theorem d_Firm_put_49 : decode b_Firm_put 49 = .ok (.iload_n 3, 1) := by decide +kernel
theorem d_Firm_put_50 : decode b_Firm_put 50 = .ok (.invokevirtual 58, 3) := by decide +kernel
theorem d_Firm_put_53 : decode b_Firm_put 53 = .ok (.goto 12, 3) := by decide +kernel
theorem d_Firm_put_56 : decode b_Firm_put 56 = .ok (.aload_n 0, 1) := by decide +kernel
theorem d_Firm_put_57 : decode b_Firm_put 57 = .ok (.getfield 37, 3) := by decide +kernel
theorem d_Firm_put_60 : decode b_Firm_put 60 = .ok (.iload_n 2, 1) := by decide +kernel
theorem d_Firm_put_61 : decode b_Firm_put 61 = .ok (.iload_n 3, 1) := by decide +kernel
theorem d_Firm_put_62 : decode b_Firm_put 62 = .ok (.invokevirtual 62, 3) := by decide +kernel
theorem d_Firm_put_65 : decode b_Firm_put 65 = .ok (.ireturn, 1) := by decide +kernel
set_option maxRecDepth 100000 in
set_option maxHeartbeats 4000000 in
theorem k_Firm_put (l : Launch) (hfl : l.flags = flags0) (D : va_G) (G : Nat → Nat) (Y : Nat → ClassId) {u : SM} {a1 : Int32} {a2 : Int32} {a3 : Int32} {r : (Int32 ⊕ Nat)} {u' : SM} (hm : m_Firm_put u a1 a2 a3 = some (r, u')) : KO l D clz (tyz Y) (wdC G Y) y_Firm_put b_Firm_put 4 47 1181 [.ref (G 0), .int a1, .int a2, .int a3] u r u' := by
  refine mkO hfl (by decide) rfl (Nat.le_of_ble_eq_true rfl) (by decide) (by decide) ?_
  intro p e s m below meth c A Z ls C0 hP hD hS hl hret hthr
  obtain ⟨hx, hb, hml, hown, hts, hK, hN, hA⟩ := id C0
  have hl : lv_has ls 4 [(0, .ref (G 0)), (1, .int a1), (2, .int a2), (3, .int a3)] := hl
  rw [m_Firm_put] at hm
  refine lv_iload_n hx hb d_Firm_put_0 rfl (lv_at hl 1 rfl) ?_
  obtain ⟨r1, u2, h3, hm⟩ := ob_some hm
  refine goSZ (As := [.int a1]) (rest := []) C0 (k_Firm_isPart l D G Y h3) q_120 q_1 q_118 q_119 e_Firm_isPart (by decide) hP hD hS hl.1 rfl (Nat.le_of_ble_eq_true rfl) d_Firm_put_1 (fun H locs hz4 hP hD hS => ?_)
  refine lv_if_eq (tgt := 14) hx hb d_Firm_put_4 (by decide) (fun hc => ?_) (fun hc => ?_)
  · rw [if_pos hc] at hm
    exact hthr _ _ _ _ 0 u2 (Option.some.inj hm) (by decide) hP hD hS hl.1 d_Firm_put_14 d_Firm_put_17 d_Firm_put_18 d_Firm_put_21
  · rw [if_neg hc] at hm
    refine lv_iload_n hx hb d_Firm_put_7 rfl (lv_at hl 2 rfl) ?_
    obtain ⟨r5, u6, h7, hm⟩ := ob_some hm
    refine goSZ (As := [.int a2]) (rest := []) C0 (k_Firm_isKey l D G Y h7) q_251 q_1 q_249 q_250 e_Firm_isKey (by decide) hP hD hS hl.1 rfl (Nat.le_of_ble_eq_true rfl) d_Firm_put_8 (fun H locs hz8 hP hD hS => ?_)
    refine lv_if_ne (tgt := 22) hx hb d_Firm_put_11 (by decide) (fun hc => ?_) (fun hc => ?_)
    · rw [if_neg hc] at hm
      refine lv_aload_n hx hb d_Firm_put_22 rfl (lv_at hl 0 rfl) ?_
      refine va_get (D := D) (ci := 0) (v := .ref (G 1)) (C := "FirmStore") (T := F_Firm) (N := 4) hx hb hts iz_Firm hown hK hP 0 rfl rfl 0 (by decide) (hts _ q_93) (fun _ h9 => h9) rfl d_Firm_put_23 ?_
      refine va_get (D := D) (ci := 1) (v := .int (cg_dn u6)) (C := "FirmStore$Memory") (T := F_Memory) (N := 8) hx hb hts iz_Memory hown hK hP 1 rfl rfl 7 (by decide) (hts _ q_37) (fun _ h9 => h9) rfl d_Firm_put_26 ?_
      refine lv_if_eq (tgt := 40) hx hb d_Firm_put_29 (by decide) (fun hc => ?_) (fun hc => ?_)
      · rw [if_pos hc] at hm
        refine lv_iload_n hx hb d_Firm_put_40 rfl (lv_at hl 1 rfl) ?_
        refine lv_if_ne (tgt := 56) hx hb d_Firm_put_41 (by decide) (fun hc => ?_) (fun hc => ?_)
        · rw [if_neg hc] at hm
          refine lv_aload_n hx hb d_Firm_put_56 rfl (lv_at hl 0 rfl) ?_
          refine va_get (D := D) (ci := 0) (v := .ref (G 7)) (C := "FirmStore") (T := F_Firm) (N := 4) hx hb hts iz_Firm hown hK hP 0 rfl rfl 3 (by decide) (hts _ q_96) (fun _ h9 => h9) rfl d_Firm_put_57 ?_
          refine lv_iload_n hx hb d_Firm_put_60 rfl (lv_at hl 2 rfl) ?_
          refine lv_iload_n hx hb d_Firm_put_61 rfl (lv_at hl 3 rfl) ?_
          obtain ⟨r9, u10, h11, hm⟩ := ob_some hm
          refine goVI (As := [.int a2, .int a3]) (rest := []) (b0 := G 7) 7 C0 (k_Table_enter l D G Y h11) q_420 q_5 q_417 q_418 q_419 e_Table_enter (by decide) rfl rfl hP hD hS hl.1 rfl (Nat.le_of_ble_eq_true rfl) d_Firm_put_62 (fun H locs hP hD hS => ?_)
          exact hret _ _ _ _ r9 u10 (Option.some.inj hm) hP hD hS d_Firm_put_65
        · rw [if_pos hc] at hm
          refine lv_aload_n hx hb d_Firm_put_44 rfl (lv_at hl 0 rfl) ?_
          refine va_get (D := D) (ci := 0) (v := .ref (G 6)) (C := "FirmStore") (T := F_Firm) (N := 4) hx hb hts iz_Firm hown hK hP 0 rfl rfl 2 (by decide) (hts _ q_95) (fun _ h9 => h9) rfl d_Firm_put_45 ?_
          refine lv_iload_n hx hb d_Firm_put_48 rfl (lv_at hl 2 rfl) ?_
          refine lv_iload_n hx hb d_Firm_put_49 rfl (lv_at hl 3 rfl) ?_
          obtain ⟨r13, u14, h15, hm⟩ := ob_some hm
          refine goVI (As := [.int a2, .int a3]) (rest := []) (b0 := G 6) 6 C0 (k_Tree_enter l D G Y h15) q_333 q_4 q_330 q_331 q_332 e_Tree_enter (by decide) rfl rfl hP hD hS hl.1 rfl (Nat.le_of_ble_eq_true rfl) d_Firm_put_50 (fun H locs hP hD hS => ?_)
          refine lv_goto (tgt := 65) hx hb d_Firm_put_53 (by decide) ?_
          exact hret _ _ _ _ r13 u14 (Option.some.inj hm) hP hD hS d_Firm_put_65
      · rw [if_neg hc] at hm
        exact hthr _ _ _ _ 1 u6 (Option.some.inj hm) (by decide) hP hD hS hl.1 d_Firm_put_32 d_Firm_put_35 d_Firm_put_36 d_Firm_put_39
    · rw [if_pos hc] at hm
      exact hthr _ _ _ _ 0 u6 (Option.some.inj hm) (by decide) hP hD hS hl.1 d_Firm_put_14 d_Firm_put_17 d_Firm_put_18 d_Firm_put_21
theorem d_Firm_remove_0 : decode b_Firm_remove 0 = .ok (.iload_n 1, 1) := by decide +kernel
theorem d_Firm_remove_1 : decode b_Firm_remove 1 = .ok (.invokestatic 41, 3) := by decide +kernel
theorem d_Firm_remove_4 : decode b_Firm_remove 4 = .ok (.ifCond .eq 10, 3) := by decide +kernel
theorem d_Firm_remove_7 : decode b_Firm_remove 7 = .ok (.iload_n 2, 1) := by decide +kernel
theorem d_Firm_remove_8 : decode b_Firm_remove 8 = .ok (.invokestatic 45, 3) := by decide +kernel
theorem d_Firm_remove_11 : decode b_Firm_remove 11 = .ok (.ifCond .ne 11, 3) := by decide +kernel
theorem d_Firm_remove_14 : decode b_Firm_remove 14 = .ok (.new 48, 3) := by decide +kernel
theorem d_Firm_remove_17 : decode b_Firm_remove 17 = .ok (.dup, 1) := by decide +kernel
theorem d_Firm_remove_18 : decode b_Firm_remove 18 = .ok (.invokespecial 50, 3) := by decide +kernel
theorem d_Firm_remove_21 : decode b_Firm_remove 21 = .ok (.athrow, 1) := by decide +kernel
theorem d_Firm_remove_22 : decode b_Firm_remove 22 = .ok (.aload_n 0, 1) := by decide +kernel
theorem d_Firm_remove_23 : decode b_Firm_remove 23 = .ok (.getfield 10, 3) := by decide +kernel
theorem d_Firm_remove_26 : decode b_Firm_remove 26 = .ok (.getfield 51, 3) := by decide +kernel
theorem d_Firm_remove_29 : decode b_Firm_remove 29 = .ok (.ifCond .eq 11, 3) := by decide +kernel
theorem d_Firm_remove_32 : decode b_Firm_remove 32 = .ok (.new 55, 3) := by decide +kernel
theorem d_Firm_remove_35 : decode b_Firm_remove 35 = .ok (.dup, 1) := by decide +kernel
theorem d_Firm_remove_36 : decode b_Firm_remove 36 = .ok (.invokespecial 57, 3) := by decide +kernel
theorem d_Firm_remove_39 : decode b_Firm_remove 39 = .ok (.athrow, 1) := by decide +kernel
theorem d_Firm_remove_40 : decode b_Firm_remove 40 = .ok (.aload_n 0, 1) := by decide +kernel
theorem d_Firm_remove_41 : decode b_Firm_remove 41 = .ok (.iload_n 1, 1) := by decide +kernel
theorem d_Firm_remove_42 : decode b_Firm_remove 42 = .ok (.iload_n 2, 1) := by decide +kernel
theorem d_Firm_remove_43 : decode b_Firm_remove 43 = .ok (.invokevirtual 63, 3) := by decide +kernel
theorem d_Firm_remove_46 : decode b_Firm_remove 46 = .ok (.istore_n 3, 1) := by decide +kernel
theorem d_Firm_remove_47 : decode b_Firm_remove 47 = .ok (.iload_n 3, 1) := by decide +kernel
theorem d_Firm_remove_48 : decode b_Firm_remove 48 = .ok (.ifCond .ne 11, 3) := by decide +kernel
theorem d_Firm_remove_51 : decode b_Firm_remove 51 = .ok (.new 66, 3) := by decide +kernel
theorem d_Firm_remove_54 : decode b_Firm_remove 54 = .ok (.dup, 1) := by decide +kernel
theorem d_Firm_remove_55 : decode b_Firm_remove 55 = .ok (.invokespecial 68, 3) := by decide +kernel
theorem d_Firm_remove_58 : decode b_Firm_remove 58 = .ok (.athrow, 1) := by decide +kernel
theorem d_Firm_remove_59 : decode b_Firm_remove 59 = .ok (.iload_n 1, 1) := by decide +kernel
theorem d_Firm_remove_60 : decode b_Firm_remove 60 = .ok (.ifCond .ne 14, 3) := by decide +kernel
theorem d_Firm_remove_63 : decode b_Firm_remove 63 = .ok (.aload_n 0, 1) := by decide +kernel
theorem d_Firm_remove_64 : decode b_Firm_remove 64 = .ok (.getfield 30, 3) := by decide +kernel
theorem d_Firm_remove_67 : decode b_Firm_remove 67 = .ok (.iload_n 3, 1) := by decide +kernel
theorem d_Firm_remove_68 : decode b_Firm_remove 68 = .ok (.invokevirtual 69, 3) := by decide +kernel
theorem d_Firm_remove_71 : decode b_Firm_remove 71 = .ok (.goto 12, 3) := by decide +kernel
theorem d_Firm_remove_74 : decode b_Firm_remove 74 = .ok (.aload_n 0, 1) := by decide +kernel
theorem d_Firm_remove_75 : decode b_Firm_remove 75 = .ok (.getfield 10, 3) := by decide +kernel
theorem d_Firm_remove_78 : decode b_Firm_remove 78 = .ok (.iload_n 3, 1) := by decide +kernel
theorem d_Firm_remove_79 : decode b_Firm_remove 79 = .ok (.lconst 0, 1) := by decide +kernel
theorem d_Firm_remove_80 : decode b_Firm_remove 80 = .ok (.invokevirtual 72, 3) := by decide +kernel
theorem d_Firm_remove_83 : decode b_Firm_remove 83 = .ok (.istore 4, 2) := by decide +kernel
theorem d_Firm_remove_85 : decode b_Firm_remove 85 = .ok (.iload 4, 2) := by decide +kernel
theorem d_Firm_remove_87 : decode b_Firm_remove 87 = .ok (.ifCond .eq 7, 3) := by decide +kernel
theorem d_Firm_remove_90 : decode b_Firm_remove 90 = .ok (.iconst 1, 1) := by decide +kernel
theorem d_Firm_remove_91 : decode b_Firm_remove 91 = .ok (.goto 5, 3) := by decide +kernel
theorem d_Firm_remove_94 : decode b_Firm_remove 94 = .ok (.bipush (-2), 2) := by decide +kernel
theorem d_Firm_remove_96 : decode b_Firm_remove 96 = .ok (.ireturn, 1) := by decide +kernel
set_option maxRecDepth 100000 in
set_option maxHeartbeats 4000000 in
theorem k_Firm_remove (l : Launch) (hfl : l.flags = flags0) (D : va_G) (G : Nat → Nat) (Y : Nat → ClassId) {u : SM} {a1 : Int32} {a2 : Int32} {r : (Int32 ⊕ Nat)} {u' : SM} (hm : m_Firm_remove u a1 a2 = some (r, u')) : KO l D clz (tyz Y) (wdC G Y) y_Firm_remove b_Firm_remove 5 7 160 [.ref (G 0), .int a1, .int a2] u r u' := by
  refine mkO hfl (by decide) rfl (Nat.le_of_ble_eq_true rfl) (by decide) (by decide) ?_
  intro p e s m below meth c A Z ls C0 hP hD hS hl hret hthr
  obtain ⟨hx, hb, hml, hown, hts, hK, hN, hA⟩ := id C0
  have hl : lv_has ls 5 [(0, .ref (G 0)), (1, .int a1), (2, .int a2)] := hl
  rw [m_Firm_remove] at hm
  refine lv_iload_n hx hb d_Firm_remove_0 rfl (lv_at hl 1 rfl) ?_
  obtain ⟨r1, u2, h3, hm⟩ := ob_some hm
  refine goSZ (As := [.int a1]) (rest := []) C0 (k_Firm_isPart l D G Y h3) q_120 q_1 q_118 q_119 e_Firm_isPart (by decide) hP hD hS hl.1 rfl (Nat.le_of_ble_eq_true rfl) d_Firm_remove_1 (fun H locs hz4 hP hD hS => ?_)
  refine lv_if_eq (tgt := 14) hx hb d_Firm_remove_4 (by decide) (fun hc => ?_) (fun hc => ?_)
  · rw [if_pos hc] at hm
    exact hthr _ _ _ _ 0 u2 (Option.some.inj hm) (by decide) hP hD hS hl.1 d_Firm_remove_14 d_Firm_remove_17 d_Firm_remove_18 d_Firm_remove_21
  · rw [if_neg hc] at hm
    refine lv_iload_n hx hb d_Firm_remove_7 rfl (lv_at hl 2 rfl) ?_
    obtain ⟨r5, u6, h7, hm⟩ := ob_some hm
    refine goSZ (As := [.int a2]) (rest := []) C0 (k_Firm_isKey l D G Y h7) q_251 q_1 q_249 q_250 e_Firm_isKey (by decide) hP hD hS hl.1 rfl (Nat.le_of_ble_eq_true rfl) d_Firm_remove_8 (fun H locs hz8 hP hD hS => ?_)
    refine lv_if_ne (tgt := 22) hx hb d_Firm_remove_11 (by decide) (fun hc => ?_) (fun hc => ?_)
    · rw [if_neg hc] at hm
      refine lv_aload_n hx hb d_Firm_remove_22 rfl (lv_at hl 0 rfl) ?_
      refine va_get (D := D) (ci := 0) (v := .ref (G 1)) (C := "FirmStore") (T := F_Firm) (N := 4) hx hb hts iz_Firm hown hK hP 0 rfl rfl 0 (by decide) (hts _ q_93) (fun _ h9 => h9) rfl d_Firm_remove_23 ?_
      refine va_get (D := D) (ci := 1) (v := .int (cg_dn u6)) (C := "FirmStore$Memory") (T := F_Memory) (N := 8) hx hb hts iz_Memory hown hK hP 1 rfl rfl 7 (by decide) (hts _ q_37) (fun _ h9 => h9) rfl d_Firm_remove_26 ?_
      refine lv_if_eq (tgt := 40) hx hb d_Firm_remove_29 (by decide) (fun hc => ?_) (fun hc => ?_)
      · rw [if_pos hc] at hm
        refine lv_aload_n hx hb d_Firm_remove_40 rfl (lv_at hl 0 rfl) ?_
        refine lv_iload_n hx hb d_Firm_remove_41 rfl (lv_at hl 1 rfl) ?_
        refine lv_iload_n hx hb d_Firm_remove_42 rfl (lv_at hl 2 rfl) ?_
        obtain ⟨r9, u10, h11, hm⟩ := ob_some hm
        refine goVI (As := [.int a1, .int a2]) (rest := []) (b0 := G 0) 0 C0 (k_Firm_addressOf l D G Y h11) q_450 q_1 q_447 q_449 qs_18 e_Firm_addressOf (by decide) rfl rfl hP hD hS hl.1 rfl (Nat.le_of_ble_eq_true rfl) d_Firm_remove_43 (fun H locs hP hD hS => ?_)
        refine lv_istore_n (lv' := [(3, .int r9), (0, .ref (G 0)), (1, .int a1), (2, .int a2)]) hx hb d_Firm_remove_46 rfl hl (by decide) rfl (fun ls hl => ?_)
        refine lv_iload_n hx hb d_Firm_remove_47 rfl (lv_at hl 0 rfl) ?_
        refine lv_if_ne (tgt := 59) hx hb d_Firm_remove_48 (by decide) (fun hc => ?_) (fun hc => ?_)
        · rw [if_neg hc] at hm
          refine lv_iload_n hx hb d_Firm_remove_59 rfl (lv_at hl 2 rfl) ?_
          refine lv_if_ne (tgt := 74) hx hb d_Firm_remove_60 (by decide) (fun hc => ?_) (fun hc => ?_)
          · rw [if_neg hc] at hm
            refine lv_aload_n hx hb d_Firm_remove_74 rfl (lv_at hl 1 rfl) ?_
            refine va_get (D := D) (ci := 0) (v := .ref (G 1)) (C := "FirmStore") (T := F_Firm) (N := 4) hx hb hts iz_Firm hown hK hP 0 rfl rfl 0 (by decide) (hts _ q_93) (fun _ h9 => h9) rfl d_Firm_remove_75 ?_
            refine lv_iload_n hx hb d_Firm_remove_78 rfl (lv_at hl 0 rfl) ?_
            refine lv_lconst (v := (0 : Int64)) hx hb d_Firm_remove_79 (by decide) ?_
            obtain ⟨r13, u14, h15, hm⟩ := ob_some hm
            refine goVZ (As := [.int r9, .long (0 : Int64)]) (rest := []) (b0 := G 1) 1 C0 (k_Memory_firmStore l D G Y h15) q_362 q_2 q_476 q_360 q_361 e_Memory_firmStore (by decide) rfl rfl hP hD hS hl.1 rfl (Nat.le_of_ble_eq_true rfl) d_Firm_remove_80 (fun H locs hz16 hP hD hS => ?_)
            refine lv_istore (lv' := [(4, .int r13), (3, .int r9), (0, .ref (G 0)), (1, .int a1), (2, .int a2)]) hx hb d_Firm_remove_83 hl (by decide) rfl (fun ls hl => ?_)
            refine lv_iload hx hb d_Firm_remove_85 (lv_at hl 0 rfl) ?_
            refine lv_if_eq (tgt := 94) hx hb d_Firm_remove_87 (by decide) (fun hc => ?_) (fun hc => ?_)
            · rw [if_pos hc] at hm
              refine lv_bipush (v := (-2 : Int32)) hx hb d_Firm_remove_94 (by decide) ?_
              exact hret _ _ _ _ (-2 : Int32) u14 (Option.some.inj hm) hP hD hS d_Firm_remove_96
            · rw [if_neg hc] at hm
              refine lv_iconst (v := (1 : Int32)) hx hb d_Firm_remove_90 (by decide) ?_
              refine lv_goto (tgt := 96) hx hb d_Firm_remove_91 (by decide) ?_
              exact hret _ _ _ _ (1 : Int32) u14 (Option.some.inj hm) hP hD hS d_Firm_remove_96
          · rw [if_pos hc] at hm
            refine lv_aload_n hx hb d_Firm_remove_63 rfl (lv_at hl 1 rfl) ?_
            refine va_get (D := D) (ci := 0) (v := .ref (G 6)) (C := "FirmStore") (T := F_Firm) (N := 4) hx hb hts iz_Firm hown hK hP 0 rfl rfl 2 (by decide) (hts _ q_95) (fun _ h9 => h9) rfl d_Firm_remove_64 ?_
            refine lv_iload_n hx hb d_Firm_remove_67 rfl (lv_at hl 0 rfl) ?_
            obtain ⟨r17, u18, h19, hm⟩ := ob_some hm
            refine goVZ (As := [.int r9]) (rest := []) (b0 := G 6) 6 C0 (k_Tree_dropAt l D G Y h19) q_471 q_4 q_468 q_469 q_470 e_Tree_dropAt (by decide) rfl rfl hP hD hS hl.1 rfl (Nat.le_of_ble_eq_true rfl) d_Firm_remove_68 (fun H locs hz20 hP hD hS => ?_)
            refine lv_goto (tgt := 83) hx hb d_Firm_remove_71 (by decide) ?_
            refine lv_istore (lv' := [(4, .int r17), (3, .int r9), (0, .ref (G 0)), (1, .int a1), (2, .int a2)]) hx hb d_Firm_remove_83 hl (by decide) rfl (fun ls hl => ?_)
            refine lv_iload hx hb d_Firm_remove_85 (lv_at hl 0 rfl) ?_
            refine lv_if_eq (tgt := 94) hx hb d_Firm_remove_87 (by decide) (fun hc => ?_) (fun hc => ?_)
            · rw [if_pos hc] at hm
              refine lv_bipush (v := (-2 : Int32)) hx hb d_Firm_remove_94 (by decide) ?_
              exact hret _ _ _ _ (-2 : Int32) u18 (Option.some.inj hm) hP hD hS d_Firm_remove_96
            · rw [if_neg hc] at hm
              refine lv_iconst (v := (1 : Int32)) hx hb d_Firm_remove_90 (by decide) ?_
              refine lv_goto (tgt := 96) hx hb d_Firm_remove_91 (by decide) ?_
              exact hret _ _ _ _ (1 : Int32) u18 (Option.some.inj hm) hP hD hS d_Firm_remove_96
        · rw [if_pos hc] at hm
          exact hthr _ _ _ _ 2 u10 (Option.some.inj hm) (by decide) hP hD hS hl.1 d_Firm_remove_51 d_Firm_remove_54 d_Firm_remove_55 d_Firm_remove_58
      · rw [if_neg hc] at hm
        exact hthr _ _ _ _ 1 u6 (Option.some.inj hm) (by decide) hP hD hS hl.1 d_Firm_remove_32 d_Firm_remove_35 d_Firm_remove_36 d_Firm_remove_39
    · rw [if_pos hc] at hm
      exact hthr _ _ _ _ 0 u6 (Option.some.inj hm) (by decide) hP hD hS hl.1 d_Firm_remove_14 d_Firm_remove_17 d_Firm_remove_18 d_Firm_remove_21
theorem d_Firm_get_0 : decode b_Firm_get 0 = .ok (.iload_n 1, 1) := by decide +kernel
theorem d_Firm_get_1 : decode b_Firm_get 1 = .ok (.invokestatic 41, 3) := by decide +kernel
theorem d_Firm_get_4 : decode b_Firm_get 4 = .ok (.ifCond .eq 10, 3) := by decide +kernel
theorem d_Firm_get_7 : decode b_Firm_get 7 = .ok (.iload_n 2, 1) := by decide +kernel
theorem d_Firm_get_8 : decode b_Firm_get 8 = .ok (.invokestatic 45, 3) := by decide +kernel
theorem d_Firm_get_11 : decode b_Firm_get 11 = .ok (.ifCond .ne 11, 3) := by decide +kernel
theorem d_Firm_get_14 : decode b_Firm_get 14 = .ok (.new 48, 3) := by decide +kernel
theorem d_Firm_get_17 : decode b_Firm_get 17 = .ok (.dup, 1) := by decide +kernel
theorem d_Firm_get_18 : decode b_Firm_get 18 = .ok (.invokespecial 50, 3) := by decide +kernel
theorem d_Firm_get_21 : decode b_Firm_get 21 = .ok (.athrow, 1) := by decide +kernel
theorem d_Firm_get_22 : decode b_Firm_get 22 = .ok (.aload_n 0, 1) := by decide +kernel
theorem d_Firm_get_23 : decode b_Firm_get 23 = .ok (.iload_n 1, 1) := by decide +kernel
theorem d_Firm_get_24 : decode b_Firm_get 24 = .ok (.iload_n 2, 1) := by decide +kernel
theorem d_Firm_get_25 : decode b_Firm_get 25 = .ok (.invokevirtual 63, 3) := by decide +kernel
theorem d_Firm_get_28 : decode b_Firm_get 28 = .ok (.istore_n 3, 1) := by decide +kernel
theorem d_Firm_get_29 : decode b_Firm_get 29 = .ok (.iload_n 3, 1) := by decide +kernel
theorem d_Firm_get_30 : decode b_Firm_get 30 = .ok (.ifCond .ne 11, 3) := by decide +kernel
theorem d_Firm_get_33 : decode b_Firm_get 33 = .ok (.new 66, 3) := by decide +kernel
theorem d_Firm_get_36 : decode b_Firm_get 36 = .ok (.dup, 1) := by decide +kernel
theorem d_Firm_get_37 : decode b_Firm_get 37 = .ok (.invokespecial 68, 3) := by decide +kernel
theorem d_Firm_get_40 : decode b_Firm_get 40 = .ok (.athrow, 1) := by decide +kernel
theorem d_Firm_get_41 : decode b_Firm_get 41 = .ok (.aload_n 0, 1) := by decide +kernel
theorem d_Firm_get_42 : decode b_Firm_get 42 = .ok (.getfield 10, 3) := by decide +kernel
theorem d_Firm_get_45 : decode b_Firm_get 45 = .ok (.iload_n 3, 1) := by decide +kernel
theorem d_Firm_get_46 : decode b_Firm_get 46 = .ok (.invokevirtual 76, 3) := by decide +kernel
theorem d_Firm_get_49 : decode b_Firm_get 49 = .ok (.invokestatic 80, 3) := by decide +kernel
theorem d_Firm_get_52 : decode b_Firm_get 52 = .ok (.ireturn, 1) := by decide +kernel
set_option maxRecDepth 100000 in
set_option maxHeartbeats 4000000 in
theorem k_Firm_get (l : Launch) (hfl : l.flags = flags0) (D : va_G) (G : Nat → Nat) (Y : Nat → ClassId) {u : SM} {a1 : Int32} {a2 : Int32} {r : (Int32 ⊕ Nat)} {u' : SM} (hm : m_Firm_get u a1 a2 = some (r, u')) : KO l D clz (tyz Y) (wdC G Y) y_Firm_get b_Firm_get 4 7 160 [.ref (G 0), .int a1, .int a2] u r u' := by
  refine mkO hfl (by decide) rfl (Nat.le_of_ble_eq_true rfl) (by decide) (by decide) ?_
  intro p e s m below meth c A Z ls C0 hP hD hS hl hret hthr
  obtain ⟨hx, hb, hml, hown, hts, hK, hN, hA⟩ := id C0
  have hl : lv_has ls 4 [(0, .ref (G 0)), (1, .int a1), (2, .int a2)] := hl
  rw [m_Firm_get] at hm
  refine lv_iload_n hx hb d_Firm_get_0 rfl (lv_at hl 1 rfl) ?_
  obtain ⟨r1, u2, h3, hm⟩ := ob_some hm
  refine goSZ (As := [.int a1]) (rest := []) C0 (k_Firm_isPart l D G Y h3) q_120 q_1 q_118 q_119 e_Firm_isPart (by decide) hP hD hS hl.1 rfl (Nat.le_of_ble_eq_true rfl) d_Firm_get_1 (fun H locs hz4 hP hD hS => ?_)
  refine lv_if_eq (tgt := 14) hx hb d_Firm_get_4 (by decide) (fun hc => ?_) (fun hc => ?_)
  · rw [if_pos hc] at hm
    exact hthr _ _ _ _ 0 u2 (Option.some.inj hm) (by decide) hP hD hS hl.1 d_Firm_get_14 d_Firm_get_17 d_Firm_get_18 d_Firm_get_21
  · rw [if_neg hc] at hm
    refine lv_iload_n hx hb d_Firm_get_7 rfl (lv_at hl 2 rfl) ?_
    obtain ⟨r5, u6, h7, hm⟩ := ob_some hm
    refine goSZ (As := [.int a2]) (rest := []) C0 (k_Firm_isKey l D G Y h7) q_251 q_1 q_249 q_250 e_Firm_isKey (by decide) hP hD hS hl.1 rfl (Nat.le_of_ble_eq_true rfl) d_Firm_get_8 (fun H locs hz8 hP hD hS => ?_)
    refine lv_if_ne (tgt := 22) hx hb d_Firm_get_11 (by decide) (fun hc => ?_) (fun hc => ?_)
    · rw [if_neg hc] at hm
      refine lv_aload_n hx hb d_Firm_get_22 rfl (lv_at hl 0 rfl) ?_
      refine lv_iload_n hx hb d_Firm_get_23 rfl (lv_at hl 1 rfl) ?_
      refine lv_iload_n hx hb d_Firm_get_24 rfl (lv_at hl 2 rfl) ?_
      obtain ⟨r9, u10, h11, hm⟩ := ob_some hm
      refine goVI (As := [.int a1, .int a2]) (rest := []) (b0 := G 0) 0 C0 (k_Firm_addressOf l D G Y h11) q_450 q_1 q_447 q_449 qs_18 e_Firm_addressOf (by decide) rfl rfl hP hD hS hl.1 rfl (Nat.le_of_ble_eq_true rfl) d_Firm_get_25 (fun H locs hP hD hS => ?_)
      refine lv_istore_n (lv' := [(3, .int r9), (0, .ref (G 0)), (1, .int a1), (2, .int a2)]) hx hb d_Firm_get_28 rfl hl (by decide) rfl (fun ls hl => ?_)
      refine lv_iload_n hx hb d_Firm_get_29 rfl (lv_at hl 0 rfl) ?_
      refine lv_if_ne (tgt := 41) hx hb d_Firm_get_30 (by decide) (fun hc => ?_) (fun hc => ?_)
      · rw [if_neg hc] at hm
        refine lv_aload_n hx hb d_Firm_get_41 rfl (lv_at hl 1 rfl) ?_
        refine va_get (D := D) (ci := 0) (v := .ref (G 1)) (C := "FirmStore") (T := F_Firm) (N := 4) hx hb hts iz_Firm hown hK hP 0 rfl rfl 0 (by decide) (hts _ q_93) (fun _ h9 => h9) rfl d_Firm_get_42 ?_
        refine lv_iload_n hx hb d_Firm_get_45 rfl (lv_at hl 0 rfl) ?_
        obtain ⟨r13, u14, h15, hm⟩ := ob_some hm
        refine goVL (As := [.int r9]) (rest := []) (b0 := G 1) 1 C0 (k_Memory_wordAt l D G Y h15) q_136 q_2 q_231 q_134 q_135 e_Memory_wordAt (by decide) rfl rfl hP hD hS hl.1 rfl (Nat.le_of_ble_eq_true rfl) d_Firm_get_46 (fun H locs hP hD hS => ?_)
        obtain ⟨r17, u18, h19, hm⟩ := ob_some hm
        refine goSI (As := [.long r13]) (rest := []) C0 (k_Firm_valueOf l D G Y h19) q_152 q_1 q_484 q_151 e_Firm_valueOf (by decide) hP hD hS hl.1 rfl (Nat.le_of_ble_eq_true rfl) d_Firm_get_49 (fun H locs hP hD hS => ?_)
        exact hret _ _ _ _ r17 u18 (Option.some.inj hm) hP hD hS d_Firm_get_52
      · rw [if_pos hc] at hm
        exact hthr _ _ _ _ 2 u10 (Option.some.inj hm) (by decide) hP hD hS hl.1 d_Firm_get_33 d_Firm_get_36 d_Firm_get_37 d_Firm_get_40
    · rw [if_pos hc] at hm
      exact hthr _ _ _ _ 0 u6 (Option.some.inj hm) (by decide) hP hD hS hl.1 d_Firm_get_14 d_Firm_get_17 d_Firm_get_18 d_Firm_get_21
theorem d_Firm_from_0 : decode b_Firm_from 0 = .ok (.iload_n 1, 1) := by decide +kernel
theorem d_Firm_from_1 : decode b_Firm_from 1 = .ok (.invokestatic 45, 3) := by decide +kernel
theorem d_Firm_from_4 : decode b_Firm_from 4 = .ok (.ifCond .ne 11, 3) := by decide +kernel
theorem d_Firm_from_7 : decode b_Firm_from 7 = .ok (.new 48, 3) := by decide +kernel
theorem d_Firm_from_10 : decode b_Firm_from 10 = .ok (.dup, 1) := by decide +kernel
theorem d_Firm_from_11 : decode b_Firm_from 11 = .ok (.invokespecial 50, 3) := by decide +kernel
theorem d_Firm_from_14 : decode b_Firm_from 14 = .ok (.athrow, 1) := by decide +kernel
theorem d_Firm_from_15 : decode b_Firm_from 15 = .ok (.aload_n 0, 1) := by decide +kernel
theorem d_Firm_from_16 : decode b_Firm_from 16 = .ok (.getfield 30, 3) := by decide +kernel
theorem d_Firm_from_19 : decode b_Firm_from 19 = .ok (.iload_n 1, 1) := by decide +kernel
theorem d_Firm_from_20 : decode b_Firm_from 20 = .ok (.invokevirtual 84, 3) := by decide +kernel
theorem d_Firm_from_23 : decode b_Firm_from 23 = .ok (.istore_n 2, 1) := by decide +kernel
theorem d_Firm_from_24 : decode b_Firm_from 24 = .ok (.iload_n 2, 1) := by decide +kernel
theorem d_Firm_from_25 : decode b_Firm_from 25 = .ok (.sipush 1000, 3) := by decide +kernel
theorem d_Firm_from_28 : decode b_Firm_from 28 = .ok (.if_icmp .ne 11, 3) := by decide +kernel
theorem d_Firm_from_31 : decode b_Firm_from 31 = .ok (.new 66, 3) := by decide +kernel
theorem d_Firm_from_34 : decode b_Firm_from 34 = .ok (.dup, 1) := by decide +kernel
theorem d_Firm_from_35 : decode b_Firm_from 35 = .ok (.invokespecial 68, 3) := by decide +kernel
theorem d_Firm_from_38 : decode b_Firm_from 38 = .ok (.athrow, 1) := by decide +kernel
theorem d_Firm_from_39 : decode b_Firm_from 39 = .ok (.iload_n 2, 1) := by decide +kernel
theorem d_Firm_from_40 : decode b_Firm_from 40 = .ok (.ireturn, 1) := by decide +kernel
set_option maxRecDepth 100000 in
set_option maxHeartbeats 4000000 in
theorem k_Firm_from (l : Launch) (hfl : l.flags = flags0) (D : va_G) (G : Nat → Nat) (Y : Nat → ClassId) {u : SM} {a1 : Int32} {r : (Int32 ⊕ Nat)} {u' : SM} (hm : m_Firm_from u a1 = some (r, u')) : KO l D clz (tyz Y) (wdC G Y) y_Firm_from b_Firm_from 3 6 138 [.ref (G 0), .int a1] u r u' := by
  refine mkO hfl (by decide) rfl (Nat.le_of_ble_eq_true rfl) (by decide) (by decide) ?_
  intro p e s m below meth c A Z ls C0 hP hD hS hl hret hthr
  obtain ⟨hx, hb, hml, hown, hts, hK, hN, hA⟩ := id C0
  have hl : lv_has ls 3 [(0, .ref (G 0)), (1, .int a1)] := hl
  rw [m_Firm_from] at hm
  refine lv_iload_n hx hb d_Firm_from_0 rfl (lv_at hl 1 rfl) ?_
  obtain ⟨r1, u2, h3, hm⟩ := ob_some hm
  refine goSZ (As := [.int a1]) (rest := []) C0 (k_Firm_isKey l D G Y h3) q_251 q_1 q_249 q_250 e_Firm_isKey (by decide) hP hD hS hl.1 rfl (Nat.le_of_ble_eq_true rfl) d_Firm_from_1 (fun H locs hz4 hP hD hS => ?_)
  refine lv_if_ne (tgt := 15) hx hb d_Firm_from_4 (by decide) (fun hc => ?_) (fun hc => ?_)
  · rw [if_neg hc] at hm
    refine lv_aload_n hx hb d_Firm_from_15 rfl (lv_at hl 0 rfl) ?_
    refine va_get (D := D) (ci := 0) (v := .ref (G 6)) (C := "FirmStore") (T := F_Firm) (N := 4) hx hb hts iz_Firm hown hK hP 0 rfl rfl 2 (by decide) (hts _ q_95) (fun _ h9 => h9) rfl d_Firm_from_16 ?_
    refine lv_iload_n hx hb d_Firm_from_19 rfl (lv_at hl 1 rfl) ?_
    obtain ⟨r5, u6, h7, hm⟩ := ob_some hm
    refine goVI (As := [.int a1]) (rest := []) (b0 := G 6) 6 C0 (k_Tree_leastKeyFrom l D G Y h7) q_495 q_4 q_492 q_493 q_494 e_Tree_leastKeyFrom (by decide) rfl rfl hP hD hS hl.1 rfl (Nat.le_of_ble_eq_true rfl) d_Firm_from_20 (fun H locs hP hD hS => ?_)
    refine lv_istore_n (lv' := [(2, .int r5), (0, .ref (G 0)), (1, .int a1)]) hx hb d_Firm_from_23 rfl hl (by decide) rfl (fun ls hl => ?_)
    refine lv_iload_n hx hb d_Firm_from_24 rfl (lv_at hl 0 rfl) ?_
    refine lv_sipush (v := (1000 : Int32)) hx hb d_Firm_from_25 (by decide) ?_
    refine lv_icmp_ne (tgt := 39) hx hb d_Firm_from_28 (by decide) (fun hc => ?_) (fun hc => ?_)
    · rw [if_neg hc] at hm
      refine lv_iload_n hx hb d_Firm_from_39 rfl (lv_at hl 0 rfl) ?_
      exact hret _ _ _ _ r5 u6 (Option.some.inj hm) hP hD hS d_Firm_from_40
    · rw [if_pos hc] at hm
      exact hthr _ _ _ _ 2 u6 (Option.some.inj hm) (by decide) hP hD hS hl.1 d_Firm_from_31 d_Firm_from_34 d_Firm_from_35 d_Firm_from_38
  · rw [if_pos hc] at hm
    exact hthr _ _ _ _ 0 u2 (Option.some.inj hm) (by decide) hP hD hS hl.1 d_Firm_from_7 d_Firm_from_10 d_Firm_from_11 d_Firm_from_14
theorem d_Firm_recover_0 : decode b_Firm_recover 0 = .ok (.aload_n 0, 1) := by decide +kernel
theorem d_Firm_recover_1 : decode b_Firm_recover 1 = .ok (.getfield 10, 3) := by decide +kernel
theorem d_Firm_recover_4 : decode b_Firm_recover 4 = .ok (.getfield 51, 3) := by decide +kernel
theorem d_Firm_recover_7 : decode b_Firm_recover 7 = .ok (.ifCond .ne 11, 3) := by decide +kernel
theorem d_Firm_recover_10 : decode b_Firm_recover 10 = .ok (.new 55, 3) := by decide +kernel
theorem d_Firm_recover_13 : decode b_Firm_recover 13 = .ok (.dup, 1) := by decide +kernel
theorem d_Firm_recover_14 : decode b_Firm_recover 14 = .ok (.invokespecial 57, 3) := by decide +kernel
theorem d_Firm_recover_17 : decode b_Firm_recover 17 = .ok (.athrow, 1) := by decide +kernel
theorem d_Firm_recover_18 : decode b_Firm_recover 18 = .ok (.aload_n 0, 1) := by decide +kernel
theorem d_Firm_recover_19 : decode b_Firm_recover 19 = .ok (.getfield 10, 3) := by decide +kernel
theorem d_Firm_recover_22 : decode b_Firm_recover 22 = .ok (.getfield 92, 3) := by decide +kernel
theorem d_Firm_recover_25 : decode b_Firm_recover 25 = .ok (.istore_n 1, 1) := by decide +kernel
theorem d_Firm_recover_26 : decode b_Firm_recover 26 = .ok (.aload_n 0, 1) := by decide +kernel
theorem d_Firm_recover_27 : decode b_Firm_recover 27 = .ok (.getfield 30, 3) := by decide +kernel
theorem d_Firm_recover_30 : decode b_Firm_recover 30 = .ok (.invokevirtual 96, 3) := by decide +kernel
theorem d_Firm_recover_33 : decode b_Firm_recover 33 = .ok (.ifCond .eq 13, 3) := by decide +kernel
theorem d_Firm_recover_36 : decode b_Firm_recover 36 = .ok (.aload_n 0, 1) := by decide +kernel
theorem d_Firm_recover_37 : decode b_Firm_recover 37 = .ok (.getfield 30, 3) := by decide +kernel
theorem d_Firm_recover_40 : decode b_Firm_recover 40 = .ok (.invokevirtual 100, 3) := by decide +kernel
theorem d_Firm_recover_43 : decode b_Firm_recover 43 = .ok (.ifCond .ne 6, 3) := by decide +kernel
theorem d_Firm_recover_46 : decode b_Firm_recover 46 = .ok (.bipush (-2), 2) := by decide +kernel
theorem d_Firm_recover_48 : decode b_Firm_recover 48 = .ok (.ireturn, 1) := by decide +kernel
theorem d_Firm_recover_49 : decode b_Firm_recover 49 = .ok (.aload_n 0, 1) := by decide +kernel
theorem d_Firm_recover_50 : decode b_Firm_recover 50 = .ok (.getfield 10, 3) := by decide +kernel
theorem d_Firm_recover_53 : decode b_Firm_recover 53 = .ok (.iconst 0, 1) := by decide +kernel
theorem d_Firm_recover_54 : decode b_Firm_recover 54 = .ok (.putfield 51, 3) := by decide +kernel
theorem d_Firm_recover_57 : decode b_Firm_recover 57 = .ok (.aload_n 0, 1) := by decide +kernel
theorem d_Firm_recover_58 : decode b_Firm_recover 58 = .ok (.getfield 10, 3) := by decide +kernel
theorem d_Firm_recover_61 : decode b_Firm_recover 61 = .ok (.getfield 92, 3) := by decide +kernel
theorem d_Firm_recover_64 : decode b_Firm_recover 64 = .ok (.iload_n 1, 1) := by decide +kernel
theorem d_Firm_recover_65 : decode b_Firm_recover 65 = .ok (.isub, 1) := by decide +kernel
theorem d_Firm_recover_66 : decode b_Firm_recover 66 = .ok (.ireturn, 1) := by decide +kernel
set_option maxRecDepth 100000 in
set_option maxHeartbeats 4000000 in
theorem k_Firm_recover (l : Launch) (hfl : l.flags = flags0) (D : va_G) (G : Nat → Nat) (Y : Nat → ClassId) {u : SM}  {r : (Int32 ⊕ Nat)} {u' : SM} (hm : m_Firm_recover u  = some (r, u')) : KO l D clz (tyz Y) (wdC G Y) y_Firm_recover b_Firm_recover 2 47 1177 [.ref (G 0)] u r u' := by
  refine mkO hfl (by decide) rfl (Nat.le_of_ble_eq_true rfl) (by decide) (by decide) ?_
  intro p e s m below meth c A Z ls C0 hP hD hS hl hret hthr
  obtain ⟨hx, hb, hml, hown, hts, hK, hN, hA⟩ := id C0
  have hl : lv_has ls 2 [(0, .ref (G 0))] := hl
  rw [m_Firm_recover] at hm
  refine lv_aload_n hx hb d_Firm_recover_0 rfl (lv_at hl 0 rfl) ?_
  refine va_get (D := D) (ci := 0) (v := .ref (G 1)) (C := "FirmStore") (T := F_Firm) (N := 4) hx hb hts iz_Firm hown hK hP 0 rfl rfl 0 (by decide) (hts _ q_93) (fun _ h9 => h9) rfl d_Firm_recover_1 ?_
  refine va_get (D := D) (ci := 1) (v := .int (cg_dn u)) (C := "FirmStore$Memory") (T := F_Memory) (N := 8) hx hb hts iz_Memory hown hK hP 1 rfl rfl 7 (by decide) (hts _ q_37) (fun _ h9 => h9) rfl d_Firm_recover_4 ?_
  refine lv_if_ne (tgt := 18) hx hb d_Firm_recover_7 (by decide) (fun hc => ?_) (fun hc => ?_)
  · rw [if_neg hc] at hm
    refine lv_aload_n hx hb d_Firm_recover_18 rfl (lv_at hl 0 rfl) ?_
    refine va_get (D := D) (ci := 0) (v := .ref (G 1)) (C := "FirmStore") (T := F_Firm) (N := 4) hx hb hts iz_Firm hown hK hP 0 rfl rfl 0 (by decide) (hts _ q_93) (fun _ h9 => h9) rfl d_Firm_recover_19 ?_
    refine va_get (D := D) (ci := 1) (v := .int (cg_sc u)) (C := "FirmStore$Memory") (T := F_Memory) (N := 8) hx hb hts iz_Memory hown hK hP 1 rfl rfl 6 (by decide) (hts _ q_35) (fun _ h9 => h9) rfl d_Firm_recover_22 ?_
    refine lv_istore_n (lv' := [(1, .int (cg_sc u)), (0, .ref (G 0))]) hx hb d_Firm_recover_25 rfl hl (by decide) rfl (fun ls hl => ?_)
    refine lv_aload_n hx hb d_Firm_recover_26 rfl (lv_at hl 1 rfl) ?_
    refine va_get (D := D) (ci := 0) (v := .ref (G 6)) (C := "FirmStore") (T := F_Firm) (N := 4) hx hb hts iz_Firm hown hK hP 0 rfl rfl 2 (by decide) (hts _ q_95) (fun _ h9 => h9) rfl d_Firm_recover_27 ?_
    obtain ⟨r1, u2, h3, hm⟩ := ob_some hm
    refine goVZ (As := []) (rest := []) (b0 := G 6) 6 C0 (k_Tree_putRight l D G Y h3) q_506 q_4 q_503 q_504 q_505 e_Tree_putRight (by decide) rfl rfl hP hD hS hl.1 rfl (Nat.le_of_ble_eq_true rfl) d_Firm_recover_30 (fun H locs hz4 hP hD hS => ?_)
    refine lv_if_eq (tgt := 46) hx hb d_Firm_recover_33 (by decide) (fun hc => ?_) (fun hc => ?_)
    · rw [if_pos hc] at hm
      refine lv_bipush (v := (-2 : Int32)) hx hb d_Firm_recover_46 (by decide) ?_
      exact hret _ _ _ _ (-2 : Int32) u2 (Option.some.inj hm) hP hD hS d_Firm_recover_48
    · rw [if_neg hc] at hm
      refine lv_aload_n hx hb d_Firm_recover_36 rfl (lv_at hl 1 rfl) ?_
      refine va_get (D := D) (ci := 0) (v := .ref (G 6)) (C := "FirmStore") (T := F_Firm) (N := 4) hx hb hts iz_Firm hown hK hP 0 rfl rfl 2 (by decide) (hts _ q_95) (fun _ h9 => h9) rfl d_Firm_recover_37 ?_
      obtain ⟨r5, u6, h7, hm⟩ := ob_some hm
      refine goVZ (As := []) (rest := []) (b0 := G 6) 6 C0 (k_Tree_hangStrays l D G Y h7) q_526 q_4 q_523 q_524 q_525 e_Tree_hangStrays (by decide) rfl rfl hP hD hS hl.1 rfl (Nat.le_of_ble_eq_true rfl) d_Firm_recover_40 (fun H locs hz8 hP hD hS => ?_)
      refine lv_if_ne (tgt := 49) hx hb d_Firm_recover_43 (by decide) (fun hc => ?_) (fun hc => ?_)
      · rw [if_neg hc] at hm
        refine lv_aload_n hx hb d_Firm_recover_49 rfl (lv_at hl 1 rfl) ?_
        refine va_get (D := D) (ci := 0) (v := .ref (G 1)) (C := "FirmStore") (T := F_Firm) (N := 4) hx hb hts iz_Firm hown hK hP 0 rfl rfl 0 (by decide) (hts _ q_93) (fun _ h9 => h9) rfl d_Firm_recover_50 ?_
        refine lv_iconst (v := (0 : Int32)) hx hb d_Firm_recover_53 (by decide) ?_
        refine va_put (D := D) (ci := 1) (v := .int (0 : Int32)) (ty := .boolean) (C := "FirmStore$Memory") (T := F_Memory) (N := 8) hx hb hts iz_Memory t_Memory t_Memory_ok n_Memory hown hK hP hD hS 1 rfl rfl 7 (by decide) (hts _ q_37) (fun _ h9 => h9) rfl (by decide +kernel) (nz (Or.inl rfl)) (by decide) (Nat.le_of_ble_eq_true rfl) d_Firm_recover_54 (fun H locs hP hD hS => ?_)
        have hP : va_P D clz (wdC G Y (cs_dn u6 (0 : Int32))) H := hP
        have hD : va_D A (wdC G Y (cs_dn u6 (0 : Int32))) := hD
        refine lv_aload_n hx hb d_Firm_recover_57 rfl (lv_at hl 1 rfl) ?_
        refine va_get (D := D) (ci := 0) (v := .ref (G 1)) (C := "FirmStore") (T := F_Firm) (N := 4) hx hb hts iz_Firm hown hK hP 0 rfl rfl 0 (by decide) (hts _ q_93) (fun _ h9 => h9) rfl d_Firm_recover_58 ?_
        refine va_get (D := D) (ci := 1) (v := .int (cg_sc u6)) (C := "FirmStore$Memory") (T := F_Memory) (N := 8) hx hb hts iz_Memory hown hK hP 1 rfl rfl 6 (by decide) (hts _ q_35) (fun _ h9 => h9) rfl d_Firm_recover_61 ?_
        refine lv_iload_n hx hb d_Firm_recover_64 rfl (lv_at hl 0 rfl) ?_
        refine lv_isub hx hb d_Firm_recover_65 ?_
        exact hret _ _ _ _ ((cg_sc u6) - (cg_sc u)) (cs_dn u6 (0 : Int32)) (Option.some.inj hm) hP hD hS d_Firm_recover_66
      · rw [if_pos hc] at hm
        refine lv_bipush (v := (-2 : Int32)) hx hb d_Firm_recover_46 (by decide) ?_
        exact hret _ _ _ _ (-2 : Int32) u6 (Option.some.inj hm) hP hD hS d_Firm_recover_48
  · rw [if_pos hc] at hm
    exact hthr _ _ _ _ 1 u (Option.some.inj hm) (by decide) hP hD hS hl.1 d_Firm_recover_10 d_Firm_recover_13 d_Firm_recover_14 d_Firm_recover_17
