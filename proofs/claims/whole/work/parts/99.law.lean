theorem q_14 : (Jvm.Cond.classLink "FirmStoreLaw" (8 : Nat) "FirmStore") ∈ tbG := tbG_in (List.mem_of_getElem? (i := 74) (by decide +kernel)) rfl
theorem q_15 : (Jvm.Cond.instantiable "FirmStore" (4 : Nat)) ∈ tbG := tbG_in (List.mem_of_getElem? (i := 75) (by decide +kernel)) rfl
theorem q_16 : (Jvm.Cond.methodLink "FirmStoreLaw" (34 : Nat) ({ cls := "FirmStore", name := "<init>", desc := "()V" } : Jvm.MethodName)) ∈ tbG := tbG_in (List.mem_of_getElem? (i := 76) (by decide +kernel)) rfl
theorem q_17 : (Jvm.Cond.instanceMethod ({ cls := "FirmStore", name := "<init>", desc := "()V" } : Jvm.MethodName)) ∈ tbG := tbG_in (List.mem_of_getElem? (i := 77) (by decide +kernel)) rfl
theorem q_18 : (Jvm.Cond.code ({ cls := "FirmStore", name := "<init>", desc := "()V" } : Jvm.MethodName) prog_1_method_1_code (1 : Nat) (Option.none : Option Jvm.ClassFile.FieldType)) ∈ tbG := tbG_in (List.mem_of_getElem? (i := 78) (by decide +kernel)) rfl
theorem q_531 : (Jvm.Cond.classLink "FirmStoreLaw" (35 : Nat) "FirmStoreModel") ∈ tbG := tbG_in (List.mem_of_getElem? (i := 591) (by decide +kernel)) rfl
theorem q_532 : (Jvm.Cond.instantiable "FirmStoreModel" (12 : Nat)) ∈ tbG := tbG_in (List.mem_of_getElem? (i := 592) (by decide +kernel)) rfl
theorem q_533 : (Jvm.Cond.methodLink "FirmStoreLaw" (37 : Nat) ({ cls := "FirmStoreModel", name := "<init>", desc := "()V" } : Jvm.MethodName)) ∈ tbG := tbG_in (List.mem_of_getElem? (i := 593) (by decide +kernel)) rfl
theorem q_534 : (Jvm.Cond.instanceMethod ({ cls := "FirmStoreModel", name := "<init>", desc := "()V" } : Jvm.MethodName)) ∈ tbG := tbG_in (List.mem_of_getElem? (i := 594) (by decide +kernel)) rfl
theorem q_535 : (Jvm.Cond.code ({ cls := "FirmStoreModel", name := "<init>", desc := "()V" } : Jvm.MethodName) prog_7_method_1_code (1 : Nat) (Option.none : Option Jvm.ClassFile.FieldType)) ∈ tbG := tbG_in (List.mem_of_getElem? (i := 595) (by decide +kernel)) rfl
/-! THE LAW: its loop, its start, the claim -/
theorem lim_toInt {L : Nat} (hL : L ≤ 2048) : (Int32.ofNat L - (4 : Int32)).toInt = (L : Int) - 4 := by
  rw [Int32.toInt_sub, show Int32.ofNat L = nI L from rfl, nI_toInt (by omega), show (4 : Int32).toInt = 4 from rfl]
  rw [Int.bmod_eq_of_le (by omega) (by omega)]
theorem lim_out {L i : Nat} (hL : L ≤ 2048) (hi : i ≤ L) (h : ¬ (Int32.ofNat L - (4 : Int32)) < nI i) : i + 4 ≤ L := by
  rw [Int32.lt_iff_toInt_lt, lim_toInt hL, nI_toInt (by omega)] at h
  omega
theorem sw_out {z : Int32} (h0 : ¬ z = 0) (h1 : ¬ z = 1) (h2 : ¬ z = 2) (h3 : ¬ z = 3) (h4 : ¬ z = 4) (h5 : ¬ z = 5) (h6 : ¬ z = 6) (h7 : ¬ z = 7) (h8 : ¬ z = 8) (h9 : ¬ z = 9) (h10 : ¬ z = 10) (h11 : ¬ z = 11) : z.toInt < 0 ∨ 11 < z.toInt := by
  have e : ∀ k : Int32, ¬ z = k → z.toInt ≠ k.toInt := fun k h q => h (Int32.toInt_inj.mp q)
  have g0 := e 0 h0; have g1 := e 1 h1; have g2 := e 2 h2; have g3 := e 3 h3; have g4 := e 4 h4; have g5 := e 5 h5
  have g6 := e 6 h6; have g7 := e 7 h7; have g8 := e 8 h8; have g9 := e 9 h9; have g10 := e 10 h10; have g11 := e 11 h11
  rw [show (0 : Int32).toInt = 0 from rfl] at g0
  rw [show (1 : Int32).toInt = 1 from rfl] at g1
  rw [show (2 : Int32).toInt = 2 from rfl] at g2
  rw [show (3 : Int32).toInt = 3 from rfl] at g3
  rw [show (4 : Int32).toInt = 4 from rfl] at g4
  rw [show (5 : Int32).toInt = 5 from rfl] at g5
  rw [show (6 : Int32).toInt = 6 from rfl] at g6
  rw [show (7 : Int32).toInt = 7 from rfl] at g7
  rw [show (8 : Int32).toInt = 8 from rfl] at g8
  rw [show (9 : Int32).toInt = 9 from rfl] at g9
  rw [show (10 : Int32).toInt = 10 from rfl] at g10
  rw [show (11 : Int32).toInt = 11 from rfl] at g11
  omega
set_option maxRecDepth 100000 in
set_option maxHeartbeats 8000000 in
theorem law_loop {p : Program} {e : Env} {s : State} {m : MethodId} {below : List Frame} {meth : Method} {c : Code} (l : Launch) (hfl : l.flags = flags0) {b L : Nat} {xs : Nat → Int32} (hL : L ≤ 2048) (C : lw_At p s m meth c b L xs) {D : va_G} {G GR : Nat → Nat} {Y : Nat → ClassId} {ao : Nat} (C0 : Ctx l D clz (tyz Y) "FirmStoreLaw" code 7 [Value.ref b] p s m c (fun q => s.heap.size ≤ q)) (hSZ : SZ s.heap.size s s.heap) (hNC : NCx s) : ∀ (n i : Nat) (x4 : Int32), i ≤ L → L + 1 ≤ i + n → x4 = nI i → ∀ (u : SM) (v : SR) (o : Nat → Int64), IV u v → ∀ (H : Heap) (locs : List Loc), LSt D G GR Y ao (fun q => s.heap.size ≤ q) s.heap H locs u v o → ∀ ls : Array Slot, lv_has ls 7 [(4, .int x4), (3, .ref ao), (2, .ref (GR 0)), (1, .ref (G 0)), (0, .ref b)] → W p l e room_1 s m #[Value.ref b] below meth c H locs (16 + i) (700 + 6 * i) (lw_Z below #[Value.ref b] s) (F0 m 23 ls []) := by
  obtain ⟨hx, hb, hr, hml, hown, -, hX, hbl, hlocks, hgv⟩ := id C
  have hbA : ¬ (fun q : Nat => s.heap.size ≤ q) b := Nat.not_le.mpr hbl
  intro n
  induction n with
  | zero => intro i x4 h1 h2; omega
  | succ n ih =>
    intro i x4 hi hn hx4 u v o hI H locs hLS ls hl
    refine lv_iload hx hb d_law_23 (lv_at hl 0 rfl) ?_
    refine lv_aload_n hx hb d_law_25 rfl (lv_at hl 4 rfl) ?_
    refine va_slen hx hb hX hbl hbA hLS.2.2 d_law_26 ?_
    refine lv_iconst (v := (4 : Int32)) hx hb d_law_27 (by decide) ?_
    refine lv_isub hx hb d_law_28 ?_
    refine lv_icmp_gt (tgt := 562) hx hb d_law_29 (by decide) (fun hc => ?_) (fun hc => ?_)
    · refine lv_iconst (v := (1 : Int32)) hx hb d_law_562 (by decide) ?_
      refine W.widen (k := 601024) (n := 7293034) (by omega) (by omega) ?_
      refine va_forget (fun q hq => hLS.2.2.2.2 q hq) ?_
      exact lw_ret hx hb hr hlocks d_law_563
    · have hiL : i + 4 ≤ L := lim_out hL hi (by rw [hx4] at hc; exact hc)
      have hi0 : vp_in x4 L := by rw [hx4]; exact nI_in (by omega) (by omega)
      have fin : ∀ (u : SM) (v : SR) (o : Nat → Int64), IV u v → ∀ (H : Heap) (locs : List Loc) (cells slots : Nat) (ls : Array Slot), cells ≤ 16 + (i + 4) → slots ≤ 700 + 6 * (i + 4) → LSt D G GR Y ao (fun q => s.heap.size ≤ q) s.heap H locs u v o → lv_has ls 7 [(4, .int x4), (3, .ref ao), (2, .ref (GR 0)), (1, .ref (G 0)), (0, .ref b)] → W p l e room_1 s m #[Value.ref b] below meth c H locs cells slots (lw_Z below #[Value.ref b] s) (F0 m 556 ls []) := by
        intro u v o hI H locs cells slots ls h1 h2 hLS hl
        refine W.widen (k := 16 + (i + 4)) (n := 700 + 6 * (i + 4)) h1 h2 ?_
        refine lv_iinc (v := (x4 + (4 : Int32))) (lv' := [(4, .int (x4 + (4 : Int32))), (3, .ref ao), (2, .ref (GR 0)), (1, .ref (G 0)), (0, .ref b)]) hx hb d_law_556 hl (k := 0) rfl rfl (by decide) rfl (fun ls hl => ?_)
        refine lv_goto (tgt := 23) hx hb d_law_559 (by decide) ?_
        exact ih (i + 4) (x4 + (4 : Int32)) hiL (by omega) (by rw [hx4]; exact nI_add i 4) u v o hI H locs hLS ls hl
      refine lv_aload_n hx hb d_law_32 rfl (lv_at hl 4 rfl) ?_
      refine lv_iload hx hb d_law_33 (lv_at hl 0 rfl) ?_
      refine va_sld hx hb hX hbl hbA hLS.2.2 hi0 d_law_35 ?_
      refine lv_bipush (v := (15 : Int32)) hx hb d_law_36 (by decide) ?_
      refine lv_iand hx hb d_law_38 ?_
      generalize (xs x4.toNatClampNeg &&& (15 : Int32)) = z
      by_cases h0 : z = 0
      · subst h0
        exact lv_tableIn (tgt := 100) hx hb d_law_39 (by decide) (by decide) (off := 61) (by decide) (by decide) (law_c0 l hfl hL C C0 hSZ hNC hiL hx4 fin hI hLS hl)
      by_cases h1 : z = 1
      · subst h1
        exact lv_tableIn (tgt := 180) hx hb d_law_39 (by decide) (by decide) (off := 141) (by decide) (by decide) (law_c1 l hfl hL C C0 hSZ hNC hiL hx4 fin hI hLS hl)
      by_cases h2 : z = 2
      · subst h2
        exact lv_tableIn (tgt := 248) hx hb d_law_39 (by decide) (by decide) (off := 209) (by decide) (by decide) (law_c2 l hfl hL C C0 hSZ hNC hiL hx4 fin hI hLS hl)
      by_cases h3 : z = 3
      · subst h3
        exact lv_tableIn (tgt := 316) hx hb d_law_39 (by decide) (by decide) (off := 277) (by decide) (by decide) (law_c3 l hfl hL C C0 hSZ hNC hiL hx4 fin hI hLS hl)
      by_cases h4 : z = 4
      · subst h4
        exact lv_tableIn (tgt := 372) hx hb d_law_39 (by decide) (by decide) (off := 333) (by decide) (by decide) (law_c4 l hfl hL C C0 hSZ hNC hiL hx4 fin hI hLS hl)
      by_cases h5 : z = 5
      · subst h5
        exact lv_tableIn (tgt := 409) hx hb d_law_39 (by decide) (by decide) (off := 370) (by decide) (by decide) (law_c5 l hfl hL C C0 hSZ hNC hiL hx4 fin hI hLS hl)
      by_cases h6 : z = 6
      · subst h6
        exact lv_tableIn (tgt := 453) hx hb d_law_39 (by decide) (by decide) (off := 414) (by decide) (by decide) (law_c6 l hfl hL C C0 hSZ hNC hiL hx4 fin hI hLS hl)
      by_cases h7 : z = 7
      · subst h7
        exact lv_tableIn (tgt := 478) hx hb d_law_39 (by decide) (by decide) (off := 439) (by decide) (by decide) (law_c7 l hfl hL C C0 hSZ hNC hiL hx4 fin hI hLS hl)
      by_cases h8 : z = 8
      · subst h8
        exact lv_tableIn (tgt := 491) hx hb d_law_39 (by decide) (by decide) (off := 452) (by decide) (by decide) (law_c8 l hfl hL C C0 hSZ hNC hiL hx4 fin hI hLS hl)
      by_cases h9 : z = 9
      · subst h9
        exact lv_tableIn (tgt := 504) hx hb d_law_39 (by decide) (by decide) (off := 465) (by decide) (by decide) (law_c9 l hfl hL C C0 hSZ hNC hiL hx4 fin hI hLS hl)
      by_cases h10 : z = 10
      · subst h10
        exact lv_tableIn (tgt := 530) hx hb d_law_39 (by decide) (by decide) (off := 491) (by decide) (by decide) (law_c10 l hfl hL C C0 hSZ hNC hiL hx4 fin hI hLS hl)
      by_cases h11 : z = 11
      · subst h11
        exact lv_tableIn (tgt := 543) hx hb d_law_39 (by decide) (by decide) (off := 504) (by decide) (by decide) (law_c11 l hfl hL C C0 hSZ hNC hiL hx4 fin hI hLS hl)
      exact lv_tableOut (tgt := 556) hx hb d_law_39 (sw_out h0 h1 h2 h3 h4 h5 h6 h7 h8 h9 h10 h11) (by decide) (fin u v o hI H locs _ _ ls (by omega) (by omega) hLS hl)
theorem arr_known {ty : FieldType} {args : Array Value} {s : State} (h : (Cond.arrayClass ty).before args s = true) : ∃ cA : ClassId, ArrOfT s cA ty ∧ s.vm.findClass ("[" ++ ty.toString) = some cA := by
  obtain ⟨cA, kA, comp, h1, h2, h3⟩ := Cond.arrayClass_spec h
  exact ⟨cA, fun n z => ⟨fun k h => (by cases h), kA, h2, comp, h3⟩, h1⟩
set_option maxRecDepth 100000 in
set_option maxHeartbeats 8000000 in
theorem whole_start {p : Program} {e : Env} {s : State} {m : MethodId} {below : List Frame} {meth : Method} {c : Code} (l : Launch) (hfl : l.flags = flags0) {b L : Nat} {xs : Nat → Int32} (hL : L ≤ 2048) (C : lw_At p s m meth c b L xs) : W p l e room_1 s m #[Value.ref b] below meth c s.heap [] 0 0 (lw_Z below #[Value.ref b] s) (entryFrame m ([Value.ref b] : List Value).toArray 7) := by
  obtain ⟨hx, hb, hr, hml, hown, hts0, hX, hbl, hlocks, hgv⟩ := id C
  have hA : ∀ q : Nat, s.heap.size ≤ q → (fun q : Nat => s.heap.size ≤ q) q := fun _ h => h
  have hts : ∀ w ∈ tbG, w.before #[Value.ref b] s = true := fun w hw => hts0 w (List.mem_filter.mp hw).1
  obtain ⟨c0, iS0, hKn0⟩ := u_known (C := "FirmStore") (T := F_Firm) (N := 4) (n := 4) hts iz_Firm (hts _ (tbG_in (List.mem_of_getElem? (i := 75) (by decide +kernel)) rfl : Cond.instantiable "FirmStore" 4 ∈ tbG))
  obtain ⟨c1, iS1, hKn1⟩ := u_known (C := "FirmStore$Memory") (T := F_Memory) (N := 8) (n := 8) hts iz_Memory (hts _ (tbG_in (List.mem_of_getElem? (i := 83) (by decide +kernel)) rfl : Cond.instantiable "FirmStore$Memory" 8 ∈ tbG))
  obtain ⟨c2, iS2, hKn2⟩ := u_known (C := "FirmStore$Blocks") (T := F_Blocks) (N := 1) (n := 1) hts iz_Blocks (hts _ (tbG_in (List.mem_of_getElem? (i := 118) (by decide +kernel)) rfl : Cond.instantiable "FirmStore$Blocks" 1 ∈ tbG))
  obtain ⟨c3, iS3, hKn3⟩ := u_known (C := "FirmStore$Tree") (T := F_Tree) (N := 2) (n := 2) hts iz_Tree (hts _ (tbG_in (List.mem_of_getElem? (i := 128) (by decide +kernel)) rfl : Cond.instantiable "FirmStore$Tree" 2 ∈ tbG))
  obtain ⟨c4, iS4, hKn4⟩ := u_known (C := "FirmStore$Table") (T := F_Table) (N := 2) (n := 2) hts iz_Table (hts _ (tbG_in (List.mem_of_getElem? (i := 141) (by decide +kernel)) rfl : Cond.instantiable "FirmStore$Table" 2 ∈ tbG))
  obtain ⟨c5, iS5, hKn5⟩ := u_known (C := "FirmStoreModel") (T := F_Ref) (N := 12) (n := 12) hts iz_Ref (hts _ (tbG_in (List.mem_of_getElem? (i := 592) (by decide +kernel)) rfl : Cond.instantiable "FirmStoreModel" 12 ∈ tbG))
  obtain ⟨D, hKc⟩ : ∃ D : va_G, ∀ (k : Nat) (q : vw_C), clz[k]? = some q → u_Kn s q.1 q.2.1 q.2.2 (D.1 k) (D.2 k) := by
    refine ⟨(fun k => if k = 0 then c0 else if k = 1 then c1 else if k = 2 then c2 else if k = 3 then c3 else if k = 4 then c4 else c5, fun k => if k = 0 then iS0 else if k = 1 then iS1 else if k = 2 then iS2 else if k = 3 then iS3 else if k = 4 then iS4 else iS5), ?_⟩
    intro k q hq
    match k, hq with
    | 0, hq => cases hq; exact hKn0
    | 1, hq => cases hq; exact hKn1
    | 2, hq => cases hq; exact hKn2
    | 3, hq => cases hq; exact hKn3
    | 4, hq => cases hq; exact hKn4
    | 5, hq => cases hq; exact hKn5
    | k + 6, hq => simp [clz] at hq
  obtain ⟨y0, ha0, hf0⟩ := arr_known (hts _ q_55)
  obtain ⟨y1, ha1, hf1⟩ := arr_known (hts _ q_56)
  obtain ⟨y2, ha2, hf2⟩ := arr_known (hts _ q_574)
  obtain ⟨Y, rfl, rfl, rfl⟩ : ∃ Y : Nat → ClassId, Y 0 = y0 ∧ Y 1 = y1 ∧ Y 2 = y2 := ⟨fun k => if k = 0 then y0 else if k = 1 then y1 else y2, rfl, rfl, rfl⟩
  have hK : va_K D clz (tyz Y) s := by
    refine ⟨hKc, ?_⟩
    intro k q hq
    match k, hq with
    | 0, hq => cases hq; exact ⟨ha0, hf0⟩
    | 1, hq => cases hq; exact ⟨ha1, hf1⟩
    | 2, hq => cases hq; exact ⟨ha2, hf2⟩
    | k + 3, hq => simp [tyz] at hq
  have hN : NL s := ⟨va_any rfl (hts0 _ (List.mem_of_getElem? (i := 210) (by decide +kernel))), va_any rfl (hts0 _ (List.mem_of_getElem? (i := 237) (by decide +kernel))), va_any rfl (hts0 _ (List.mem_of_getElem? (i := 394) (by decide +kernel))), va_any rfl (hts0 _ (List.mem_of_getElem? (i := 481) (by decide +kernel))), va_any rfl (hts0 _ (List.mem_of_getElem? (i := 494) (by decide +kernel)))⟩
  have hNM : NM s := va_any rfl (hts0 _ (List.mem_of_getElem? (i := 84) (by decide +kernel)))
  have hfl2 := flat_of_before _ hgv
  have hSZ : SZ s.heap.size s s.heap := ⟨Zs.of (hts0 _ (List.mem_of_getElem? (i := 339) (by decide +kernel))) (hfl2 _ (by decide +kernel)) (Nat.le_refl _), Zs.of (hts0 _ (List.mem_of_getElem? (i := 341) (by decide +kernel))) (hfl2 _ (by decide +kernel)) (Nat.le_refl _)⟩
  have hNC : NCx s := ⟨va_Nc.of (hfl2 (.not (.castable (ecl 1) (ecl 0))) (by decide +kernel)), va_Nc.of (hfl2 (.not (.castable (ecl 2) (ecl 0))) (by decide +kernel)), va_Nc.of (hfl2 (.not (.castable (ecl 2) (ecl 1))) (by decide +kernel))⟩
  have C0 : Ctx l D clz (tyz Y) "FirmStoreLaw" code 7 [Value.ref b] p s m c (fun q => s.heap.size ≤ q) := ⟨hx, hb, hml, hown, hts, hK, hN, fun _ h => h⟩
  have hS : va_S (fun q : Nat => s.heap.size ≤ q) s.heap s.heap [] := va_S.rf
  have hP : va_P D clz [] s.heap := fun k q h => by simp at h
  have hD : va_D (fun q : Nat => s.heap.size ≤ q) [] := ⟨fun i j p q h => by simp at h, fun k q h => by simp at h⟩
  have hl := lv_entry ([.ref b]) (n := 7) (Nat.le_of_ble_eq_true rfl)
  rw [lg_entry_eq]
  generalize (lg_sl ([.ref b]) ++ List.replicate (7 - (lg_sl ([.ref b])).length) Slot.unset).toArray = ls at hl ⊢
  have hl : lv_has ls 7 [(0, .ref b)] := hl
  refine va_new (D := D) (ci := 0) (fs := [.null, .null, .null, .null]) (C := "FirmStore") (T := F_Firm) (N := 4) hx hb hts iz_Firm t_Firm t_Firm_ok hown (hts _ q_14) (hts _ q_15) (hts _ q_1) hK hP hD hS hA rfl (fun j hj => by match j, hj with | 0, _ => rfl | 1, _ => rfl | 2, _ => rfl | 3, _ => rfl) (Nat.le_of_ble_eq_true rfl) (Nat.le_of_ble_eq_true rfl) d_law_0 (fun g0 H hP hD hS => ?_)
  have hP : va_P D clz ([(g0, .inr (0, [.null, .null, .null, .null]))] ++ []) H := hP
  have hD : va_D (fun q : Nat => s.heap.size ≤ q) ([(g0, .inr (0, [.null, .null, .null, .null]))] ++ []) := hD
  refine W.widen (k := 1) (n := 4) (by decide) (by decide) ?_
  refine lv_dup hx hb d_law_3 rfl ?_
  refine sbC (As := []) (rest := [.ref g0]) (b0 := g0) (X := []) C0 hNM (c_Firm_init l D Y g0) q_18 q_1 q_17 rfl (Or.inl q_16) e_Firm_init ⟨Nat.le_of_ble_eq_true rfl, Nat.le_of_ble_eq_true rfl⟩ (Nat.le_of_ble_eq_true rfl) (Nat.le_of_ble_eq_true rfl) hP hD hS hl.1 rfl (Nat.le_of_ble_eq_true rfl) d_law_4 (fun w1 H locs hpost hP hD hS => ?_)
  obtain ⟨G, rfl, rfl⟩ := hpost
  rw [List.append_nil] at hP hD
  refine lv_astore_n (lv' := [(1, .ref (G 0)), (0, .ref b)]) hx hb d_law_7 rfl hl (by decide) rfl (fun ls hl => ?_)
  refine va_new (D := D) (ci := 5) (fs := [.null, .int 0, .null, .null, .int 0, .int 0, .int 0, .int 0, .int 0, .int 0, .null, .null]) (C := "FirmStoreModel") (T := F_Ref) (N := 12) hx hb hts iz_Ref t_Ref t_Ref_ok hown (hts _ q_531) (hts _ q_532) (hts _ q_6) hK hP hD hS hA rfl (fun j hj => by match j, hj with | 0, _ => rfl | 1, _ => rfl | 2, _ => rfl | 3, _ => rfl | 4, _ => rfl | 5, _ => rfl | 6, _ => rfl | 7, _ => rfl | 8, _ => rfl | 9, _ => rfl | 10, _ => rfl | 11, _ => rfl) (Nat.le_of_ble_eq_true rfl) (Nat.le_of_ble_eq_true rfl) d_law_8 (fun r0 H hP hD hS => ?_)
  refine W.widen (k := 9) (n := 326) (by decide) (by decide) ?_
  refine lv_dup hx hb d_law_11 rfl ?_
  refine sbC (As := []) (rest := [.ref r0]) (b0 := r0) (X := wdC G Y u_0) C0 hNM (c_Ref_init l D Y r0) q_535 q_6 q_534 rfl (Or.inl q_533) e_Ref_init ⟨Nat.le_of_ble_eq_true rfl, Nat.le_of_ble_eq_true rfl⟩ (Nat.le_of_ble_eq_true rfl) (Nat.le_of_ble_eq_true rfl) (vp_perm List.perm_append_comm hP) (vd_perm List.perm_append_comm hD) hS hl.1 rfl (Nat.le_of_ble_eq_true rfl) d_law_12 (fun w1 H locs hpost hP hD hS => ?_)
  obtain ⟨GR, rfl, rfl⟩ := hpost
  refine lv_astore_n (lv' := [(2, .ref (GR 0)), (1, .ref (G 0)), (0, .ref b)]) hx hb d_law_15 rfl hl (by decide) rfl (fun ls hl => ?_)
  refine lv_iconst (v := (1 : Int32)) hx hb d_law_16 (by decide) ?_
  refine va_newa (atype := .long) (a0 := (1, .inr (.inl (fun _ => 0)))) hx hb (hts _ q_55) (ty := .long) rfl hK hP hD hS hA (fun _ => rfl) (by decide) rfl (by decide) (Nat.le_of_ble_eq_true rfl) (Nat.le_of_ble_eq_true rfl) d_law_17 (fun ao cA H hK1 hP hD hS => ?_)
  obtain rfl : cA = Y 0 := ra_eq hK1 0 rfl (Or.inl rfl)
  have hpm : ((wdR GR Y v_0 ++ wdC G Y u_0) ++ wdO ao Y (fun _ => 0)).Perm (WL G GR Y ao u_0 v_0 (fun _ => 0)) := by
    rw [List.append_assoc]
    exact List.perm_append_comm
  have hP := vp_perm hpm hP
  have hD := vd_perm hpm hD
  refine W.widen (k := 16 + 0) (n := 700 + 6 * 0) (by decide) (by decide) ?_
  refine lv_astore_n (lv' := [(3, .ref ao), (2, .ref (GR 0)), (1, .ref (G 0)), (0, .ref b)]) hx hb d_law_19 rfl hl (by decide) rfl (fun ls hl => ?_)
  refine lv_iconst (v := (0 : Int32)) hx hb d_law_20 (by decide) ?_
  refine lv_istore (lv' := [(4, .int (0 : Int32)), (3, .ref ao), (2, .ref (GR 0)), (1, .ref (G 0)), (0, .ref b)]) hx hb d_law_21 hl (by decide) rfl (fun ls hl => ?_)
  exact law_loop l hfl hL C C0 hSZ hNC (L + 1) 0 0 (Nat.zero_le L) (by omega) rfl u_0 v_0 (fun _ => 0) iv_0 H locs ⟨hP, hD, hS⟩ ls hl
set_option maxHeartbeats 4000000 in
theorem lw_walk (l : Launch) (hfl : l.flags = flags0) (b : Addr) (xs : List Int32) : MetFree l x (headSpec (Jvm.Cond.code x code maxLocals ret :: tables_1) room_1) (lw_P b xs) (fun _ _ _ _ _ => True) lw_Q := by
  refine MetFree.of_bodyS (code := code) (maxLocals := maxLocals) (ret := ret) (by decide) ?_ ?_
  · intro args s m h hn
    obtain ⟨meth, c, h1, h2, h3, h4, h5, h6, -, -⟩ := Cond.code_spec hn (atoms_spec (ws := Jvm.Cond.code x code maxLocals ret :: tables_1) h _ List.mem_cons_self)
    exact ⟨meth, c, h1, h2, h3, h4, h5, h6⟩
  · intro p e s m args below meth c s₁ B hml0 hP _
    obtain ⟨rfl, hx, hbd, hgv⟩ := hP
    obtain ⟨scr, harrAt, hlist, hof, hsmall⟩ := hx
    obtain ⟨hcb, hkn, -, -⟩ := State.arrayAt?_spec harrAt
    have hown : s.vm.findClass R_law = some m.cls := findClass_of_methodNamed B.named
    have hts0 : ∀ c ∈ (Jvm.Cond.code x code maxLocals ret :: tables_1), c.before #[Value.ref b] s = true := atoms_spec (ws := Jvm.Cond.code x code maxLocals ret :: tables_1) B.pre
    have hts : ∀ w ∈ lw_tbl, w.before #[Value.ref b] s = true := k2_hts_sels lw_privs (fun w hw => hts0 w (List.mem_cons_of_mem _ hw)) lw_privs_ok
    have hml : c.maxLocals = 7 := B.maxLocals_eq (hts0 _ List.mem_cons_self)
    have X₀ : Stand p l e room_1 s m #[Value.ref b] below meth c s₁ [] 0 0 := Stand.of_body B
    have hh0 : s₁.heap = s.heap := by rw [B.state]; rfl
    have hsz : scr.slots.size = xs.length := by rw [← Array.length_toList, hlist, List.length_map]
    have hval : ∀ j : Nat, j < xs.length → scr.slots[j]? = some (.int (xs.getD j 0)) := fun j hj => by
      rw [← Array.getElem?_toList, hlist]
      simp [hj]
    have hbl : b < s.heap.size := (Array.getElem?_eq_some_iff.mp hcb).1
    have hX : va_X b xs.length (fun j => xs.getD j 0) s s.heap := ⟨scr, hcb, hof, hkn, hsz, hval⟩
    have K : W p l e room_1 s m #[Value.ref b] below meth c s₁.heap [] 0 0 (lw_Z below #[Value.ref b] s) (entryFrame m ([Value.ref b] : List Value).toArray 7) := by
      rw [hh0]
      exact whole_start l hfl hbd ⟨B.exec, B.bytes, B.returns, hml, hown, hts, hX, hbl, B.notSynchronized, hgv⟩
    obtain ⟨t, a1, o, b1, b2, b3⟩ := K s₁ rfl X₀
    exact ⟨t, o, a1, b1, b2, b3⟩
theorem lw_pre_spec {args : Array Value} {s : State} (h : (Jvm.Cond.and given_1 narrow_1).before args s = true) (hr : rest_1_c.before args s = true) : ∃ (b : Addr) (xs : List Int32), lw_P b xs args s := by
  have hs := flat_of_before _ h
  have hq := flat_of_before _ hr
  have hc : (Cond.count 1).before args s = true := hs _ (by decide +kernel)
  have harr : (Cond.arrayOf (.arg 0) .int).before args s = true := hs _ (by decide +kernel)
  have hle : (Cond.le (.length (.arg 0)) (.int 2048)).before args s = true := hs _ (by decide +kernel)
  have hlen : (Cond.isInt (.length (.arg 0))).before args s = true := hq _ (by decide +kernel)
  have hall : (Cond.all (.arg 0) (.isInt (.elem (.arg 0) (.index 0)))).before args s = true := hq _ (by decide +kernel)
  obtain ⟨b, xs, hb, hx⟩ := State.ints_of_pre rfl harr hlen hall
  have hsm : xs.length < 2 ^ 31 := hx.choose_spec.2.2.2
  have hev : (Term.length (.arg 0)).eval args s none [] s = some (.int xs.length.toInt32) := hx.length_eval hb
  have hv := Cond.le_ints hev (show (Term.int 2048).eval args s none [] s = some (.int 2048) from rfl)
  have hd : xs.length.toInt32 ≤ 2048 := by
    simpa [Cond.before, Cond.holds, hv] using hle
  have hN : xs.length ≤ 2048 := (Int32.ofNat_le_ofNat hsm (by decide)).mp (show Int32.ofNat xs.length ≤ Int32.ofNat 2048 from hd)
  exact ⟨b, xs, Cond.one_arg hc (show args[0]? = some (.ref b) from hb), hx, hN, h⟩
theorem lw_comes (l : Launch) (hfl : l.flags = flags0) : Comes l x (Jvm.Cond.code x code maxLocals ret :: tables_1) room_1 (fun tb e args s => Calls_1 tb e args s ∧ rest_1 tb e args s ∧ Pre_1 tb e args s)
    (fun _ _ args s o t => lw_Q args s o t) := by
  intro p e ha hc hk s m args below hf hfit hheap happ hpre
  obtain ⟨b, xs, hP⟩ := lw_pre_spec hpre.2.2 hpre.2.1
  obtain ⟨k, o, h1, h2, h3, hQ⟩ := lw_walk l hfl b xs p e ha hc hk s m args below hf ((Spec.applies_iff_loose hf).mp happ).1 hP trivial
  exact ⟨k, o, h1, h2, h3, hQ⟩
theorem lw_frame {s t : State} {o : Outcome} {args : Array Value} (h : Framed s o t [] 601024 7293034) :
    Framed s o t (fieldLocs frame_1_writes args s ++ arrayLocs frame_1_arrays args s ++ staticLocs frame_1_statics s) 601024 7293034 := h
theorem lw_limb (L : Cond) (hL : ∀ (args : Array Value) (s t : State), L.after args s (.returned (some (.int 1))) t = true) :
    ArmFor flags0 classFile x code maxLocals ret World_1 tables_1 room_1 Calls_1 rest_1 Pre_1
      (fun tb e a s o t => postC L tb e a s o t ∧ Framed s o t (fieldLocs frame_1_writes a s ++ arrayLocs frame_1_arrays a s ++ staticLocs frame_1_statics s) 601024 7293034) := by
  intro l hfl _ _ p e ha hc hk s m args below hf hfit hheap happ hpre
  obtain ⟨k, o, h1, h2, h3, rfl, hF⟩ := lw_comes l hfl p e ha hc hk s m args below hf hfit hheap happ hpre
  exact ⟨k, _, h1, h2, h3, hL args s _, lw_frame hF⟩
theorem i_vc : Claimed_1_1 ∧ Claimed_1_2 := ⟨lw_limb limb_1_1 (fun args s t => by simp [limb_1_1, Cond.after, Cond.holds, Cond.value]), lw_limb limb_1_2 (fun args s t => Cond.after_iff.mpr (by
  first | (rw [show limb_1_2 = Cond.eq .result (.int 1) from rfl, Cond.eq_ints (x := 1) (y := 1) rfl rfl]; simp; done) | (simp [limb_1_2, Cond.value, Term.eval]; done)))⟩
