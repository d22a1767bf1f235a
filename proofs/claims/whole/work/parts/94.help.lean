/-! THE LAW'S HELPERS: a call, what it throws caught -/
theorem tab_eq {l : List ExceptionTableEntry} {hh : List (Nat × Nat × Nat × Nat)} (h : l.map (fun h => (h.startPc, h.endPc, h.handlerPc, h.catchType)) = hh) : l = hh.map (fun q => ⟨q.1, q.2.1, q.2.2.1, q.2.2.2⟩) := by
  subst h
  rw [List.map_map]
  exact (List.map_id l).symm
theorem asg_self {vm : Vm} {c : ClassId} : vm.assignable c c = true := by
  show vm.assignableAux (255 + 1) c c = true
  rw [Vm.assignableAux]; simp
theorem fw_hit {e : Env} {s0 : State} {f : JFrame} {a : Addr} {cell : Cell} {x : ExceptionTableEntry} {t : List ExceptionTableEntry} {args : Array Value} (hpl : e.platform.magicAccessors = ({} : Platform).magicAccessors) {own C : String} (hown : s0.vm.findClass own = some f.method.cls) (hx : covers x f.pc = true) (h0 : x.catchType ≠ 0)
    (hl : (Cond.classLink own x.catchType C).before args s0 = true) (hv : cell.vm = .none) (hC : s0.vm.findClass C = some cell.cls) : FW e s0 f a cell (x :: t) (.found x.handlerPc) :=
  fw_step hpl hown hx h0 hl (by rw [hv]; rfl) hC (Or.inl ⟨_, hC, asg_self, rfl⟩)
theorem fw_pass {e : Env} {s0 : State} {f : JFrame} {a : Addr} {cell : Cell} {x : ExceptionTableEntry} {t : List ExceptionTableEntry} {h : Handler} {args : Array Value} (hpl : e.platform.magicAccessors = ({} : Platform).magicAccessors) {own C X : String} (hown : s0.vm.findClass own = some f.method.cls) (hx : covers x f.pc = true) (h0 : x.catchType ≠ 0)
    (hl : (Cond.classLink own x.catchType C).before args s0 = true) (hv : cell.vm = .none) (hX : s0.vm.findClass X = some cell.cls) (hnc : va_Nc X C s0) (next : FW e s0 f a cell t h) : FW e s0 f a cell (x :: t) h := by
  obtain ⟨c, t1, h1, h2, h3⟩ := hnc
  cases hX.symm.trans h1
  exact fw_step hpl hown hx h0 hl (by rw [hv]; rfl) hX (Or.inr ⟨t1, h2, h3, next⟩)
def NCx (U : State) : Prop := va_Nc (ecl 1) (ecl 0) U ∧ va_Nc (ecl 2) (ecl 0) U ∧ va_Nc (ecl 2) (ecl 1) U
theorem NCx.moved {u U : State} (hvm : u.vm.Alike U.vm) (h : NCx u) : NCx U := ⟨h.1.moved hvm, h.2.1.moved hvm, h.2.2.moved hvm⟩
def wdO (ao : Nat) (Y : Nat → ClassId) (o : Nat → Int64) : va_W := [(ao, .inl (Y 0, 1, .inr (.inl o)))]
def wdH (G : Nat → Nat) (Y : Nat → ClassId) (ao : Nat) (q : SM × (Nat → Int64)) : va_W := wdC G Y q.1 ++ wdO ao Y q.2
def wzH (y : MethodName) (b : ByteArray) (n : Nat) (hh : List (Nat × Nat × Nat × Nat)) : List Cond := .codeWith y b n (some .int) hh :: tbG
def KH (l : Launch) (D : va_G) (G : Nat → Nat) (Y : Nat → ClassId) (ao : Nat) (y : MethodName) (b : ByteArray) (n : Nat) (hh : List (Nat × Nat × Nat × Nat)) (fr lo : Nat) (av : List Value) (q : SM × (Nat → Int64)) (k : Int32) (q' : SM × (Nat → Int64)) : Prop :=
  ∀ sz B : Nat, Met l y (wzH y b n hh) (tRm fr lo) (va_Pc av (fun U => kPcT D clz (tyz Y) (wdH G Y ao) q sz B U ∧ NCx U)) (va_Qi (fun r' v => r' = k ∧ v = q') (kB D clz (tyz Y) (wdH G Y ao) q sz) (va_A (wdH G Y ao q) sz)) 1 6 (va_A (wdH G Y ao q) sz)
theorem mkH {l : Launch} {D : va_G} {G : Nat → Nat} {Y : Nat → ClassId} {ao : Nat} {y : MethodName} {b : ByteArray} {n : Nat} {hh : List (Nat × Nat × Nat × Nat)} {fr lo : Nat} {av : List Value} {q : SM × (Nat → Int64)} {k : Int32} {q' : SM × (Nat → Int64)} (hy : plainName y.cls = true) (hn : (lg_sl av).length ≤ n)
    (body : ∀ (p : Program) (e : Env) (s : State) (m : MethodId) (below : List Frame) (meth : Method) (c : Code) (A : Nat → Prop) (Z : State → Prop) (ls : Array Slot) (B : Nat), Ctx l D clz (tyz Y) y.cls b n av p s m c A → va_P D clz (wdH G Y ao q) s.heap → va_D A (wdH G Y ao q) → va_S A s.heap s.heap [] → lv_has ls n (lv_args 0 av) →
      SZ B s s.heap → (∀ z : Nat, z < s.heap.size → A z → B ≤ z) → B ≤ s.heap.size → NCx s → c.exceptionTable.toList = hh.map (fun q => ⟨q.1, q.2.1, q.2.2.1, q.2.2.2⟩) → e.platform.magicAccessors = ({} : Platform).magicAccessors →
      (∀ (H : Heap) (locs : List Loc) (cells slots pc : Nat) (ls : Array Slot), cells ≤ 1 → slots ≤ 6 → va_P D clz (wdH G Y ao q') H → va_D A (wdH G Y ao q') → va_S A s.heap H locs → decode b pc = .ok (.ireturn, 1) → W p l e (tRm fr lo) s m av.toArray below meth c H locs cells slots Z (F0 m pc ls [.int k])) →
      W p l e (tRm fr lo) s m av.toArray below meth c s.heap [] 0 0 Z (F0 m 0 ls [])) : KH l D G Y ao y b n hh fr lo av q k q' := by
  intro sz B
  refine va_MetW (cc := b) (maxL := n) (ret := some .int) (hh := hh) hy rfl ?_
  intro p e s m args below meth c s₁ B0 hml hv
  obtain ⟨rfl, ⟨⟨hsz, hP, hK, hD0, hN⟩, hSZ, hDB, hBs⟩, hNC⟩ := hv
  have hts := atoms_spec (ws := wzH y b n hh) B0.pre
  have hlocks := B0.notSynchronized
  subst hsz
  have hD := hD0.self (sz := s.heap.size)
  have X₀ : Stand p l e (tRm fr lo) s m av.toArray below meth c s₁ [] 0 0 := Stand.of_body B0
  have htab : c.exceptionTable.toList = hh.map (fun q => ⟨q.1, q.2.1, q.2.2.1, q.2.2.2⟩) := by
    obtain ⟨m9, meth9, c9, hn9, h1, h2, -, -, h3, -⟩ := Cond.codeWith_spec (hts _ List.mem_cons_self)
    cases B0.named.symm.trans hn9
    cases h1.symm.trans X₀.method
    cases h2.symm.trans X₀.code
    exact tab_eq h3
  rw [lg_entry_eq]
  refine body p e s m below meth c (va_A (wdH G Y ao q) s.heap.size) _ _ B ⟨B0.exec, B0.bytes, hml, findClass_of_methodNamed B0.named, fun w h => hts w (List.mem_cons_of_mem _ h), hK, hN, fun q h => Or.inr h⟩ hP hD va_S.rf (lv_entry av hn) hSZ ?_ hBs hNC htab (by rw [X₀.admits.platform]) ?_
  · rintro z hz (⟨k2, e2, h2⟩ | h2)
    · exact hDB.2 k2 _ h2
    · omega
  · intro H locs cells slots pc ls hc hs hP' hD' hS' hdg T hT X
    have K : W p l e (tRm fr lo) s m av.toArray below meth c H locs 1 6 (MQ below (va_Qi (fun r' v => r' = k ∧ v = q') (kB D clz (tyz Y) (wdH G Y ao) q s.heap.size) (va_A (wdH G Y ao q) s.heap.size)) av.toArray s 1 6 (va_A (wdH G Y ao q) s.heap.size)) (F0 m pc ls [.int k]) :=
      W.iret (v := k) B0.exec B0.bytes B0.returns (fun t ht hW => ⟨⟨k, q', rfl, ⟨rfl, rfl⟩, by rw [ht]; exact hP', va_K.moved hW.alike hK, hD'⟩, hS'.F ht⟩) hS'.2.2 hdg
    exact K T hT (stand_widen X hc hs)
abbrev b_Law_put : ByteArray := method_3_code
def y_Law_put : MethodName := ⟨"FirmStoreLaw", "put", "(LFirmStore;III[J)I"⟩
def hh_put : List (Nat × Nat × Nat × Nat) := [(0, 12, 15, 13), (0, 12, 19, 15)]
theorem d_Law_put_0 : decode b_Law_put 0 = .ok (.aload 4, 2) := by decide +kernel
theorem d_Law_put_2 : decode b_Law_put 2 = .ok (.iconst 0, 1) := by decide +kernel
theorem d_Law_put_3 : decode b_Law_put 3 = .ok (.aload_n 0, 1) := by decide +kernel
theorem d_Law_put_4 : decode b_Law_put 4 = .ok (.iload_n 1, 1) := by decide +kernel
theorem d_Law_put_5 : decode b_Law_put 5 = .ok (.iload_n 2, 1) := by decide +kernel
theorem d_Law_put_6 : decode b_Law_put 6 = .ok (.iload_n 3, 1) := by decide +kernel
theorem d_Law_put_7 : decode b_Law_put 7 = .ok (.invokevirtual 7, 3) := by decide +kernel
theorem d_Law_put_10 : decode b_Law_put 10 = .ok (.i2l, 1) := by decide +kernel
theorem d_Law_put_11 : decode b_Law_put 11 = .ok (.lastore, 1) := by decide +kernel
theorem d_Law_put_12 : decode b_Law_put 12 = .ok (.goto 11, 3) := by decide +kernel
theorem d_Law_put_15 : decode b_Law_put 15 = .ok (.astore 5, 2) := by decide +kernel
theorem d_Law_put_17 : decode b_Law_put 17 = .ok (.iconst 1, 1) := by decide +kernel
theorem d_Law_put_18 : decode b_Law_put 18 = .ok (.ireturn, 1) := by decide +kernel
theorem d_Law_put_19 : decode b_Law_put 19 = .ok (.astore 5, 2) := by decide +kernel
theorem d_Law_put_21 : decode b_Law_put 21 = .ok (.iconst 2, 1) := by decide +kernel
theorem d_Law_put_22 : decode b_Law_put 22 = .ok (.ireturn, 1) := by decide +kernel
theorem d_Law_put_23 : decode b_Law_put 23 = .ok (.iconst 0, 1) := by decide +kernel
theorem d_Law_put_24 : decode b_Law_put 24 = .ok (.ireturn, 1) := by decide +kernel
abbrev b_Law_remove : ByteArray := method_4_code
def y_Law_remove : MethodName := ⟨"FirmStoreLaw", "remove", "(LFirmStore;II[J)I"⟩
def hh_remove : List (Nat × Nat × Nat × Nat) := [(0, 10, 13, 13), (0, 10, 17, 15), (0, 10, 21, 21)]
theorem d_Law_remove_0 : decode b_Law_remove 0 = .ok (.aload_n 3, 1) := by decide +kernel
theorem d_Law_remove_1 : decode b_Law_remove 1 = .ok (.iconst 0, 1) := by decide +kernel
theorem d_Law_remove_2 : decode b_Law_remove 2 = .ok (.aload_n 0, 1) := by decide +kernel
theorem d_Law_remove_3 : decode b_Law_remove 3 = .ok (.iload_n 1, 1) := by decide +kernel
theorem d_Law_remove_4 : decode b_Law_remove 4 = .ok (.iload_n 2, 1) := by decide +kernel
theorem d_Law_remove_5 : decode b_Law_remove 5 = .ok (.invokevirtual 17, 3) := by decide +kernel
theorem d_Law_remove_8 : decode b_Law_remove 8 = .ok (.i2l, 1) := by decide +kernel
theorem d_Law_remove_9 : decode b_Law_remove 9 = .ok (.lastore, 1) := by decide +kernel
theorem d_Law_remove_10 : decode b_Law_remove 10 = .ok (.goto 15, 3) := by decide +kernel
theorem d_Law_remove_13 : decode b_Law_remove 13 = .ok (.astore 4, 2) := by decide +kernel
theorem d_Law_remove_15 : decode b_Law_remove 15 = .ok (.iconst 1, 1) := by decide +kernel
theorem d_Law_remove_16 : decode b_Law_remove 16 = .ok (.ireturn, 1) := by decide +kernel
theorem d_Law_remove_17 : decode b_Law_remove 17 = .ok (.astore 4, 2) := by decide +kernel
theorem d_Law_remove_19 : decode b_Law_remove 19 = .ok (.iconst 2, 1) := by decide +kernel
theorem d_Law_remove_20 : decode b_Law_remove 20 = .ok (.ireturn, 1) := by decide +kernel
theorem d_Law_remove_21 : decode b_Law_remove 21 = .ok (.astore 4, 2) := by decide +kernel
theorem d_Law_remove_23 : decode b_Law_remove 23 = .ok (.iconst 3, 1) := by decide +kernel
theorem d_Law_remove_24 : decode b_Law_remove 24 = .ok (.ireturn, 1) := by decide +kernel
theorem d_Law_remove_25 : decode b_Law_remove 25 = .ok (.iconst 0, 1) := by decide +kernel
theorem d_Law_remove_26 : decode b_Law_remove 26 = .ok (.ireturn, 1) := by decide +kernel
abbrev b_Law_get : ByteArray := method_5_code
def y_Law_get : MethodName := ⟨"FirmStoreLaw", "get", "(LFirmStore;II[J)I"⟩
def hh_get : List (Nat × Nat × Nat × Nat) := [(0, 10, 13, 13), (0, 10, 17, 21)]
theorem d_Law_get_0 : decode b_Law_get 0 = .ok (.aload_n 3, 1) := by decide +kernel
theorem d_Law_get_1 : decode b_Law_get 1 = .ok (.iconst 0, 1) := by decide +kernel
theorem d_Law_get_2 : decode b_Law_get 2 = .ok (.aload_n 0, 1) := by decide +kernel
theorem d_Law_get_3 : decode b_Law_get 3 = .ok (.iload_n 1, 1) := by decide +kernel
theorem d_Law_get_4 : decode b_Law_get 4 = .ok (.iload_n 2, 1) := by decide +kernel
theorem d_Law_get_5 : decode b_Law_get 5 = .ok (.invokevirtual 23, 3) := by decide +kernel
theorem d_Law_get_8 : decode b_Law_get 8 = .ok (.i2l, 1) := by decide +kernel
theorem d_Law_get_9 : decode b_Law_get 9 = .ok (.lastore, 1) := by decide +kernel
theorem d_Law_get_10 : decode b_Law_get 10 = .ok (.goto 11, 3) := by decide +kernel
theorem d_Law_get_13 : decode b_Law_get 13 = .ok (.astore 4, 2) := by decide +kernel
theorem d_Law_get_15 : decode b_Law_get 15 = .ok (.iconst 1, 1) := by decide +kernel
theorem d_Law_get_16 : decode b_Law_get 16 = .ok (.ireturn, 1) := by decide +kernel
theorem d_Law_get_17 : decode b_Law_get 17 = .ok (.astore 4, 2) := by decide +kernel
theorem d_Law_get_19 : decode b_Law_get 19 = .ok (.iconst 2, 1) := by decide +kernel
theorem d_Law_get_20 : decode b_Law_get 20 = .ok (.ireturn, 1) := by decide +kernel
theorem d_Law_get_21 : decode b_Law_get 21 = .ok (.iconst 0, 1) := by decide +kernel
theorem d_Law_get_22 : decode b_Law_get 22 = .ok (.ireturn, 1) := by decide +kernel
abbrev b_Law_from : ByteArray := method_6_code
def y_Law_from : MethodName := ⟨"FirmStoreLaw", "from", "(LFirmStore;I[J)I"⟩
def hh_from : List (Nat × Nat × Nat × Nat) := [(0, 9, 12, 13), (0, 9, 15, 21)]
theorem d_Law_from_0 : decode b_Law_from 0 = .ok (.aload_n 2, 1) := by decide +kernel
theorem d_Law_from_1 : decode b_Law_from 1 = .ok (.iconst 0, 1) := by decide +kernel
theorem d_Law_from_2 : decode b_Law_from 2 = .ok (.aload_n 0, 1) := by decide +kernel
theorem d_Law_from_3 : decode b_Law_from 3 = .ok (.iload_n 1, 1) := by decide +kernel
theorem d_Law_from_4 : decode b_Law_from 4 = .ok (.invokevirtual 26, 3) := by decide +kernel
theorem d_Law_from_7 : decode b_Law_from 7 = .ok (.i2l, 1) := by decide +kernel
theorem d_Law_from_8 : decode b_Law_from 8 = .ok (.lastore, 1) := by decide +kernel
theorem d_Law_from_9 : decode b_Law_from 9 = .ok (.goto 9, 3) := by decide +kernel
theorem d_Law_from_12 : decode b_Law_from 12 = .ok (.astore_n 3, 1) := by decide +kernel
theorem d_Law_from_13 : decode b_Law_from 13 = .ok (.iconst 1, 1) := by decide +kernel
theorem d_Law_from_14 : decode b_Law_from 14 = .ok (.ireturn, 1) := by decide +kernel
theorem d_Law_from_15 : decode b_Law_from 15 = .ok (.astore_n 3, 1) := by decide +kernel
theorem d_Law_from_16 : decode b_Law_from 16 = .ok (.iconst 2, 1) := by decide +kernel
theorem d_Law_from_17 : decode b_Law_from 17 = .ok (.ireturn, 1) := by decide +kernel
theorem d_Law_from_18 : decode b_Law_from 18 = .ok (.iconst 0, 1) := by decide +kernel
theorem d_Law_from_19 : decode b_Law_from 19 = .ok (.ireturn, 1) := by decide +kernel
abbrev b_Law_recover : ByteArray := method_7_code
def y_Law_recover : MethodName := ⟨"FirmStoreLaw", "recover", "(LFirmStore;[J)I"⟩
def hh_recover : List (Nat × Nat × Nat × Nat) := [(0, 8, 11, 15)]
theorem d_Law_recover_0 : decode b_Law_recover 0 = .ok (.aload_n 1, 1) := by decide +kernel
theorem d_Law_recover_1 : decode b_Law_recover 1 = .ok (.iconst 0, 1) := by decide +kernel
theorem d_Law_recover_2 : decode b_Law_recover 2 = .ok (.aload_n 0, 1) := by decide +kernel
theorem d_Law_recover_3 : decode b_Law_recover 3 = .ok (.invokevirtual 30, 3) := by decide +kernel
theorem d_Law_recover_6 : decode b_Law_recover 6 = .ok (.i2l, 1) := by decide +kernel
theorem d_Law_recover_7 : decode b_Law_recover 7 = .ok (.lastore, 1) := by decide +kernel
theorem d_Law_recover_8 : decode b_Law_recover 8 = .ok (.goto 6, 3) := by decide +kernel
theorem d_Law_recover_11 : decode b_Law_recover 11 = .ok (.astore_n 2, 1) := by decide +kernel
theorem d_Law_recover_12 : decode b_Law_recover 12 = .ok (.iconst 1, 1) := by decide +kernel
theorem d_Law_recover_13 : decode b_Law_recover 13 = .ok (.ireturn, 1) := by decide +kernel
theorem d_Law_recover_14 : decode b_Law_recover 14 = .ok (.iconst 0, 1) := by decide +kernel
theorem d_Law_recover_15 : decode b_Law_recover 15 = .ok (.ireturn, 1) := by decide +kernel
theorem q_243 : (Jvm.Cond.classLink "FirmStoreLaw" (13 : Nat) "java/lang/IllegalArgumentException") ∈ tbG := tbG_in (List.mem_of_getElem? (i := 303) (by decide +kernel)) rfl
theorem q_244 : (Jvm.Cond.classLink "FirmStoreLaw" (15 : Nat) "java/lang/IllegalStateException") ∈ tbG := tbG_in (List.mem_of_getElem? (i := 304) (by decide +kernel)) rfl
theorem q_245 : (Jvm.Cond.methodLink "FirmStoreLaw" (7 : Nat) ({ cls := "FirmStore", name := "put", desc := "(III)I" } : Jvm.MethodName)) ∈ tbG := tbG_in (List.mem_of_getElem? (i := 305) (by decide +kernel)) rfl
theorem q_246 : (Jvm.Cond.instanceMethod ({ cls := "FirmStore", name := "put", desc := "(III)I" } : Jvm.MethodName)) ∈ tbG := tbG_in (List.mem_of_getElem? (i := 306) (by decide +kernel)) rfl
theorem q_247 : (Jvm.Cond.selects "FirmStore" ({ cls := "FirmStore", name := "put", desc := "(III)I" } : Jvm.MethodName) ({ cls := "FirmStore", name := "put", desc := "(III)I" } : Jvm.MethodName)) ∈ tbG := tbG_in (List.mem_of_getElem? (i := 307) (by decide +kernel)) rfl
theorem q_248 : (Jvm.Cond.code ({ cls := "FirmStore", name := "put", desc := "(III)I" } : Jvm.MethodName) prog_1_method_2_code (4 : Nat) (Option.some Jvm.ClassFile.FieldType.int)) ∈ tbG := tbG_in (List.mem_of_getElem? (i := 308) (by decide +kernel)) rfl
theorem q_442 : (Jvm.Cond.classLink "FirmStoreLaw" (21 : Nat) "java/util/NoSuchElementException") ∈ tbG := tbG_in (List.mem_of_getElem? (i := 502) (by decide +kernel)) rfl
theorem q_443 : (Jvm.Cond.methodLink "FirmStoreLaw" (17 : Nat) ({ cls := "FirmStore", name := "remove", desc := "(II)I" } : Jvm.MethodName)) ∈ tbG := tbG_in (List.mem_of_getElem? (i := 503) (by decide +kernel)) rfl
theorem q_444 : (Jvm.Cond.instanceMethod ({ cls := "FirmStore", name := "remove", desc := "(II)I" } : Jvm.MethodName)) ∈ tbG := tbG_in (List.mem_of_getElem? (i := 504) (by decide +kernel)) rfl
theorem q_445 : (Jvm.Cond.selects "FirmStore" ({ cls := "FirmStore", name := "remove", desc := "(II)I" } : Jvm.MethodName) ({ cls := "FirmStore", name := "remove", desc := "(II)I" } : Jvm.MethodName)) ∈ tbG := tbG_in (List.mem_of_getElem? (i := 505) (by decide +kernel)) rfl
theorem q_446 : (Jvm.Cond.code ({ cls := "FirmStore", name := "remove", desc := "(II)I" } : Jvm.MethodName) prog_1_method_3_code (5 : Nat) (Option.some Jvm.ClassFile.FieldType.int)) ∈ tbG := tbG_in (List.mem_of_getElem? (i := 506) (by decide +kernel)) rfl
theorem q_480 : (Jvm.Cond.methodLink "FirmStoreLaw" (23 : Nat) ({ cls := "FirmStore", name := "get", desc := "(II)I" } : Jvm.MethodName)) ∈ tbG := tbG_in (List.mem_of_getElem? (i := 540) (by decide +kernel)) rfl
theorem q_481 : (Jvm.Cond.instanceMethod ({ cls := "FirmStore", name := "get", desc := "(II)I" } : Jvm.MethodName)) ∈ tbG := tbG_in (List.mem_of_getElem? (i := 541) (by decide +kernel)) rfl
theorem q_482 : (Jvm.Cond.selects "FirmStore" ({ cls := "FirmStore", name := "get", desc := "(II)I" } : Jvm.MethodName) ({ cls := "FirmStore", name := "get", desc := "(II)I" } : Jvm.MethodName)) ∈ tbG := tbG_in (List.mem_of_getElem? (i := 542) (by decide +kernel)) rfl
theorem q_483 : (Jvm.Cond.code ({ cls := "FirmStore", name := "get", desc := "(II)I" } : Jvm.MethodName) prog_1_method_4_code (4 : Nat) (Option.some Jvm.ClassFile.FieldType.int)) ∈ tbG := tbG_in (List.mem_of_getElem? (i := 543) (by decide +kernel)) rfl
theorem q_488 : (Jvm.Cond.methodLink "FirmStoreLaw" (26 : Nat) ({ cls := "FirmStore", name := "from", desc := "(I)I" } : Jvm.MethodName)) ∈ tbG := tbG_in (List.mem_of_getElem? (i := 548) (by decide +kernel)) rfl
theorem q_489 : (Jvm.Cond.instanceMethod ({ cls := "FirmStore", name := "from", desc := "(I)I" } : Jvm.MethodName)) ∈ tbG := tbG_in (List.mem_of_getElem? (i := 549) (by decide +kernel)) rfl
theorem q_490 : (Jvm.Cond.selects "FirmStore" ({ cls := "FirmStore", name := "from", desc := "(I)I" } : Jvm.MethodName) ({ cls := "FirmStore", name := "from", desc := "(I)I" } : Jvm.MethodName)) ∈ tbG := tbG_in (List.mem_of_getElem? (i := 550) (by decide +kernel)) rfl
theorem q_491 : (Jvm.Cond.code ({ cls := "FirmStore", name := "from", desc := "(I)I" } : Jvm.MethodName) prog_1_method_5_code (3 : Nat) (Option.some Jvm.ClassFile.FieldType.int)) ∈ tbG := tbG_in (List.mem_of_getElem? (i := 551) (by decide +kernel)) rfl
theorem q_499 : (Jvm.Cond.methodLink "FirmStoreLaw" (30 : Nat) ({ cls := "FirmStore", name := "recover", desc := "()I" } : Jvm.MethodName)) ∈ tbG := tbG_in (List.mem_of_getElem? (i := 559) (by decide +kernel)) rfl
theorem q_500 : (Jvm.Cond.instanceMethod ({ cls := "FirmStore", name := "recover", desc := "()I" } : Jvm.MethodName)) ∈ tbG := tbG_in (List.mem_of_getElem? (i := 560) (by decide +kernel)) rfl
theorem q_501 : (Jvm.Cond.selects "FirmStore" ({ cls := "FirmStore", name := "recover", desc := "()I" } : Jvm.MethodName) ({ cls := "FirmStore", name := "recover", desc := "()I" } : Jvm.MethodName)) ∈ tbG := tbG_in (List.mem_of_getElem? (i := 561) (by decide +kernel)) rfl
theorem q_502 : (Jvm.Cond.code ({ cls := "FirmStore", name := "recover", desc := "()I" } : Jvm.MethodName) prog_1_method_7_code (2 : Nat) (Option.some Jvm.ClassFile.FieldType.int)) ∈ tbG := tbG_in (List.mem_of_getElem? (i := 562) (by decide +kernel)) rfl
set_option maxRecDepth 100000 in
set_option maxHeartbeats 4000000 in
theorem h_put_ok (l : Launch) (hfl : l.flags = flags0) (D : va_G) (G : Nat → Nat) (Y : Nat → ClassId) (ao : Nat) {u : SM} {a1 : Int32} {a2 : Int32} {a3 : Int32} {r : Int32} {u' : SM} (o : Nat → Int64) (hm : m_Firm_put u a1 a2 a3 = some (.inl r, u')) : KH l D G Y ao y_Law_put b_Law_put 6 hh_put 48 1204 [.ref (G 0), .int a1, .int a2, .int a3, .ref ao] (u, o) 0 (u', vp_updL o (0 : Int32).toNatClampNeg r.toInt64) := by
  refine mkH (by decide) (Nat.le_of_ble_eq_true rfl) ?_
  intro p e s m below meth c A Z ls B C0 hP hD hS hl hSZ hAB hB hNC htab hpl hret
  obtain ⟨hx, hb, hml, hown, hts, hK, hN, hA⟩ := id C0
  have hl : lv_has ls 6 [(0, .ref (G 0)), (1, .int a1), (2, .int a2), (3, .int a3), (4, .ref ao)] := hl
  refine lv_aload hx hb d_Law_put_0 (lv_at hl 4 rfl) ?_
  refine lv_iconst (v := (0 : Int32)) hx hb d_Law_put_2 (by decide) ?_
  refine lv_aload_n hx hb d_Law_put_3 rfl (lv_at hl 0 rfl) ?_
  refine lv_iload_n hx hb d_Law_put_4 rfl (lv_at hl 1 rfl) ?_
  refine lv_iload_n hx hb d_Law_put_5 rfl (lv_at hl 2 rfl) ?_
  refine lv_iload_n hx hb d_Law_put_6 rfl (lv_at hl 3 rfl) ?_
  have hk : KI l D clz (tyz Y) (wdC G Y) y_Firm_put b_Firm_put 4 (some .int) 47 1181 (.ref (G 0) :: [.int a1, .int a2, .int a3]) u r u' := k_Firm_put l hfl D G Y hm
  refine sbVI (As := [.int a1, .int a2, .int a3]) (rest := [.int (0 : Int32), .ref ao]) (b0 := G 0) 0 (X := wdO ao Y o) C0 hk q_248 q_1 q_245 q_246 q_247 e_Firm_put ⟨by decide, by decide⟩ (Nat.zero_le _) (Nat.zero_le _) rfl rfl hP hD hS hl.1 rfl (Nat.le_of_ble_eq_true rfl) d_Law_put_7 (fun H locs hP hD hS => ?_)
  refine lv_i2l (v := (r.toInt64)) hx hb d_Law_put_10 rfl ?_
  refine va_last hx hb hK hP hD hS 8 0 (f := o) rfl rfl (inb_in rfl) d_Law_put_11 (fun H locs hP hD hS => ?_)
  have hP : va_P D clz (wdH G Y ao (u', vp_updL o (0 : Int32).toNatClampNeg r.toInt64)) H := hP
  have hD : va_D A (wdH G Y ao (u', vp_updL o (0 : Int32).toNatClampNeg r.toInt64)) := hD
  refine lv_goto (tgt := 23) hx hb d_Law_put_12 (by decide) ?_
  refine lv_iconst (v := (0 : Int32)) hx hb d_Law_put_23 (by decide) ?_
  exact hret _ _ 0 0 _ _ (by decide) (by decide) hP hD hS d_Law_put_24
set_option maxRecDepth 100000 in
set_option maxHeartbeats 4000000 in
theorem h_put_0 (l : Launch) (hfl : l.flags = flags0) (D : va_G) (G : Nat → Nat) (Y : Nat → ClassId) (ao : Nat) {u : SM} {a1 : Int32} {a2 : Int32} {a3 : Int32} {u' : SM} (o : Nat → Int64) (hm : m_Firm_put u a1 a2 a3 = some (.inr 0, u')) : KH l D G Y ao y_Law_put b_Law_put 6 hh_put 48 1204 [.ref (G 0), .int a1, .int a2, .int a3, .ref ao] (u, o) 1 (u', o) := by
  refine mkH (by decide) (Nat.le_of_ble_eq_true rfl) ?_
  intro p e s m below meth c A Z ls B C0 hP hD hS hl hSZ hAB hB hNC htab hpl hret
  obtain ⟨hx, hb, hml, hown, hts, hK, hN, hA⟩ := id C0
  have hl : lv_has ls 6 [(0, .ref (G 0)), (1, .int a1), (2, .int a2), (3, .int a3), (4, .ref ao)] := hl
  refine lv_aload hx hb d_Law_put_0 (lv_at hl 4 rfl) ?_
  refine lv_iconst (v := (0 : Int32)) hx hb d_Law_put_2 (by decide) ?_
  refine lv_aload_n hx hb d_Law_put_3 rfl (lv_at hl 0 rfl) ?_
  refine lv_iload_n hx hb d_Law_put_4 rfl (lv_at hl 1 rfl) ?_
  refine lv_iload_n hx hb d_Law_put_5 rfl (lv_at hl 2 rfl) ?_
  refine lv_iload_n hx hb d_Law_put_6 rfl (lv_at hl 3 rfl) ?_
  have hk : KT l D clz (tyz Y) (wdC G Y) y_Firm_put b_Firm_put 4 (some .int) 47 1181 (.ref (G 0) :: [.int a1, .int a2, .int a3]) u 0 u' := k_Firm_put l hfl D G Y hm
  refine sbT (As := [.int a1, .int a2, .int a3]) (rest := [.int (0 : Int32), .ref ao]) (b0 := G 0) 0 (X := wdO ao Y o) (B := B) (hp := 15) C0 hk q_248 q_1 q_245 q_246 q_247 e_Firm_put ⟨by decide, by decide⟩ (by decide) (by decide) rfl rfl hP hD hS hl.1 rfl (Nat.le_of_ble_eq_true rfl) d_Law_put_7 hSZ hAB hB ?_ (fun x H locs hP hD hS => ?_)
  · intro x ce hcv hcc
    rw [htab]
    exact fw_hit (C := ecl 0) hpl hown rfl (by decide) (hts _ q_243) hcv hcc
  · refine lv_astore (lv' := [(5, .ref x), (0, .ref (G 0)), (1, .int a1), (2, .int a2), (3, .int a3), (4, .ref ao)]) hx hb d_Law_put_15 hl (by decide) rfl (fun ls hl => ?_)
    refine lv_iconst (v := (1 : Int32)) hx hb d_Law_put_17 (by decide) ?_
    exact hret _ _ (0 + 1) (0 + 6) _ _ (by decide) (by decide) hP hD hS d_Law_put_18
set_option maxRecDepth 100000 in
set_option maxHeartbeats 4000000 in
theorem h_put_1 (l : Launch) (hfl : l.flags = flags0) (D : va_G) (G : Nat → Nat) (Y : Nat → ClassId) (ao : Nat) {u : SM} {a1 : Int32} {a2 : Int32} {a3 : Int32} {u' : SM} (o : Nat → Int64) (hm : m_Firm_put u a1 a2 a3 = some (.inr 1, u')) : KH l D G Y ao y_Law_put b_Law_put 6 hh_put 48 1204 [.ref (G 0), .int a1, .int a2, .int a3, .ref ao] (u, o) 2 (u', o) := by
  refine mkH (by decide) (Nat.le_of_ble_eq_true rfl) ?_
  intro p e s m below meth c A Z ls B C0 hP hD hS hl hSZ hAB hB hNC htab hpl hret
  obtain ⟨hx, hb, hml, hown, hts, hK, hN, hA⟩ := id C0
  have hl : lv_has ls 6 [(0, .ref (G 0)), (1, .int a1), (2, .int a2), (3, .int a3), (4, .ref ao)] := hl
  refine lv_aload hx hb d_Law_put_0 (lv_at hl 4 rfl) ?_
  refine lv_iconst (v := (0 : Int32)) hx hb d_Law_put_2 (by decide) ?_
  refine lv_aload_n hx hb d_Law_put_3 rfl (lv_at hl 0 rfl) ?_
  refine lv_iload_n hx hb d_Law_put_4 rfl (lv_at hl 1 rfl) ?_
  refine lv_iload_n hx hb d_Law_put_5 rfl (lv_at hl 2 rfl) ?_
  refine lv_iload_n hx hb d_Law_put_6 rfl (lv_at hl 3 rfl) ?_
  have hk : KT l D clz (tyz Y) (wdC G Y) y_Firm_put b_Firm_put 4 (some .int) 47 1181 (.ref (G 0) :: [.int a1, .int a2, .int a3]) u 1 u' := k_Firm_put l hfl D G Y hm
  refine sbT (As := [.int a1, .int a2, .int a3]) (rest := [.int (0 : Int32), .ref ao]) (b0 := G 0) 0 (X := wdO ao Y o) (B := B) (hp := 19) C0 hk q_248 q_1 q_245 q_246 q_247 e_Firm_put ⟨by decide, by decide⟩ (by decide) (by decide) rfl rfl hP hD hS hl.1 rfl (Nat.le_of_ble_eq_true rfl) d_Law_put_7 hSZ hAB hB ?_ (fun x H locs hP hD hS => ?_)
  · intro x ce hcv hcc
    rw [htab]
    exact fw_pass (C := ecl 0) (X := ecl 1) hpl hown rfl (by decide) (hts _ q_243) hcv hcc hNC.1 (fw_hit (C := ecl 1) hpl hown rfl (by decide) (hts _ q_244) hcv hcc)
  · refine lv_astore (lv' := [(5, .ref x), (0, .ref (G 0)), (1, .int a1), (2, .int a2), (3, .int a3), (4, .ref ao)]) hx hb d_Law_put_19 hl (by decide) rfl (fun ls hl => ?_)
    refine lv_iconst (v := (2 : Int32)) hx hb d_Law_put_21 (by decide) ?_
    exact hret _ _ (0 + 1) (0 + 6) _ _ (by decide) (by decide) hP hD hS d_Law_put_22
set_option maxRecDepth 100000 in
set_option maxHeartbeats 4000000 in
theorem h_remove_ok (l : Launch) (hfl : l.flags = flags0) (D : va_G) (G : Nat → Nat) (Y : Nat → ClassId) (ao : Nat) {u : SM} {a1 : Int32} {a2 : Int32} {r : Int32} {u' : SM} (o : Nat → Int64) (hm : m_Firm_remove u a1 a2 = some (.inl r, u')) : KH l D G Y ao y_Law_remove b_Law_remove 5 hh_remove 8 184 [.ref (G 0), .int a1, .int a2, .ref ao] (u, o) 0 (u', vp_updL o (0 : Int32).toNatClampNeg r.toInt64) := by
  refine mkH (by decide) (Nat.le_of_ble_eq_true rfl) ?_
  intro p e s m below meth c A Z ls B C0 hP hD hS hl hSZ hAB hB hNC htab hpl hret
  obtain ⟨hx, hb, hml, hown, hts, hK, hN, hA⟩ := id C0
  have hl : lv_has ls 5 [(0, .ref (G 0)), (1, .int a1), (2, .int a2), (3, .ref ao)] := hl
  refine lv_aload_n hx hb d_Law_remove_0 rfl (lv_at hl 3 rfl) ?_
  refine lv_iconst (v := (0 : Int32)) hx hb d_Law_remove_1 (by decide) ?_
  refine lv_aload_n hx hb d_Law_remove_2 rfl (lv_at hl 0 rfl) ?_
  refine lv_iload_n hx hb d_Law_remove_3 rfl (lv_at hl 1 rfl) ?_
  refine lv_iload_n hx hb d_Law_remove_4 rfl (lv_at hl 2 rfl) ?_
  have hk : KI l D clz (tyz Y) (wdC G Y) y_Firm_remove b_Firm_remove 5 (some .int) 7 160 (.ref (G 0) :: [.int a1, .int a2]) u r u' := k_Firm_remove l hfl D G Y hm
  refine sbVI (As := [.int a1, .int a2]) (rest := [.int (0 : Int32), .ref ao]) (b0 := G 0) 0 (X := wdO ao Y o) C0 hk q_446 q_1 q_443 q_444 q_445 e_Firm_remove ⟨by decide, by decide⟩ (Nat.zero_le _) (Nat.zero_le _) rfl rfl hP hD hS hl.1 rfl (Nat.le_of_ble_eq_true rfl) d_Law_remove_5 (fun H locs hP hD hS => ?_)
  refine lv_i2l (v := (r.toInt64)) hx hb d_Law_remove_8 rfl ?_
  refine va_last hx hb hK hP hD hS 8 0 (f := o) rfl rfl (inb_in rfl) d_Law_remove_9 (fun H locs hP hD hS => ?_)
  have hP : va_P D clz (wdH G Y ao (u', vp_updL o (0 : Int32).toNatClampNeg r.toInt64)) H := hP
  have hD : va_D A (wdH G Y ao (u', vp_updL o (0 : Int32).toNatClampNeg r.toInt64)) := hD
  refine lv_goto (tgt := 25) hx hb d_Law_remove_10 (by decide) ?_
  refine lv_iconst (v := (0 : Int32)) hx hb d_Law_remove_25 (by decide) ?_
  exact hret _ _ 0 0 _ _ (by decide) (by decide) hP hD hS d_Law_remove_26
set_option maxRecDepth 100000 in
set_option maxHeartbeats 4000000 in
theorem h_remove_0 (l : Launch) (hfl : l.flags = flags0) (D : va_G) (G : Nat → Nat) (Y : Nat → ClassId) (ao : Nat) {u : SM} {a1 : Int32} {a2 : Int32} {u' : SM} (o : Nat → Int64) (hm : m_Firm_remove u a1 a2 = some (.inr 0, u')) : KH l D G Y ao y_Law_remove b_Law_remove 5 hh_remove 8 184 [.ref (G 0), .int a1, .int a2, .ref ao] (u, o) 1 (u', o) := by
  refine mkH (by decide) (Nat.le_of_ble_eq_true rfl) ?_
  intro p e s m below meth c A Z ls B C0 hP hD hS hl hSZ hAB hB hNC htab hpl hret
  obtain ⟨hx, hb, hml, hown, hts, hK, hN, hA⟩ := id C0
  have hl : lv_has ls 5 [(0, .ref (G 0)), (1, .int a1), (2, .int a2), (3, .ref ao)] := hl
  refine lv_aload_n hx hb d_Law_remove_0 rfl (lv_at hl 3 rfl) ?_
  refine lv_iconst (v := (0 : Int32)) hx hb d_Law_remove_1 (by decide) ?_
  refine lv_aload_n hx hb d_Law_remove_2 rfl (lv_at hl 0 rfl) ?_
  refine lv_iload_n hx hb d_Law_remove_3 rfl (lv_at hl 1 rfl) ?_
  refine lv_iload_n hx hb d_Law_remove_4 rfl (lv_at hl 2 rfl) ?_
  have hk : KT l D clz (tyz Y) (wdC G Y) y_Firm_remove b_Firm_remove 5 (some .int) 7 160 (.ref (G 0) :: [.int a1, .int a2]) u 0 u' := k_Firm_remove l hfl D G Y hm
  refine sbT (As := [.int a1, .int a2]) (rest := [.int (0 : Int32), .ref ao]) (b0 := G 0) 0 (X := wdO ao Y o) (B := B) (hp := 13) C0 hk q_446 q_1 q_443 q_444 q_445 e_Firm_remove ⟨by decide, by decide⟩ (by decide) (by decide) rfl rfl hP hD hS hl.1 rfl (Nat.le_of_ble_eq_true rfl) d_Law_remove_5 hSZ hAB hB ?_ (fun x H locs hP hD hS => ?_)
  · intro x ce hcv hcc
    rw [htab]
    exact fw_hit (C := ecl 0) hpl hown rfl (by decide) (hts _ q_243) hcv hcc
  · refine lv_astore (lv' := [(4, .ref x), (0, .ref (G 0)), (1, .int a1), (2, .int a2), (3, .ref ao)]) hx hb d_Law_remove_13 hl (by decide) rfl (fun ls hl => ?_)
    refine lv_iconst (v := (1 : Int32)) hx hb d_Law_remove_15 (by decide) ?_
    exact hret _ _ (0 + 1) (0 + 6) _ _ (by decide) (by decide) hP hD hS d_Law_remove_16
set_option maxRecDepth 100000 in
set_option maxHeartbeats 4000000 in
theorem h_remove_1 (l : Launch) (hfl : l.flags = flags0) (D : va_G) (G : Nat → Nat) (Y : Nat → ClassId) (ao : Nat) {u : SM} {a1 : Int32} {a2 : Int32} {u' : SM} (o : Nat → Int64) (hm : m_Firm_remove u a1 a2 = some (.inr 1, u')) : KH l D G Y ao y_Law_remove b_Law_remove 5 hh_remove 8 184 [.ref (G 0), .int a1, .int a2, .ref ao] (u, o) 2 (u', o) := by
  refine mkH (by decide) (Nat.le_of_ble_eq_true rfl) ?_
  intro p e s m below meth c A Z ls B C0 hP hD hS hl hSZ hAB hB hNC htab hpl hret
  obtain ⟨hx, hb, hml, hown, hts, hK, hN, hA⟩ := id C0
  have hl : lv_has ls 5 [(0, .ref (G 0)), (1, .int a1), (2, .int a2), (3, .ref ao)] := hl
  refine lv_aload_n hx hb d_Law_remove_0 rfl (lv_at hl 3 rfl) ?_
  refine lv_iconst (v := (0 : Int32)) hx hb d_Law_remove_1 (by decide) ?_
  refine lv_aload_n hx hb d_Law_remove_2 rfl (lv_at hl 0 rfl) ?_
  refine lv_iload_n hx hb d_Law_remove_3 rfl (lv_at hl 1 rfl) ?_
  refine lv_iload_n hx hb d_Law_remove_4 rfl (lv_at hl 2 rfl) ?_
  have hk : KT l D clz (tyz Y) (wdC G Y) y_Firm_remove b_Firm_remove 5 (some .int) 7 160 (.ref (G 0) :: [.int a1, .int a2]) u 1 u' := k_Firm_remove l hfl D G Y hm
  refine sbT (As := [.int a1, .int a2]) (rest := [.int (0 : Int32), .ref ao]) (b0 := G 0) 0 (X := wdO ao Y o) (B := B) (hp := 17) C0 hk q_446 q_1 q_443 q_444 q_445 e_Firm_remove ⟨by decide, by decide⟩ (by decide) (by decide) rfl rfl hP hD hS hl.1 rfl (Nat.le_of_ble_eq_true rfl) d_Law_remove_5 hSZ hAB hB ?_ (fun x H locs hP hD hS => ?_)
  · intro x ce hcv hcc
    rw [htab]
    exact fw_pass (C := ecl 0) (X := ecl 1) hpl hown rfl (by decide) (hts _ q_243) hcv hcc hNC.1 (fw_hit (C := ecl 1) hpl hown rfl (by decide) (hts _ q_244) hcv hcc)
  · refine lv_astore (lv' := [(4, .ref x), (0, .ref (G 0)), (1, .int a1), (2, .int a2), (3, .ref ao)]) hx hb d_Law_remove_17 hl (by decide) rfl (fun ls hl => ?_)
    refine lv_iconst (v := (2 : Int32)) hx hb d_Law_remove_19 (by decide) ?_
    exact hret _ _ (0 + 1) (0 + 6) _ _ (by decide) (by decide) hP hD hS d_Law_remove_20
set_option maxRecDepth 100000 in
set_option maxHeartbeats 4000000 in
theorem h_remove_2 (l : Launch) (hfl : l.flags = flags0) (D : va_G) (G : Nat → Nat) (Y : Nat → ClassId) (ao : Nat) {u : SM} {a1 : Int32} {a2 : Int32} {u' : SM} (o : Nat → Int64) (hm : m_Firm_remove u a1 a2 = some (.inr 2, u')) : KH l D G Y ao y_Law_remove b_Law_remove 5 hh_remove 8 184 [.ref (G 0), .int a1, .int a2, .ref ao] (u, o) 3 (u', o) := by
  refine mkH (by decide) (Nat.le_of_ble_eq_true rfl) ?_
  intro p e s m below meth c A Z ls B C0 hP hD hS hl hSZ hAB hB hNC htab hpl hret
  obtain ⟨hx, hb, hml, hown, hts, hK, hN, hA⟩ := id C0
  have hl : lv_has ls 5 [(0, .ref (G 0)), (1, .int a1), (2, .int a2), (3, .ref ao)] := hl
  refine lv_aload_n hx hb d_Law_remove_0 rfl (lv_at hl 3 rfl) ?_
  refine lv_iconst (v := (0 : Int32)) hx hb d_Law_remove_1 (by decide) ?_
  refine lv_aload_n hx hb d_Law_remove_2 rfl (lv_at hl 0 rfl) ?_
  refine lv_iload_n hx hb d_Law_remove_3 rfl (lv_at hl 1 rfl) ?_
  refine lv_iload_n hx hb d_Law_remove_4 rfl (lv_at hl 2 rfl) ?_
  have hk : KT l D clz (tyz Y) (wdC G Y) y_Firm_remove b_Firm_remove 5 (some .int) 7 160 (.ref (G 0) :: [.int a1, .int a2]) u 2 u' := k_Firm_remove l hfl D G Y hm
  refine sbT (As := [.int a1, .int a2]) (rest := [.int (0 : Int32), .ref ao]) (b0 := G 0) 0 (X := wdO ao Y o) (B := B) (hp := 21) C0 hk q_446 q_1 q_443 q_444 q_445 e_Firm_remove ⟨by decide, by decide⟩ (by decide) (by decide) rfl rfl hP hD hS hl.1 rfl (Nat.le_of_ble_eq_true rfl) d_Law_remove_5 hSZ hAB hB ?_ (fun x H locs hP hD hS => ?_)
  · intro x ce hcv hcc
    rw [htab]
    exact fw_pass (C := ecl 0) (X := ecl 2) hpl hown rfl (by decide) (hts _ q_243) hcv hcc hNC.2.1 (fw_pass (C := ecl 1) (X := ecl 2) hpl hown rfl (by decide) (hts _ q_244) hcv hcc hNC.2.2 (fw_hit (C := ecl 2) hpl hown rfl (by decide) (hts _ q_442) hcv hcc))
  · refine lv_astore (lv' := [(4, .ref x), (0, .ref (G 0)), (1, .int a1), (2, .int a2), (3, .ref ao)]) hx hb d_Law_remove_21 hl (by decide) rfl (fun ls hl => ?_)
    refine lv_iconst (v := (3 : Int32)) hx hb d_Law_remove_23 (by decide) ?_
    exact hret _ _ (0 + 1) (0 + 6) _ _ (by decide) (by decide) hP hD hS d_Law_remove_24
set_option maxRecDepth 100000 in
set_option maxHeartbeats 4000000 in
theorem h_get_ok (l : Launch) (hfl : l.flags = flags0) (D : va_G) (G : Nat → Nat) (Y : Nat → ClassId) (ao : Nat) {u : SM} {a1 : Int32} {a2 : Int32} {r : Int32} {u' : SM} (o : Nat → Int64) (hm : m_Firm_get u a1 a2 = some (.inl r, u')) : KH l D G Y ao y_Law_get b_Law_get 5 hh_get 8 183 [.ref (G 0), .int a1, .int a2, .ref ao] (u, o) 0 (u', vp_updL o (0 : Int32).toNatClampNeg r.toInt64) := by
  refine mkH (by decide) (Nat.le_of_ble_eq_true rfl) ?_
  intro p e s m below meth c A Z ls B C0 hP hD hS hl hSZ hAB hB hNC htab hpl hret
  obtain ⟨hx, hb, hml, hown, hts, hK, hN, hA⟩ := id C0
  have hl : lv_has ls 5 [(0, .ref (G 0)), (1, .int a1), (2, .int a2), (3, .ref ao)] := hl
  refine lv_aload_n hx hb d_Law_get_0 rfl (lv_at hl 3 rfl) ?_
  refine lv_iconst (v := (0 : Int32)) hx hb d_Law_get_1 (by decide) ?_
  refine lv_aload_n hx hb d_Law_get_2 rfl (lv_at hl 0 rfl) ?_
  refine lv_iload_n hx hb d_Law_get_3 rfl (lv_at hl 1 rfl) ?_
  refine lv_iload_n hx hb d_Law_get_4 rfl (lv_at hl 2 rfl) ?_
  have hk : KI l D clz (tyz Y) (wdC G Y) y_Firm_get b_Firm_get 4 (some .int) 7 160 (.ref (G 0) :: [.int a1, .int a2]) u r u' := k_Firm_get l hfl D G Y hm
  refine sbVI (As := [.int a1, .int a2]) (rest := [.int (0 : Int32), .ref ao]) (b0 := G 0) 0 (X := wdO ao Y o) C0 hk q_483 q_1 q_480 q_481 q_482 e_Firm_get ⟨by decide, by decide⟩ (Nat.zero_le _) (Nat.zero_le _) rfl rfl hP hD hS hl.1 rfl (Nat.le_of_ble_eq_true rfl) d_Law_get_5 (fun H locs hP hD hS => ?_)
  refine lv_i2l (v := (r.toInt64)) hx hb d_Law_get_8 rfl ?_
  refine va_last hx hb hK hP hD hS 8 0 (f := o) rfl rfl (inb_in rfl) d_Law_get_9 (fun H locs hP hD hS => ?_)
  have hP : va_P D clz (wdH G Y ao (u', vp_updL o (0 : Int32).toNatClampNeg r.toInt64)) H := hP
  have hD : va_D A (wdH G Y ao (u', vp_updL o (0 : Int32).toNatClampNeg r.toInt64)) := hD
  refine lv_goto (tgt := 21) hx hb d_Law_get_10 (by decide) ?_
  refine lv_iconst (v := (0 : Int32)) hx hb d_Law_get_21 (by decide) ?_
  exact hret _ _ 0 0 _ _ (by decide) (by decide) hP hD hS d_Law_get_22
set_option maxRecDepth 100000 in
set_option maxHeartbeats 4000000 in
theorem h_get_0 (l : Launch) (hfl : l.flags = flags0) (D : va_G) (G : Nat → Nat) (Y : Nat → ClassId) (ao : Nat) {u : SM} {a1 : Int32} {a2 : Int32} {u' : SM} (o : Nat → Int64) (hm : m_Firm_get u a1 a2 = some (.inr 0, u')) : KH l D G Y ao y_Law_get b_Law_get 5 hh_get 8 183 [.ref (G 0), .int a1, .int a2, .ref ao] (u, o) 1 (u', o) := by
  refine mkH (by decide) (Nat.le_of_ble_eq_true rfl) ?_
  intro p e s m below meth c A Z ls B C0 hP hD hS hl hSZ hAB hB hNC htab hpl hret
  obtain ⟨hx, hb, hml, hown, hts, hK, hN, hA⟩ := id C0
  have hl : lv_has ls 5 [(0, .ref (G 0)), (1, .int a1), (2, .int a2), (3, .ref ao)] := hl
  refine lv_aload_n hx hb d_Law_get_0 rfl (lv_at hl 3 rfl) ?_
  refine lv_iconst (v := (0 : Int32)) hx hb d_Law_get_1 (by decide) ?_
  refine lv_aload_n hx hb d_Law_get_2 rfl (lv_at hl 0 rfl) ?_
  refine lv_iload_n hx hb d_Law_get_3 rfl (lv_at hl 1 rfl) ?_
  refine lv_iload_n hx hb d_Law_get_4 rfl (lv_at hl 2 rfl) ?_
  have hk : KT l D clz (tyz Y) (wdC G Y) y_Firm_get b_Firm_get 4 (some .int) 7 160 (.ref (G 0) :: [.int a1, .int a2]) u 0 u' := k_Firm_get l hfl D G Y hm
  refine sbT (As := [.int a1, .int a2]) (rest := [.int (0 : Int32), .ref ao]) (b0 := G 0) 0 (X := wdO ao Y o) (B := B) (hp := 13) C0 hk q_483 q_1 q_480 q_481 q_482 e_Firm_get ⟨by decide, by decide⟩ (by decide) (by decide) rfl rfl hP hD hS hl.1 rfl (Nat.le_of_ble_eq_true rfl) d_Law_get_5 hSZ hAB hB ?_ (fun x H locs hP hD hS => ?_)
  · intro x ce hcv hcc
    rw [htab]
    exact fw_hit (C := ecl 0) hpl hown rfl (by decide) (hts _ q_243) hcv hcc
  · refine lv_astore (lv' := [(4, .ref x), (0, .ref (G 0)), (1, .int a1), (2, .int a2), (3, .ref ao)]) hx hb d_Law_get_13 hl (by decide) rfl (fun ls hl => ?_)
    refine lv_iconst (v := (1 : Int32)) hx hb d_Law_get_15 (by decide) ?_
    exact hret _ _ (0 + 1) (0 + 6) _ _ (by decide) (by decide) hP hD hS d_Law_get_16
set_option maxRecDepth 100000 in
set_option maxHeartbeats 4000000 in
theorem h_get_2 (l : Launch) (hfl : l.flags = flags0) (D : va_G) (G : Nat → Nat) (Y : Nat → ClassId) (ao : Nat) {u : SM} {a1 : Int32} {a2 : Int32} {u' : SM} (o : Nat → Int64) (hm : m_Firm_get u a1 a2 = some (.inr 2, u')) : KH l D G Y ao y_Law_get b_Law_get 5 hh_get 8 183 [.ref (G 0), .int a1, .int a2, .ref ao] (u, o) 2 (u', o) := by
  refine mkH (by decide) (Nat.le_of_ble_eq_true rfl) ?_
  intro p e s m below meth c A Z ls B C0 hP hD hS hl hSZ hAB hB hNC htab hpl hret
  obtain ⟨hx, hb, hml, hown, hts, hK, hN, hA⟩ := id C0
  have hl : lv_has ls 5 [(0, .ref (G 0)), (1, .int a1), (2, .int a2), (3, .ref ao)] := hl
  refine lv_aload_n hx hb d_Law_get_0 rfl (lv_at hl 3 rfl) ?_
  refine lv_iconst (v := (0 : Int32)) hx hb d_Law_get_1 (by decide) ?_
  refine lv_aload_n hx hb d_Law_get_2 rfl (lv_at hl 0 rfl) ?_
  refine lv_iload_n hx hb d_Law_get_3 rfl (lv_at hl 1 rfl) ?_
  refine lv_iload_n hx hb d_Law_get_4 rfl (lv_at hl 2 rfl) ?_
  have hk : KT l D clz (tyz Y) (wdC G Y) y_Firm_get b_Firm_get 4 (some .int) 7 160 (.ref (G 0) :: [.int a1, .int a2]) u 2 u' := k_Firm_get l hfl D G Y hm
  refine sbT (As := [.int a1, .int a2]) (rest := [.int (0 : Int32), .ref ao]) (b0 := G 0) 0 (X := wdO ao Y o) (B := B) (hp := 17) C0 hk q_483 q_1 q_480 q_481 q_482 e_Firm_get ⟨by decide, by decide⟩ (by decide) (by decide) rfl rfl hP hD hS hl.1 rfl (Nat.le_of_ble_eq_true rfl) d_Law_get_5 hSZ hAB hB ?_ (fun x H locs hP hD hS => ?_)
  · intro x ce hcv hcc
    rw [htab]
    exact fw_pass (C := ecl 0) (X := ecl 2) hpl hown rfl (by decide) (hts _ q_243) hcv hcc hNC.2.1 (fw_hit (C := ecl 2) hpl hown rfl (by decide) (hts _ q_442) hcv hcc)
  · refine lv_astore (lv' := [(4, .ref x), (0, .ref (G 0)), (1, .int a1), (2, .int a2), (3, .ref ao)]) hx hb d_Law_get_17 hl (by decide) rfl (fun ls hl => ?_)
    refine lv_iconst (v := (2 : Int32)) hx hb d_Law_get_19 (by decide) ?_
    exact hret _ _ (0 + 1) (0 + 6) _ _ (by decide) (by decide) hP hD hS d_Law_get_20
set_option maxRecDepth 100000 in
set_option maxHeartbeats 4000000 in
theorem h_from_ok (l : Launch) (hfl : l.flags = flags0) (D : va_G) (G : Nat → Nat) (Y : Nat → ClassId) (ao : Nat) {u : SM} {a1 : Int32} {r : Int32} {u' : SM} (o : Nat → Int64) (hm : m_Firm_from u a1 = some (.inl r, u')) : KH l D G Y ao y_Law_from b_Law_from 4 hh_from 7 160 [.ref (G 0), .int a1, .ref ao] (u, o) 0 (u', vp_updL o (0 : Int32).toNatClampNeg r.toInt64) := by
  refine mkH (by decide) (Nat.le_of_ble_eq_true rfl) ?_
  intro p e s m below meth c A Z ls B C0 hP hD hS hl hSZ hAB hB hNC htab hpl hret
  obtain ⟨hx, hb, hml, hown, hts, hK, hN, hA⟩ := id C0
  have hl : lv_has ls 4 [(0, .ref (G 0)), (1, .int a1), (2, .ref ao)] := hl
  refine lv_aload_n hx hb d_Law_from_0 rfl (lv_at hl 2 rfl) ?_
  refine lv_iconst (v := (0 : Int32)) hx hb d_Law_from_1 (by decide) ?_
  refine lv_aload_n hx hb d_Law_from_2 rfl (lv_at hl 0 rfl) ?_
  refine lv_iload_n hx hb d_Law_from_3 rfl (lv_at hl 1 rfl) ?_
  have hk : KI l D clz (tyz Y) (wdC G Y) y_Firm_from b_Firm_from 3 (some .int) 6 138 (.ref (G 0) :: [.int a1]) u r u' := k_Firm_from l hfl D G Y hm
  refine sbVI (As := [.int a1]) (rest := [.int (0 : Int32), .ref ao]) (b0 := G 0) 0 (X := wdO ao Y o) C0 hk q_491 q_1 q_488 q_489 q_490 e_Firm_from ⟨by decide, by decide⟩ (Nat.zero_le _) (Nat.zero_le _) rfl rfl hP hD hS hl.1 rfl (Nat.le_of_ble_eq_true rfl) d_Law_from_4 (fun H locs hP hD hS => ?_)
  refine lv_i2l (v := (r.toInt64)) hx hb d_Law_from_7 rfl ?_
  refine va_last hx hb hK hP hD hS 8 0 (f := o) rfl rfl (inb_in rfl) d_Law_from_8 (fun H locs hP hD hS => ?_)
  have hP : va_P D clz (wdH G Y ao (u', vp_updL o (0 : Int32).toNatClampNeg r.toInt64)) H := hP
  have hD : va_D A (wdH G Y ao (u', vp_updL o (0 : Int32).toNatClampNeg r.toInt64)) := hD
  refine lv_goto (tgt := 18) hx hb d_Law_from_9 (by decide) ?_
  refine lv_iconst (v := (0 : Int32)) hx hb d_Law_from_18 (by decide) ?_
  exact hret _ _ 0 0 _ _ (by decide) (by decide) hP hD hS d_Law_from_19
set_option maxRecDepth 100000 in
set_option maxHeartbeats 4000000 in
theorem h_from_0 (l : Launch) (hfl : l.flags = flags0) (D : va_G) (G : Nat → Nat) (Y : Nat → ClassId) (ao : Nat) {u : SM} {a1 : Int32} {u' : SM} (o : Nat → Int64) (hm : m_Firm_from u a1 = some (.inr 0, u')) : KH l D G Y ao y_Law_from b_Law_from 4 hh_from 7 160 [.ref (G 0), .int a1, .ref ao] (u, o) 1 (u', o) := by
  refine mkH (by decide) (Nat.le_of_ble_eq_true rfl) ?_
  intro p e s m below meth c A Z ls B C0 hP hD hS hl hSZ hAB hB hNC htab hpl hret
  obtain ⟨hx, hb, hml, hown, hts, hK, hN, hA⟩ := id C0
  have hl : lv_has ls 4 [(0, .ref (G 0)), (1, .int a1), (2, .ref ao)] := hl
  refine lv_aload_n hx hb d_Law_from_0 rfl (lv_at hl 2 rfl) ?_
  refine lv_iconst (v := (0 : Int32)) hx hb d_Law_from_1 (by decide) ?_
  refine lv_aload_n hx hb d_Law_from_2 rfl (lv_at hl 0 rfl) ?_
  refine lv_iload_n hx hb d_Law_from_3 rfl (lv_at hl 1 rfl) ?_
  have hk : KT l D clz (tyz Y) (wdC G Y) y_Firm_from b_Firm_from 3 (some .int) 6 138 (.ref (G 0) :: [.int a1]) u 0 u' := k_Firm_from l hfl D G Y hm
  refine sbT (As := [.int a1]) (rest := [.int (0 : Int32), .ref ao]) (b0 := G 0) 0 (X := wdO ao Y o) (B := B) (hp := 12) C0 hk q_491 q_1 q_488 q_489 q_490 e_Firm_from ⟨by decide, by decide⟩ (by decide) (by decide) rfl rfl hP hD hS hl.1 rfl (Nat.le_of_ble_eq_true rfl) d_Law_from_4 hSZ hAB hB ?_ (fun x H locs hP hD hS => ?_)
  · intro x ce hcv hcc
    rw [htab]
    exact fw_hit (C := ecl 0) hpl hown rfl (by decide) (hts _ q_243) hcv hcc
  · refine lv_astore_n (lv' := [(3, .ref x), (0, .ref (G 0)), (1, .int a1), (2, .ref ao)]) hx hb d_Law_from_12 rfl hl (by decide) rfl (fun ls hl => ?_)
    refine lv_iconst (v := (1 : Int32)) hx hb d_Law_from_13 (by decide) ?_
    exact hret _ _ (0 + 1) (0 + 6) _ _ (by decide) (by decide) hP hD hS d_Law_from_14
set_option maxRecDepth 100000 in
set_option maxHeartbeats 4000000 in
theorem h_from_2 (l : Launch) (hfl : l.flags = flags0) (D : va_G) (G : Nat → Nat) (Y : Nat → ClassId) (ao : Nat) {u : SM} {a1 : Int32} {u' : SM} (o : Nat → Int64) (hm : m_Firm_from u a1 = some (.inr 2, u')) : KH l D G Y ao y_Law_from b_Law_from 4 hh_from 7 160 [.ref (G 0), .int a1, .ref ao] (u, o) 2 (u', o) := by
  refine mkH (by decide) (Nat.le_of_ble_eq_true rfl) ?_
  intro p e s m below meth c A Z ls B C0 hP hD hS hl hSZ hAB hB hNC htab hpl hret
  obtain ⟨hx, hb, hml, hown, hts, hK, hN, hA⟩ := id C0
  have hl : lv_has ls 4 [(0, .ref (G 0)), (1, .int a1), (2, .ref ao)] := hl
  refine lv_aload_n hx hb d_Law_from_0 rfl (lv_at hl 2 rfl) ?_
  refine lv_iconst (v := (0 : Int32)) hx hb d_Law_from_1 (by decide) ?_
  refine lv_aload_n hx hb d_Law_from_2 rfl (lv_at hl 0 rfl) ?_
  refine lv_iload_n hx hb d_Law_from_3 rfl (lv_at hl 1 rfl) ?_
  have hk : KT l D clz (tyz Y) (wdC G Y) y_Firm_from b_Firm_from 3 (some .int) 6 138 (.ref (G 0) :: [.int a1]) u 2 u' := k_Firm_from l hfl D G Y hm
  refine sbT (As := [.int a1]) (rest := [.int (0 : Int32), .ref ao]) (b0 := G 0) 0 (X := wdO ao Y o) (B := B) (hp := 15) C0 hk q_491 q_1 q_488 q_489 q_490 e_Firm_from ⟨by decide, by decide⟩ (by decide) (by decide) rfl rfl hP hD hS hl.1 rfl (Nat.le_of_ble_eq_true rfl) d_Law_from_4 hSZ hAB hB ?_ (fun x H locs hP hD hS => ?_)
  · intro x ce hcv hcc
    rw [htab]
    exact fw_pass (C := ecl 0) (X := ecl 2) hpl hown rfl (by decide) (hts _ q_243) hcv hcc hNC.2.1 (fw_hit (C := ecl 2) hpl hown rfl (by decide) (hts _ q_442) hcv hcc)
  · refine lv_astore_n (lv' := [(3, .ref x), (0, .ref (G 0)), (1, .int a1), (2, .ref ao)]) hx hb d_Law_from_15 rfl hl (by decide) rfl (fun ls hl => ?_)
    refine lv_iconst (v := (2 : Int32)) hx hb d_Law_from_16 (by decide) ?_
    exact hret _ _ (0 + 1) (0 + 6) _ _ (by decide) (by decide) hP hD hS d_Law_from_17
set_option maxRecDepth 100000 in
set_option maxHeartbeats 4000000 in
theorem h_recover_ok (l : Launch) (hfl : l.flags = flags0) (D : va_G) (G : Nat → Nat) (Y : Nat → ClassId) (ao : Nat) {u : SM} {r : Int32} {u' : SM} (o : Nat → Int64) (hm : m_Firm_recover u  = some (.inl r, u')) : KH l D G Y ao y_Law_recover b_Law_recover 3 hh_recover 48 1198 [.ref (G 0), .ref ao] (u, o) 0 (u', vp_updL o (0 : Int32).toNatClampNeg r.toInt64) := by
  refine mkH (by decide) (Nat.le_of_ble_eq_true rfl) ?_
  intro p e s m below meth c A Z ls B C0 hP hD hS hl hSZ hAB hB hNC htab hpl hret
  obtain ⟨hx, hb, hml, hown, hts, hK, hN, hA⟩ := id C0
  have hl : lv_has ls 3 [(0, .ref (G 0)), (1, .ref ao)] := hl
  refine lv_aload_n hx hb d_Law_recover_0 rfl (lv_at hl 1 rfl) ?_
  refine lv_iconst (v := (0 : Int32)) hx hb d_Law_recover_1 (by decide) ?_
  refine lv_aload_n hx hb d_Law_recover_2 rfl (lv_at hl 0 rfl) ?_
  have hk : KI l D clz (tyz Y) (wdC G Y) y_Firm_recover b_Firm_recover 2 (some .int) 47 1177 (.ref (G 0) :: []) u r u' := k_Firm_recover l hfl D G Y hm
  refine sbVI (As := []) (rest := [.int (0 : Int32), .ref ao]) (b0 := G 0) 0 (X := wdO ao Y o) C0 hk q_502 q_1 q_499 q_500 q_501 e_Firm_recover ⟨by decide, by decide⟩ (Nat.zero_le _) (Nat.zero_le _) rfl rfl hP hD hS hl.1 rfl (Nat.le_of_ble_eq_true rfl) d_Law_recover_3 (fun H locs hP hD hS => ?_)
  refine lv_i2l (v := (r.toInt64)) hx hb d_Law_recover_6 rfl ?_
  refine va_last hx hb hK hP hD hS 8 0 (f := o) rfl rfl (inb_in rfl) d_Law_recover_7 (fun H locs hP hD hS => ?_)
  have hP : va_P D clz (wdH G Y ao (u', vp_updL o (0 : Int32).toNatClampNeg r.toInt64)) H := hP
  have hD : va_D A (wdH G Y ao (u', vp_updL o (0 : Int32).toNatClampNeg r.toInt64)) := hD
  refine lv_goto (tgt := 14) hx hb d_Law_recover_8 (by decide) ?_
  refine lv_iconst (v := (0 : Int32)) hx hb d_Law_recover_14 (by decide) ?_
  exact hret _ _ 0 0 _ _ (by decide) (by decide) hP hD hS d_Law_recover_15
set_option maxRecDepth 100000 in
set_option maxHeartbeats 4000000 in
theorem h_recover_1 (l : Launch) (hfl : l.flags = flags0) (D : va_G) (G : Nat → Nat) (Y : Nat → ClassId) (ao : Nat) {u : SM} {u' : SM} (o : Nat → Int64) (hm : m_Firm_recover u  = some (.inr 1, u')) : KH l D G Y ao y_Law_recover b_Law_recover 3 hh_recover 48 1198 [.ref (G 0), .ref ao] (u, o) 1 (u', o) := by
  refine mkH (by decide) (Nat.le_of_ble_eq_true rfl) ?_
  intro p e s m below meth c A Z ls B C0 hP hD hS hl hSZ hAB hB hNC htab hpl hret
  obtain ⟨hx, hb, hml, hown, hts, hK, hN, hA⟩ := id C0
  have hl : lv_has ls 3 [(0, .ref (G 0)), (1, .ref ao)] := hl
  refine lv_aload_n hx hb d_Law_recover_0 rfl (lv_at hl 1 rfl) ?_
  refine lv_iconst (v := (0 : Int32)) hx hb d_Law_recover_1 (by decide) ?_
  refine lv_aload_n hx hb d_Law_recover_2 rfl (lv_at hl 0 rfl) ?_
  have hk : KT l D clz (tyz Y) (wdC G Y) y_Firm_recover b_Firm_recover 2 (some .int) 47 1177 (.ref (G 0) :: []) u 1 u' := k_Firm_recover l hfl D G Y hm
  refine sbT (As := []) (rest := [.int (0 : Int32), .ref ao]) (b0 := G 0) 0 (X := wdO ao Y o) (B := B) (hp := 11) C0 hk q_502 q_1 q_499 q_500 q_501 e_Firm_recover ⟨by decide, by decide⟩ (by decide) (by decide) rfl rfl hP hD hS hl.1 rfl (Nat.le_of_ble_eq_true rfl) d_Law_recover_3 hSZ hAB hB ?_ (fun x H locs hP hD hS => ?_)
  · intro x ce hcv hcc
    rw [htab]
    exact fw_hit (C := ecl 1) hpl hown rfl (by decide) (hts _ q_244) hcv hcc
  · refine lv_astore_n (lv' := [(2, .ref x), (0, .ref (G 0)), (1, .ref ao)]) hx hb d_Law_recover_11 rfl hl (by decide) rfl (fun ls hl => ?_)
    refine lv_iconst (v := (1 : Int32)) hx hb d_Law_recover_12 (by decide) ?_
    exact hret _ _ (0 + 1) (0 + 6) _ _ (by decide) (by decide) hP hD hS d_Law_recover_13
