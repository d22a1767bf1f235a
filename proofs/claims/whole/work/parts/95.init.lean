/-! CONSTRUCTORS -/
def cRm (fr lo mc ms : Nat) : Room := { frames := fr, cells := mc, slots := ms, locals := lo }
def NM (U : State) : Prop := va_Nw (.methodLinkNest "FirmStore" 9 ⟨"FirmStore$Memory", "<init>", "()V"⟩ "FirmStore") U
theorem NM.warm {s U : State} (hW : s.WarmedH U.vm) (h : NM s) : NM U := va_Nw.warmM hW h
theorem NM.call {U : State} {g : JFrame} {mk : MethodId} {a : Array Value} (h : NM U) : NM (U.calling g mk a) := va_Nw.same rfl rfl h
def kPcC (D : va_G) (Y : Nat → ClassId) (ws0 : va_W) (sz : Nat) : State → Prop := fun U => U.heap.size = sz ∧ va_P D clz ws0 U.heap ∧ va_K D clz (tyz Y) U ∧ va_D (fun _ => True) ws0 ∧ NL U ∧ NM U
def KC (l : Launch) (D : va_G) (Y : Nat → ClassId) (ws0 : va_W) (post : va_W → Prop) (y : MethodName) (b : ByteArray) (n fr lo mc ms : Nat) (av : List Value) : Prop :=
  ∀ sz : Nat, Met l y (wz y b n none) (cRm fr lo mc ms) (va_Pc av (kPcC D Y ws0 sz)) (va_Qv post (fun w1 t => va_P D clz w1 t.heap ∧ va_K D clz (tyz Y) t ∧ va_D (va_A ws0 sz) w1) (va_A ws0 sz)) mc ms (va_A ws0 sz)
theorem kPcC_blind {D : va_G} {Y : Nat → ClassId} {ws0 : va_W} {sz : Nat} {av : List Value} : FrameBlind (va_Pc av (kPcC D Y ws0 sz)) := fun a U g mk q => by
  obtain ⟨q0, q1, qP, qK, qD, qN, qM⟩ := q
  exact ⟨q0, q1, qP, va_K.moved (u := U) (U := U.calling g mk a) (Vm.Alike.refl U.vm) qK, qD, qN.call, qM.call⟩
theorem ra_eq {D : va_G} {Y : Nat → ClassId} {cA : ClassId} {ty : FieldType} {s : State} (hK : va_K D clz (tyz Y ++ [(cA, ty)]) s) (i : Nat) (hi : (tyz Y)[i]? = some (Y i, ty)) (hty : ty = .long ∨ ty = .int ∨ ty = .boolean) : cA = Y i := by
  have h1 := (hK.2 3 (cA, ty) rfl).2
  have h2 := (hK.2 i (Y i, ty) (by
    have hlt : i < 3 := (List.getElem?_eq_some_iff.mp hi).1
    rw [List.getElem?_append_left hlt]; exact hi)).2
  rcases hty with rfl | rfl | rfl <;> exact Option.some.inj ((show s.vm.findClass _ = some cA from h1).symm.trans h2)
theorem mkC {l : Launch} {D : va_G} {Y : Nat → ClassId} {ws0 : va_W} {post : va_W → Prop} {y : MethodName} {b : ByteArray} {n fr lo mc ms : Nat} {av : List Value} (hy : plainName y.cls = true) (hyn : y.name = "<init>") (hn : (lg_sl av).length ≤ n)
    (body : ∀ (p : Program) (e : Env) (s : State) (m : MethodId) (below : List Frame) (meth : Method) (c : Code) (A : Nat → Prop) (Z : State → Prop) (ls : Array Slot), Ctx l D clz (tyz Y) y.cls b n av p s m c A → meth.name = "<init>" → NM s → va_P D clz ws0 s.heap → va_D A ws0 → va_S A s.heap s.heap [] → lv_has ls n (lv_args 0 av) →
      (∀ (w1 : va_W) (H : Heap) (locs : List Loc) (cells slots pc : Nat) (ls : Array Slot), post w1 → cells ≤ mc → slots ≤ ms → va_P D clz w1 H → va_D A w1 → va_S A s.heap H locs → decode b pc = .ok (.return_, 1) → W p l e (cRm fr lo mc ms) s m av.toArray below meth c H locs cells slots Z (F0 m pc ls [])) →
      W p l e (cRm fr lo mc ms) s m av.toArray below meth c s.heap [] 0 0 Z (F0 m 0 ls [])) : KC l D Y ws0 post y b n fr lo mc ms av := by
  intro sz
  refine Met.ofW (cc := b) (maxL := n) (ret := none) hy rfl ?_
  intro p e s m args below meth c s₁ B hml hv
  obtain ⟨rfl, hsz, hP, hK, hD0, hN, hM⟩ := hv
  have hts := atoms_spec (ws := wz y b n none) B.pre
  have hlocks := B.notSynchronized
  have hin : meth.name = "<init>" := (name_of_methodNamed B.named B.method).1.trans hyn
  subst hsz
  have hD := hD0.self (sz := s.heap.size)
  rw [lg_entry_eq]
  refine body p e s m below meth c (va_A ws0 s.heap.size) _ _ ⟨B.exec, B.bytes, hml, findClass_of_methodNamed B.named, fun w h => hts w (List.mem_cons_of_mem _ h), hK, hN, fun q h => Or.inr h⟩ hin hM hP hD va_S.rf (lv_entry av hn) ?_
  intro w1 H locs cells slots pc ls hpost hc hs hP' hD' hS' hdg
  refine W.widen (k := mc) (n := ms) hc hs ?_
  exact W.vret B.exec B.bytes B.returns (fun t ht hW => ⟨⟨w1, rfl, hpost, by rw [ht]; exact hP', va_K.moved hW.alike hK, hD'⟩, hS'.F ht⟩) hS'.2.2 hdg
section SubC
variable {l : Launch} {D : va_G} {Y : Nat → ClassId} {ws0 : va_W} {post : va_W → Prop} {y' : MethodName} {b b' : ByteArray} {n n' fr' lo' mc ms : Nat} {av : List Value} {X : va_W} {R : Room} {cells slots : Nat}
variable {p : Program} {e : Env} {s : State} {m : MethodId} {below : List Frame} {meth : Method} {c : Code} {A : Nat → Prop} {Z : State → Prop} {ls : Array Slot} {H : Heap} {locs : List Loc} {own : String}
theorem prC {As : List Value} (hK : va_K D clz (tyz Y) s) (hN : NL s) (hM : NM s) (hP : va_P D clz ws0 H) (hD : va_D A ws0) : PreS s H (va_Pc As (kPcC D Y ws0 H.size)) As :=
  ⟨kPcC_blind, fun U hU hW => ⟨rfl, by rw [hU], by rw [hU]; exact hP, va_K.moved hW.alike hK, hD.weaken (fun _ _ _ _ => trivial), hN.warm hW, hM.warm hW⟩⟩
theorem sbC {rest st0 : List Value} {pc index : Nat} {As : List Value} {b0 : Nat} (C0 : Ctx l D clz (tyz Y) own b n av p s m c A) (hNM : NM s) (hM : KC l D Y ws0 post y' b' n' fr' lo' mc ms (.ref b0 :: As)) (hcode : Cond.code y' b' n' none ∈ tbG) (hini : Cond.initialized y'.cls ∈ tbG) (hinst : Cond.instanceMethod y' ∈ tbG) (hyn : y'.name = "<init>")
    (hlink : (Cond.methodLink own index y' ∈ tbG) ∨ va_Nw (.methodLinkNest own index y' "FirmStore") s)
    (hd : y'.cls ≠ "java/lang/invoke/MethodHandle" ∧ y'.cls ≠ "java/lang/invoke/VarHandle" ∧ (parseMethodDescriptor y'.desc).map (fun d => d.parameters.length) = some As.length) (hR : fr' + 1 ≤ R.frames ∧ 8 + (n' + 11) + lo' ≤ R.locals) (hcl : cells + mc ≤ R.cells) (hsl : slots + ms ≤ R.slots)
    (hP : va_P D clz (ws0 ++ X) H) (hD : va_D A (ws0 ++ X)) (hS : va_S A s.heap H locs) (hsz : ls.size = n) (hst : st0 = As.reverse ++ .ref b0 :: rest) (hw : (rest.map fun v => v.category).sum ≤ 8) (hdg : decode b pc = .ok (.invokespecial index, 3))
    (kk : ∀ (w1 : va_W) (H1 : Heap) (locs1 : List Loc), post w1 → va_P D clz (w1 ++ X) H1 → va_D A (w1 ++ X) → va_S A s.heap H1 locs1 → W p l e R s m av.toArray below meth c H1 locs1 (cells + mc) (slots + ms) Z (F0 m (pc + 3) ls rest)) : W p l e R s m av.toArray below meth c H locs cells slots Z (F0 m pc ls st0) := by
  obtain ⟨hx, hb, hml, hown, hts, hK, hN, hA⟩ := C0
  have hF : ∀ q, va_A ws0 H.size q → A q := wAX (Wd := fun _ : Unit => ws0) (u := ()) hA hD hS
  have hPC := (vp_app.mp hP).1
  have hDC := (vd_app.mp hD).1
  have hrun : va_Run p l e R s m av.toArray below meth c H locs cells slots mc ms (F0 m pc ls st0) rest (va_Qv post (fun w1 t => va_P D clz w1 t.heap ∧ va_K D clz (tyz Y) t ∧ va_D (va_A ws0 H.size) w1) (va_A ws0 H.size) (Value.ref b0 :: As).toArray) (va_A ws0 H.size) := by
    rcases hlink with hlink | hlink
    · exact va_runI (As := As) (rest := rest) ⟨hx, hb, hml, hown, hts⟩ (hM H.size) ⟨cbR As.length rfl rfl hts hcode hini hlink hd hR, hyn, hts _ hinst⟩ (prC hK hN hNM hPC hDC) rfl rfl hsz hst (lv_room (rest := st0) hw) hdg ⟨hcl, hsl⟩
    · exact va_runIN (As := As) (rest := rest) ⟨hx, hb, hml, hown, hts⟩ (hM H.size) ⟨va_cnB As.length hts (tb_good hcode) rfl rfl rfl hlink (hts _ hini) hd hR, hyn, hts _ hinst⟩ (prC hK hN hNM hPC hDC) rfl rfl hsz hst (lv_room (rest := st0) hw) hdg ⟨hcl, hsl⟩
  refine va_callv hrun hS (fun q _ h => hF q h) hF (fun w1 t H1 locs1 ht hvm hw hB hz1 hk1 hS1 => ?_)
  obtain ⟨hP1, hK1, hD1⟩ := hB
  rw [ht] at hP1
  obtain ⟨j1, j2⟩ := vj hP hD hk1 hF hP1 hD1
  exact kk w1 H1 locs1 hw j1 j2 hS1
end SubC
abbrev b_Blocks_init : ByteArray := prog_2_method_1_code
def y_Blocks_init : MethodName := ⟨"FirmStore$Blocks", "<init>", "(LFirmStore$Memory;)V"⟩
theorem e_Blocks_init : y_Blocks_init.cls ≠ "java/lang/invoke/MethodHandle" ∧ y_Blocks_init.cls ≠ "java/lang/invoke/VarHandle" ∧ (parseMethodDescriptor y_Blocks_init.desc).map (fun d => d.parameters.length) = some 1 := by decide +kernel
theorem d_Blocks_init_0 : decode b_Blocks_init 0 = .ok (.aload_n 0, 1) := by decide +kernel
theorem d_Blocks_init_1 : decode b_Blocks_init 1 = .ok (.invokespecial 3, 3) := by decide +kernel
theorem d_Blocks_init_4 : decode b_Blocks_init 4 = .ok (.aload_n 0, 1) := by decide +kernel
theorem d_Blocks_init_5 : decode b_Blocks_init 5 = .ok (.aload_n 1, 1) := by decide +kernel
theorem d_Blocks_init_6 : decode b_Blocks_init 6 = .ok (.putfield 9, 3) := by decide +kernel
theorem d_Blocks_init_9 : decode b_Blocks_init 9 = .ok (.return_, 1) := by decide +kernel
abbrev b_Tree_init : ByteArray := prog_5_method_1_code
def y_Tree_init : MethodName := ⟨"FirmStore$Tree", "<init>", "(LFirmStore$Memory;LFirmStore$Blocks;)V"⟩
theorem e_Tree_init : y_Tree_init.cls ≠ "java/lang/invoke/MethodHandle" ∧ y_Tree_init.cls ≠ "java/lang/invoke/VarHandle" ∧ (parseMethodDescriptor y_Tree_init.desc).map (fun d => d.parameters.length) = some 2 := by decide +kernel
theorem d_Tree_init_0 : decode b_Tree_init 0 = .ok (.aload_n 0, 1) := by decide +kernel
theorem d_Tree_init_1 : decode b_Tree_init 1 = .ok (.invokespecial 3, 3) := by decide +kernel
theorem d_Tree_init_4 : decode b_Tree_init 4 = .ok (.aload_n 0, 1) := by decide +kernel
theorem d_Tree_init_5 : decode b_Tree_init 5 = .ok (.aload_n 1, 1) := by decide +kernel
theorem d_Tree_init_6 : decode b_Tree_init 6 = .ok (.putfield 9, 3) := by decide +kernel
theorem d_Tree_init_9 : decode b_Tree_init 9 = .ok (.aload_n 0, 1) := by decide +kernel
theorem d_Tree_init_10 : decode b_Tree_init 10 = .ok (.aload_n 2, 1) := by decide +kernel
theorem d_Tree_init_11 : decode b_Tree_init 11 = .ok (.putfield 15, 3) := by decide +kernel
theorem d_Tree_init_14 : decode b_Tree_init 14 = .ok (.return_, 1) := by decide +kernel
abbrev b_Table_init : ByteArray := prog_4_method_1_code
def y_Table_init : MethodName := ⟨"FirmStore$Table", "<init>", "(LFirmStore$Memory;LFirmStore$Blocks;)V"⟩
theorem e_Table_init : y_Table_init.cls ≠ "java/lang/invoke/MethodHandle" ∧ y_Table_init.cls ≠ "java/lang/invoke/VarHandle" ∧ (parseMethodDescriptor y_Table_init.desc).map (fun d => d.parameters.length) = some 2 := by decide +kernel
theorem d_Table_init_0 : decode b_Table_init 0 = .ok (.aload_n 0, 1) := by decide +kernel
theorem d_Table_init_1 : decode b_Table_init 1 = .ok (.invokespecial 3, 3) := by decide +kernel
theorem d_Table_init_4 : decode b_Table_init 4 = .ok (.aload_n 0, 1) := by decide +kernel
theorem d_Table_init_5 : decode b_Table_init 5 = .ok (.aload_n 1, 1) := by decide +kernel
theorem d_Table_init_6 : decode b_Table_init 6 = .ok (.putfield 9, 3) := by decide +kernel
theorem d_Table_init_9 : decode b_Table_init 9 = .ok (.aload_n 0, 1) := by decide +kernel
theorem d_Table_init_10 : decode b_Table_init 10 = .ok (.aload_n 2, 1) := by decide +kernel
theorem d_Table_init_11 : decode b_Table_init 11 = .ok (.putfield 15, 3) := by decide +kernel
theorem d_Table_init_14 : decode b_Table_init 14 = .ok (.return_, 1) := by decide +kernel
abbrev b_Memory_init : ByteArray := prog_3_method_1_code
def y_Memory_init : MethodName := ⟨"FirmStore$Memory", "<init>", "()V"⟩
theorem e_Memory_init : y_Memory_init.cls ≠ "java/lang/invoke/MethodHandle" ∧ y_Memory_init.cls ≠ "java/lang/invoke/VarHandle" ∧ (parseMethodDescriptor y_Memory_init.desc).map (fun d => d.parameters.length) = some 0 := by decide +kernel
theorem d_Memory_init_0 : decode b_Memory_init 0 = .ok (.aload_n 0, 1) := by decide +kernel
theorem d_Memory_init_1 : decode b_Memory_init 1 = .ok (.invokespecial 1, 3) := by decide +kernel
theorem d_Memory_init_4 : decode b_Memory_init 4 = .ok (.aload_n 0, 1) := by decide +kernel
theorem d_Memory_init_5 : decode b_Memory_init 5 = .ok (.sipush 279, 3) := by decide +kernel
theorem d_Memory_init_8 : decode b_Memory_init 8 = .ok (.newarray .long, 2) := by decide +kernel
theorem d_Memory_init_10 : decode b_Memory_init 10 = .ok (.putfield 9, 3) := by decide +kernel
theorem d_Memory_init_13 : decode b_Memory_init 13 = .ok (.aload_n 0, 1) := by decide +kernel
theorem d_Memory_init_14 : decode b_Memory_init 14 = .ok (.bipush 9, 2) := by decide +kernel
theorem d_Memory_init_16 : decode b_Memory_init 16 = .ok (.newarray .int, 2) := by decide +kernel
theorem d_Memory_init_18 : decode b_Memory_init 18 = .ok (.putfield 13, 3) := by decide +kernel
theorem d_Memory_init_21 : decode b_Memory_init 21 = .ok (.aload_n 0, 1) := by decide +kernel
theorem d_Memory_init_22 : decode b_Memory_init 22 = .ok (.bipush 9, 2) := by decide +kernel
theorem d_Memory_init_24 : decode b_Memory_init 24 = .ok (.newarray .long, 2) := by decide +kernel
theorem d_Memory_init_26 : decode b_Memory_init 26 = .ok (.putfield 17, 3) := by decide +kernel
theorem d_Memory_init_29 : decode b_Memory_init 29 = .ok (.aload_n 0, 1) := by decide +kernel
theorem d_Memory_init_30 : decode b_Memory_init 30 = .ok (.iconst 0, 1) := by decide +kernel
theorem d_Memory_init_31 : decode b_Memory_init 31 = .ok (.putfield 20, 3) := by decide +kernel
theorem d_Memory_init_34 : decode b_Memory_init 34 = .ok (.aload_n 0, 1) := by decide +kernel
theorem d_Memory_init_35 : decode b_Memory_init 35 = .ok (.iconst (-1), 1) := by decide +kernel
theorem d_Memory_init_36 : decode b_Memory_init 36 = .ok (.putfield 24, 3) := by decide +kernel
theorem d_Memory_init_39 : decode b_Memory_init 39 = .ok (.aload_n 0, 1) := by decide +kernel
theorem d_Memory_init_40 : decode b_Memory_init 40 = .ok (.iconst 0, 1) := by decide +kernel
theorem d_Memory_init_41 : decode b_Memory_init 41 = .ok (.putfield 27, 3) := by decide +kernel
theorem d_Memory_init_44 : decode b_Memory_init 44 = .ok (.aload_n 0, 1) := by decide +kernel
theorem d_Memory_init_45 : decode b_Memory_init 45 = .ok (.iconst 0, 1) := by decide +kernel
theorem d_Memory_init_46 : decode b_Memory_init 46 = .ok (.putfield 30, 3) := by decide +kernel
theorem d_Memory_init_49 : decode b_Memory_init 49 = .ok (.aload_n 0, 1) := by decide +kernel
theorem d_Memory_init_50 : decode b_Memory_init 50 = .ok (.iconst 0, 1) := by decide +kernel
theorem d_Memory_init_51 : decode b_Memory_init 51 = .ok (.putfield 33, 3) := by decide +kernel
theorem d_Memory_init_54 : decode b_Memory_init 54 = .ok (.return_, 1) := by decide +kernel
def u_0 : SM := (fun _ => 0, fun _ => 0, fun _ => 0, 0, -1, 0, 0, 0)
def v_0 : SR := (fun _ => 0, fun _ => 0, fun _ => 0, fun _ => 0, fun _ => 0, 0, -1, 0, 0, 0, 0, 0)
abbrev b_Firm_init : ByteArray := prog_1_method_1_code
def y_Firm_init : MethodName := ⟨"FirmStore", "<init>", "()V"⟩
theorem e_Firm_init : y_Firm_init.cls ≠ "java/lang/invoke/MethodHandle" ∧ y_Firm_init.cls ≠ "java/lang/invoke/VarHandle" ∧ (parseMethodDescriptor y_Firm_init.desc).map (fun d => d.parameters.length) = some 0 := by decide +kernel
theorem d_Firm_init_0 : decode b_Firm_init 0 = .ok (.aload_n 0, 1) := by decide +kernel
theorem d_Firm_init_1 : decode b_Firm_init 1 = .ok (.invokespecial 1, 3) := by decide +kernel
theorem d_Firm_init_4 : decode b_Firm_init 4 = .ok (.aload_n 0, 1) := by decide +kernel
theorem d_Firm_init_5 : decode b_Firm_init 5 = .ok (.new 7, 3) := by decide +kernel
theorem d_Firm_init_8 : decode b_Firm_init 8 = .ok (.dup, 1) := by decide +kernel
theorem d_Firm_init_9 : decode b_Firm_init 9 = .ok (.invokespecial 9, 3) := by decide +kernel
theorem d_Firm_init_12 : decode b_Firm_init 12 = .ok (.putfield 10, 3) := by decide +kernel
theorem d_Firm_init_15 : decode b_Firm_init 15 = .ok (.aload_n 0, 1) := by decide +kernel
theorem d_Firm_init_16 : decode b_Firm_init 16 = .ok (.new 16, 3) := by decide +kernel
theorem d_Firm_init_19 : decode b_Firm_init 19 = .ok (.dup, 1) := by decide +kernel
theorem d_Firm_init_20 : decode b_Firm_init 20 = .ok (.aload_n 0, 1) := by decide +kernel
theorem d_Firm_init_21 : decode b_Firm_init 21 = .ok (.getfield 10, 3) := by decide +kernel
theorem d_Firm_init_24 : decode b_Firm_init 24 = .ok (.invokespecial 18, 3) := by decide +kernel
theorem d_Firm_init_27 : decode b_Firm_init 27 = .ok (.putfield 21, 3) := by decide +kernel
theorem d_Firm_init_30 : decode b_Firm_init 30 = .ok (.aload_n 0, 1) := by decide +kernel
theorem d_Firm_init_31 : decode b_Firm_init 31 = .ok (.new 25, 3) := by decide +kernel
theorem d_Firm_init_34 : decode b_Firm_init 34 = .ok (.dup, 1) := by decide +kernel
theorem d_Firm_init_35 : decode b_Firm_init 35 = .ok (.aload_n 0, 1) := by decide +kernel
theorem d_Firm_init_36 : decode b_Firm_init 36 = .ok (.getfield 10, 3) := by decide +kernel
theorem d_Firm_init_39 : decode b_Firm_init 39 = .ok (.aload_n 0, 1) := by decide +kernel
theorem d_Firm_init_40 : decode b_Firm_init 40 = .ok (.getfield 21, 3) := by decide +kernel
theorem d_Firm_init_43 : decode b_Firm_init 43 = .ok (.invokespecial 27, 3) := by decide +kernel
theorem d_Firm_init_46 : decode b_Firm_init 46 = .ok (.putfield 30, 3) := by decide +kernel
theorem d_Firm_init_49 : decode b_Firm_init 49 = .ok (.aload_n 0, 1) := by decide +kernel
theorem d_Firm_init_50 : decode b_Firm_init 50 = .ok (.new 34, 3) := by decide +kernel
theorem d_Firm_init_53 : decode b_Firm_init 53 = .ok (.dup, 1) := by decide +kernel
theorem d_Firm_init_54 : decode b_Firm_init 54 = .ok (.aload_n 0, 1) := by decide +kernel
theorem d_Firm_init_55 : decode b_Firm_init 55 = .ok (.getfield 10, 3) := by decide +kernel
theorem d_Firm_init_58 : decode b_Firm_init 58 = .ok (.aload_n 0, 1) := by decide +kernel
theorem d_Firm_init_59 : decode b_Firm_init 59 = .ok (.getfield 21, 3) := by decide +kernel
theorem d_Firm_init_62 : decode b_Firm_init 62 = .ok (.invokespecial 36, 3) := by decide +kernel
theorem d_Firm_init_65 : decode b_Firm_init 65 = .ok (.putfield 37, 3) := by decide +kernel
theorem d_Firm_init_68 : decode b_Firm_init 68 = .ok (.return_, 1) := by decide +kernel
abbrev b_Ref_init : ByteArray := prog_7_method_1_code
def y_Ref_init : MethodName := ⟨"FirmStoreModel", "<init>", "()V"⟩
theorem e_Ref_init : y_Ref_init.cls ≠ "java/lang/invoke/MethodHandle" ∧ y_Ref_init.cls ≠ "java/lang/invoke/VarHandle" ∧ (parseMethodDescriptor y_Ref_init.desc).map (fun d => d.parameters.length) = some 0 := by decide +kernel
theorem d_Ref_init_0 : decode b_Ref_init 0 = .ok (.aload_n 0, 1) := by decide +kernel
theorem d_Ref_init_1 : decode b_Ref_init 1 = .ok (.invokespecial 1, 3) := by decide +kernel
theorem d_Ref_init_4 : decode b_Ref_init 4 = .ok (.aload_n 0, 1) := by decide +kernel
theorem d_Ref_init_5 : decode b_Ref_init 5 = .ok (.sipush 279, 3) := by decide +kernel
theorem d_Ref_init_8 : decode b_Ref_init 8 = .ok (.newarray .long, 2) := by decide +kernel
theorem d_Ref_init_10 : decode b_Ref_init 10 = .ok (.putfield 7, 3) := by decide +kernel
theorem d_Ref_init_13 : decode b_Ref_init 13 = .ok (.aload_n 0, 1) := by decide +kernel
theorem d_Ref_init_14 : decode b_Ref_init 14 = .ok (.bipush 16, 2) := by decide +kernel
theorem d_Ref_init_16 : decode b_Ref_init 16 = .ok (.newarray .int, 2) := by decide +kernel
theorem d_Ref_init_18 : decode b_Ref_init 18 = .ok (.putfield 13, 3) := by decide +kernel
theorem d_Ref_init_21 : decode b_Ref_init 21 = .ok (.aload_n 0, 1) := by decide +kernel
theorem d_Ref_init_22 : decode b_Ref_init 22 = .ok (.bipush 16, 2) := by decide +kernel
theorem d_Ref_init_24 : decode b_Ref_init 24 = .ok (.newarray .long, 2) := by decide +kernel
theorem d_Ref_init_26 : decode b_Ref_init 26 = .ok (.putfield 17, 3) := by decide +kernel
theorem d_Ref_init_29 : decode b_Ref_init 29 = .ok (.aload_n 0, 1) := by decide +kernel
theorem d_Ref_init_30 : decode b_Ref_init 30 = .ok (.iconst (-1), 1) := by decide +kernel
theorem d_Ref_init_31 : decode b_Ref_init 31 = .ok (.putfield 20, 3) := by decide +kernel
theorem d_Ref_init_34 : decode b_Ref_init 34 = .ok (.aload_n 0, 1) := by decide +kernel
theorem d_Ref_init_35 : decode b_Ref_init 35 = .ok (.bipush 31, 2) := by decide +kernel
theorem d_Ref_init_37 : decode b_Ref_init 37 = .ok (.newarray .boolean, 2) := by decide +kernel
theorem d_Ref_init_39 : decode b_Ref_init 39 = .ok (.putfield 24, 3) := by decide +kernel
theorem d_Ref_init_42 : decode b_Ref_init 42 = .ok (.aload_n 0, 1) := by decide +kernel
theorem d_Ref_init_43 : decode b_Ref_init 43 = .ok (.bipush 16, 2) := by decide +kernel
theorem d_Ref_init_45 : decode b_Ref_init 45 = .ok (.newarray .int, 2) := by decide +kernel
theorem d_Ref_init_47 : decode b_Ref_init 47 = .ok (.putfield 28, 3) := by decide +kernel
theorem d_Ref_init_50 : decode b_Ref_init 50 = .ok (.return_, 1) := by decide +kernel
theorem q_19 : (Jvm.Cond.methodLink "FirmStore" (1 : Nat) ({ cls := "java/lang/Object", name := "<init>", desc := "()V" } : Jvm.MethodName)) ∈ tbG := tbG_in (List.mem_of_getElem? (i := 79) (by decide +kernel)) rfl
theorem q_20 : (Jvm.Cond.instanceMethod ({ cls := "java/lang/Object", name := "<init>", desc := "()V" } : Jvm.MethodName)) ∈ tbG := tbG_in (List.mem_of_getElem? (i := 80) (by decide +kernel)) rfl
theorem q_21 : (Jvm.Cond.code ({ cls := "java/lang/Object", name := "<init>", desc := "()V" } : Jvm.MethodName) object_method_1_code (1 : Nat) (Option.none : Option Jvm.ClassFile.FieldType)) ∈ tbG := tbG_in (List.mem_of_getElem? (i := 81) (by decide +kernel)) rfl
theorem q_22 : (Jvm.Cond.classLink "FirmStore" (7 : Nat) "FirmStore$Memory") ∈ tbG := tbG_in (List.mem_of_getElem? (i := 82) (by decide +kernel)) rfl
theorem q_23 : (Jvm.Cond.instantiable "FirmStore$Memory" (8 : Nat)) ∈ tbG := tbG_in (List.mem_of_getElem? (i := 83) (by decide +kernel)) rfl
theorem q_25 : (Jvm.Cond.instanceMethod ({ cls := "FirmStore$Memory", name := "<init>", desc := "()V" } : Jvm.MethodName)) ∈ tbG := tbG_in (List.mem_of_getElem? (i := 85) (by decide +kernel)) rfl
theorem q_26 : (Jvm.Cond.code ({ cls := "FirmStore$Memory", name := "<init>", desc := "()V" } : Jvm.MethodName) prog_3_method_1_code (1 : Nat) (Option.none : Option Jvm.ClassFile.FieldType)) ∈ tbG := tbG_in (List.mem_of_getElem? (i := 86) (by decide +kernel)) rfl
theorem q_27 : (Jvm.Cond.methodLink "FirmStore$Memory" (1 : Nat) ({ cls := "java/lang/Object", name := "<init>", desc := "()V" } : Jvm.MethodName)) ∈ tbG := tbG_in (List.mem_of_getElem? (i := 87) (by decide +kernel)) rfl
theorem q_55 : (Jvm.Cond.arrayClass Jvm.ClassFile.FieldType.long) ∈ tbG := tbG_in (List.mem_of_getElem? (i := 115) (by decide +kernel)) rfl
theorem q_56 : (Jvm.Cond.arrayClass Jvm.ClassFile.FieldType.int) ∈ tbG := tbG_in (List.mem_of_getElem? (i := 116) (by decide +kernel)) rfl
theorem q_57 : (Jvm.Cond.classLink "FirmStore" (16 : Nat) "FirmStore$Blocks") ∈ tbG := tbG_in (List.mem_of_getElem? (i := 117) (by decide +kernel)) rfl
theorem q_58 : (Jvm.Cond.instantiable "FirmStore$Blocks" (1 : Nat)) ∈ tbG := tbG_in (List.mem_of_getElem? (i := 118) (by decide +kernel)) rfl
theorem q_59 : (Jvm.Cond.methodLink "FirmStore" (18 : Nat) ({ cls := "FirmStore$Blocks", name := "<init>", desc := "(LFirmStore$Memory;)V" } : Jvm.MethodName)) ∈ tbG := tbG_in (List.mem_of_getElem? (i := 119) (by decide +kernel)) rfl
theorem q_60 : (Jvm.Cond.instanceMethod ({ cls := "FirmStore$Blocks", name := "<init>", desc := "(LFirmStore$Memory;)V" } : Jvm.MethodName)) ∈ tbG := tbG_in (List.mem_of_getElem? (i := 120) (by decide +kernel)) rfl
theorem q_61 : (Jvm.Cond.code ({ cls := "FirmStore$Blocks", name := "<init>", desc := "(LFirmStore$Memory;)V" } : Jvm.MethodName) prog_2_method_1_code (2 : Nat) (Option.none : Option Jvm.ClassFile.FieldType)) ∈ tbG := tbG_in (List.mem_of_getElem? (i := 121) (by decide +kernel)) rfl
theorem q_62 : (Jvm.Cond.methodLink "FirmStore$Blocks" (3 : Nat) ({ cls := "java/lang/Object", name := "<init>", desc := "()V" } : Jvm.MethodName)) ∈ tbG := tbG_in (List.mem_of_getElem? (i := 122) (by decide +kernel)) rfl
theorem q_67 : (Jvm.Cond.classLink "FirmStore" (25 : Nat) "FirmStore$Tree") ∈ tbG := tbG_in (List.mem_of_getElem? (i := 127) (by decide +kernel)) rfl
theorem q_68 : (Jvm.Cond.instantiable "FirmStore$Tree" (2 : Nat)) ∈ tbG := tbG_in (List.mem_of_getElem? (i := 128) (by decide +kernel)) rfl
theorem q_69 : (Jvm.Cond.methodLink "FirmStore" (27 : Nat) ({ cls := "FirmStore$Tree", name := "<init>", desc := "(LFirmStore$Memory;LFirmStore$Blocks;)V" } : Jvm.MethodName)) ∈ tbG := tbG_in (List.mem_of_getElem? (i := 129) (by decide +kernel)) rfl
theorem q_70 : (Jvm.Cond.instanceMethod ({ cls := "FirmStore$Tree", name := "<init>", desc := "(LFirmStore$Memory;LFirmStore$Blocks;)V" } : Jvm.MethodName)) ∈ tbG := tbG_in (List.mem_of_getElem? (i := 130) (by decide +kernel)) rfl
theorem q_71 : (Jvm.Cond.code ({ cls := "FirmStore$Tree", name := "<init>", desc := "(LFirmStore$Memory;LFirmStore$Blocks;)V" } : Jvm.MethodName) prog_5_method_1_code (3 : Nat) (Option.none : Option Jvm.ClassFile.FieldType)) ∈ tbG := tbG_in (List.mem_of_getElem? (i := 131) (by decide +kernel)) rfl
theorem q_72 : (Jvm.Cond.methodLink "FirmStore$Tree" (3 : Nat) ({ cls := "java/lang/Object", name := "<init>", desc := "()V" } : Jvm.MethodName)) ∈ tbG := tbG_in (List.mem_of_getElem? (i := 132) (by decide +kernel)) rfl
theorem q_80 : (Jvm.Cond.classLink "FirmStore" (34 : Nat) "FirmStore$Table") ∈ tbG := tbG_in (List.mem_of_getElem? (i := 140) (by decide +kernel)) rfl
theorem q_81 : (Jvm.Cond.instantiable "FirmStore$Table" (2 : Nat)) ∈ tbG := tbG_in (List.mem_of_getElem? (i := 141) (by decide +kernel)) rfl
theorem q_82 : (Jvm.Cond.methodLink "FirmStore" (36 : Nat) ({ cls := "FirmStore$Table", name := "<init>", desc := "(LFirmStore$Memory;LFirmStore$Blocks;)V" } : Jvm.MethodName)) ∈ tbG := tbG_in (List.mem_of_getElem? (i := 142) (by decide +kernel)) rfl
theorem q_83 : (Jvm.Cond.instanceMethod ({ cls := "FirmStore$Table", name := "<init>", desc := "(LFirmStore$Memory;LFirmStore$Blocks;)V" } : Jvm.MethodName)) ∈ tbG := tbG_in (List.mem_of_getElem? (i := 143) (by decide +kernel)) rfl
theorem q_84 : (Jvm.Cond.code ({ cls := "FirmStore$Table", name := "<init>", desc := "(LFirmStore$Memory;LFirmStore$Blocks;)V" } : Jvm.MethodName) prog_4_method_1_code (3 : Nat) (Option.none : Option Jvm.ClassFile.FieldType)) ∈ tbG := tbG_in (List.mem_of_getElem? (i := 144) (by decide +kernel)) rfl
theorem q_85 : (Jvm.Cond.methodLink "FirmStore$Table" (3 : Nat) ({ cls := "java/lang/Object", name := "<init>", desc := "()V" } : Jvm.MethodName)) ∈ tbG := tbG_in (List.mem_of_getElem? (i := 145) (by decide +kernel)) rfl
theorem q_536 : (Jvm.Cond.methodLink "FirmStoreModel" (1 : Nat) ({ cls := "java/lang/Object", name := "<init>", desc := "()V" } : Jvm.MethodName)) ∈ tbG := tbG_in (List.mem_of_getElem? (i := 596) (by decide +kernel)) rfl
theorem q_574 : (Jvm.Cond.arrayClass Jvm.ClassFile.FieldType.boolean) ∈ tbG := tbG_in (List.mem_of_getElem? (i := 634) (by decide +kernel)) rfl
set_option maxRecDepth 100000 in
set_option maxHeartbeats 4000000 in
theorem c_Blocks_init (l : Launch) (D : va_G) (Y : Nat → ClassId) (a x0 : Nat) : KC l D Y [(a, .inr (2, [.null]))] (fun w1 => w1 = [(a, .inr (2, [.ref x0]))]) y_Blocks_init b_Blocks_init 2 1 12 0 0 [.ref a, .ref x0] := by
  refine mkC (by decide) rfl (Nat.le_of_ble_eq_true rfl) ?_
  intro p e s m below meth c A Z ls C0 hin hNM hP hD hS hl hret
  obtain ⟨hx, hb, hml, hown, hts, hK, hN, hA⟩ := id C0
  have hl : lv_has ls 2 [(0, .ref a), (1, .ref x0)] := hl
  refine lv_aload_n hx hb d_Blocks_init_0 rfl (lv_at hl 0 rfl) ?_
  refine W.objInit hx hb hown (hts _ q_62) (hts _ q_20) (hts _ q_21) rfl (by rw [hml]; exact hl.1) rfl d_Blocks_init_1 (Nat.le_of_ble_eq_true rfl) (Nat.le_of_ble_eq_true rfl) ?_
  refine W.eq (g2 := F0 m 4 ls []) rfl ?_
  refine lv_aload_n hx hb d_Blocks_init_4 rfl (lv_at hl 0 rfl) ?_
  refine lv_aload_n hx hb d_Blocks_init_5 rfl (lv_at hl 1 rfl) ?_
  refine va_putF (D := D) (ci := 2) (v := .ref x0) (ty := .object "FirmStore$Memory") (C := "FirmStore$Blocks") (T := F_Blocks) (N := 1) hx hb hts iz_Blocks t_Blocks t_Blocks_ok n_Blocks hown hK hP hD hS 0 rfl rfl 0 (by decide) (hts _ q_63) (fun _ h9 => h9) rfl hin rfl (by decide +kernel) rfl rfl (Nat.le_of_ble_eq_true rfl) d_Blocks_init_6 (fun H locs hP hD hS => ?_)
  have hP : va_P D clz [(a, .inr (2, [.ref x0]))] H := hP
  have hD : va_D A [(a, .inr (2, [.ref x0]))] := hD
  have hP := hP.sub (ws' := [(a, .inr (2, [.ref x0]))]) [0] rfl
  have hD := hD.sub (ws' := [(a, .inr (2, [.ref x0]))]) [0] (by decide) rfl
  exact hret _ _ _ _ _ _ _ rfl (by decide) (by decide) hP hD hS d_Blocks_init_9
set_option maxRecDepth 100000 in
set_option maxHeartbeats 4000000 in
theorem c_Tree_init (l : Launch) (D : va_G) (Y : Nat → ClassId) (a x0 x1 : Nat) : KC l D Y [(a, .inr (3, [.null, .null]))] (fun w1 => w1 = [(a, .inr (3, [.ref x0, .ref x1]))]) y_Tree_init b_Tree_init 3 1 12 0 0 [.ref a, .ref x0, .ref x1] := by
  refine mkC (by decide) rfl (Nat.le_of_ble_eq_true rfl) ?_
  intro p e s m below meth c A Z ls C0 hin hNM hP hD hS hl hret
  obtain ⟨hx, hb, hml, hown, hts, hK, hN, hA⟩ := id C0
  have hl : lv_has ls 3 [(0, .ref a), (1, .ref x0), (2, .ref x1)] := hl
  refine lv_aload_n hx hb d_Tree_init_0 rfl (lv_at hl 0 rfl) ?_
  refine W.objInit hx hb hown (hts _ q_72) (hts _ q_20) (hts _ q_21) rfl (by rw [hml]; exact hl.1) rfl d_Tree_init_1 (Nat.le_of_ble_eq_true rfl) (Nat.le_of_ble_eq_true rfl) ?_
  refine W.eq (g2 := F0 m 4 ls []) rfl ?_
  refine lv_aload_n hx hb d_Tree_init_4 rfl (lv_at hl 0 rfl) ?_
  refine lv_aload_n hx hb d_Tree_init_5 rfl (lv_at hl 1 rfl) ?_
  refine va_putF (D := D) (ci := 3) (v := .ref x0) (ty := .object "FirmStore$Memory") (C := "FirmStore$Tree") (T := F_Tree) (N := 2) hx hb hts iz_Tree t_Tree t_Tree_ok n_Tree hown hK hP hD hS 0 rfl rfl 0 (by decide) (hts _ q_73) (fun _ h9 => h9) rfl hin rfl (by decide +kernel) rfl rfl (Nat.le_of_ble_eq_true rfl) d_Tree_init_6 (fun H locs hP hD hS => ?_)
  have hP : va_P D clz [(a, .inr (3, [.ref x0, .null]))] H := hP
  have hD : va_D A [(a, .inr (3, [.ref x0, .null]))] := hD
  refine lv_aload_n hx hb d_Tree_init_9 rfl (lv_at hl 0 rfl) ?_
  refine lv_aload_n hx hb d_Tree_init_10 rfl (lv_at hl 2 rfl) ?_
  refine va_putF (D := D) (ci := 3) (v := .ref x1) (ty := .object "FirmStore$Blocks") (C := "FirmStore$Tree") (T := F_Tree) (N := 2) hx hb hts iz_Tree t_Tree t_Tree_ok n_Tree hown hK hP hD hS 0 rfl rfl 1 (by decide) (hts _ q_74) (fun _ h9 => h9) rfl hin rfl (by decide +kernel) rfl rfl (Nat.le_of_ble_eq_true rfl) d_Tree_init_11 (fun H locs hP hD hS => ?_)
  have hP : va_P D clz [(a, .inr (3, [.ref x0, .ref x1]))] H := hP
  have hD : va_D A [(a, .inr (3, [.ref x0, .ref x1]))] := hD
  have hP := hP.sub (ws' := [(a, .inr (3, [.ref x0, .ref x1]))]) [0] rfl
  have hD := hD.sub (ws' := [(a, .inr (3, [.ref x0, .ref x1]))]) [0] (by decide) rfl
  exact hret _ _ _ _ _ _ _ rfl (by decide) (by decide) hP hD hS d_Tree_init_14
set_option maxRecDepth 100000 in
set_option maxHeartbeats 4000000 in
theorem c_Table_init (l : Launch) (D : va_G) (Y : Nat → ClassId) (a x0 x1 : Nat) : KC l D Y [(a, .inr (4, [.null, .null]))] (fun w1 => w1 = [(a, .inr (4, [.ref x0, .ref x1]))]) y_Table_init b_Table_init 3 1 12 0 0 [.ref a, .ref x0, .ref x1] := by
  refine mkC (by decide) rfl (Nat.le_of_ble_eq_true rfl) ?_
  intro p e s m below meth c A Z ls C0 hin hNM hP hD hS hl hret
  obtain ⟨hx, hb, hml, hown, hts, hK, hN, hA⟩ := id C0
  have hl : lv_has ls 3 [(0, .ref a), (1, .ref x0), (2, .ref x1)] := hl
  refine lv_aload_n hx hb d_Table_init_0 rfl (lv_at hl 0 rfl) ?_
  refine W.objInit hx hb hown (hts _ q_85) (hts _ q_20) (hts _ q_21) rfl (by rw [hml]; exact hl.1) rfl d_Table_init_1 (Nat.le_of_ble_eq_true rfl) (Nat.le_of_ble_eq_true rfl) ?_
  refine W.eq (g2 := F0 m 4 ls []) rfl ?_
  refine lv_aload_n hx hb d_Table_init_4 rfl (lv_at hl 0 rfl) ?_
  refine lv_aload_n hx hb d_Table_init_5 rfl (lv_at hl 1 rfl) ?_
  refine va_putF (D := D) (ci := 4) (v := .ref x0) (ty := .object "FirmStore$Memory") (C := "FirmStore$Table") (T := F_Table) (N := 2) hx hb hts iz_Table t_Table t_Table_ok n_Table hown hK hP hD hS 0 rfl rfl 0 (by decide) (hts _ q_86) (fun _ h9 => h9) rfl hin rfl (by decide +kernel) rfl rfl (Nat.le_of_ble_eq_true rfl) d_Table_init_6 (fun H locs hP hD hS => ?_)
  have hP : va_P D clz [(a, .inr (4, [.ref x0, .null]))] H := hP
  have hD : va_D A [(a, .inr (4, [.ref x0, .null]))] := hD
  refine lv_aload_n hx hb d_Table_init_9 rfl (lv_at hl 0 rfl) ?_
  refine lv_aload_n hx hb d_Table_init_10 rfl (lv_at hl 2 rfl) ?_
  refine va_putF (D := D) (ci := 4) (v := .ref x1) (ty := .object "FirmStore$Blocks") (C := "FirmStore$Table") (T := F_Table) (N := 2) hx hb hts iz_Table t_Table t_Table_ok n_Table hown hK hP hD hS 0 rfl rfl 1 (by decide) (hts _ q_87) (fun _ h9 => h9) rfl hin rfl (by decide +kernel) rfl rfl (Nat.le_of_ble_eq_true rfl) d_Table_init_11 (fun H locs hP hD hS => ?_)
  have hP : va_P D clz [(a, .inr (4, [.ref x0, .ref x1]))] H := hP
  have hD : va_D A [(a, .inr (4, [.ref x0, .ref x1]))] := hD
  have hP := hP.sub (ws' := [(a, .inr (4, [.ref x0, .ref x1]))]) [0] rfl
  have hD := hD.sub (ws' := [(a, .inr (4, [.ref x0, .ref x1]))]) [0] (by decide) rfl
  exact hret _ _ _ _ _ _ _ rfl (by decide) (by decide) hP hD hS d_Table_init_14
set_option maxRecDepth 100000 in
set_option maxHeartbeats 4000000 in
theorem c_Memory_init (l : Launch) (D : va_G) (Y : Nat → ClassId) (a : Nat) : KC l D Y [(a, .inr (1, [.null, .null, .null, .int 0, .int 0, .int 0, .int 0, .int 0]))] (fun w1 => ∃ z1 z2 z3 : Nat, w1 = [(a, .inr (1, [.ref z1, .ref z2, .ref z3, .int (0 : Int32), .int (-1 : Int32), .int (0 : Int32), .int (0 : Int32), .int (0 : Int32)])), (z1, .inl (Y 0, 279, .inr (.inl (fun _ => 0)))), (z2, .inl (Y 1, 9, .inl (fun _ => 0))), (z3, .inl (Y 0, 9, .inr (.inl (fun _ => 0))))]) y_Memory_init b_Memory_init 1 1 12 3 297 [.ref a] := by
  refine mkC (by decide) rfl (Nat.le_of_ble_eq_true rfl) ?_
  intro p e s m below meth c A Z ls C0 hin hNM hP hD hS hl hret
  obtain ⟨hx, hb, hml, hown, hts, hK, hN, hA⟩ := id C0
  have hl : lv_has ls 1 [(0, .ref a)] := hl
  refine lv_aload_n hx hb d_Memory_init_0 rfl (lv_at hl 0 rfl) ?_
  refine W.objInit hx hb hown (hts _ q_27) (hts _ q_20) (hts _ q_21) rfl (by rw [hml]; exact hl.1) rfl d_Memory_init_1 (Nat.le_of_ble_eq_true rfl) (Nat.le_of_ble_eq_true rfl) ?_
  refine W.eq (g2 := F0 m 4 ls []) rfl ?_
  refine lv_aload_n hx hb d_Memory_init_4 rfl (lv_at hl 0 rfl) ?_
  refine lv_sipush (v := (279 : Int32)) hx hb d_Memory_init_5 (by decide) ?_
  refine va_newa (atype := .long) (a0 := (279, .inr (.inl (fun _ => 0)))) hx hb (hts _ q_55) (ty := .long) rfl hK hP hD hS hA (fun _ => rfl) (by decide) rfl (by decide) (by decide) (by decide) d_Memory_init_8 (fun z1 cA H hK1 hP hD hS => ?_)
  obtain rfl : cA = Y 0 := ra_eq hK1 0 rfl (by decide)
  refine W.widen (k := 1) (n := 279) (by decide) (by decide) ?_
  have hP : va_P D clz [(a, .inr (1, [.null, .null, .null, .int 0, .int 0, .int 0, .int 0, .int 0])), (z1, .inl (Y 0, 279, .inr (.inl (fun _ => 0))))] H := hP
  have hD : va_D A [(a, .inr (1, [.null, .null, .null, .int 0, .int 0, .int 0, .int 0, .int 0])), (z1, .inl (Y 0, 279, .inr (.inl (fun _ => 0))))] := hD
  refine va_putF (D := D) (ci := 1) (v := .ref z1) (ty := .array .long) (C := "FirmStore$Memory") (T := F_Memory) (N := 8) hx hb hts iz_Memory t_Memory t_Memory_ok n_Memory hown hK hP hD hS 0 rfl rfl 0 (by decide) (hts _ q_28) (fun _ h9 => h9) rfl hin rfl (by decide +kernel) rfl rfl (Nat.le_of_ble_eq_true rfl) d_Memory_init_10 (fun H locs hP hD hS => ?_)
  have hP : va_P D clz [(a, .inr (1, [.ref z1, .null, .null, .int 0, .int 0, .int 0, .int 0, .int 0])), (z1, .inl (Y 0, 279, .inr (.inl (fun _ => 0))))] H := hP
  have hD : va_D A [(a, .inr (1, [.ref z1, .null, .null, .int 0, .int 0, .int 0, .int 0, .int 0])), (z1, .inl (Y 0, 279, .inr (.inl (fun _ => 0))))] := hD
  refine lv_aload_n hx hb d_Memory_init_13 rfl (lv_at hl 0 rfl) ?_
  refine lv_bipush (v := (9 : Int32)) hx hb d_Memory_init_14 (by decide) ?_
  refine va_newa (atype := .int) (a0 := (9, .inl (fun _ => 0))) hx hb (hts _ q_56) (ty := .int) rfl hK hP hD hS hA (fun _ => rfl) (by decide) rfl (by decide) (by decide) (by decide) d_Memory_init_16 (fun z2 cA H hK1 hP hD hS => ?_)
  obtain rfl : cA = Y 1 := ra_eq hK1 1 rfl (by decide)
  refine W.widen (k := 2) (n := 288) (by decide) (by decide) ?_
  have hP : va_P D clz [(a, .inr (1, [.ref z1, .null, .null, .int 0, .int 0, .int 0, .int 0, .int 0])), (z1, .inl (Y 0, 279, .inr (.inl (fun _ => 0)))), (z2, .inl (Y 1, 9, .inl (fun _ => 0)))] H := hP
  have hD : va_D A [(a, .inr (1, [.ref z1, .null, .null, .int 0, .int 0, .int 0, .int 0, .int 0])), (z1, .inl (Y 0, 279, .inr (.inl (fun _ => 0)))), (z2, .inl (Y 1, 9, .inl (fun _ => 0)))] := hD
  refine va_putF (D := D) (ci := 1) (v := .ref z2) (ty := .array .int) (C := "FirmStore$Memory") (T := F_Memory) (N := 8) hx hb hts iz_Memory t_Memory t_Memory_ok n_Memory hown hK hP hD hS 0 rfl rfl 1 (by decide) (hts _ q_29) (fun _ h9 => h9) rfl hin rfl (by decide +kernel) rfl rfl (Nat.le_of_ble_eq_true rfl) d_Memory_init_18 (fun H locs hP hD hS => ?_)
  have hP : va_P D clz [(a, .inr (1, [.ref z1, .ref z2, .null, .int 0, .int 0, .int 0, .int 0, .int 0])), (z1, .inl (Y 0, 279, .inr (.inl (fun _ => 0)))), (z2, .inl (Y 1, 9, .inl (fun _ => 0)))] H := hP
  have hD : va_D A [(a, .inr (1, [.ref z1, .ref z2, .null, .int 0, .int 0, .int 0, .int 0, .int 0])), (z1, .inl (Y 0, 279, .inr (.inl (fun _ => 0)))), (z2, .inl (Y 1, 9, .inl (fun _ => 0)))] := hD
  refine lv_aload_n hx hb d_Memory_init_21 rfl (lv_at hl 0 rfl) ?_
  refine lv_bipush (v := (9 : Int32)) hx hb d_Memory_init_22 (by decide) ?_
  refine va_newa (atype := .long) (a0 := (9, .inr (.inl (fun _ => 0)))) hx hb (hts _ q_55) (ty := .long) rfl hK hP hD hS hA (fun _ => rfl) (by decide) rfl (by decide) (by decide) (by decide) d_Memory_init_24 (fun z3 cA H hK1 hP hD hS => ?_)
  obtain rfl : cA = Y 0 := ra_eq hK1 0 rfl (by decide)
  refine W.widen (k := 3) (n := 297) (by decide) (by decide) ?_
  have hP : va_P D clz [(a, .inr (1, [.ref z1, .ref z2, .null, .int 0, .int 0, .int 0, .int 0, .int 0])), (z1, .inl (Y 0, 279, .inr (.inl (fun _ => 0)))), (z2, .inl (Y 1, 9, .inl (fun _ => 0))), (z3, .inl (Y 0, 9, .inr (.inl (fun _ => 0))))] H := hP
  have hD : va_D A [(a, .inr (1, [.ref z1, .ref z2, .null, .int 0, .int 0, .int 0, .int 0, .int 0])), (z1, .inl (Y 0, 279, .inr (.inl (fun _ => 0)))), (z2, .inl (Y 1, 9, .inl (fun _ => 0))), (z3, .inl (Y 0, 9, .inr (.inl (fun _ => 0))))] := hD
  refine va_putF (D := D) (ci := 1) (v := .ref z3) (ty := .array .long) (C := "FirmStore$Memory") (T := F_Memory) (N := 8) hx hb hts iz_Memory t_Memory t_Memory_ok n_Memory hown hK hP hD hS 0 rfl rfl 2 (by decide) (hts _ q_30) (fun _ h9 => h9) rfl hin rfl (by decide +kernel) rfl rfl (Nat.le_of_ble_eq_true rfl) d_Memory_init_26 (fun H locs hP hD hS => ?_)
  have hP : va_P D clz [(a, .inr (1, [.ref z1, .ref z2, .ref z3, .int 0, .int 0, .int 0, .int 0, .int 0])), (z1, .inl (Y 0, 279, .inr (.inl (fun _ => 0)))), (z2, .inl (Y 1, 9, .inl (fun _ => 0))), (z3, .inl (Y 0, 9, .inr (.inl (fun _ => 0))))] H := hP
  have hD : va_D A [(a, .inr (1, [.ref z1, .ref z2, .ref z3, .int 0, .int 0, .int 0, .int 0, .int 0])), (z1, .inl (Y 0, 279, .inr (.inl (fun _ => 0)))), (z2, .inl (Y 1, 9, .inl (fun _ => 0))), (z3, .inl (Y 0, 9, .inr (.inl (fun _ => 0))))] := hD
  refine lv_aload_n hx hb d_Memory_init_29 rfl (lv_at hl 0 rfl) ?_
  refine lv_iconst (v := (0 : Int32)) hx hb d_Memory_init_30 (by decide) ?_
  refine va_put (D := D) (ci := 1) (v := .int (0 : Int32)) (ty := .int) (C := "FirmStore$Memory") (T := F_Memory) (N := 8) hx hb hts iz_Memory t_Memory t_Memory_ok n_Memory hown hK hP hD hS 0 rfl rfl 3 (by decide) (hts _ q_31) (fun _ h9 => h9) rfl (by decide +kernel) rfl rfl (Nat.le_of_ble_eq_true rfl) d_Memory_init_31 (fun H locs hP hD hS => ?_)
  have hP : va_P D clz [(a, .inr (1, [.ref z1, .ref z2, .ref z3, .int (0 : Int32), .int 0, .int 0, .int 0, .int 0])), (z1, .inl (Y 0, 279, .inr (.inl (fun _ => 0)))), (z2, .inl (Y 1, 9, .inl (fun _ => 0))), (z3, .inl (Y 0, 9, .inr (.inl (fun _ => 0))))] H := hP
  have hD : va_D A [(a, .inr (1, [.ref z1, .ref z2, .ref z3, .int (0 : Int32), .int 0, .int 0, .int 0, .int 0])), (z1, .inl (Y 0, 279, .inr (.inl (fun _ => 0)))), (z2, .inl (Y 1, 9, .inl (fun _ => 0))), (z3, .inl (Y 0, 9, .inr (.inl (fun _ => 0))))] := hD
  refine lv_aload_n hx hb d_Memory_init_34 rfl (lv_at hl 0 rfl) ?_
  refine lv_iconst (v := (-1 : Int32)) hx hb d_Memory_init_35 (by decide) ?_
  refine va_put (D := D) (ci := 1) (v := .int (-1 : Int32)) (ty := .int) (C := "FirmStore$Memory") (T := F_Memory) (N := 8) hx hb hts iz_Memory t_Memory t_Memory_ok n_Memory hown hK hP hD hS 0 rfl rfl 4 (by decide) (hts _ q_32) (fun _ h9 => h9) rfl (by decide +kernel) rfl rfl (Nat.le_of_ble_eq_true rfl) d_Memory_init_36 (fun H locs hP hD hS => ?_)
  have hP : va_P D clz [(a, .inr (1, [.ref z1, .ref z2, .ref z3, .int (0 : Int32), .int (-1 : Int32), .int 0, .int 0, .int 0])), (z1, .inl (Y 0, 279, .inr (.inl (fun _ => 0)))), (z2, .inl (Y 1, 9, .inl (fun _ => 0))), (z3, .inl (Y 0, 9, .inr (.inl (fun _ => 0))))] H := hP
  have hD : va_D A [(a, .inr (1, [.ref z1, .ref z2, .ref z3, .int (0 : Int32), .int (-1 : Int32), .int 0, .int 0, .int 0])), (z1, .inl (Y 0, 279, .inr (.inl (fun _ => 0)))), (z2, .inl (Y 1, 9, .inl (fun _ => 0))), (z3, .inl (Y 0, 9, .inr (.inl (fun _ => 0))))] := hD
  refine lv_aload_n hx hb d_Memory_init_39 rfl (lv_at hl 0 rfl) ?_
  refine lv_iconst (v := (0 : Int32)) hx hb d_Memory_init_40 (by decide) ?_
  refine va_put (D := D) (ci := 1) (v := .int (0 : Int32)) (ty := .int) (C := "FirmStore$Memory") (T := F_Memory) (N := 8) hx hb hts iz_Memory t_Memory t_Memory_ok n_Memory hown hK hP hD hS 0 rfl rfl 5 (by decide) (hts _ q_33) (fun _ h9 => h9) rfl (by decide +kernel) rfl rfl (Nat.le_of_ble_eq_true rfl) d_Memory_init_41 (fun H locs hP hD hS => ?_)
  have hP : va_P D clz [(a, .inr (1, [.ref z1, .ref z2, .ref z3, .int (0 : Int32), .int (-1 : Int32), .int (0 : Int32), .int 0, .int 0])), (z1, .inl (Y 0, 279, .inr (.inl (fun _ => 0)))), (z2, .inl (Y 1, 9, .inl (fun _ => 0))), (z3, .inl (Y 0, 9, .inr (.inl (fun _ => 0))))] H := hP
  have hD : va_D A [(a, .inr (1, [.ref z1, .ref z2, .ref z3, .int (0 : Int32), .int (-1 : Int32), .int (0 : Int32), .int 0, .int 0])), (z1, .inl (Y 0, 279, .inr (.inl (fun _ => 0)))), (z2, .inl (Y 1, 9, .inl (fun _ => 0))), (z3, .inl (Y 0, 9, .inr (.inl (fun _ => 0))))] := hD
  refine lv_aload_n hx hb d_Memory_init_44 rfl (lv_at hl 0 rfl) ?_
  refine lv_iconst (v := (0 : Int32)) hx hb d_Memory_init_45 (by decide) ?_
  refine va_put (D := D) (ci := 1) (v := .int (0 : Int32)) (ty := .int) (C := "FirmStore$Memory") (T := F_Memory) (N := 8) hx hb hts iz_Memory t_Memory t_Memory_ok n_Memory hown hK hP hD hS 0 rfl rfl 6 (by decide) (hts _ q_34) (fun _ h9 => h9) rfl (by decide +kernel) rfl rfl (Nat.le_of_ble_eq_true rfl) d_Memory_init_46 (fun H locs hP hD hS => ?_)
  have hP : va_P D clz [(a, .inr (1, [.ref z1, .ref z2, .ref z3, .int (0 : Int32), .int (-1 : Int32), .int (0 : Int32), .int (0 : Int32), .int 0])), (z1, .inl (Y 0, 279, .inr (.inl (fun _ => 0)))), (z2, .inl (Y 1, 9, .inl (fun _ => 0))), (z3, .inl (Y 0, 9, .inr (.inl (fun _ => 0))))] H := hP
  have hD : va_D A [(a, .inr (1, [.ref z1, .ref z2, .ref z3, .int (0 : Int32), .int (-1 : Int32), .int (0 : Int32), .int (0 : Int32), .int 0])), (z1, .inl (Y 0, 279, .inr (.inl (fun _ => 0)))), (z2, .inl (Y 1, 9, .inl (fun _ => 0))), (z3, .inl (Y 0, 9, .inr (.inl (fun _ => 0))))] := hD
  refine lv_aload_n hx hb d_Memory_init_49 rfl (lv_at hl 0 rfl) ?_
  refine lv_iconst (v := (0 : Int32)) hx hb d_Memory_init_50 (by decide) ?_
  refine va_put (D := D) (ci := 1) (v := .int (0 : Int32)) (ty := .boolean) (C := "FirmStore$Memory") (T := F_Memory) (N := 8) hx hb hts iz_Memory t_Memory t_Memory_ok n_Memory hown hK hP hD hS 0 rfl rfl 7 (by decide) (hts _ q_36) (fun _ h9 => h9) rfl (by decide +kernel) (nz (Or.inl rfl)) (by decide) (Nat.le_of_ble_eq_true rfl) d_Memory_init_51 (fun H locs hP hD hS => ?_)
  have hP : va_P D clz [(a, .inr (1, [.ref z1, .ref z2, .ref z3, .int (0 : Int32), .int (-1 : Int32), .int (0 : Int32), .int (0 : Int32), .int (0 : Int32)])), (z1, .inl (Y 0, 279, .inr (.inl (fun _ => 0)))), (z2, .inl (Y 1, 9, .inl (fun _ => 0))), (z3, .inl (Y 0, 9, .inr (.inl (fun _ => 0))))] H := hP
  have hD : va_D A [(a, .inr (1, [.ref z1, .ref z2, .ref z3, .int (0 : Int32), .int (-1 : Int32), .int (0 : Int32), .int (0 : Int32), .int (0 : Int32)])), (z1, .inl (Y 0, 279, .inr (.inl (fun _ => 0)))), (z2, .inl (Y 1, 9, .inl (fun _ => 0))), (z3, .inl (Y 0, 9, .inr (.inl (fun _ => 0))))] := hD
  have hP := hP.sub (ws' := [(a, .inr (1, [.ref z1, .ref z2, .ref z3, .int (0 : Int32), .int (-1 : Int32), .int (0 : Int32), .int (0 : Int32), .int (0 : Int32)])), (z1, .inl (Y 0, 279, .inr (.inl (fun _ => 0)))), (z2, .inl (Y 1, 9, .inl (fun _ => 0))), (z3, .inl (Y 0, 9, .inr (.inl (fun _ => 0))))]) [0, 1, 2, 3] rfl
  have hD := hD.sub (ws' := [(a, .inr (1, [.ref z1, .ref z2, .ref z3, .int (0 : Int32), .int (-1 : Int32), .int (0 : Int32), .int (0 : Int32), .int (0 : Int32)])), (z1, .inl (Y 0, 279, .inr (.inl (fun _ => 0)))), (z2, .inl (Y 1, 9, .inl (fun _ => 0))), (z3, .inl (Y 0, 9, .inr (.inl (fun _ => 0))))]) [0, 1, 2, 3] (by decide) rfl
  exact hret _ _ _ _ _ _ _ ⟨z1, z2, z3, rfl⟩ (by decide) (by decide) hP hD hS d_Memory_init_54
set_option maxRecDepth 100000 in
set_option maxHeartbeats 4000000 in
theorem c_Firm_init (l : Launch) (D : va_G) (Y : Nat → ClassId) (a : Nat) : KC l D Y [(a, .inr (0, [.null, .null, .null, .null]))] (fun w1 => ∃ G : Nat → Nat, G 0 = a ∧ w1 = wdC G Y u_0) y_Firm_init b_Firm_init 1 2 34 7 310 [.ref a] := by
  refine mkC (by decide) rfl (Nat.le_of_ble_eq_true rfl) ?_
  intro p e s m below meth c A Z ls C0 hin hNM hP hD hS hl hret
  obtain ⟨hx, hb, hml, hown, hts, hK, hN, hA⟩ := id C0
  have hl : lv_has ls 1 [(0, .ref a)] := hl
  refine lv_aload_n hx hb d_Firm_init_0 rfl (lv_at hl 0 rfl) ?_
  refine W.objInit hx hb hown (hts _ q_19) (hts _ q_20) (hts _ q_21) rfl (by rw [hml]; exact hl.1) rfl d_Firm_init_1 (Nat.le_of_ble_eq_true rfl) (Nat.le_of_ble_eq_true rfl) ?_
  refine W.eq (g2 := F0 m 4 ls []) rfl ?_
  refine lv_aload_n hx hb d_Firm_init_4 rfl (lv_at hl 0 rfl) ?_
  refine va_new (D := D) (ci := 1) (fs := [.null, .null, .null, .int 0, .int 0, .int 0, .int 0, .int 0]) (C := "FirmStore$Memory") (T := F_Memory) (N := 8) hx hb hts iz_Memory t_Memory t_Memory_ok hown (hts _ q_22) (hts _ q_23) (hts _ q_2) hK hP hD hS hA rfl (fun j hj => by match j, hj with | 0, _ => rfl | 1, _ => rfl | 2, _ => rfl | 3, _ => rfl | 4, _ => rfl | 5, _ => rfl | 6, _ => rfl | 7, _ => rfl) (by decide) (by decide) d_Firm_init_5 (fun z1 H hP hD hS => ?_)
  refine W.widen (k := 1) (n := 8) (by decide) (by decide) ?_
  have hP : va_P D clz [(a, .inr (0, [.null, .null, .null, .null])), (z1, .inr (1, [.null, .null, .null, .int 0, .int 0, .int 0, .int 0, .int 0]))] H := hP
  have hD : va_D A [(a, .inr (0, [.null, .null, .null, .null])), (z1, .inr (1, [.null, .null, .null, .int 0, .int 0, .int 0, .int 0, .int 0]))] := hD
  refine lv_dup hx hb d_Firm_init_8 rfl ?_
  have hP := hP.sub (ws' := [(z1, .inr (1, [.null, .null, .null, .int 0, .int 0, .int 0, .int 0, .int 0]))] ++ [(a, .inr (0, [.null, .null, .null, .null]))]) [1, 0] rfl
  have hD := hD.sub (ws' := [(z1, .inr (1, [.null, .null, .null, .int 0, .int 0, .int 0, .int 0, .int 0]))] ++ [(a, .inr (0, [.null, .null, .null, .null]))]) [1, 0] (by decide) rfl
  refine sbC (As := []) (rest := [.ref z1, .ref a]) (b0 := z1) (X := [(a, .inr (0, [.null, .null, .null, .null]))]) C0 hNM (c_Memory_init l D Y z1) q_26 q_2 q_25 rfl (Or.inr hNM) e_Memory_init ⟨by decide, by decide⟩ (by decide) (by decide) hP hD hS hl.1 rfl (Nat.le_of_ble_eq_true rfl) d_Firm_init_9 (fun w1 H locs hpost hP hD hS => ?_)
  obtain ⟨w2a, w2b, w2c, rfl⟩ := hpost
  refine W.widen (k := 4) (n := 305) (by decide) (by decide) ?_
  have hP : va_P D clz [(z1, .inr (1, [.ref w2a, .ref w2b, .ref w2c, .int (0 : Int32), .int (-1 : Int32), .int (0 : Int32), .int (0 : Int32), .int (0 : Int32)])), (w2a, .inl (Y 0, 279, .inr (.inl (fun _ => 0)))), (w2b, .inl (Y 1, 9, .inl (fun _ => 0))), (w2c, .inl (Y 0, 9, .inr (.inl (fun _ => 0)))), (a, .inr (0, [.null, .null, .null, .null]))] H := hP
  have hD : va_D A [(z1, .inr (1, [.ref w2a, .ref w2b, .ref w2c, .int (0 : Int32), .int (-1 : Int32), .int (0 : Int32), .int (0 : Int32), .int (0 : Int32)])), (w2a, .inl (Y 0, 279, .inr (.inl (fun _ => 0)))), (w2b, .inl (Y 1, 9, .inl (fun _ => 0))), (w2c, .inl (Y 0, 9, .inr (.inl (fun _ => 0)))), (a, .inr (0, [.null, .null, .null, .null]))] := hD
  refine va_putF (D := D) (ci := 0) (v := .ref z1) (ty := .object "FirmStore$Memory") (C := "FirmStore") (T := F_Firm) (N := 4) hx hb hts iz_Firm t_Firm t_Firm_ok n_Firm hown hK hP hD hS 4 rfl rfl 0 (by decide) (hts _ q_93) (fun _ h9 => h9) rfl hin rfl (by decide +kernel) rfl rfl (Nat.le_of_ble_eq_true rfl) d_Firm_init_12 (fun H locs hP hD hS => ?_)
  have hP : va_P D clz [(z1, .inr (1, [.ref w2a, .ref w2b, .ref w2c, .int (0 : Int32), .int (-1 : Int32), .int (0 : Int32), .int (0 : Int32), .int (0 : Int32)])), (w2a, .inl (Y 0, 279, .inr (.inl (fun _ => 0)))), (w2b, .inl (Y 1, 9, .inl (fun _ => 0))), (w2c, .inl (Y 0, 9, .inr (.inl (fun _ => 0)))), (a, .inr (0, [.ref z1, .null, .null, .null]))] H := hP
  have hD : va_D A [(z1, .inr (1, [.ref w2a, .ref w2b, .ref w2c, .int (0 : Int32), .int (-1 : Int32), .int (0 : Int32), .int (0 : Int32), .int (0 : Int32)])), (w2a, .inl (Y 0, 279, .inr (.inl (fun _ => 0)))), (w2b, .inl (Y 1, 9, .inl (fun _ => 0))), (w2c, .inl (Y 0, 9, .inr (.inl (fun _ => 0)))), (a, .inr (0, [.ref z1, .null, .null, .null]))] := hD
  refine lv_aload_n hx hb d_Firm_init_15 rfl (lv_at hl 0 rfl) ?_
  refine va_new (D := D) (ci := 2) (fs := [.null]) (C := "FirmStore$Blocks") (T := F_Blocks) (N := 1) hx hb hts iz_Blocks t_Blocks t_Blocks_ok hown (hts _ q_57) (hts _ q_58) (hts _ q_3) hK hP hD hS hA rfl (fun j hj => by match j, hj with | 0, _ => rfl) (by decide) (by decide) d_Firm_init_16 (fun z3 H hP hD hS => ?_)
  refine W.widen (k := 5) (n := 306) (by decide) (by decide) ?_
  have hP : va_P D clz [(z1, .inr (1, [.ref w2a, .ref w2b, .ref w2c, .int (0 : Int32), .int (-1 : Int32), .int (0 : Int32), .int (0 : Int32), .int (0 : Int32)])), (w2a, .inl (Y 0, 279, .inr (.inl (fun _ => 0)))), (w2b, .inl (Y 1, 9, .inl (fun _ => 0))), (w2c, .inl (Y 0, 9, .inr (.inl (fun _ => 0)))), (a, .inr (0, [.ref z1, .null, .null, .null])), (z3, .inr (2, [.null]))] H := hP
  have hD : va_D A [(z1, .inr (1, [.ref w2a, .ref w2b, .ref w2c, .int (0 : Int32), .int (-1 : Int32), .int (0 : Int32), .int (0 : Int32), .int (0 : Int32)])), (w2a, .inl (Y 0, 279, .inr (.inl (fun _ => 0)))), (w2b, .inl (Y 1, 9, .inl (fun _ => 0))), (w2c, .inl (Y 0, 9, .inr (.inl (fun _ => 0)))), (a, .inr (0, [.ref z1, .null, .null, .null])), (z3, .inr (2, [.null]))] := hD
  refine lv_dup hx hb d_Firm_init_19 rfl ?_
  refine lv_aload_n hx hb d_Firm_init_20 rfl (lv_at hl 0 rfl) ?_
  refine va_get (D := D) (ci := 0) (v := .ref z1) (C := "FirmStore") (T := F_Firm) (N := 4) hx hb hts iz_Firm hown hK hP 4 rfl rfl 0 (by decide) (hts _ q_93) (fun _ h9 => h9) rfl d_Firm_init_21 ?_
  have hP := hP.sub (ws' := [(z3, .inr (2, [.null]))] ++ [(z1, .inr (1, [.ref w2a, .ref w2b, .ref w2c, .int (0 : Int32), .int (-1 : Int32), .int (0 : Int32), .int (0 : Int32), .int (0 : Int32)])), (w2a, .inl (Y 0, 279, .inr (.inl (fun _ => 0)))), (w2b, .inl (Y 1, 9, .inl (fun _ => 0))), (w2c, .inl (Y 0, 9, .inr (.inl (fun _ => 0)))), (a, .inr (0, [.ref z1, .null, .null, .null]))]) [5, 0, 1, 2, 3, 4] rfl
  have hD := hD.sub (ws' := [(z3, .inr (2, [.null]))] ++ [(z1, .inr (1, [.ref w2a, .ref w2b, .ref w2c, .int (0 : Int32), .int (-1 : Int32), .int (0 : Int32), .int (0 : Int32), .int (0 : Int32)])), (w2a, .inl (Y 0, 279, .inr (.inl (fun _ => 0)))), (w2b, .inl (Y 1, 9, .inl (fun _ => 0))), (w2c, .inl (Y 0, 9, .inr (.inl (fun _ => 0)))), (a, .inr (0, [.ref z1, .null, .null, .null]))]) [5, 0, 1, 2, 3, 4] (by decide) rfl
  refine sbC (As := [.ref z1]) (rest := [.ref z3, .ref a]) (b0 := z3) (X := [(z1, .inr (1, [.ref w2a, .ref w2b, .ref w2c, .int (0 : Int32), .int (-1 : Int32), .int (0 : Int32), .int (0 : Int32), .int (0 : Int32)])), (w2a, .inl (Y 0, 279, .inr (.inl (fun _ => 0)))), (w2b, .inl (Y 1, 9, .inl (fun _ => 0))), (w2c, .inl (Y 0, 9, .inr (.inl (fun _ => 0)))), (a, .inr (0, [.ref z1, .null, .null, .null]))]) C0 hNM (c_Blocks_init l D Y z3 z1) q_61 q_3 q_60 rfl (Or.inl q_59) e_Blocks_init ⟨by decide, by decide⟩ (by decide) (by decide) hP hD hS hl.1 rfl (Nat.le_of_ble_eq_true rfl) d_Firm_init_24 (fun w1 H locs hpost hP hD hS => ?_)
  obtain rfl := hpost
  refine W.widen (k := 5) (n := 306) (by decide) (by decide) ?_
  have hP : va_P D clz [(z3, .inr (2, [.ref z1])), (z1, .inr (1, [.ref w2a, .ref w2b, .ref w2c, .int (0 : Int32), .int (-1 : Int32), .int (0 : Int32), .int (0 : Int32), .int (0 : Int32)])), (w2a, .inl (Y 0, 279, .inr (.inl (fun _ => 0)))), (w2b, .inl (Y 1, 9, .inl (fun _ => 0))), (w2c, .inl (Y 0, 9, .inr (.inl (fun _ => 0)))), (a, .inr (0, [.ref z1, .null, .null, .null]))] H := hP
  have hD : va_D A [(z3, .inr (2, [.ref z1])), (z1, .inr (1, [.ref w2a, .ref w2b, .ref w2c, .int (0 : Int32), .int (-1 : Int32), .int (0 : Int32), .int (0 : Int32), .int (0 : Int32)])), (w2a, .inl (Y 0, 279, .inr (.inl (fun _ => 0)))), (w2b, .inl (Y 1, 9, .inl (fun _ => 0))), (w2c, .inl (Y 0, 9, .inr (.inl (fun _ => 0)))), (a, .inr (0, [.ref z1, .null, .null, .null]))] := hD
  refine va_putF (D := D) (ci := 0) (v := .ref z3) (ty := .object "FirmStore$Blocks") (C := "FirmStore") (T := F_Firm) (N := 4) hx hb hts iz_Firm t_Firm t_Firm_ok n_Firm hown hK hP hD hS 5 rfl rfl 1 (by decide) (hts _ q_94) (fun _ h9 => h9) rfl hin rfl (by decide +kernel) rfl rfl (Nat.le_of_ble_eq_true rfl) d_Firm_init_27 (fun H locs hP hD hS => ?_)
  have hP : va_P D clz [(z3, .inr (2, [.ref z1])), (z1, .inr (1, [.ref w2a, .ref w2b, .ref w2c, .int (0 : Int32), .int (-1 : Int32), .int (0 : Int32), .int (0 : Int32), .int (0 : Int32)])), (w2a, .inl (Y 0, 279, .inr (.inl (fun _ => 0)))), (w2b, .inl (Y 1, 9, .inl (fun _ => 0))), (w2c, .inl (Y 0, 9, .inr (.inl (fun _ => 0)))), (a, .inr (0, [.ref z1, .ref z3, .null, .null]))] H := hP
  have hD : va_D A [(z3, .inr (2, [.ref z1])), (z1, .inr (1, [.ref w2a, .ref w2b, .ref w2c, .int (0 : Int32), .int (-1 : Int32), .int (0 : Int32), .int (0 : Int32), .int (0 : Int32)])), (w2a, .inl (Y 0, 279, .inr (.inl (fun _ => 0)))), (w2b, .inl (Y 1, 9, .inl (fun _ => 0))), (w2c, .inl (Y 0, 9, .inr (.inl (fun _ => 0)))), (a, .inr (0, [.ref z1, .ref z3, .null, .null]))] := hD
  refine lv_aload_n hx hb d_Firm_init_30 rfl (lv_at hl 0 rfl) ?_
  refine va_new (D := D) (ci := 3) (fs := [.null, .null]) (C := "FirmStore$Tree") (T := F_Tree) (N := 2) hx hb hts iz_Tree t_Tree t_Tree_ok hown (hts _ q_67) (hts _ q_68) (hts _ q_4) hK hP hD hS hA rfl (fun j hj => by match j, hj with | 0, _ => rfl | 1, _ => rfl) (by decide) (by decide) d_Firm_init_31 (fun z5 H hP hD hS => ?_)
  refine W.widen (k := 6) (n := 308) (by decide) (by decide) ?_
  have hP : va_P D clz [(z3, .inr (2, [.ref z1])), (z1, .inr (1, [.ref w2a, .ref w2b, .ref w2c, .int (0 : Int32), .int (-1 : Int32), .int (0 : Int32), .int (0 : Int32), .int (0 : Int32)])), (w2a, .inl (Y 0, 279, .inr (.inl (fun _ => 0)))), (w2b, .inl (Y 1, 9, .inl (fun _ => 0))), (w2c, .inl (Y 0, 9, .inr (.inl (fun _ => 0)))), (a, .inr (0, [.ref z1, .ref z3, .null, .null])), (z5, .inr (3, [.null, .null]))] H := hP
  have hD : va_D A [(z3, .inr (2, [.ref z1])), (z1, .inr (1, [.ref w2a, .ref w2b, .ref w2c, .int (0 : Int32), .int (-1 : Int32), .int (0 : Int32), .int (0 : Int32), .int (0 : Int32)])), (w2a, .inl (Y 0, 279, .inr (.inl (fun _ => 0)))), (w2b, .inl (Y 1, 9, .inl (fun _ => 0))), (w2c, .inl (Y 0, 9, .inr (.inl (fun _ => 0)))), (a, .inr (0, [.ref z1, .ref z3, .null, .null])), (z5, .inr (3, [.null, .null]))] := hD
  refine lv_dup hx hb d_Firm_init_34 rfl ?_
  refine lv_aload_n hx hb d_Firm_init_35 rfl (lv_at hl 0 rfl) ?_
  refine va_get (D := D) (ci := 0) (v := .ref z1) (C := "FirmStore") (T := F_Firm) (N := 4) hx hb hts iz_Firm hown hK hP 5 rfl rfl 0 (by decide) (hts _ q_93) (fun _ h9 => h9) rfl d_Firm_init_36 ?_
  refine lv_aload_n hx hb d_Firm_init_39 rfl (lv_at hl 0 rfl) ?_
  refine va_get (D := D) (ci := 0) (v := .ref z3) (C := "FirmStore") (T := F_Firm) (N := 4) hx hb hts iz_Firm hown hK hP 5 rfl rfl 1 (by decide) (hts _ q_94) (fun _ h9 => h9) rfl d_Firm_init_40 ?_
  have hP := hP.sub (ws' := [(z5, .inr (3, [.null, .null]))] ++ [(z3, .inr (2, [.ref z1])), (z1, .inr (1, [.ref w2a, .ref w2b, .ref w2c, .int (0 : Int32), .int (-1 : Int32), .int (0 : Int32), .int (0 : Int32), .int (0 : Int32)])), (w2a, .inl (Y 0, 279, .inr (.inl (fun _ => 0)))), (w2b, .inl (Y 1, 9, .inl (fun _ => 0))), (w2c, .inl (Y 0, 9, .inr (.inl (fun _ => 0)))), (a, .inr (0, [.ref z1, .ref z3, .null, .null]))]) [6, 0, 1, 2, 3, 4, 5] rfl
  have hD := hD.sub (ws' := [(z5, .inr (3, [.null, .null]))] ++ [(z3, .inr (2, [.ref z1])), (z1, .inr (1, [.ref w2a, .ref w2b, .ref w2c, .int (0 : Int32), .int (-1 : Int32), .int (0 : Int32), .int (0 : Int32), .int (0 : Int32)])), (w2a, .inl (Y 0, 279, .inr (.inl (fun _ => 0)))), (w2b, .inl (Y 1, 9, .inl (fun _ => 0))), (w2c, .inl (Y 0, 9, .inr (.inl (fun _ => 0)))), (a, .inr (0, [.ref z1, .ref z3, .null, .null]))]) [6, 0, 1, 2, 3, 4, 5] (by decide) rfl
  refine sbC (As := [.ref z1, .ref z3]) (rest := [.ref z5, .ref a]) (b0 := z5) (X := [(z3, .inr (2, [.ref z1])), (z1, .inr (1, [.ref w2a, .ref w2b, .ref w2c, .int (0 : Int32), .int (-1 : Int32), .int (0 : Int32), .int (0 : Int32), .int (0 : Int32)])), (w2a, .inl (Y 0, 279, .inr (.inl (fun _ => 0)))), (w2b, .inl (Y 1, 9, .inl (fun _ => 0))), (w2c, .inl (Y 0, 9, .inr (.inl (fun _ => 0)))), (a, .inr (0, [.ref z1, .ref z3, .null, .null]))]) C0 hNM (c_Tree_init l D Y z5 z1 z3) q_71 q_4 q_70 rfl (Or.inl q_69) e_Tree_init ⟨by decide, by decide⟩ (by decide) (by decide) hP hD hS hl.1 rfl (Nat.le_of_ble_eq_true rfl) d_Firm_init_43 (fun w1 H locs hpost hP hD hS => ?_)
  obtain rfl := hpost
  refine W.widen (k := 6) (n := 308) (by decide) (by decide) ?_
  have hP : va_P D clz [(z5, .inr (3, [.ref z1, .ref z3])), (z3, .inr (2, [.ref z1])), (z1, .inr (1, [.ref w2a, .ref w2b, .ref w2c, .int (0 : Int32), .int (-1 : Int32), .int (0 : Int32), .int (0 : Int32), .int (0 : Int32)])), (w2a, .inl (Y 0, 279, .inr (.inl (fun _ => 0)))), (w2b, .inl (Y 1, 9, .inl (fun _ => 0))), (w2c, .inl (Y 0, 9, .inr (.inl (fun _ => 0)))), (a, .inr (0, [.ref z1, .ref z3, .null, .null]))] H := hP
  have hD : va_D A [(z5, .inr (3, [.ref z1, .ref z3])), (z3, .inr (2, [.ref z1])), (z1, .inr (1, [.ref w2a, .ref w2b, .ref w2c, .int (0 : Int32), .int (-1 : Int32), .int (0 : Int32), .int (0 : Int32), .int (0 : Int32)])), (w2a, .inl (Y 0, 279, .inr (.inl (fun _ => 0)))), (w2b, .inl (Y 1, 9, .inl (fun _ => 0))), (w2c, .inl (Y 0, 9, .inr (.inl (fun _ => 0)))), (a, .inr (0, [.ref z1, .ref z3, .null, .null]))] := hD
  refine va_putF (D := D) (ci := 0) (v := .ref z5) (ty := .object "FirmStore$Tree") (C := "FirmStore") (T := F_Firm) (N := 4) hx hb hts iz_Firm t_Firm t_Firm_ok n_Firm hown hK hP hD hS 6 rfl rfl 2 (by decide) (hts _ q_95) (fun _ h9 => h9) rfl hin rfl (by decide +kernel) rfl rfl (Nat.le_of_ble_eq_true rfl) d_Firm_init_46 (fun H locs hP hD hS => ?_)
  have hP : va_P D clz [(z5, .inr (3, [.ref z1, .ref z3])), (z3, .inr (2, [.ref z1])), (z1, .inr (1, [.ref w2a, .ref w2b, .ref w2c, .int (0 : Int32), .int (-1 : Int32), .int (0 : Int32), .int (0 : Int32), .int (0 : Int32)])), (w2a, .inl (Y 0, 279, .inr (.inl (fun _ => 0)))), (w2b, .inl (Y 1, 9, .inl (fun _ => 0))), (w2c, .inl (Y 0, 9, .inr (.inl (fun _ => 0)))), (a, .inr (0, [.ref z1, .ref z3, .ref z5, .null]))] H := hP
  have hD : va_D A [(z5, .inr (3, [.ref z1, .ref z3])), (z3, .inr (2, [.ref z1])), (z1, .inr (1, [.ref w2a, .ref w2b, .ref w2c, .int (0 : Int32), .int (-1 : Int32), .int (0 : Int32), .int (0 : Int32), .int (0 : Int32)])), (w2a, .inl (Y 0, 279, .inr (.inl (fun _ => 0)))), (w2b, .inl (Y 1, 9, .inl (fun _ => 0))), (w2c, .inl (Y 0, 9, .inr (.inl (fun _ => 0)))), (a, .inr (0, [.ref z1, .ref z3, .ref z5, .null]))] := hD
  refine lv_aload_n hx hb d_Firm_init_49 rfl (lv_at hl 0 rfl) ?_
  refine va_new (D := D) (ci := 4) (fs := [.null, .null]) (C := "FirmStore$Table") (T := F_Table) (N := 2) hx hb hts iz_Table t_Table t_Table_ok hown (hts _ q_80) (hts _ q_81) (hts _ q_5) hK hP hD hS hA rfl (fun j hj => by match j, hj with | 0, _ => rfl | 1, _ => rfl) (by decide) (by decide) d_Firm_init_50 (fun z7 H hP hD hS => ?_)
  refine W.widen (k := 7) (n := 310) (by decide) (by decide) ?_
  have hP : va_P D clz [(z5, .inr (3, [.ref z1, .ref z3])), (z3, .inr (2, [.ref z1])), (z1, .inr (1, [.ref w2a, .ref w2b, .ref w2c, .int (0 : Int32), .int (-1 : Int32), .int (0 : Int32), .int (0 : Int32), .int (0 : Int32)])), (w2a, .inl (Y 0, 279, .inr (.inl (fun _ => 0)))), (w2b, .inl (Y 1, 9, .inl (fun _ => 0))), (w2c, .inl (Y 0, 9, .inr (.inl (fun _ => 0)))), (a, .inr (0, [.ref z1, .ref z3, .ref z5, .null])), (z7, .inr (4, [.null, .null]))] H := hP
  have hD : va_D A [(z5, .inr (3, [.ref z1, .ref z3])), (z3, .inr (2, [.ref z1])), (z1, .inr (1, [.ref w2a, .ref w2b, .ref w2c, .int (0 : Int32), .int (-1 : Int32), .int (0 : Int32), .int (0 : Int32), .int (0 : Int32)])), (w2a, .inl (Y 0, 279, .inr (.inl (fun _ => 0)))), (w2b, .inl (Y 1, 9, .inl (fun _ => 0))), (w2c, .inl (Y 0, 9, .inr (.inl (fun _ => 0)))), (a, .inr (0, [.ref z1, .ref z3, .ref z5, .null])), (z7, .inr (4, [.null, .null]))] := hD
  refine lv_dup hx hb d_Firm_init_53 rfl ?_
  refine lv_aload_n hx hb d_Firm_init_54 rfl (lv_at hl 0 rfl) ?_
  refine va_get (D := D) (ci := 0) (v := .ref z1) (C := "FirmStore") (T := F_Firm) (N := 4) hx hb hts iz_Firm hown hK hP 6 rfl rfl 0 (by decide) (hts _ q_93) (fun _ h9 => h9) rfl d_Firm_init_55 ?_
  refine lv_aload_n hx hb d_Firm_init_58 rfl (lv_at hl 0 rfl) ?_
  refine va_get (D := D) (ci := 0) (v := .ref z3) (C := "FirmStore") (T := F_Firm) (N := 4) hx hb hts iz_Firm hown hK hP 6 rfl rfl 1 (by decide) (hts _ q_94) (fun _ h9 => h9) rfl d_Firm_init_59 ?_
  have hP := hP.sub (ws' := [(z7, .inr (4, [.null, .null]))] ++ [(z5, .inr (3, [.ref z1, .ref z3])), (z3, .inr (2, [.ref z1])), (z1, .inr (1, [.ref w2a, .ref w2b, .ref w2c, .int (0 : Int32), .int (-1 : Int32), .int (0 : Int32), .int (0 : Int32), .int (0 : Int32)])), (w2a, .inl (Y 0, 279, .inr (.inl (fun _ => 0)))), (w2b, .inl (Y 1, 9, .inl (fun _ => 0))), (w2c, .inl (Y 0, 9, .inr (.inl (fun _ => 0)))), (a, .inr (0, [.ref z1, .ref z3, .ref z5, .null]))]) [7, 0, 1, 2, 3, 4, 5, 6] rfl
  have hD := hD.sub (ws' := [(z7, .inr (4, [.null, .null]))] ++ [(z5, .inr (3, [.ref z1, .ref z3])), (z3, .inr (2, [.ref z1])), (z1, .inr (1, [.ref w2a, .ref w2b, .ref w2c, .int (0 : Int32), .int (-1 : Int32), .int (0 : Int32), .int (0 : Int32), .int (0 : Int32)])), (w2a, .inl (Y 0, 279, .inr (.inl (fun _ => 0)))), (w2b, .inl (Y 1, 9, .inl (fun _ => 0))), (w2c, .inl (Y 0, 9, .inr (.inl (fun _ => 0)))), (a, .inr (0, [.ref z1, .ref z3, .ref z5, .null]))]) [7, 0, 1, 2, 3, 4, 5, 6] (by decide) rfl
  refine sbC (As := [.ref z1, .ref z3]) (rest := [.ref z7, .ref a]) (b0 := z7) (X := [(z5, .inr (3, [.ref z1, .ref z3])), (z3, .inr (2, [.ref z1])), (z1, .inr (1, [.ref w2a, .ref w2b, .ref w2c, .int (0 : Int32), .int (-1 : Int32), .int (0 : Int32), .int (0 : Int32), .int (0 : Int32)])), (w2a, .inl (Y 0, 279, .inr (.inl (fun _ => 0)))), (w2b, .inl (Y 1, 9, .inl (fun _ => 0))), (w2c, .inl (Y 0, 9, .inr (.inl (fun _ => 0)))), (a, .inr (0, [.ref z1, .ref z3, .ref z5, .null]))]) C0 hNM (c_Table_init l D Y z7 z1 z3) q_84 q_5 q_83 rfl (Or.inl q_82) e_Table_init ⟨by decide, by decide⟩ (by decide) (by decide) hP hD hS hl.1 rfl (Nat.le_of_ble_eq_true rfl) d_Firm_init_62 (fun w1 H locs hpost hP hD hS => ?_)
  obtain rfl := hpost
  refine W.widen (k := 7) (n := 310) (by decide) (by decide) ?_
  have hP : va_P D clz [(z7, .inr (4, [.ref z1, .ref z3])), (z5, .inr (3, [.ref z1, .ref z3])), (z3, .inr (2, [.ref z1])), (z1, .inr (1, [.ref w2a, .ref w2b, .ref w2c, .int (0 : Int32), .int (-1 : Int32), .int (0 : Int32), .int (0 : Int32), .int (0 : Int32)])), (w2a, .inl (Y 0, 279, .inr (.inl (fun _ => 0)))), (w2b, .inl (Y 1, 9, .inl (fun _ => 0))), (w2c, .inl (Y 0, 9, .inr (.inl (fun _ => 0)))), (a, .inr (0, [.ref z1, .ref z3, .ref z5, .null]))] H := hP
  have hD : va_D A [(z7, .inr (4, [.ref z1, .ref z3])), (z5, .inr (3, [.ref z1, .ref z3])), (z3, .inr (2, [.ref z1])), (z1, .inr (1, [.ref w2a, .ref w2b, .ref w2c, .int (0 : Int32), .int (-1 : Int32), .int (0 : Int32), .int (0 : Int32), .int (0 : Int32)])), (w2a, .inl (Y 0, 279, .inr (.inl (fun _ => 0)))), (w2b, .inl (Y 1, 9, .inl (fun _ => 0))), (w2c, .inl (Y 0, 9, .inr (.inl (fun _ => 0)))), (a, .inr (0, [.ref z1, .ref z3, .ref z5, .null]))] := hD
  refine va_putF (D := D) (ci := 0) (v := .ref z7) (ty := .object "FirmStore$Table") (C := "FirmStore") (T := F_Firm) (N := 4) hx hb hts iz_Firm t_Firm t_Firm_ok n_Firm hown hK hP hD hS 7 rfl rfl 3 (by decide) (hts _ q_96) (fun _ h9 => h9) rfl hin rfl (by decide +kernel) rfl rfl (Nat.le_of_ble_eq_true rfl) d_Firm_init_65 (fun H locs hP hD hS => ?_)
  have hP : va_P D clz [(z7, .inr (4, [.ref z1, .ref z3])), (z5, .inr (3, [.ref z1, .ref z3])), (z3, .inr (2, [.ref z1])), (z1, .inr (1, [.ref w2a, .ref w2b, .ref w2c, .int (0 : Int32), .int (-1 : Int32), .int (0 : Int32), .int (0 : Int32), .int (0 : Int32)])), (w2a, .inl (Y 0, 279, .inr (.inl (fun _ => 0)))), (w2b, .inl (Y 1, 9, .inl (fun _ => 0))), (w2c, .inl (Y 0, 9, .inr (.inl (fun _ => 0)))), (a, .inr (0, [.ref z1, .ref z3, .ref z5, .ref z7]))] H := hP
  have hD : va_D A [(z7, .inr (4, [.ref z1, .ref z3])), (z5, .inr (3, [.ref z1, .ref z3])), (z3, .inr (2, [.ref z1])), (z1, .inr (1, [.ref w2a, .ref w2b, .ref w2c, .int (0 : Int32), .int (-1 : Int32), .int (0 : Int32), .int (0 : Int32), .int (0 : Int32)])), (w2a, .inl (Y 0, 279, .inr (.inl (fun _ => 0)))), (w2b, .inl (Y 1, 9, .inl (fun _ => 0))), (w2c, .inl (Y 0, 9, .inr (.inl (fun _ => 0)))), (a, .inr (0, [.ref z1, .ref z3, .ref z5, .ref z7]))] := hD
  have hP := hP.sub (ws' := wdC (fun i => if i = 0 then a else if i = 1 then z1 else if i = 2 then w2a else if i = 3 then w2b else if i = 4 then w2c else if i = 5 then z3 else if i = 6 then z5 else z7) Y u_0) [7, 3, 4, 5, 6, 2, 1, 0] rfl
  have hD := hD.sub (ws' := wdC (fun i => if i = 0 then a else if i = 1 then z1 else if i = 2 then w2a else if i = 3 then w2b else if i = 4 then w2c else if i = 5 then z3 else if i = 6 then z5 else z7) Y u_0) [7, 3, 4, 5, 6, 2, 1, 0] (by decide) rfl
  exact hret _ _ _ _ _ _ _ ⟨(fun i => if i = 0 then a else if i = 1 then z1 else if i = 2 then w2a else if i = 3 then w2b else if i = 4 then w2c else if i = 5 then z3 else if i = 6 then z5 else z7), rfl, rfl⟩ (by decide) (by decide) hP hD hS d_Firm_init_68
set_option maxRecDepth 100000 in
set_option maxHeartbeats 4000000 in
theorem c_Ref_init (l : Launch) (D : va_G) (Y : Nat → ClassId) (a : Nat) : KC l D Y [(a, .inr (5, [.null, .int 0, .null, .null, .int 0, .int 0, .int 0, .int 0, .int 0, .int 0, .null, .null]))] (fun w1 => ∃ G : Nat → Nat, G 0 = a ∧ w1 = wdR G Y v_0) y_Ref_init b_Ref_init 1 1 12 5 358 [.ref a] := by
  refine mkC (by decide) rfl (Nat.le_of_ble_eq_true rfl) ?_
  intro p e s m below meth c A Z ls C0 hin hNM hP hD hS hl hret
  obtain ⟨hx, hb, hml, hown, hts, hK, hN, hA⟩ := id C0
  have hl : lv_has ls 1 [(0, .ref a)] := hl
  refine lv_aload_n hx hb d_Ref_init_0 rfl (lv_at hl 0 rfl) ?_
  refine W.objInit hx hb hown (hts _ q_536) (hts _ q_20) (hts _ q_21) rfl (by rw [hml]; exact hl.1) rfl d_Ref_init_1 (Nat.le_of_ble_eq_true rfl) (Nat.le_of_ble_eq_true rfl) ?_
  refine W.eq (g2 := F0 m 4 ls []) rfl ?_
  refine lv_aload_n hx hb d_Ref_init_4 rfl (lv_at hl 0 rfl) ?_
  refine lv_sipush (v := (279 : Int32)) hx hb d_Ref_init_5 (by decide) ?_
  refine va_newa (atype := .long) (a0 := (279, .inr (.inl (fun _ => 0)))) hx hb (hts _ q_55) (ty := .long) rfl hK hP hD hS hA (fun _ => rfl) (by decide) rfl (by decide) (by decide) (by decide) d_Ref_init_8 (fun z1 cA H hK1 hP hD hS => ?_)
  obtain rfl : cA = Y 0 := ra_eq hK1 0 rfl (by decide)
  refine W.widen (k := 1) (n := 279) (by decide) (by decide) ?_
  have hP : va_P D clz [(a, .inr (5, [.null, .int 0, .null, .null, .int 0, .int 0, .int 0, .int 0, .int 0, .int 0, .null, .null])), (z1, .inl (Y 0, 279, .inr (.inl (fun _ => 0))))] H := hP
  have hD : va_D A [(a, .inr (5, [.null, .int 0, .null, .null, .int 0, .int 0, .int 0, .int 0, .int 0, .int 0, .null, .null])), (z1, .inl (Y 0, 279, .inr (.inl (fun _ => 0))))] := hD
  refine va_putF (D := D) (ci := 5) (v := .ref z1) (ty := .array .long) (C := "FirmStoreModel") (T := F_Ref) (N := 12) hx hb hts iz_Ref t_Ref t_Ref_ok n_Ref hown hK hP hD hS 0 rfl rfl 0 (by decide) (hts _ q_537) (fun _ h9 => h9) rfl hin rfl (by decide +kernel) rfl rfl (Nat.le_of_ble_eq_true rfl) d_Ref_init_10 (fun H locs hP hD hS => ?_)
  have hP : va_P D clz [(a, .inr (5, [.ref z1, .int 0, .null, .null, .int 0, .int 0, .int 0, .int 0, .int 0, .int 0, .null, .null])), (z1, .inl (Y 0, 279, .inr (.inl (fun _ => 0))))] H := hP
  have hD : va_D A [(a, .inr (5, [.ref z1, .int 0, .null, .null, .int 0, .int 0, .int 0, .int 0, .int 0, .int 0, .null, .null])), (z1, .inl (Y 0, 279, .inr (.inl (fun _ => 0))))] := hD
  refine lv_aload_n hx hb d_Ref_init_13 rfl (lv_at hl 0 rfl) ?_
  refine lv_bipush (v := (16 : Int32)) hx hb d_Ref_init_14 (by decide) ?_
  refine va_newa (atype := .int) (a0 := (16, .inl (fun _ => 0))) hx hb (hts _ q_56) (ty := .int) rfl hK hP hD hS hA (fun _ => rfl) (by decide) rfl (by decide) (by decide) (by decide) d_Ref_init_16 (fun z2 cA H hK1 hP hD hS => ?_)
  obtain rfl : cA = Y 1 := ra_eq hK1 1 rfl (by decide)
  refine W.widen (k := 2) (n := 295) (by decide) (by decide) ?_
  have hP : va_P D clz [(a, .inr (5, [.ref z1, .int 0, .null, .null, .int 0, .int 0, .int 0, .int 0, .int 0, .int 0, .null, .null])), (z1, .inl (Y 0, 279, .inr (.inl (fun _ => 0)))), (z2, .inl (Y 1, 16, .inl (fun _ => 0)))] H := hP
  have hD : va_D A [(a, .inr (5, [.ref z1, .int 0, .null, .null, .int 0, .int 0, .int 0, .int 0, .int 0, .int 0, .null, .null])), (z1, .inl (Y 0, 279, .inr (.inl (fun _ => 0)))), (z2, .inl (Y 1, 16, .inl (fun _ => 0)))] := hD
  refine va_putF (D := D) (ci := 5) (v := .ref z2) (ty := .array .int) (C := "FirmStoreModel") (T := F_Ref) (N := 12) hx hb hts iz_Ref t_Ref t_Ref_ok n_Ref hown hK hP hD hS 0 rfl rfl 2 (by decide) (hts _ q_539) (fun _ h9 => h9) rfl hin rfl (by decide +kernel) rfl rfl (Nat.le_of_ble_eq_true rfl) d_Ref_init_18 (fun H locs hP hD hS => ?_)
  have hP : va_P D clz [(a, .inr (5, [.ref z1, .int 0, .ref z2, .null, .int 0, .int 0, .int 0, .int 0, .int 0, .int 0, .null, .null])), (z1, .inl (Y 0, 279, .inr (.inl (fun _ => 0)))), (z2, .inl (Y 1, 16, .inl (fun _ => 0)))] H := hP
  have hD : va_D A [(a, .inr (5, [.ref z1, .int 0, .ref z2, .null, .int 0, .int 0, .int 0, .int 0, .int 0, .int 0, .null, .null])), (z1, .inl (Y 0, 279, .inr (.inl (fun _ => 0)))), (z2, .inl (Y 1, 16, .inl (fun _ => 0)))] := hD
  refine lv_aload_n hx hb d_Ref_init_21 rfl (lv_at hl 0 rfl) ?_
  refine lv_bipush (v := (16 : Int32)) hx hb d_Ref_init_22 (by decide) ?_
  refine va_newa (atype := .long) (a0 := (16, .inr (.inl (fun _ => 0)))) hx hb (hts _ q_55) (ty := .long) rfl hK hP hD hS hA (fun _ => rfl) (by decide) rfl (by decide) (by decide) (by decide) d_Ref_init_24 (fun z3 cA H hK1 hP hD hS => ?_)
  obtain rfl : cA = Y 0 := ra_eq hK1 0 rfl (by decide)
  refine W.widen (k := 3) (n := 311) (by decide) (by decide) ?_
  have hP : va_P D clz [(a, .inr (5, [.ref z1, .int 0, .ref z2, .null, .int 0, .int 0, .int 0, .int 0, .int 0, .int 0, .null, .null])), (z1, .inl (Y 0, 279, .inr (.inl (fun _ => 0)))), (z2, .inl (Y 1, 16, .inl (fun _ => 0))), (z3, .inl (Y 0, 16, .inr (.inl (fun _ => 0))))] H := hP
  have hD : va_D A [(a, .inr (5, [.ref z1, .int 0, .ref z2, .null, .int 0, .int 0, .int 0, .int 0, .int 0, .int 0, .null, .null])), (z1, .inl (Y 0, 279, .inr (.inl (fun _ => 0)))), (z2, .inl (Y 1, 16, .inl (fun _ => 0))), (z3, .inl (Y 0, 16, .inr (.inl (fun _ => 0))))] := hD
  refine va_putF (D := D) (ci := 5) (v := .ref z3) (ty := .array .long) (C := "FirmStoreModel") (T := F_Ref) (N := 12) hx hb hts iz_Ref t_Ref t_Ref_ok n_Ref hown hK hP hD hS 0 rfl rfl 3 (by decide) (hts _ q_540) (fun _ h9 => h9) rfl hin rfl (by decide +kernel) rfl rfl (Nat.le_of_ble_eq_true rfl) d_Ref_init_26 (fun H locs hP hD hS => ?_)
  have hP : va_P D clz [(a, .inr (5, [.ref z1, .int 0, .ref z2, .ref z3, .int 0, .int 0, .int 0, .int 0, .int 0, .int 0, .null, .null])), (z1, .inl (Y 0, 279, .inr (.inl (fun _ => 0)))), (z2, .inl (Y 1, 16, .inl (fun _ => 0))), (z3, .inl (Y 0, 16, .inr (.inl (fun _ => 0))))] H := hP
  have hD : va_D A [(a, .inr (5, [.ref z1, .int 0, .ref z2, .ref z3, .int 0, .int 0, .int 0, .int 0, .int 0, .int 0, .null, .null])), (z1, .inl (Y 0, 279, .inr (.inl (fun _ => 0)))), (z2, .inl (Y 1, 16, .inl (fun _ => 0))), (z3, .inl (Y 0, 16, .inr (.inl (fun _ => 0))))] := hD
  refine lv_aload_n hx hb d_Ref_init_29 rfl (lv_at hl 0 rfl) ?_
  refine lv_iconst (v := (-1 : Int32)) hx hb d_Ref_init_30 (by decide) ?_
  refine va_put (D := D) (ci := 5) (v := .int (-1 : Int32)) (ty := .int) (C := "FirmStoreModel") (T := F_Ref) (N := 12) hx hb hts iz_Ref t_Ref t_Ref_ok n_Ref hown hK hP hD hS 0 rfl rfl 4 (by decide) (hts _ q_541) (fun _ h9 => h9) rfl (by decide +kernel) rfl rfl (Nat.le_of_ble_eq_true rfl) d_Ref_init_31 (fun H locs hP hD hS => ?_)
  have hP : va_P D clz [(a, .inr (5, [.ref z1, .int 0, .ref z2, .ref z3, .int (-1 : Int32), .int 0, .int 0, .int 0, .int 0, .int 0, .null, .null])), (z1, .inl (Y 0, 279, .inr (.inl (fun _ => 0)))), (z2, .inl (Y 1, 16, .inl (fun _ => 0))), (z3, .inl (Y 0, 16, .inr (.inl (fun _ => 0))))] H := hP
  have hD : va_D A [(a, .inr (5, [.ref z1, .int 0, .ref z2, .ref z3, .int (-1 : Int32), .int 0, .int 0, .int 0, .int 0, .int 0, .null, .null])), (z1, .inl (Y 0, 279, .inr (.inl (fun _ => 0)))), (z2, .inl (Y 1, 16, .inl (fun _ => 0))), (z3, .inl (Y 0, 16, .inr (.inl (fun _ => 0))))] := hD
  refine lv_aload_n hx hb d_Ref_init_34 rfl (lv_at hl 0 rfl) ?_
  refine lv_bipush (v := (31 : Int32)) hx hb d_Ref_init_35 (by decide) ?_
  refine va_newa (atype := .boolean) (a0 := (31, .inl (fun _ => 0))) hx hb (hts _ q_574) (ty := .boolean) rfl hK hP hD hS hA (fun _ => rfl) (by decide) rfl (by decide) (by decide) (by decide) d_Ref_init_37 (fun z4 cA H hK1 hP hD hS => ?_)
  obtain rfl : cA = Y 2 := ra_eq hK1 2 rfl (by decide)
  refine W.widen (k := 4) (n := 342) (by decide) (by decide) ?_
  have hP : va_P D clz [(a, .inr (5, [.ref z1, .int 0, .ref z2, .ref z3, .int (-1 : Int32), .int 0, .int 0, .int 0, .int 0, .int 0, .null, .null])), (z1, .inl (Y 0, 279, .inr (.inl (fun _ => 0)))), (z2, .inl (Y 1, 16, .inl (fun _ => 0))), (z3, .inl (Y 0, 16, .inr (.inl (fun _ => 0)))), (z4, .inl (Y 2, 31, .inl (fun _ => 0)))] H := hP
  have hD : va_D A [(a, .inr (5, [.ref z1, .int 0, .ref z2, .ref z3, .int (-1 : Int32), .int 0, .int 0, .int 0, .int 0, .int 0, .null, .null])), (z1, .inl (Y 0, 279, .inr (.inl (fun _ => 0)))), (z2, .inl (Y 1, 16, .inl (fun _ => 0))), (z3, .inl (Y 0, 16, .inr (.inl (fun _ => 0)))), (z4, .inl (Y 2, 31, .inl (fun _ => 0)))] := hD
  refine va_putF (D := D) (ci := 5) (v := .ref z4) (ty := .array .boolean) (C := "FirmStoreModel") (T := F_Ref) (N := 12) hx hb hts iz_Ref t_Ref t_Ref_ok n_Ref hown hK hP hD hS 0 rfl rfl 10 (by decide) (hts _ q_547) (fun _ h9 => h9) rfl hin rfl (by decide +kernel) rfl rfl (Nat.le_of_ble_eq_true rfl) d_Ref_init_39 (fun H locs hP hD hS => ?_)
  have hP : va_P D clz [(a, .inr (5, [.ref z1, .int 0, .ref z2, .ref z3, .int (-1 : Int32), .int 0, .int 0, .int 0, .int 0, .int 0, .ref z4, .null])), (z1, .inl (Y 0, 279, .inr (.inl (fun _ => 0)))), (z2, .inl (Y 1, 16, .inl (fun _ => 0))), (z3, .inl (Y 0, 16, .inr (.inl (fun _ => 0)))), (z4, .inl (Y 2, 31, .inl (fun _ => 0)))] H := hP
  have hD : va_D A [(a, .inr (5, [.ref z1, .int 0, .ref z2, .ref z3, .int (-1 : Int32), .int 0, .int 0, .int 0, .int 0, .int 0, .ref z4, .null])), (z1, .inl (Y 0, 279, .inr (.inl (fun _ => 0)))), (z2, .inl (Y 1, 16, .inl (fun _ => 0))), (z3, .inl (Y 0, 16, .inr (.inl (fun _ => 0)))), (z4, .inl (Y 2, 31, .inl (fun _ => 0)))] := hD
  refine lv_aload_n hx hb d_Ref_init_42 rfl (lv_at hl 0 rfl) ?_
  refine lv_bipush (v := (16 : Int32)) hx hb d_Ref_init_43 (by decide) ?_
  refine va_newa (atype := .int) (a0 := (16, .inl (fun _ => 0))) hx hb (hts _ q_56) (ty := .int) rfl hK hP hD hS hA (fun _ => rfl) (by decide) rfl (by decide) (by decide) (by decide) d_Ref_init_45 (fun z5 cA H hK1 hP hD hS => ?_)
  obtain rfl : cA = Y 1 := ra_eq hK1 1 rfl (by decide)
  refine W.widen (k := 5) (n := 358) (by decide) (by decide) ?_
  have hP : va_P D clz [(a, .inr (5, [.ref z1, .int 0, .ref z2, .ref z3, .int (-1 : Int32), .int 0, .int 0, .int 0, .int 0, .int 0, .ref z4, .null])), (z1, .inl (Y 0, 279, .inr (.inl (fun _ => 0)))), (z2, .inl (Y 1, 16, .inl (fun _ => 0))), (z3, .inl (Y 0, 16, .inr (.inl (fun _ => 0)))), (z4, .inl (Y 2, 31, .inl (fun _ => 0))), (z5, .inl (Y 1, 16, .inl (fun _ => 0)))] H := hP
  have hD : va_D A [(a, .inr (5, [.ref z1, .int 0, .ref z2, .ref z3, .int (-1 : Int32), .int 0, .int 0, .int 0, .int 0, .int 0, .ref z4, .null])), (z1, .inl (Y 0, 279, .inr (.inl (fun _ => 0)))), (z2, .inl (Y 1, 16, .inl (fun _ => 0))), (z3, .inl (Y 0, 16, .inr (.inl (fun _ => 0)))), (z4, .inl (Y 2, 31, .inl (fun _ => 0))), (z5, .inl (Y 1, 16, .inl (fun _ => 0)))] := hD
  refine va_putF (D := D) (ci := 5) (v := .ref z5) (ty := .array .int) (C := "FirmStoreModel") (T := F_Ref) (N := 12) hx hb hts iz_Ref t_Ref t_Ref_ok n_Ref hown hK hP hD hS 0 rfl rfl 11 (by decide) (hts _ q_548) (fun _ h9 => h9) rfl hin rfl (by decide +kernel) rfl rfl (Nat.le_of_ble_eq_true rfl) d_Ref_init_47 (fun H locs hP hD hS => ?_)
  have hP : va_P D clz [(a, .inr (5, [.ref z1, .int 0, .ref z2, .ref z3, .int (-1 : Int32), .int 0, .int 0, .int 0, .int 0, .int 0, .ref z4, .ref z5])), (z1, .inl (Y 0, 279, .inr (.inl (fun _ => 0)))), (z2, .inl (Y 1, 16, .inl (fun _ => 0))), (z3, .inl (Y 0, 16, .inr (.inl (fun _ => 0)))), (z4, .inl (Y 2, 31, .inl (fun _ => 0))), (z5, .inl (Y 1, 16, .inl (fun _ => 0)))] H := hP
  have hD : va_D A [(a, .inr (5, [.ref z1, .int 0, .ref z2, .ref z3, .int (-1 : Int32), .int 0, .int 0, .int 0, .int 0, .int 0, .ref z4, .ref z5])), (z1, .inl (Y 0, 279, .inr (.inl (fun _ => 0)))), (z2, .inl (Y 1, 16, .inl (fun _ => 0))), (z3, .inl (Y 0, 16, .inr (.inl (fun _ => 0)))), (z4, .inl (Y 2, 31, .inl (fun _ => 0))), (z5, .inl (Y 1, 16, .inl (fun _ => 0)))] := hD
  have hP := hP.sub (ws' := wdR (fun i => if i = 0 then a else if i = 1 then z1 else if i = 2 then z2 else if i = 3 then z3 else if i = 4 then z4 else z5) Y v_0) [0, 1, 2, 3, 4, 5] rfl
  have hD := hD.sub (ws' := wdR (fun i => if i = 0 then a else if i = 1 then z1 else if i = 2 then z2 else if i = 3 then z3 else if i = 4 then z4 else z5) Y v_0) [0, 1, 2, 3, 4, 5] (by decide) rfl
  exact hret _ _ _ _ _ _ _ ⟨(fun i => if i = 0 then a else if i = 1 then z1 else if i = 2 then z2 else if i = 3 then z3 else if i = 4 then z4 else z5), rfl, rfl⟩ (by decide) (by decide) hP hD hS d_Ref_init_50
