/-! THE LAW: calls from its body -/
section LawCalls
variable {l : Launch} {D : va_G} {G GR : Nat → Nat} {Y : Nat → ClassId} {ao : Nat} {y' : MethodName} {b b' : ByteArray} {n n' fr' lo' : Nat} {hh : List (Nat × Nat × Nat × Nat)} {rt' : Option FieldType} {av : List Value} {X : va_W} {R : Room} {cells slots : Nat}
variable {p : Program} {e : Env} {s : State} {m : MethodId} {below : List Frame} {meth : Method} {c : Code} {A : Nat → Prop} {Z : State → Prop} {ls : Array Slot} {H : Heap} {locs : List Loc} {own : String}
theorem callSW {T : State} {args : Array Value} (X0 : Stand p l e R s m args below meth c T locs cells slots) (hexec : p.tables.exec = Jvm.exec) {index : Nat} {y : MethodName} {bytes : ByteArray} {maxL : Nat} {ret : Option FieldType}
    (hown : s.vm.findClass own = some m.cls) (hlink : (Cond.methodLink own index y).before args s = true) (hstat : (Cond.static y).before args s = true) (hinit : (Cond.initialized y.cls).before args s = true)
    (hcode : (Cond.codeWith y bytes maxL ret hh).before args s = true) (hy : y.cls ≠ "java/lang/invoke/MethodHandle" ∧ y.cls ≠ "java/lang/invoke/VarHandle")
    {W : Nat} {Pre : Pt → Array Value → Prop} {Post : Pt → Array Value → Option Value → Pt → Prop} (hK : Back l R p e below s args y 3 W Pre Post)
    {g : JFrame} (hg : g.method = m) (hsize : g.locals.size = c.maxLocals) {argsL rest : List Value} (hlen : ∀ sig, parseMethodDescriptor y.desc = some sig → argsL.length = sig.parameters.length)
    (hstack : g.stack = argsL.reverse ++ rest) (hW : 2 * g.monitorRoom + (rest.map fun v => v.category).sum ≤ W) (hdg : decode c.code g.pc = .ok (.invokestatic index, 3))
    (hpre : ∀ vm₁, s.WarmedH vm₁ → Pre ⟨T.setVm vm₁, locs, cells, slots⟩ argsL.toArray) :
    ∃ (v : Option Value) (vm₁ : Vm) (B : Pt), s.WarmedH vm₁ ∧ Stand p l e R s m args below meth c B.U B.locs B.cells B.slots ∧ Post ⟨T.setVm vm₁, locs, cells, slots⟩ argsL.toArray v B ∧
      ∀ target, Steps p.tables e below (B.U.setTop { g with pc := g.pc + 3, stack := v.toList ++ rest }) target → Steps p.tables e below (T.setTop g) target := by
  obtain ⟨mk, methM, cM, hnamed, hmethM, -, -, -, -, -, -, hsigM⟩ := Cond.codeWith_spec hcode
  have hstatic : methM.isStatic = true := Cond.static_spec hnamed hmethM hstat
  obtain ⟨kP, hkP, -⟩ := className_of_methodNamed hnamed
  have hinitP : kP.init = .initialized := Cond.initialized_spec (findClass_of_methodNamed hnamed) hkP hinit
  obtain ⟨vm₁, X₁, hstep₁⟩ := X0.invokestatic hexec hown hlink hnamed hmethM hstatic hkP hinitP hy (g := g) hg (argsL := argsL) (rest := rest) (hlen _ hsigM) hstack hdg
  obtain ⟨v, B, X', hpost, hsteps⟩ := hK m meth c ⟨T.setVm vm₁, locs, cells, slots⟩ { g with stack := rest } (.invokestatic index) mk argsL.toArray X₁ hg hsize hdg hW (X₁.named hnamed) (hpre vm₁ X₁.warmed)
  exact ⟨v, vm₁, B, X₁.warmed, X', hpost, fun target h => hstep₁ _ fun acts => by rw [doInvoke_state]; exact hsteps.trans h⟩
theorem wzH_good {y : MethodName} (h : Cond.codeWith y b' n' (some .int) hh ∈ tbG) : GoodIn tbG (wzH y b' n' hh) := by
  intro w hw
  rcases List.mem_cons.mp hw with rfl | hw
  · exact ⟨h, good_of_word (List.mem_filter.mp h).2⟩
  · exact ⟨hw, good_of_word (List.mem_filter.mp hw).2⟩
theorem sbH {B : Nat} {k : Int32} {q q' : SM × (Nat → Int64)} {rest st0 : List Value} {pc index : Nat} {As : List Value} (C0 : Ctx l D clz (tyz Y) own b n av p s m c A) (hM : KH l D G Y ao y' b' n' hh fr' lo' As q k q') (hcode : Cond.codeWith y' b' n' (some .int) hh ∈ tbG) (hini : Cond.initialized y'.cls ∈ tbG) (hlink : Cond.methodLink own index y' ∈ tbG) (hsta : Cond.static y' ∈ tbG)
    (hd : y'.cls ≠ "java/lang/invoke/MethodHandle" ∧ y'.cls ≠ "java/lang/invoke/VarHandle" ∧ (parseMethodDescriptor y'.desc).map (fun d => d.parameters.length) = some As.length) (hR : fr' + 1 ≤ R.frames ∧ 8 + (n' + 11) + lo' ≤ R.locals) (hcl : cells + 1 ≤ R.cells) (hsl : slots + 6 ≤ R.slots)
    (hP : va_P D clz (wdH G Y ao q ++ X) H) (hD : va_D A (wdH G Y ao q ++ X)) (hS : va_S A s.heap H locs) (hsz : ls.size = n) (hst : st0 = As.reverse ++ rest) (hw : (rest.map fun v => v.category).sum ≤ 8) (hdg : decode b pc = .ok (.invokestatic index, 3))
    (hSZ : SZ B s s.heap) (hAB : ∀ q : Nat, q < s.heap.size → A q → B ≤ q) (hB : B ≤ s.heap.size) (hNC : NCx s)
    (kk : ∀ (H1 : Heap) (locs1 : List Loc), va_P D clz (wdH G Y ao q' ++ X) H1 → va_D A (wdH G Y ao q' ++ X) → va_S A s.heap H1 locs1 → W p l e R s m av.toArray below meth c H1 locs1 (cells + 1) (slots + 6) Z (F0 m (pc + 3) ls (.int k :: rest))) : W p l e R s m av.toArray below meth c H locs cells slots Z (F0 m pc ls st0) := by
  obtain ⟨hx, hb, hml, hown, hts, hK, hN, hA⟩ := C0
  have hF : ∀ z, va_A (wdH G Y ao q) H.size z → A z := wAX (Wd := wdH G Y ao) (u := q) hA hD hS
  have hPC := (vp_app.mp hP).1
  have hDC := (vd_app.mp hD).1
  have hDB : va_D (fun z => B ≤ z) (wdH G Y ao q) := hDC.weaken (fun j z hj hq => by
    by_cases h : z.1 < s.heap.size
    · exact hAB z.1 h hq
    · omega)
  have hSZ' : SZ B s H := hSZ.kept (fun a ha hn => hS.2.1 a ha (fun h => hn (hAB a ha h)))
  have hlen : ∀ sig, parseMethodDescriptor y'.desc = some sig → As.length = sig.parameters.length := by
    intro sig h
    have h2 := hd.2.2
    rw [h] at h2
    exact (Option.some.inj h2).symm
  have hblind : FrameBlind (va_Pc As (fun U => kPcT D clz (tyz Y) (wdH G Y ao) q H.size B U ∧ NCx U)) := fun a U g mk z => by
    obtain ⟨z0, ⟨⟨z1, zP, zK, zD, zN⟩, zS, zD2, zB⟩, zC⟩ := z
    exact ⟨z0, ⟨⟨z1, zP, va_K.moved (u := U) (U := U.calling g mk a) (Vm.Alike.refl U.vm) zK, zD, zN.call⟩, SZ.moved (u := U) (U := U.calling g mk a) (Vm.Alike.refl U.vm) zS, zD2, zB⟩, NCx.moved (u := U) (U := U.calling g mk a) (Vm.Alike.refl U.vm) zC⟩
  have hK9 : Back l R p e below s av.toArray y' 3 8 (PreOf R 1 6 (va_Pc As (fun U => kPcT D clz (tyz Y) (wdH G Y ao) q H.size B U ∧ NCx U))) (PostOf (va_Qi (fun r' v => r' = k ∧ v = q') (kB D clz (tyz Y) (wdH G Y ao) q H.size) (va_A (wdH G Y ao q) H.size)) 1 6 (va_A (wdH G Y ao q) H.size)) :=
    va_backW (hh := hh) (bytes := b') (maxL := n') (ret := some .int) (hM H.size B) hblind rfl rfl hR.1 hR.2 (pay_in hts (wzH_good hcode)) List.mem_cons_self (fun a' U hW => word_at hW (good_of_word (List.mem_filter.mp hini).2) (hts _ hini))
  have hrun : va_Run p l e R s m av.toArray below meth c H locs cells slots 1 6 (F0 m pc ls st0) rest (va_Qi (fun r' v => r' = k ∧ v = q') (kB D clz (tyz Y) (wdH G Y ao) q H.size) (va_A (wdH G Y ao q) H.size) As.toArray) (va_A (wdH G Y ao q) H.size) := by
    intro T hT X0
    obtain ⟨v, vm₁, ⟨U', l2, c2, s2⟩, hW₁, X', ⟨g', mk, t, L, e1, e2, hq, h1, hL, h2, h3⟩, st⟩ := callSW X0 hx (bytes := b') (maxL := n') (ret := some .int) (hh := hh) hown (hts _ hlink) (hts _ hsta) (hts _ hini) (hts _ hcode) ⟨hd.1, hd.2.1⟩ hK9 (g := F0 m pc ls st0) rfl (hsz.trans hml.symm) (argsL := As) (rest := rest) hlen hst (lv_room (rest := st0) hw) (by rw [hb]; exact hdg)
      (fun vm₁ hW₁ => ⟨hcl, hsl, rfl, ⟨⟨by show T.heap.size = _; rw [hT], by show va_P D clz _ T.heap; rw [hT]; exact hPC, va_K.moved hW₁.alike hK, hDC.weaken (fun _ _ _ _ => trivial), NL.warm (U := T.setVm vm₁) hW₁ hN⟩, by
        show SZ B _ T.heap
        rw [hT]
        exact hSZ'.moved hW₁.alike, hDB, Nat.le_trans hB hS.1⟩, hNC.moved hW₁.alike⟩)
    dsimp only [Pt.U, Pt.locs, Pt.cells, Pt.slots] at X' e1 e2 h1 h2 h3 st
    subst h1; subst h2; subst h3
    exact ⟨v, (T.setVm vm₁).calling g' mk As.toArray, t, U', L, hT, X', hL, e1, e2, hq, st⟩
  refine va_calli hrun hS (fun z _ h => hF z h) hF (fun r_ v t H1 locs1 ht hvm hw hB hz1 hk1 hS1 => ?_)
  obtain ⟨rfl, rfl⟩ := hw
  obtain ⟨hP1, hK1, hD1⟩ := hB
  rw [ht] at hP1
  obtain ⟨j1, j2⟩ := vj hP hD hk1 hF hP1 hD1
  exact kk H1 locs1 j1 j2 hS1
def WL (G GR : Nat → Nat) (Y : Nat → ClassId) (ao : Nat) (u : SM) (v : SR) (o : Nat → Int64) : va_W := wdH G Y ao (u, o) ++ wdR GR Y v
/-- the three objects of the law stand in the heap, apart from what was there before -/
def LSt (D : va_G) (G GR : Nat → Nat) (Y : Nat → ClassId) (ao : Nat) (A : Nat → Prop) (H0 H : Heap) (locs : List Loc) (u : SM) (v : SR) (o : Nat → Int64) : Prop := va_P D clz (WL G GR Y ao u v o) H ∧ va_D A (WL G GR Y ao u v o) ∧ va_S A H0 H locs
theorem WL_c {G GR : Nat → Nat} {Y : Nat → ClassId} {ao : Nat} {u : SM} {v : SR} {o : Nat → Int64} : WL G GR Y ao u v o = wdC G Y u ++ (wdO ao Y o ++ wdR GR Y v) := List.append_assoc _ _ _
theorem WL_r {G GR : Nat → Nat} {Y : Nat → ClassId} {ao : Nat} {u : SM} {v : SR} {o : Nat → Int64} : (WL G GR Y ao u v o).Perm (wdR GR Y v ++ wdH G Y ao (u, o)) := List.perm_append_comm
theorem lcI {u : SM} {v : SR} {o : Nat → Int64} {x' : SM} {r : Int32} {rest st0 : List Value} {pc index : Nat} {As : List Value} (C0 : Ctx l D clz (tyz Y) own b n av p s m c A) (hLS : LSt D G GR Y ao A s.heap H locs u v o) (hM : KI l D clz (tyz Y) (wdC G Y) y' b' n' rt' fr' lo' (.ref (G 0) :: As) u r x') (hcls : y'.cls = "FirmStore") (hcode : Cond.code y' b' n' rt' ∈ tbG) (hini : Cond.initialized y'.cls ∈ tbG) (hlink : Cond.methodLink own index y' ∈ tbG) (hinst : Cond.instanceMethod y' ∈ tbG) (hsel : Cond.selects y'.cls y' y' ∈ tbG)
    (hd : y'.cls ≠ "java/lang/invoke/MethodHandle" ∧ y'.cls ≠ "java/lang/invoke/VarHandle" ∧ (parseMethodDescriptor y'.desc).map (fun d => d.parameters.length) = some As.length) (hR : fr' + 1 ≤ R.frames ∧ 8 + (n' + 11) + lo' ≤ R.locals) (hcl : cells ≤ R.cells) (hsl : slots ≤ R.slots)
    (hsz : ls.size = n) (hst : st0 = As.reverse ++ .ref (G 0) :: rest) (hw : (rest.map fun v => v.category).sum ≤ 8) (hdg : decode b pc = .ok (.invokevirtual index, 3))
    (kk : ∀ (H1 : Heap) (locs1 : List Loc), LSt D G GR Y ao A s.heap H1 locs1 x' v o → W p l e R s m av.toArray below meth c H1 locs1 cells slots Z (F0 m (pc + 3) ls (.int r :: rest))) : W p l e R s m av.toArray below meth c H locs cells slots Z (F0 m pc ls st0) := by
  rw [LSt, WL_c] at hLS
  obtain ⟨hP, hD, hS⟩ := hLS
  refine sbVI (As := As) (rest := rest) (b0 := G 0) 0 (X := wdO ao Y o ++ wdR GR Y v) (T := F_Firm) (N := 4) C0 hM hcode hini hlink hinst hsel hd hR hcl hsl rfl (by rw [hcls]; rfl) hP hD hS hsz hst hw hdg (fun H1 locs1 hP hD hS => ?_)
  refine kk H1 locs1 ?_
  rw [LSt, WL_c]
  exact ⟨hP, hD, hS⟩
theorem lrI {u : SM} {v : SR} {o : Nat → Int64} {x' : SR} {r : Int32} {rest st0 : List Value} {pc index : Nat} {As : List Value} (C0 : Ctx l D clz (tyz Y) own b n av p s m c A) (hLS : LSt D G GR Y ao A s.heap H locs u v o) (hM : KI l D clz (tyz Y) (wdR GR Y) y' b' n' rt' fr' lo' (.ref (GR 0) :: As) v r x') (hcls : y'.cls = "FirmStoreModel") (hcode : Cond.code y' b' n' rt' ∈ tbG) (hini : Cond.initialized y'.cls ∈ tbG) (hlink : Cond.methodLink own index y' ∈ tbG) (hinst : Cond.instanceMethod y' ∈ tbG) (hsel : Cond.selects y'.cls y' y' ∈ tbG)
    (hd : y'.cls ≠ "java/lang/invoke/MethodHandle" ∧ y'.cls ≠ "java/lang/invoke/VarHandle" ∧ (parseMethodDescriptor y'.desc).map (fun d => d.parameters.length) = some As.length) (hR : fr' + 1 ≤ R.frames ∧ 8 + (n' + 11) + lo' ≤ R.locals) (hcl : cells ≤ R.cells) (hsl : slots ≤ R.slots)
    (hsz : ls.size = n) (hst : st0 = As.reverse ++ .ref (GR 0) :: rest) (hw : (rest.map fun v => v.category).sum ≤ 8) (hdg : decode b pc = .ok (.invokevirtual index, 3))
    (kk : ∀ (H1 : Heap) (locs1 : List Loc), LSt D G GR Y ao A s.heap H1 locs1 u x' o → W p l e R s m av.toArray below meth c H1 locs1 cells slots Z (F0 m (pc + 3) ls (.int r :: rest))) : W p l e R s m av.toArray below meth c H locs cells slots Z (F0 m pc ls st0) := by
  obtain ⟨hP, hD, hS⟩ := hLS
  have hP := vp_perm WL_r hP
  have hD := vd_perm WL_r hD
  refine sbVI (As := As) (rest := rest) (b0 := GR 0) 0 (X := wdH G Y ao (u, o)) (T := F_Ref) (N := 12) C0 hM hcode hini hlink hinst hsel hd hR hcl hsl rfl (by rw [hcls]; rfl) hP hD hS hsz hst hw hdg (fun H1 locs1 hP hD hS => ?_)
  exact kk H1 locs1 ⟨vp_perm WL_r.symm hP, vd_perm WL_r.symm hD, hS⟩
theorem lcZ {u : SM} {v : SR} {o : Nat → Int64} {x' : SM} {r : Int32} {rest st0 : List Value} {pc index : Nat} {As : List Value} (C0 : Ctx l D clz (tyz Y) own b n av p s m c A) (hLS : LSt D G GR Y ao A s.heap H locs u v o) (hM : KZ l D clz (tyz Y) (wdC G Y) y' b' n' rt' fr' lo' (.ref (G 0) :: As) u r x') (hcls : y'.cls = "FirmStore") (hcode : Cond.code y' b' n' rt' ∈ tbG) (hini : Cond.initialized y'.cls ∈ tbG) (hlink : Cond.methodLink own index y' ∈ tbG) (hinst : Cond.instanceMethod y' ∈ tbG) (hsel : Cond.selects y'.cls y' y' ∈ tbG)
    (hd : y'.cls ≠ "java/lang/invoke/MethodHandle" ∧ y'.cls ≠ "java/lang/invoke/VarHandle" ∧ (parseMethodDescriptor y'.desc).map (fun d => d.parameters.length) = some As.length) (hR : fr' + 1 ≤ R.frames ∧ 8 + (n' + 11) + lo' ≤ R.locals) (hcl : cells ≤ R.cells) (hsl : slots ≤ R.slots)
    (hsz : ls.size = n) (hst : st0 = As.reverse ++ .ref (G 0) :: rest) (hw : (rest.map fun v => v.category).sum ≤ 8) (hdg : decode b pc = .ok (.invokevirtual index, 3))
    (kk : ∀ (H1 : Heap) (locs1 : List Loc), (r = 0 ∨ r = 1) → LSt D G GR Y ao A s.heap H1 locs1 x' v o → W p l e R s m av.toArray below meth c H1 locs1 cells slots Z (F0 m (pc + 3) ls (.int r :: rest))) : W p l e R s m av.toArray below meth c H locs cells slots Z (F0 m pc ls st0) := by
  rw [LSt, WL_c] at hLS
  obtain ⟨hP, hD, hS⟩ := hLS
  refine sbVZ (As := As) (rest := rest) (b0 := G 0) 0 (X := wdO ao Y o ++ wdR GR Y v) (T := F_Firm) (N := 4) C0 hM hcode hini hlink hinst hsel hd hR hcl hsl rfl (by rw [hcls]; rfl) hP hD hS hsz hst hw hdg (fun H1 locs1 hzz hP hD hS => ?_)
  refine kk H1 locs1 hzz ?_
  rw [LSt, WL_c]
  exact ⟨hP, hD, hS⟩
theorem lrZ {u : SM} {v : SR} {o : Nat → Int64} {x' : SR} {r : Int32} {rest st0 : List Value} {pc index : Nat} {As : List Value} (C0 : Ctx l D clz (tyz Y) own b n av p s m c A) (hLS : LSt D G GR Y ao A s.heap H locs u v o) (hM : KZ l D clz (tyz Y) (wdR GR Y) y' b' n' rt' fr' lo' (.ref (GR 0) :: As) v r x') (hcls : y'.cls = "FirmStoreModel") (hcode : Cond.code y' b' n' rt' ∈ tbG) (hini : Cond.initialized y'.cls ∈ tbG) (hlink : Cond.methodLink own index y' ∈ tbG) (hinst : Cond.instanceMethod y' ∈ tbG) (hsel : Cond.selects y'.cls y' y' ∈ tbG)
    (hd : y'.cls ≠ "java/lang/invoke/MethodHandle" ∧ y'.cls ≠ "java/lang/invoke/VarHandle" ∧ (parseMethodDescriptor y'.desc).map (fun d => d.parameters.length) = some As.length) (hR : fr' + 1 ≤ R.frames ∧ 8 + (n' + 11) + lo' ≤ R.locals) (hcl : cells ≤ R.cells) (hsl : slots ≤ R.slots)
    (hsz : ls.size = n) (hst : st0 = As.reverse ++ .ref (GR 0) :: rest) (hw : (rest.map fun v => v.category).sum ≤ 8) (hdg : decode b pc = .ok (.invokevirtual index, 3))
    (kk : ∀ (H1 : Heap) (locs1 : List Loc), (r = 0 ∨ r = 1) → LSt D G GR Y ao A s.heap H1 locs1 u x' o → W p l e R s m av.toArray below meth c H1 locs1 cells slots Z (F0 m (pc + 3) ls (.int r :: rest))) : W p l e R s m av.toArray below meth c H locs cells slots Z (F0 m pc ls st0) := by
  obtain ⟨hP, hD, hS⟩ := hLS
  have hP := vp_perm WL_r hP
  have hD := vd_perm WL_r hD
  refine sbVZ (As := As) (rest := rest) (b0 := GR 0) 0 (X := wdH G Y ao (u, o)) (T := F_Ref) (N := 12) C0 hM hcode hini hlink hinst hsel hd hR hcl hsl rfl (by rw [hcls]; rfl) hP hD hS hsz hst hw hdg (fun H1 locs1 hzz hP hD hS => ?_)
  exact kk H1 locs1 hzz ⟨vp_perm WL_r.symm hP, vd_perm WL_r.symm hD, hS⟩
theorem lcL {u : SM} {v : SR} {o : Nat → Int64} {x' : SM} {r : Int64} {rest st0 : List Value} {pc index : Nat} {As : List Value} (C0 : Ctx l D clz (tyz Y) own b n av p s m c A) (hLS : LSt D G GR Y ao A s.heap H locs u v o) (hM : KL l D clz (tyz Y) (wdC G Y) y' b' n' rt' fr' lo' (.ref (G 0) :: As) u r x') (hcls : y'.cls = "FirmStore") (hcode : Cond.code y' b' n' rt' ∈ tbG) (hini : Cond.initialized y'.cls ∈ tbG) (hlink : Cond.methodLink own index y' ∈ tbG) (hinst : Cond.instanceMethod y' ∈ tbG) (hsel : Cond.selects y'.cls y' y' ∈ tbG)
    (hd : y'.cls ≠ "java/lang/invoke/MethodHandle" ∧ y'.cls ≠ "java/lang/invoke/VarHandle" ∧ (parseMethodDescriptor y'.desc).map (fun d => d.parameters.length) = some As.length) (hR : fr' + 1 ≤ R.frames ∧ 8 + (n' + 11) + lo' ≤ R.locals) (hcl : cells ≤ R.cells) (hsl : slots ≤ R.slots)
    (hsz : ls.size = n) (hst : st0 = As.reverse ++ .ref (G 0) :: rest) (hw : (rest.map fun v => v.category).sum ≤ 8) (hdg : decode b pc = .ok (.invokevirtual index, 3))
    (kk : ∀ (H1 : Heap) (locs1 : List Loc), LSt D G GR Y ao A s.heap H1 locs1 x' v o → W p l e R s m av.toArray below meth c H1 locs1 cells slots Z (F0 m (pc + 3) ls (.long r :: rest))) : W p l e R s m av.toArray below meth c H locs cells slots Z (F0 m pc ls st0) := by
  rw [LSt, WL_c] at hLS
  obtain ⟨hP, hD, hS⟩ := hLS
  refine sbVL (As := As) (rest := rest) (b0 := G 0) 0 (X := wdO ao Y o ++ wdR GR Y v) (T := F_Firm) (N := 4) C0 hM hcode hini hlink hinst hsel hd hR hcl hsl rfl (by rw [hcls]; rfl) hP hD hS hsz hst hw hdg (fun H1 locs1 hP hD hS => ?_)
  refine kk H1 locs1 ?_
  rw [LSt, WL_c]
  exact ⟨hP, hD, hS⟩
theorem lrL {u : SM} {v : SR} {o : Nat → Int64} {x' : SR} {r : Int64} {rest st0 : List Value} {pc index : Nat} {As : List Value} (C0 : Ctx l D clz (tyz Y) own b n av p s m c A) (hLS : LSt D G GR Y ao A s.heap H locs u v o) (hM : KL l D clz (tyz Y) (wdR GR Y) y' b' n' rt' fr' lo' (.ref (GR 0) :: As) v r x') (hcls : y'.cls = "FirmStoreModel") (hcode : Cond.code y' b' n' rt' ∈ tbG) (hini : Cond.initialized y'.cls ∈ tbG) (hlink : Cond.methodLink own index y' ∈ tbG) (hinst : Cond.instanceMethod y' ∈ tbG) (hsel : Cond.selects y'.cls y' y' ∈ tbG)
    (hd : y'.cls ≠ "java/lang/invoke/MethodHandle" ∧ y'.cls ≠ "java/lang/invoke/VarHandle" ∧ (parseMethodDescriptor y'.desc).map (fun d => d.parameters.length) = some As.length) (hR : fr' + 1 ≤ R.frames ∧ 8 + (n' + 11) + lo' ≤ R.locals) (hcl : cells ≤ R.cells) (hsl : slots ≤ R.slots)
    (hsz : ls.size = n) (hst : st0 = As.reverse ++ .ref (GR 0) :: rest) (hw : (rest.map fun v => v.category).sum ≤ 8) (hdg : decode b pc = .ok (.invokevirtual index, 3))
    (kk : ∀ (H1 : Heap) (locs1 : List Loc), LSt D G GR Y ao A s.heap H1 locs1 u x' o → W p l e R s m av.toArray below meth c H1 locs1 cells slots Z (F0 m (pc + 3) ls (.long r :: rest))) : W p l e R s m av.toArray below meth c H locs cells slots Z (F0 m pc ls st0) := by
  obtain ⟨hP, hD, hS⟩ := hLS
  have hP := vp_perm WL_r hP
  have hD := vd_perm WL_r hD
  refine sbVL (As := As) (rest := rest) (b0 := GR 0) 0 (X := wdH G Y ao (u, o)) (T := F_Ref) (N := 12) C0 hM hcode hini hlink hinst hsel hd hR hcl hsl rfl (by rw [hcls]; rfl) hP hD hS hsz hst hw hdg (fun H1 locs1 hP hD hS => ?_)
  exact kk H1 locs1 ⟨vp_perm WL_r.symm hP, vd_perm WL_r.symm hD, hS⟩
end LawCalls
/-! THE CLAIM OUT OF ONE WALK OF THE LAW'S BODY. Your part is whole_start (and what it stands on); all else here is the same for every law, but numbers. -/
def R_law : String := "FirmStoreLaw"
def lw_P (b : Addr) (xs : List Int32) (args : Array Value) (s : State) : Prop := args = #[.ref b] ∧ s.IntsAt b xs ∧ xs.length ≤ 2048 ∧ (Jvm.Cond.and given_1 narrow_1).before args s = true
def lw_Q (_ : Array Value) (s : State) (o : Outcome) (t : State) : Prop := o = .returned (some (.int 1)) ∧ Framed s o t [] 601024 7293034
def lw_Z (below : List Frame) (a : Array Value) (s : State) : State → Prop := fun t => ∃ o, t.status = .running ∧ Ended t below o ∧ lw_Q a s o t
/-- the law's own end, with 1 on the stack, nothing written that was there before, its room as the claim has it -/
theorem lw_ret {p : Program} {l : Launch} {e : Env} {s : State} {m : MethodId} {below : List Frame} {meth : Method} {c : Code} {b : Nat} (hx : p.tables.exec = Jvm.exec) (hb : c.code = code) (hr : meth.sig.returnType = ret) (hlocks : meth.locks = false) {pc : Nat} {H : Heap} {ls : Array Slot} (hdg : decode code pc = .ok (.ireturn, 1)) : W p l e room_1 s m #[Value.ref b] below meth c H [] 601024 7293034 (lw_Z below #[Value.ref b] s) (F0 m pc ls [.int 1]) := by
  intro T hT X
  obtain ⟨fs, hret, hrun, hended, hW, hframe⟩ := X.leave (v := some (.int 1)) (hlocks := hlocks) (fun h => by rw [hr] at h; cases h)
  have hmeth' : T.vm.method? m = some meth := X.method'
  refine ⟨T.setFrames fs, ?_, .returned (some (.int 1)), hrun, hended, rfl, ⟨_, rfl⟩, hW, hframe⟩
  jvm_step X.here [X.here.top, hx, hb, hdg, hmeth', hr, ret, narrow_b1]
  (try refine ⟨rfl, ?_⟩); (try refine ⟨rfl, ?_⟩)
  first | (intro acts; rw [hret _ acts rfl rfl rfl]) | rw [hret _ _ rfl rfl rfl]
  exact Steps.refl _
/-- what holds at the law's entry: the machine, the code, the tables' words (any of lw_tbl by 'hts w (by decide +kernel)'), the script of L ints xs at the cell b, what the Statement gives of the start (any of its parts by flat_of_before) -/
def lw_At (p : Program) (s : State) (m : MethodId) (meth : Method) (c : Code) (b L : Nat) (xs : Nat → Int32) : Prop :=
  p.tables.exec = Jvm.exec ∧ c.code = code ∧ meth.sig.returnType = ret ∧ c.maxLocals = 7 ∧ s.vm.findClass R_law = some m.cls ∧ (∀ w ∈ lw_tbl, w.before #[Value.ref b] s = true) ∧ va_X b L xs s s.heap ∧ b < s.heap.size ∧ meth.locks = false ∧ (Jvm.Cond.and given_1 narrow_1).before #[Value.ref b] s = true
