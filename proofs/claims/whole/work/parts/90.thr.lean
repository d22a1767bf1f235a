/-! THROW, CALL THAT THROWS, CATCH with the tables as they come: rows over the library -/
theorem hk_cold {e : Env} {s : State} {f : JFrame} {a : Addr} {Q : Handler → Pre} {E : CtlPost} {d : Bool} {acts : List Action} {x : ExceptionTableEntry} {t : List ExceptionTableEntry} {c : ClassId} {cell : Cell} {vm₁ : Vm} (hx : covers x f.pc = true) (h0 : x.catchType ≠ 0)
    (hg : (resolveClass f.method.cls x.catchType).Gives e.toSetting s.vm (.ok c) vm₁) (hsz : vm₁.classes.size ≤ s.vm.classes.size) (hcell : s.heap[a]? = some cell) (hobj : ∀ k, cell.vm ≠ .statics k)
    (hk : ∃ k, vm₁.classes[cell.cls]? = some k) (hc : ∃ k, vm₁.classes[c]? = some k)
    (hA : vm₁.assignable cell.cls c = true → ∀ d' acts', Q (.found x.handlerPc) d' acts' (s.setVm vm₁))
    (hB : vm₁.assignable cell.cls c = false → ∀ d' acts', wp (findHandler.go f a t) Q E e d' acts' (s.setVm vm₁)) :
    wp (findHandler.go f a (x :: t)) Q E e d acts s := by
  simp only [covers] at hx
  obtain ⟨ha, ht⟩ := hg.op (op := VmOp.resolveClass f.method.cls x.catchType) rfl
  have hcell' : (s.setVm vm₁).heap[a]? = some cell := hcell
  have hk' : ∃ k, (s.setVm vm₁).vm.classes[cell.cls]? = some k := hk
  have hc' : ∃ k, (s.setVm vm₁).vm.classes[c]? = some k := hc
  cases hfit : vm₁.assignable cell.cls c
  · have := hB hfit
    simp [findHandler.go, hx, h0, ha, VmOp.lands_eq ht hsz, hcell, hobj, hk, hc, hfit, VmOp.dirties, VmOp.acts, this]
  · have := hA hfit
    simp [findHandler.go, hx, h0, ha, VmOp.lands_eq ht hsz, hcell, hobj, hk, hc, hfit, VmOp.dirties, VmOp.acts, this]
/-- the search over 'tb', from any tables warmer than s0's, comes to h -/
def FW (e : Env) (s0 : State) (f : JFrame) (a : Addr) (cell : Cell) (tb : List ExceptionTableEntry) (h : Handler) : Prop :=
  ∀ (s : State), s0.WarmedH s.vm → s.heap[a]? = some cell → ∀ (Q : Handler → Pre) (E : CtlPost) (d : Bool) (acts : List Action), (∀ vm₁ d' acts', s0.WarmedH vm₁ → Q h d' acts' (s.setVm vm₁)) → wp (findHandler.go f a tb) Q E e d acts s
theorem fw_step {e : Env} {s0 : State} {f : JFrame} {a : Addr} {cell : Cell} {x : ExceptionTableEntry} {t : List ExceptionTableEntry} {h : Handler} {args : Array Value} (hpl : e.platform.magicAccessors = ({} : Platform).magicAccessors) {own C X : String} (hown : s0.vm.findClass own = some f.method.cls) (hx : covers x f.pc = true) (h0 : x.catchType ≠ 0)
    (hl : (Cond.classLink own x.catchType C).before args s0 = true) (hobj : cell.vm.isStatics = false) (hX : s0.vm.findClass X = some cell.cls)
    (hor : (∃ c, s0.vm.findClass C = some c ∧ s0.vm.assignable cell.cls c = true ∧ h = .found x.handlerPc) ∨ (∃ c, s0.vm.findClass C = some c ∧ s0.vm.assignable cell.cls c = false ∧ FW e s0 f a cell t h)) : FW e s0 f a cell (x :: t) h := by
  intro s hW hcell Q E d acts hQ
  obtain ⟨c, hfc, hcl⟩ := Cond.classLink_spec hown hl e.platform hpl
  obtain ⟨hg₁, hwarm₁, hready₁⟩ := State.classEntry (e := e) hW hcl
  have al := hwarm₁.alike
  have hk : ∃ k, (s.vm.noted f.method.cls x.catchType (.cls c)).classes[cell.cls]? = some k := by
    obtain ⟨k, hk⟩ := Vm.classAt_of_findClass hX
    obtain ⟨k', hk', -⟩ := al.2.2 _ _ hk
    exact ⟨k', hk'⟩
  have hc : ∃ k, (s.vm.noted f.method.cls x.catchType (.cls c)).classes[c]? = some k := by
    obtain ⟨k, hk⟩ := Vm.classAt_of_findClass hfc
    obtain ⟨k', hk', -⟩ := al.2.2 _ _ hk
    exact ⟨k', hk'⟩
  have hsz : (s.vm.noted f.method.cls x.catchType (.cls c)).classes.size ≤ s.vm.classes.size := by
    rw [al.2.1, hW.alike.2.1]; exact Nat.le_refl _
  refine hk_cold hx h0 hg₁ hsz hcell (VmData.ne_statics_of hobj) hk hc ?_ ?_
  · intro hfit d' acts'
    rcases hor with ⟨c1, h1, h2, rfl⟩ | ⟨c1, h1, h2, h3⟩
    · exact hQ _ _ _ hwarm₁
    · cases hfc.symm.trans h1
      rw [al.assignable, h2] at hfit; cases hfit
  · intro hfit d' acts'
    rcases hor with ⟨c1, h1, h2, h3⟩ | ⟨c1, h1, h2, h3⟩
    · cases hfc.symm.trans h1
      rw [al.assignable, h2] at hfit; cases hfit
    · exact h3 (s.setVm _) hwarm₁ hcell Q E d' acts' (fun vm₁ d2 a2 h4 => hQ vm₁ d2 a2 h4)
section
variable {p : Program} {l : Launch} {e : Env} {R : Room} {s : State} {m : MethodId} {args : Array Value} {below : List Frame} {meth : Method} {c : Code} {T : State} {locs : List Loc} {cells slots : Nat}
theorem st_catchW (X : Stand p l e R s m args below meth c T locs cells slots) {a : Addr} {cell : Cell} {g : JFrame} (hg : g.method = m) {pc : Nat} (hcell : T.heap[a]? = some cell)
    (hf : FW e s g a cell c.exceptionTable.toList (.found pc)) :
    ∃ vm₁, s.WarmedH vm₁ ∧ Stand p l e R s m args below meth c (T.setVm vm₁) locs cells slots ∧ ∀ target, Steps p.tables e below ((T.setVm vm₁).setTop { g with pc := pc, stack := [.ref a] }) target → Steps p.tables e below ((T.setTop g).pushFrame (.throwing a)) target := by
  subst hg
  have hm : ((T.setTop g).pushFrame (.throwing a)).vm.method? g.method = some meth := by rw [throwing_vm]; exact X.method'
  have hh : ((T.setTop g).pushFrame (.throwing a)).heap[a]? = some cell := by rw [throwing_heap]; exact hcell
  have hW : s.WarmedH ((T.setTop g).pushFrame (.throwing a)).vm := by rw [throwing_vm]; exact X.warmed
  obtain ⟨hgo, hw⟩ := X.here.throwing a
  have hstep : ∃ vm₁ as, s.WarmedH vm₁ ∧ stepThrowing e ((T.setTop g).pushFrame (.throwing a)) a (.java g :: below) = ((((T.setTop g).pushFrame (.throwing a)).setVm vm₁).setFrames (.java { g with pc := pc, stack := [.ref a] } :: below), as) := by
    simp only [stepThrowing, searchFrame, vmDo]
    generalize hr : Sem.go _ e false [] ((T.setTop g).pushFrame (.throwing a)) = res
    obtain ⟨h1, s', as, rfl, rfl, vm₁, hw1, rfl⟩ := First.eq_ok_of' hr (P := fun h s' => h = Handler.found pc ∧ ∃ vm₁, s.WarmedH vm₁ ∧ s' = ((T.setTop g).pushFrame (.throwing a)).setVm vm₁) (by
      simp only [wp_bind']
      rw [W.findHandler_eq hm X.code]
      refine hf _ hW hh _ _ _ _ ?_
      intro vm₁ d' acts' h
      simp
      exact ⟨vm₁, h, rfl⟩)
    exact ⟨vm₁, _, hw1, rfl⟩
  obtain ⟨vm₁, as, hw1, hst⟩ := hstep
  refine ⟨vm₁, hw1, X.noted hw1, fun target hrest => ?_⟩
  refine Steps.head hgo hw ?_
  obtain ⟨g₀, hr⟩ := X.frames_eq
  have hfr : ((T.setTop g).pushFrame (.throwing a)).frames = .throwing a :: .java g :: below := by
    rw [frames_entered X.here.top, hr]; rfl
  rw [stepThread_throwing hfr, hst]
  have hr' : (T.setVm vm₁).frames = .java g₀ :: below := hr
  rw [State.setTop_of_frames _ hr'] at hrest
  have : (((T.setTop g).pushFrame (.throwing a)).setVm vm₁).setFrames (.java { g with pc := pc, stack := [.ref a] } :: below) = (T.setVm vm₁).setFrames (.java { g with pc := pc, stack := [.ref a] } :: below) := by
    rw [State.pushFrame, State.setTop_of_frames _ hr]
    show (((T.setFrames _).setFrames _).setVm vm₁).setFrames _ = _
    rw [State.setFrames_setFrames]
    show ((T.setVm vm₁).setFrames _).setFrames _ = _
    rw [State.setFrames_setFrames]
  rw [this]
  exact hrest
end
theorem hears_of {s U : State} {m : MethodId} {below : List Frame} (hmeth : ∀ mm : MethodId, U.vm.method? mm = s.vm.method? mm) (hcode : ∀ mm : MethodId, U.code? mm = s.code? mm) (h : s.hears m below = true) : U.hears m below = true := by
  cases hb : below with
  | nil => rw [hb] at h; simp only [State.hears] at h ⊢; rw [hmeth]; exact h
  | cons f r =>
    rw [hb] at h
    cases f <;> simp only [State.hears] at h ⊢ <;> first | (rw [hcode]; exact h) | (rw [hmeth]; exact h) | exact h
section
variable {p : Program} {l : Launch} {e : Env} {R : Room} {s : State} {m : MethodId} {args : Array Value} {below : List Frame} {meth : Method} {c : Code} {T : State} {locs : List Loc} {cells slots : Nat}
/-- the walk as if it began here -/
theorem st_here (X : Stand p l e R s m args below meth c T locs cells slots) (hc : cells ≤ R.cells) (hs : slots ≤ R.slots) :
    Stand p l e { frames := R.frames, cells := R.cells - cells, slots := R.slots - slots, locals := R.locals } (T.setFrames (.invoking m args :: below)) m args below meth c T [] 0 0 := by
  obtain ⟨g₀, hr⟩ := X.frames_eq
  obtain ⟨th, hth, -⟩ := State.frames_cons hr
  have hcur : T.cur < T.threads.size := (Array.getElem?_eq_some_iff.mp hth).1
  have hF : (T.setFrames (.invoking m args :: below)).frames = .invoking m args :: below := State.frames_setFrames _ hcur
  have hal := X.warmed.alike
  have hmeth : ∀ mm : MethodId, (T.setFrames (.invoking m args :: below)).vm.method? mm = s.vm.method? mm := fun mm => hal.method? mm
  have hcode : ∀ mm : MethodId, (T.setFrames (.invoking m args :: below)).code? mm = s.code? mm := fun mm => by
    rw [State.code?_eq, State.code?_eq, hmeth]
  have hm' : (T.setFrames (.invoking m args :: below)).vm.method? m = some meth := by rw [hmeth]; exact X.method
  have hU : (T.setFrames (.invoking m args :: below)).localsInUse = s.localsInUse := by
    rw [State.localsInUse_invoking hF hm' X.code, State.localsInUse_invoking X.frames X.method X.code]
  have hlim : e.platform.stackLimits (T.setFrames (.invoking m args :: below)).me = e.platform.stackLimits s.me := by
    rw [State.stackLimits_setFrames]; exact X.limits
  have hby : (T.setFrames (.invoking m args :: below)).me.stackBytes = s.me.stackBytes := by
    rw [State.stackBytes_setFrames]; exact X.bytes
  have hheap := X.heapSize
  have hused := X.used
  have hroom : (T.setFrames (.invoking m args :: below)).hasRoom e.platform { frames := R.frames, cells := R.cells - cells, slots := R.slots - slots, locals := R.locals } = true := by
    have h := X.room
    have hb := X.book
    unfold State.hasRoom at h ⊢
    rw [hU, hlim, hby, hF]
    rw [X.frames] at h
    simp only [Bool.and_eq_true, decide_eq_true_eq] at h ⊢
    obtain ⟨⟨⟨⟨h1, h2⟩, h3⟩, h4⟩, h5⟩ := h
    refine ⟨⟨⟨⟨h1, h2⟩, ?_⟩, ?_⟩, hb⟩
    · show T.heap.size + (R.cells - cells) ≤ _
      omega
    · show T.slotsUsed + (R.slots - slots) ≤ _
      omega
  have hhears : (T.setFrames (.invoking m args :: below)).hears m below = true := hears_of hmeth hcode X.hears
  refine ⟨X.admits, X.cas, X.clock, hF, hroom, hhears, hm', X.code, X.here, X.tail, State.WarmedH.refl _, ?_, ?_, ?_⟩
  · rw [State.stackLimits_setFrames]
  · rw [State.stackBytes_setFrames]
  · obtain ⟨th', hth', -⟩ := State.frames_cons hF
    have h := (State.sameButNew.refl (T.setFrames (.invoking m args :: below)) hth').setFrames T.frames (by
      exact (Array.getElem?_eq_some_iff.mp hth').1)
    rw [State.setFrames_setFrames, State.setFrames_self hth] at h
    exact h
set_option maxHeartbeats 1000000 in
theorem st_throwNew (X : Stand p l e R s m args below meth c T locs cells slots) (hexec : p.tables.exec = Jvm.exec) (htr : e.platform.stackTraces = false) {own cls : String} {names : List String} {ix ic : Nat}
    (hown : s.vm.findClass own = some m.cls) (hcls : Bundle.fit cls = true) (hnames : ∀ n ∈ names, Bundle.fit n = true)
    (h1 : (Cond.classLink own ix cls).before args (T.setFrames (.invoking m args :: below)) = true) (h2 : (Cond.instantiable cls 6).before args (T.setFrames (.invoking m args :: below)) = true) (h3 : (Cond.initialized cls).before args (T.setFrames (.invoking m args :: below)) = true)
    (h4 : ∀ a ∈ Bundle.ownAtoms0 own ic cls names, a.before args (T.setFrames (.invoking m args :: below)) = true)
    {g : JFrame} (hg : g.method = m) (hsize : g.locals.size = c.maxLocals) (hlocked : g.locked = none) (hentered : g.entered = []) (hstack : g.stack = [])
    (hd0 : decode c.code g.pc = .ok (.new ix, 3)) (hd3 : decode c.code (g.pc + 3) = .ok (.dup, 1)) (hd4 : decode c.code (g.pc + 4) = .ok (.invokespecial ic, 3)) (hd7 : decode c.code (g.pc + 7) = .ok (.athrow, 1))
    (hout : c.exceptionTable.toList = []) (hc : cells + 1 ≤ R.cells) (hs : slots + 6 ≤ R.slots) (hRf : names.length + 3 < R.frames) (hRl : 2 * g.monitorRoom + 1 + (13 * (names.length + 1) + 41) ≤ R.locals) (hlocks : meth.locks = false) :
    ∃ (U : State) (a : Addr) (ce : Cell), Steps p.tables e below (T.setTop g) U ∧ U.status = .running ∧ Ended U below (.threw a) ∧ s.WarmedH U.vm ∧ s.sameButNew ({ U with vm := s.vm } : State) locs (cells + 1) (slots + 6) ∧
      (∀ (q : Addr) (cell : Cell), T.heap[q]? = some cell → U.heap[q]? = some cell) ∧ T.heap.size ≤ a ∧ U.heap[a]? = some ce ∧ s.vm.findClass cls = some ce.cls ∧ ce.vm = .none := by
  have Y := st_here X (Nat.le_of_succ_le hc) (Nat.le_trans (Nat.le_add_right _ _) hs)
  have hal := X.warmed.alike
  have hown' : (T.setFrames (.invoking m args :: below)).vm.findClass own = some m.cls := by
    show T.vm.findClass own = _
    rw [hal.findClass]; exact hown
  obtain ⟨vm', cC, kC, e1, e2, e3, e4, Y1, st1⟩ := Y.newCold hexec hown' h1 h2 h3 hg hd0 (by show 0 + 1 ≤ R.cells - cells; omega) (by show 0 + 6 ≤ R.slots - slots; omega)
  obtain ⟨U, w1, w2, w3, w4, w5, ce, w6, w7⟩ := Y1.ctorThrow0 hexec htr (own := own) (cls := cls) (names := names) (ic := ic) hown' hcls hnames h4 (fun x hx => by cases hx) (a := T.heap.size) e1 e2
    (by show (T.heap.push _)[T.heap.size]? = _; simp [freshCell]) (Nat.le_refl _) (g := { g with pc := g.pc + 4, stack := [.ref T.heap.size, .ref T.heap.size] }) hg hsize hlocked hentered (rest := []) rfl hd4 hd7 (by rw [hout]; intro x hx; cases hx) hRf (by simp only [List.map_cons, List.map_nil, List.sum_cons, List.sum_nil]; exact hRl) hlocks
  have hstep : Steps p.tables e below (T.setTop g) U := by
    refine st1 U ?_
    have hA := Y1.here
    have hd3' : decode c.code (g.pc + 3) = .ok (.dup, 1) := hd3
    subst hg
    jvm_step hA [hA.top, hexec, hd3', hstack]
    exact ⟨_, State.topJava?_setTop' _ hA.top, _, _, rfl, rfl, w1⟩
  have hT : T.sameButNew ({ U with vm := T.vm } : State) [] 1 6 := by
    obtain ⟨q1, q2, q3, q4, q5, q6⟩ := w5
    refine ⟨?_, q2, q3, q4, by simpa using q5, q6⟩
    rw [State.setFrames_setFrames] at q1
    exact q1
  refine ⟨U, T.heap.size, ce, hstep, w2, w3, State.WarmedH.trans X.warmed w4, ?_, ?_, Nat.le_refl _, w6, ?_, w7.vm⟩
  · have := X.same.trans (hT.setVm s.vm)
    rw [List.append_nil] at this
    exact this
  · exact fun q cell hq => Free.kept_of_same (keep := fun _ => True) hT (fun _ h => by cases h) q cell trivial hq
  · have := w7.cls
    rw [← this]
    show _ = T.vm.findClass cls
    rw [hal.findClass]
end
section
variable {p : Program} {l : Launch} {e : Env} {R : Room} {s : State} {m : MethodId} {args : Array Value} {below : List Frame} {meth : Method} {c : Code} {T : State} {locs : List Loc} {cells slots : Nat}
/-- a call that ends in a throw: the note lies over the caller's frame -/
theorem st_callThr (X : Stand p l e R s m args below meth c T locs cells slots) (hexec : p.tables.exec = Jvm.exec) {own C : String} {index : Nat} {y : MethodName} {bytes : ByteArray} {maxL : Nat} {ret : Option FieldType}
    (hown : s.vm.findClass own = some m.cls) (hlink : (Cond.methodLink own index y).before args s = true) (hinst : (Cond.instanceMethod y).before args s = true) (hsel : (Cond.selects C y y).before args s = true)
    (hcode : (Cond.code y bytes maxL ret).before args s = true) (hy : y.cls ≠ "java/lang/invoke/MethodHandle" ∧ y.cls ≠ "java/lang/invoke/VarHandle")
    {S : Spec} {P : Array Value → State → Prop} {Q : Array Value → State → Outcome → State → Prop} (hM : MetFree l y S P (fun _ _ _ _ _ => True) Q)
    (hframes : S.room.frames + 1 ≤ R.frames) (hlocals : 8 + (maxL + 11) + S.room.locals ≤ R.locals) (hrc : cells + S.room.cells ≤ R.cells) (hrs : slots + S.room.slots ≤ R.slots)
    {b : Addr} {cellB : Cell} (hcell : T.heap[b]? = some cellB) (hobj : cellB.vm.isStatics = false) (hcls : s.vm.findClass C = some cellB.cls)
    {g : JFrame} (hg : g.method = m) (hsize : g.locals.size = c.maxLocals) {argsL rest : List Value} (hlen : ∀ sig, parseMethodDescriptor y.desc = some sig → argsL.length = sig.parameters.length)
    (hstack : g.stack = argsL.reverse ++ .ref b :: rest) (hW : 2 * g.monitorRoom + (rest.map fun v => v.category).sum ≤ 8) (hdg : decode c.code g.pc = .ok (.invokevirtual index, 3))
    (hpre : ∀ U : State, s.WarmedH U.vm → S.pre.before (Value.ref b :: argsL).toArray U = true ∧ (Cond.code y bytes maxL ret).before (Value.ref b :: argsL).toArray U = true ∧ (Cond.initialized y.cls).before (Value.ref b :: argsL).toArray U = true)
    (hP : ∀ (vm₁ : Vm) (g' : JFrame) (mk : MethodId), s.WarmedH vm₁ → P (Value.ref b :: argsL).toArray ((T.setVm vm₁).calling g' mk (Value.ref b :: argsL).toArray))
    {E : Addr → List Loc → Nat → Nat → State → State → Prop} (hQ : ∀ st o t, st.heap = T.heap → s.vm.Alike st.vm → Q (Value.ref b :: argsL).toArray st o t → ∃ (x : Addr) (L : List Loc) (k n : Nat), o = .threw x ∧ st.WarmedH t.vm ∧ st.sameButNew ({ t with vm := st.vm } : State) L k n ∧ E x L k n st t) :
    ∃ (x : Addr) (L : List Loc) (k n : Nat) (st t T' : State), st.heap = T.heap ∧ s.vm.Alike st.vm ∧ E x L k n st t ∧
      Stand p l e R s m args below meth c T' (locs ++ L) (cells + k) (slots + n) ∧ T'.heap = t.heap ∧ T'.vm = t.vm ∧
      Steps p.tables e below (T.setTop g) ((T'.setTop { g with stack := rest }).pushFrame (.throwing x)) := by
  obtain ⟨mk, methM, hnamed, hmethM, hstM, habM⟩ := Cond.instanceMethod_spec hinst
  obtain ⟨methM', cM, hmethM', -, -, -, -, -, -, hsigM⟩ := Cond.code_spec hnamed hcode
  cases hmethM.symm.trans hmethM'
  obtain ⟨c2, r2, m2, q1, q2, q3, q4, kP, hkP, hkPi⟩ := Cond.selects_spec hsel
  cases hcls.symm.trans q1
  cases (State.methodFound?_of_named hnamed hy).symm.trans q2
  cases hnamed.symm.trans q3
  have hselP : selectMethod e.platform s.vm cellB.cls mk = .method mk := by rw [Launch.admits_selectMethod X.admits]; exact q4
  obtain ⟨vm₁, X₁, hstep₁⟩ := X.invokevirtual hexec hown hlink hnamed hmethM hstM hkP hkPi hy (a := b) (cell := cellB) hcell
    (fun z h => by rw [h] at hobj; cases hobj) hselP hmethM habM hkP hkPi (g := g) hg (argsL := argsL) (rest := rest) (hlen _ hsigM) hstack hdg
  have hn : (T.setVm vm₁).methodNamed? y = some mk := X₁.named hnamed
  obtain ⟨p1, p2, p3⟩ := hpre (T.setVm vm₁) X₁.warmed
  obtain ⟨methY, cY, hmY, hcY, -, hlY, -, -, -, -⟩ := Cond.code_spec hn p2
  obtain ⟨kY, hkY, -⟩ := className_of_methodNamed hn
  have hinitY : kY.init = .initialized := Cond.initialized_spec (findClass_of_methodNamed hn) hkY p3
  have hdg' : decode c.code ({ g with stack := rest } : JFrame).pc = .ok (.invokevirtual index, 3) := hdg
  have h : At (T.setVm vm₁) ({ g with stack := rest } : JFrame).method c below := by
    show At _ g.method c below
    rw [hg]; exact X₁.here
  have happ : S.appliesLoose y e.platform ((T.setVm vm₁).calling { g with stack := rest } mk (Value.ref b :: argsL).toArray) = true :=
    Spec.appliesLoose_calling (g := { g with stack := rest }) h hdg' hn hkY hinitY
      (X₁.room_calling (g := { g with stack := rest }) (R' := S.room) hsize hmY hcY hframes (by rw [hlY]; dsimp only; omega) hrc hrs) p1
  obtain ⟨mid, hmid⟩ := h.above
  have hfr : ((T.setVm vm₁).setTop { g with stack := rest }).frames = (.java { g with stack := rest } :: mid) ++ below := by rw [State.frames_setTop' _ h.top, hmid]; rfl
  obtain ⟨o, t, hsteps, -, hend, hq⟩ := Steps.callFree hM p X.admits X.cas X.clock (acts := []) hfr happ (hP vm₁ _ mk X₁.warmed) trivial
  have hq' : Q (Value.ref b :: argsL).toArray ((T.setVm vm₁).calling { g with stack := rest } mk (Value.ref b :: argsL).toArray) o t := hq
  rw [State.frames_setTop' _ h.top, X₁.tail] at hend
  obtain ⟨x, L, k, n, rfl, hW2, hsame, hE⟩ := hQ ((T.setVm vm₁).calling { g with stack := rest } mk (Value.ref b :: argsL).toArray) o t rfl X₁.warmed.alike hq'
  obtain ⟨T', X', -, -, ht⟩ := X₁.outOfThrown (g := { g with stack := rest }) hg hend hW2 hsame
  refine ⟨x, L, k, n, (T.setVm vm₁).calling { g with stack := rest } mk (Value.ref b :: argsL).toArray, t, T', rfl, X₁.warmed.alike, hE, X', ?_, ?_, ?_⟩
  · rw [ht]; exact (throwing_heap _ _ _).symm
  · rw [ht]; exact (throwing_vm _ _ _).symm
  · refine hstep₁ _ fun acts => ?_
    rw [doInvoke_state, ← ht]
    exact hsteps
end
