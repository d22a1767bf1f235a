/-! CONTRACTS of the methods that may throw -/
theorem cast_self {X : String} {c : ClassId} {args : Array Value} {U : State} (h : U.vm.findClass X = some c) : (Cond.castable X X).before args U = true := by
  have ha : U.vm.assignable c c = true := by
    show U.vm.assignableAux (255 + 1) c c = true
    rw [Vm.assignableAux]; simp
  simp [Cond.before, Cond.holds, Cond.value, h, ha]
def tRm (fr lo : Nat) : Room := { frames := fr, cells := 1, slots := 6, locals := lo }
def ecl (k : Nat) : String := match k with
  | 0 => "java/lang/IllegalArgumentException"
  | 1 => "java/lang/IllegalStateException"
  | _ => "java/util/NoSuchElementException"
def eix (k : Nat) : Nat := match k with
  | 0 => 48
  | 1 => 55
  | _ => 66
def eic (k : Nat) : Nat := match k with
  | 0 => 50
  | 1 => 57
  | _ => 68
def enm : List String := ["java/lang/RuntimeException", "java/lang/Exception"]
/-- a static of a class that holds a reference or null, in a cell below B -/
def Zs (C n d : String) (B : Nat) (U : State) (H : Heap) : Prop := ∃ (c : ClassId) (k : Class) (i : Nat) (f : Field) (a : Nat) (cell : Cell) (v : Value), U.vm.findClass C = some c ∧ U.fieldFound? C n d = some (c, k, i, f) ∧ f.isStatic = true ∧ k.statics = some a ∧ H[a]? = some cell ∧ cell.vm.isStatics = true ∧ cell.cls = c ∧ f.slot < cell.slots.size ∧ k.staticTypes[f.slot]? = some f.type ∧ cell.slots[f.slot]? = some v ∧ (v = .null ∨ ∃ t, v = .ref t) ∧ ¬ B ≤ a
theorem Zs.moved {C n d : String} {B : Nat} {u U : State} {H : Heap} (hvm : u.vm.Alike U.vm) (h : Zs C n d B u H) : Zs C n d B U H := by
  obtain ⟨c, k, i, f, a, cell, v, h1, h2, h3, h4, h5, h6, h7, h8, h9, h10⟩ := h
  obtain ⟨k', hi', he⟩ := State.fieldFound?_setVm hvm h2
  exact ⟨c, k', i, f, a, cell, v, by rw [hvm.findClass]; exact h1, hi', h3, by rw [he]; exact h4, h5, h6, h7, h8, by rw [he]; exact h9, h10⟩
theorem Zs.kept {C n d : String} {B : Nat} {U : State} {H H1 : Heap} (h : Zs C n d B U H) (hq : ∀ a : Nat, a < H.size → ¬ B ≤ a → H1[a]? = H[a]?) : Zs C n d B U H1 := by
  obtain ⟨c, k, i, f, a, cell, v, h1, h2, h3, h4, h5, h6, h7, h8, h9, h10, h11, h12⟩ := h
  exact ⟨c, k, i, f, a, cell, v, h1, h2, h3, h4, by rw [hq a (Array.getElem?_eq_some_iff.mp h5).1 h12]; exact h5, h6, h7, h8, h9, h10, h11, h12⟩
theorem Zs.isRef {C n d : String} {B : Nat} {U : State} {args : Array Value} (h : Zs C n d B U U.heap) : (Cond.isRef (.static C n d)).before args U = true := by
  obtain ⟨c, k, i, f, a, cell, v, h1, h2, h3, h4, h5, h6, h7, h8, h9, h10, h11, h12⟩ := h
  have key : (Term.static C n d).eval args U none [] U = some v := by simp [Term.eval, State.fieldNamed?, h2, h3, h4, h5, h6, h10]
  rcases h11 with rfl | ⟨t, rfl⟩ <;> simp [Cond.before, Cond.holds, Cond.value, key]
theorem Zs.lays {C n d : String} {B : Nat} {U : State} {args : Array Value} (h : Zs C n d B U U.heap) : (Cond.laysStatic C n d).before args U = true := by
  obtain ⟨c, k, i, f, a, cell, v, h1, h2, h3, h4, h5, h6, h7, h8, h9, h10, h11, h12⟩ := h
  simp [Cond.before, Cond.holds, Cond.value, h1, h2, h3, h4, h5, h6, h7, h8, h9]
theorem Zs.of {C n d : String} {s : State} {args : Array Value} {B : Nat} (hl : (Cond.laysStatic C n d).before args s = true) (hr : (Cond.isRef (.static C n d)).before args s = true) (hB : s.heap.size ≤ B) : Zs C n d B s s.heap := by
  obtain ⟨c, k, i, f, a, cell, hc, hi, hst, ha, hcell, hs, hcls, hlt, hty⟩ := Cond.laysStatic_spec hl
  cases hv : (Term.static C n d).eval args s none [] s with
  | none => simp [Cond.before, Cond.holds, Cond.value, hv] at hr
  | some w =>
    obtain ⟨hst', a', cell', ha', hcell', -, hslot⟩ := Term.static_spec hi hv
    cases ha.symm.trans ha'
    cases hcell.symm.trans hcell'
    refine ⟨c, k, i, f, a, cell, w, hc, hi, hst, ha, hcell, hs, hcls, hlt, hty, hslot, ?_, ?_⟩
    · simp only [Cond.before, Cond.holds, Cond.value, hv] at hr
      cases w with
      | null => exact Or.inl rfl
      | ref t => exact Or.inr ⟨t, rfl⟩
      | _ => simp at hr
    · have := (Array.getElem?_eq_some_iff.mp hcell).1
      omega
/-- the two statics of Throwable -/
def SZ (B : Nat) (U : State) (H : Heap) : Prop := Zs Bundle.tN "UNASSIGNED_STACK" Bundle.steD B U H ∧ Zs Bundle.tN "SUPPRESSED_SENTINEL" Bundle.listD B U H
theorem SZ.moved {B : Nat} {u U : State} {H : Heap} (hvm : u.vm.Alike U.vm) (h : SZ B u H) : SZ B U H := ⟨h.1.moved hvm, h.2.moved hvm⟩
theorem SZ.kept {B : Nat} {U : State} {H H1 : Heap} (h : SZ B U H) (hq : ∀ a : Nat, a < H.size → ¬ B ≤ a → H1[a]? = H[a]?) : SZ B U H1 := ⟨h.1.kept hq, h.2.kept hq⟩
theorem decl_of {x : MethodName} {args : Array Value} {U : State} {b : ByteArray} {n : Nat} {rt : Option FieldType} (hi : (Cond.instanceMethod x).before args U = true) (hc : (Cond.code x b n rt).before args U = true) : (Cond.declares x).before args U = true := by
  obtain ⟨mk, meth, hn, hm, hst, hab⟩ := Cond.instanceMethod_spec hi
  obtain ⟨meth', c', hm', -, -, -, -, -, -, hsig⟩ := Cond.code_spec hn hc
  cases hm.symm.trans hm'
  simp [Cond.before, Cond.holds, Cond.value, hn, hm, hst, hsig]
def isDecl : Cond → Option MethodName
  | .declares x => some x
  | _ => none
def declOk (a : Cond) : Bool := match isDecl a with
  | some x => decide (Cond.instanceMethod x ∈ lw_tbl) && ((lw_tbl.any fun w => match w with | .code z _ _ _ => decide (z = x) | _ => false))
  | none => false
def ownOk (k : Nat) (a : Cond) : Bool := (decide (a ∈ lw_tbl) && goodWord a) || decide (a = .castable (ecl k) (ecl k)) || decide (a = .isRef (.static Bundle.tN "UNASSIGNED_STACK" Bundle.steD)) || decide (a = .isRef (.static Bundle.tN "SUPPRESSED_SENTINEL" Bundle.listD)) || decide (a = .laysStatic Bundle.tN "UNASSIGNED_STACK" Bundle.steD) || decide (a = .laysStatic Bundle.tN "SUPPRESSED_SENTINEL" Bundle.listD) || declOk a
theorem own_0 : (Bundle.ownAtoms0 "FirmStore" (eic 0) (ecl 0) enm).all (ownOk 0) = true := by decide +kernel
theorem own_1 : (Bundle.ownAtoms0 "FirmStore" (eic 1) (ecl 1) enm).all (ownOk 1) = true := by decide +kernel
theorem own_2 : (Bundle.ownAtoms0 "FirmStore" (eic 2) (ecl 2) enm).all (ownOk 2) = true := by decide +kernel
theorem own_k {k : Nat} (hk : k < 3) : (Bundle.ownAtoms0 "FirmStore" (eic k) (ecl k) enm).all (ownOk k) = true := by
  match k, hk with
  | 0, _ => exact own_0
  | 1, _ => exact own_1
  | 2, _ => exact own_2
theorem own_w {k : Nat} (hk : k < 3) : Cond.classLink "FirmStore" (eix k) (ecl k) ∈ tbG ∧ Cond.instantiable (ecl k) 6 ∈ tbG ∧ Cond.initialized (ecl k) ∈ tbG ∧ Bundle.fit (ecl k) = true := by
  match k, hk with
  | 0, _ => exact ⟨tbG_in (List.mem_of_getElem? (i := 312) (by decide +kernel)) rfl, tbG_in (List.mem_of_getElem? (i := 313) (by decide +kernel)) rfl, tbG_in (List.mem_of_getElem? (i := 70) (by decide +kernel)) rfl, by decide +kernel⟩
  | 1, _ => exact ⟨tbG_in (List.mem_of_getElem? (i := 375) (by decide +kernel)) rfl, tbG_in (List.mem_of_getElem? (i := 376) (by decide +kernel)) rfl, tbG_in (List.mem_of_getElem? (i := 71) (by decide +kernel)) rfl, by decide +kernel⟩
  | 2, _ => exact ⟨tbG_in (List.mem_of_getElem? (i := 513) (by decide +kernel)) rfl, tbG_in (List.mem_of_getElem? (i := 514) (by decide +kernel)) rfl, tbG_in (List.mem_of_getElem? (i := 73) (by decide +kernel)) rfl, by decide +kernel⟩
/-- all that the making of an exception asks, at a state with warmer tables -/
theorem own_at {k : Nat} (hk : k < 3) {av args : Array Value} {s U : State} {B : Nat} (hts : ∀ w ∈ tbG, w.before av s = true) (hW : s.WarmedH U.vm) (hZ : SZ B U U.heap) :
    ∀ a ∈ Bundle.ownAtoms0 "FirmStore" (eic k) (ecl k) enm, a.before args U = true := by
  intro a ha
  have h1 := List.all_eq_true.mp (own_k hk) a ha
  simp only [ownOk, Bool.or_eq_true, Bool.and_eq_true, decide_eq_true_eq] at h1
  rcases h1 with (((((⟨h1, h2⟩ | rfl) | rfl) | rfl) | rfl) | rfl) | h1
  · exact word_at hW (good_of_word h2) (hts a (tbG_in h1 h2))
  · have h3 := word_at (a' := args) hW (good_of_word (List.mem_filter.mp (own_w hk).2.1).2) (hts _ (own_w hk).2.1)
    obtain ⟨c1, k1, hc1, -⟩ := Cond.instantiable_spec h3
    exact cast_self hc1
  · exact hZ.1.isRef
  · exact hZ.2.isRef
  · exact hZ.1.lays
  · exact hZ.2.lays
  · unfold declOk at h1
    cases a <;> simp only [isDecl] at h1 <;> first | cases h1 | skip
    rename_i x
    simp only [Bool.and_eq_true, decide_eq_true_eq, List.any_eq_true] at h1
    obtain ⟨h1, w, h2, h3⟩ := h1
    cases w <;> simp only at h3 <;> first | cases h3 | skip
    all_goals rename_i z bb nn rr
    have h3 : z = x := of_decide_eq_true h3
    subst h3
    exact decl_of (word_at hW (Or.inl rfl) (hts _ (tbG_in h1 rfl))) (word_at hW (Or.inl rfl) (hts _ (tbG_in h2 rfl)))
section KO
variable {σ : Type} {l : Launch} {D : va_G} {cl : List vw_C} {tys : List (ClassId × FieldType)} {Wd : σ → va_W} {y : MethodName} {b : ByteArray} {n fr lo : Nat} {av : List Value} {u u' : σ}
def kPcT (D : va_G) (cl : List vw_C) (tys : List (ClassId × FieldType)) (Wd : σ → va_W) (u : σ) (sz B : Nat) : State → Prop := fun U => kPc D cl tys Wd u sz U ∧ SZ B U U.heap ∧ va_D (fun q => B ≤ q) (Wd u) ∧ B ≤ sz
def QT (D : va_G) (cl : List vw_C) (tys : List (ClassId × FieldType)) (Wd : σ → va_W) (u : σ) (sz k : Nat) (u' : σ) : Array Value → State → Outcome → State → Prop := fun _ st o t => ∃ (x : Addr) (ce : Cell) (L : List Loc), o = .threw x ∧ st.WarmedH t.vm ∧ st.sameButNew ({ t with vm := st.vm } : State) L 1 6 ∧ (∀ q ∈ L, va_A (Wd u) sz q.base) ∧ kB D cl tys Wd u sz u' t ∧ va_F (va_A (Wd u) sz) st t ∧ sz ≤ x ∧ t.heap[x]? = some ce ∧ st.vm.findClass (ecl k) = some ce.cls ∧ ce.vm = .none
def KT (l : Launch) (D : va_G) (cl : List vw_C) (tys : List (ClassId × FieldType)) (Wd : σ → va_W) (y : MethodName) (b : ByteArray) (n : Nat) (rt : Option FieldType) (fr lo : Nat) (av : List Value) (u : σ) (k : Nat) (u' : σ) : Prop :=
  ∀ sz B : Nat, MetFree l y (headSpec (wz y b n rt) (tRm fr lo)) (va_Pc av (kPcT D cl tys Wd u sz B)) (fun _ _ _ _ _ => True) (QT D cl tys Wd u sz k u')
def KO (l : Launch) (D : va_G) (cl : List vw_C) (tys : List (ClassId × FieldType)) (Wd : σ → va_W) (y : MethodName) (b : ByteArray) (n : Nat) (fr lo : Nat) (av : List Value) (u : σ) (r : Int32 ⊕ Nat) (u' : σ) : Prop := match r with
  | .inl v => KI l D cl tys Wd y b n (some .int) fr lo av u v u'
  | .inr k => KT l D cl tys Wd y b n (some .int) fr lo av u k u'
theorem room_less {s : State} {pl : Platform} {fr lo : Nat} (h : s.hasRoom pl (tRm fr lo) = true) : s.hasRoom pl (zRm fr lo) = true := by
  unfold State.hasRoom at h ⊢
  simp only [Bool.and_eq_true] at h ⊢
  obtain ⟨⟨⟨⟨h1, h2⟩, h3⟩, h4⟩, h5⟩ := h
  have h3' : s.heap.size + 1 ≤ pl.maxCells := of_decide_eq_true h3
  have h4' : s.slotsUsed + 6 ≤ pl.maxSlots := of_decide_eq_true h4
  exact ⟨⟨⟨⟨h1, h2⟩, decide_eq_true (show s.heap.size + 0 ≤ pl.maxCells from Nat.le_of_succ_le h3')⟩, decide_eq_true (show s.slotsUsed + 0 ≤ pl.maxSlots from Nat.le_trans (Nat.le_add_right _ 6) h4')⟩, h5⟩
set_option maxHeartbeats 1000000 in
theorem mkO (hfl : l.flags = flags0) {r : Int32 ⊕ Nat} (hy : plainName y.cls = true) (hyc : y.cls = "FirmStore") (hn : (lg_sl av).length ≤ n) (hfr : 5 < fr) (hlo : 81 ≤ lo)
    (body : ∀ (p : Program) (e : Env) (s : State) (m : MethodId) (below : List Frame) (meth : Method) (c : Code) (A : Nat → Prop) (Z : State → Prop) (ls : Array Slot), Ctx l D cl tys y.cls b n av p s m c A → va_P D cl (Wd u) s.heap → va_D A (Wd u) → va_S A s.heap s.heap [] → lv_has ls n (lv_args 0 av) →
      (∀ (H : Heap) (locs : List Loc) (pc : Nat) (ls : Array Slot) (r0 : Int32) (u0 : σ), (Sum.inl r0, u0) = (r, u') → va_P D cl (Wd u0) H → va_D A (Wd u0) → va_S A s.heap H locs → decode b pc = .ok (.ireturn, 1) → W p l e (zRm fr lo) s m av.toArray below meth c H locs 0 0 Z (F0 m pc ls [.int r0])) →
      (∀ (H : Heap) (locs : List Loc) (pc : Nat) (ls : Array Slot) (k : Nat) (u0 : σ), (Sum.inr k, u0) = (r, u') → k < 3 → va_P D cl (Wd u0) H → va_D A (Wd u0) → va_S A s.heap H locs → ls.size = n → decode b pc = .ok (.new (eix k), 3) → decode b (pc + 3) = .ok (.dup, 1) → decode b (pc + 4) = .ok (.invokespecial (eic k), 3) → decode b (pc + 7) = .ok (.athrow, 1) → W p l e (zRm fr lo) s m av.toArray below meth c H locs 0 0 Z (F0 m pc ls [])) →
      W p l e (zRm fr lo) s m av.toArray below meth c s.heap [] 0 0 Z (F0 m 0 ls [])) : KO l D cl tys Wd y b n fr lo av u r u' := by
  cases r with
  | inl v =>
    refine mkI hy hn ?_
    intro p e s m below meth c A Z ls C0 hP hD hS hl hret
    refine body p e s m below meth c A Z ls C0 hP hD hS hl ?_ ?_
    · intro H locs pc ls r0 u0 hru
      refine hret H locs pc ls r0 u0 ?_
      obtain ⟨h1, h2⟩ := Prod.mk.inj hru
      rw [Sum.inl.inj h1, h2]
    · intro H locs pc ls k u0 hru
      cases (Prod.mk.inj hru).1
  | inr k =>
    intro sz B
    refine MetFree.of_bodyS (code := b) (maxLocals := n) (ret := some .int) hy ?_ ?_
    · intro args s m h hn
      obtain ⟨meth, c, h1, h2, h3, h4, h5, h6, -, -⟩ := Cond.code_spec hn (atoms_spec (ws := wz y b n (some .int)) h _ List.mem_cons_self)
      exact ⟨meth, c, h1, h2, h3, h4, h5, h6⟩
    · intro p e s m args below meth c s₁ B0 hml hP0 _
      obtain ⟨rfl, ⟨hsz, hP, hK, hD0, hN⟩, hSZ, hDB, hBs⟩ := hP0
      have hts := atoms_spec (ws := wz y b n (some .int)) B0.pre
      have hts' : ∀ w ∈ tbG, w.before av.toArray s = true := fun w h => hts w (List.mem_cons_of_mem _ h)
      have hlocks := B0.notSynchronized
      subst hsz
      have hD := hD0.self (sz := s.heap.size)
      have hown : s.vm.findClass y.cls = some m.cls := findClass_of_methodNamed B0.named
      have X₀ : Stand p l e (tRm fr lo) s m av.toArray below meth c s₁ [] 0 0 := Stand.of_body B0
      have X₁ : Stand p l e (zRm fr lo) s m av.toArray below meth c s₁ [] 0 0 := { X₀ with room := room_less X₀.room }
      have htr : e.platform.stackTraces = false := Jvm.D.Launch.traces_off hfl X₀.admits
      have hh0 : s₁.heap = s.heap := by rw [B0.state]; rfl
      have hexc : c.exceptionTable.toList = [] := by
        obtain ⟨meth', c', hm', hc', -, -, -, -, hempty, -⟩ := Cond.code_spec B0.named (hts _ List.mem_cons_self)
        cases hm'.symm.trans X₀.method
        cases hc'.symm.trans X₀.code
        have h0 : c.exceptionTable.size = 0 := by simpa [Array.isEmpty] using hempty
        exact List.eq_nil_of_length_eq_zero (by simpa using h0)
      have K : W p l e (zRm fr lo) s m av.toArray below meth c s.heap [] 0 0 (fun t => ∃ o, t.status = .running ∧ Ended t below o ∧ QT D cl tys Wd u s.heap.size k u' av.toArray s o t) (entryFrame m av.toArray n) := by
        rw [lg_entry_eq]
        refine body p e s m below meth c (va_A (Wd u) s.heap.size) _ _ ⟨B0.exec, B0.bytes, hml, hown, hts', hK, hN, fun q h => Or.inr h⟩ hP hD va_S.rf (lv_entry av hn) ?_ ?_
        · intro H locs pc ls r0 u0 hru
          cases (Prod.mk.inj hru).1
        · intro H locs pc ls k0 u0 hru hk0 hP' hD' hS' hls d0 d3 d4 d7
          obtain ⟨h1, rfl⟩ := Prod.mk.inj hru
          cases h1
          intro T hT X
          have Xt : Stand p l e (tRm fr lo) s m av.toArray below meth c T locs 0 0 := { X with room := X₀.room }
          have hW : s.WarmedH (T.setFrames (.invoking m av.toArray :: below)).vm := X.warmed
          obtain ⟨o1, o2, o3, o4⟩ := own_w hk0
          have hZ : SZ B (T.setFrames (.invoking m av.toArray :: below)) (T.setFrames (.invoking m av.toArray :: below)).heap := by
            refine SZ.kept (SZ.moved hW.alike hSZ) ?_
            intro a ha hB
            show T.heap[a]? = _
            rw [hT]
            refine hS'.2.1 a ha ?_
            rintro (⟨k2, e2, h2⟩ | h2)
            · exact hB (hDB.2 k2 _ h2)
            · omega
          obtain ⟨U, a, ce, w1, w2, w3, w4, w5, w6, w7, w8, w9, w10⟩ := st_throwNew Xt B0.exec htr (own := "FirmStore") (cls := ecl k) (names := enm) (ix := eix k) (ic := eic k) (by rw [← hyc]; exact hown) o4 (by decide +kernel)
            (word_at hW (good_of_word (List.mem_filter.mp o1).2) (hts' _ o1)) (word_at hW (good_of_word (List.mem_filter.mp o2).2) (hts' _ o2)) (word_at hW (good_of_word (List.mem_filter.mp o3).2) (hts' _ o3))
            (own_at hk0 hts' hW hZ) (g := F0 m pc ls []) rfl (by rw [hml]; exact hls) rfl rfl rfl (by rw [B0.bytes]; exact d0) (by rw [B0.bytes]; exact d3) (by rw [B0.bytes]; exact d4) (by rw [B0.bytes]; exact d7) hexc (Nat.le_refl _) (Nat.le_refl _) (by show 2 + 3 < fr; omega) (by show 2 * 0 + 1 + (13 * (2 + 1) + 41) ≤ lo; omega) hlocks
          have hkept : ∀ q : Nat, q < H.size → U.heap[q]? = H[q]? := by
            intro q hq
            have h5 : T.heap[q]? = some (H[q]'hq) := by rw [hT]; simp [hq]
            rw [w6 q _ h5, ← h5, hT]
          refine ⟨U, w1, .threw a, w2, w3, a, ce, locs, rfl, w4, w5, hS'.2.2, ⟨?_, va_K.moved w4.alike hK, hD'⟩, ⟨?_, ?_⟩, ?_, w8, w9, w10⟩
          · exact hP'.kept (fun k2 q hq => hkept q.1 (hP' k2 q hq).lt)
          · exact w5.2.1
          · intro q h1 h2
            rw [hkept q (Nat.lt_of_lt_of_le h1 hS'.1)]
            exact hS'.2.1 q h1 h2
          · exact Nat.le_trans hS'.1 (by rw [← hT]; exact w7)
      obtain ⟨t, a1, o, b1, b2, b3⟩ := K s₁ hh0 X₁
      exact ⟨t, o, a1, b1, b2, b3⟩
end KO
