/-! BASE: uniform words, contracts over a world, entering, calling. -/
def tbG : List Cond := lw_tbl.filter goodWord
theorem tbG_in {w : Cond} (h : w ∈ lw_tbl) (g : goodWord w = true) : w ∈ tbG := List.mem_filter.mpr ⟨h, g⟩
def wz (y : MethodName) (b : ByteArray) (n : Nat) (r : Option FieldType) : List Cond := .code y b n r :: tbG
theorem wz_good {y y' : MethodName} {b b' : ByteArray} {n n' : Nat} {r r' : Option FieldType} (h : Cond.code y' b' n' r' ∈ tbG) : GoodIn (wz y b n r) (wz y' b' n' r') := by
  intro w hw
  rcases List.mem_cons.mp hw with rfl | hw
  · exact ⟨List.mem_cons_of_mem _ h, good_of_word (List.mem_filter.mp h).2⟩
  · exact ⟨List.mem_cons_of_mem _ hw, good_of_word (List.mem_filter.mp hw).2⟩
theorem tb_good {y' : MethodName} {b' : ByteArray} {n' : Nat} {r' : Option FieldType} (h : Cond.code y' b' n' r' ∈ tbG) : GoodIn tbG (wz y' b' n' r') := by
  intro w hw
  rcases List.mem_cons.mp hw with rfl | hw
  · exact ⟨h, good_of_word (List.mem_filter.mp h).2⟩
  · exact ⟨hw, good_of_word (List.mem_filter.mp hw).2⟩
/-- the links to private members of nest mates -/
def NL (U : State) : Prop := va_Nw (.methodLinkNest "FirmStore$Blocks" 25 ⟨"FirmStore", "valueOf", "(J)I"⟩ "FirmStore") U ∧ va_Nw (.methodLinkNest "FirmStore$Tree" 122 ⟨"FirmStore", "keyOf", "(J)I"⟩ "FirmStore") U ∧ va_Nw (.methodLinkNest "FirmStore$Tree" 53 ⟨"FirmStore", "entryOf", "(II)J"⟩ "FirmStore") U ∧ va_Nw (.methodLinkNest "FirmStore$Table" 38 ⟨"FirmStore", "entryOf", "(II)J"⟩ "FirmStore") U ∧ va_Nw (.methodLinkNest "FirmStore$Table" 62 ⟨"FirmStore", "keyOf", "(J)I"⟩ "FirmStore") U
theorem NL.warm {s U : State} (hW : s.WarmedH U.vm) (h : NL s) : NL U := ⟨va_Nw.warmM hW h.1, va_Nw.warmM hW h.2.1, va_Nw.warmM hW h.2.2.1, va_Nw.warmM hW h.2.2.2.1, va_Nw.warmM hW h.2.2.2.2⟩
theorem NL.call {U : State} {g : JFrame} {mk : MethodId} {a : Array Value} (h : NL U) : NL (U.calling g mk a) := ⟨va_Nw.same rfl rfl h.1, va_Nw.same rfl rfl h.2.1, va_Nw.same rfl rfl h.2.2.1, va_Nw.same rfl rfl h.2.2.2.1, va_Nw.same rfl rfl h.2.2.2.2⟩
def kPc {σ : Type} (D : va_G) (cl : List vw_C) (tys : List (ClassId × FieldType)) (Wd : σ → va_W) (u : σ) (sz : Nat) : State → Prop := fun U => U.heap.size = sz ∧ va_P D cl (Wd u) U.heap ∧ va_K D cl tys U ∧ va_D (fun _ => True) (Wd u) ∧ NL U
def kB {σ : Type} (D : va_G) (cl : List vw_C) (tys : List (ClassId × FieldType)) (Wd : σ → va_W) (u : σ) (sz : Nat) : σ → State → Prop := fun v t => va_P D cl (Wd v) t.heap ∧ va_K D cl tys t ∧ va_D (va_A (Wd u) sz) (Wd v)
def zRm (fr lo : Nat) : Room := { frames := fr, cells := 0, slots := 0, locals := lo }
def KI {σ : Type} (l : Launch) (D : va_G) (cl : List vw_C) (tys : List (ClassId × FieldType)) (Wd : σ → va_W) (y : MethodName) (b : ByteArray) (n : Nat) (rt : Option FieldType) (fr lo : Nat) (av : List Value) (u : σ) (r : Int32) (u' : σ) : Prop :=
  ∀ sz : Nat, Met l y (wz y b n rt) (zRm fr lo) (va_Pc av (kPc D cl tys Wd u sz)) (va_Qi (fun r' v => r' = r ∧ v = u') (kB D cl tys Wd u sz) (va_A (Wd u) sz)) 0 0 (va_A (Wd u) sz)
def KZ {σ : Type} (l : Launch) (D : va_G) (cl : List vw_C) (tys : List (ClassId × FieldType)) (Wd : σ → va_W) (y : MethodName) (b : ByteArray) (n : Nat) (rt : Option FieldType) (fr lo : Nat) (av : List Value) (u : σ) (r : Int32) (u' : σ) : Prop :=
  ∀ sz : Nat, Met l y (wz y b n rt) (zRm fr lo) (va_Pc av (kPc D cl tys Wd u sz)) (va_Qi (fun r' v => r' = r ∧ v = u' ∧ (r = 0 ∨ r = 1)) (kB D cl tys Wd u sz) (va_A (Wd u) sz)) 0 0 (va_A (Wd u) sz)
def KL {σ : Type} (l : Launch) (D : va_G) (cl : List vw_C) (tys : List (ClassId × FieldType)) (Wd : σ → va_W) (y : MethodName) (b : ByteArray) (n : Nat) (rt : Option FieldType) (fr lo : Nat) (av : List Value) (u : σ) (r : Int64) (u' : σ) : Prop :=
  ∀ sz : Nat, Met l y (wz y b n rt) (zRm fr lo) (va_Pc av (kPc D cl tys Wd u sz)) (va_Ql (fun r' v => r' = r ∧ v = u') (kB D cl tys Wd u sz) (va_A (Wd u) sz)) 0 0 (va_A (Wd u) sz)
def KV {σ : Type} (l : Launch) (D : va_G) (cl : List vw_C) (tys : List (ClassId × FieldType)) (Wd : σ → va_W) (y : MethodName) (b : ByteArray) (n : Nat) (rt : Option FieldType) (fr lo : Nat) (av : List Value) (u : σ) (u' : σ) : Prop :=
  ∀ sz : Nat, Met l y (wz y b n rt) (zRm fr lo) (va_Pc av (kPc D cl tys Wd u sz)) (va_Qv (fun v => v = u') (kB D cl tys Wd u sz) (va_A (Wd u) sz)) 0 0 (va_A (Wd u) sz)
theorem kPc_blind {σ : Type} {D : va_G} {cl : List vw_C} {tys : List (ClassId × FieldType)} {Wd : σ → va_W} {u : σ} {sz : Nat} {av : List Value} : FrameBlind (va_Pc av (kPc D cl tys Wd u sz)) := fun a U g mk q => by
  obtain ⟨q0, q1, qP, qK, qD, qN⟩ := q
  exact ⟨q0, q1, qP, va_K.moved (u := U) (U := U.calling g mk a) (Vm.Alike.refl U.vm) qK, qD, qN.call⟩
theorem nz {v : Int32} (h : v = 0 ∨ v = 1) : narrow .boolean (.int v) = .int v := by rcases h with rfl | rfl <;> decide
section Enter
variable {σ : Type} {l : Launch} {D : va_G} {cl : List vw_C} {tys : List (ClassId × FieldType)} {Wd : σ → va_W} {y : MethodName} {b : ByteArray} {n fr lo : Nat} {av : List Value} {u u' : σ}
/-- what a body has at its entry -/
def Ctx (l : Launch) (D : va_G) (cl : List vw_C) (tys : List (ClassId × FieldType)) (own : String) (b : ByteArray) (n : Nat) (av : List Value) (p : Program) (s : State) (m : MethodId) (c : Code) (A : Nat → Prop) : Prop :=
  p.tables.exec = Jvm.exec ∧ c.code = b ∧ c.maxLocals = n ∧ s.vm.findClass own = some m.cls ∧ (∀ w ∈ tbG, w.before av.toArray s = true) ∧ va_K D cl tys s ∧ NL s ∧ (∀ q : Nat, s.heap.size ≤ q → A q)
theorem mkI {r : Int32} (hy : plainName y.cls = true) (hn : (lg_sl av).length ≤ n)
    (body : ∀ (p : Program) (e : Env) (s : State) (m : MethodId) (below : List Frame) (meth : Method) (c : Code) (A : Nat → Prop) (Z : State → Prop) (ls : Array Slot), Ctx l D cl tys y.cls b n av p s m c A → va_P D cl (Wd u) s.heap → va_D A (Wd u) → va_S A s.heap s.heap [] → lv_has ls n (lv_args 0 av) →
      (∀ (H : Heap) (locs : List Loc) (pc : Nat) (ls : Array Slot) (r0 : Int32) (u0 : σ), (r0, u0) = (r, u') → va_P D cl (Wd u0) H → va_D A (Wd u0) → va_S A s.heap H locs → decode b pc = .ok (.ireturn, 1) → W p l e (zRm fr lo) s m av.toArray below meth c H locs 0 0 Z (F0 m pc ls [.int r0])) →
      W p l e (zRm fr lo) s m av.toArray below meth c s.heap [] 0 0 Z (F0 m 0 ls [])) : KI l D cl tys Wd y b n (some .int) fr lo av u r u' := by
  intro sz
  refine Met.ofW (cc := b) (maxL := n) (ret := some .int) hy rfl ?_
  intro p e s m args below meth c s₁ B hml hv
  obtain ⟨rfl, hsz, hP, hK, hD0, hN⟩ := hv
  have hts := atoms_spec (ws := wz y b n (some .int)) B.pre
  have hlocks := B.notSynchronized
  subst hsz
  have hD := hD0.self (sz := s.heap.size)
  rw [lg_entry_eq]
  refine body p e s m below meth c (va_A (Wd u) s.heap.size) _ _ ⟨B.exec, B.bytes, hml, findClass_of_methodNamed B.named, fun w h => hts w (List.mem_cons_of_mem _ h), hK, hN, fun q h => Or.inr h⟩ hP hD va_S.rf (lv_entry av hn) ?_
  intro H locs pc ls r0 u0 hru hP' hD' hS' hdg
  obtain ⟨rfl, rfl⟩ := Prod.mk.inj hru
  exact W.iret (v := r0) B.exec B.bytes B.returns (fun t ht hW => ⟨⟨r0, u0, rfl, ⟨rfl, rfl⟩, by rw [ht]; exact hP', va_K.moved hW.alike hK, hD'⟩, hS'.F ht⟩) hS'.2.2 hdg
theorem mkJ {r : Int32} (hy : plainFor y = true) (hn : (lg_sl av).length ≤ n)
    (body : ∀ (p : Program) (e : Env) (s : State) (m : MethodId) (below : List Frame) (meth : Method) (c : Code) (A : Nat → Prop) (Z : State → Prop) (ls : Array Slot), Ctx l D cl tys y.cls b n av p s m c A → va_P D cl (Wd u) s.heap → va_D A (Wd u) → va_S A s.heap s.heap [] → lv_has ls n (lv_args 0 av) →
      (∀ (H : Heap) (locs : List Loc) (pc : Nat) (ls : Array Slot) (r0 : Int32) (u0 : σ), (r0, u0) = (r, u') → va_P D cl (Wd u0) H → va_D A (Wd u0) → va_S A s.heap H locs → decode b pc = .ok (.ireturn, 1) → W p l e (zRm fr lo) s m av.toArray below meth c H locs 0 0 Z (F0 m pc ls [.int r0])) →
      W p l e (zRm fr lo) s m av.toArray below meth c s.heap [] 0 0 Z (F0 m 0 ls [])) : KI l D cl tys Wd y b n (some .int) fr lo av u r u' := by
  intro sz
  refine va_MetF (cc := b) (maxL := n) (ret := some .int) hy rfl ?_
  intro p e s m args below meth c s₁ B hml hv
  obtain ⟨rfl, hsz, hP, hK, hD0, hN⟩ := hv
  have hts := atoms_spec (ws := wz y b n (some .int)) B.pre
  have hlocks := B.notSynchronized
  subst hsz
  have hD := hD0.self (sz := s.heap.size)
  rw [lg_entry_eq]
  refine body p e s m below meth c (va_A (Wd u) s.heap.size) _ _ ⟨B.exec, B.bytes, hml, findClass_of_methodNamed B.named, fun w h => hts w (List.mem_cons_of_mem _ h), hK, hN, fun q h => Or.inr h⟩ hP hD va_S.rf (lv_entry av hn) ?_
  intro H locs pc ls r0 u0 hru hP' hD' hS' hdg
  obtain ⟨rfl, rfl⟩ := Prod.mk.inj hru
  exact W.iret (v := r0) B.exec B.bytes B.returns (fun t ht hW => ⟨⟨r0, u0, rfl, ⟨rfl, rfl⟩, by rw [ht]; exact hP', va_K.moved hW.alike hK, hD'⟩, hS'.F ht⟩) hS'.2.2 hdg
theorem mkZ {r : Int32} (hy : plainName y.cls = true) (hn : (lg_sl av).length ≤ n)
    (body : ∀ (p : Program) (e : Env) (s : State) (m : MethodId) (below : List Frame) (meth : Method) (c : Code) (A : Nat → Prop) (Z : State → Prop) (ls : Array Slot), Ctx l D cl tys y.cls b n av p s m c A → va_P D cl (Wd u) s.heap → va_D A (Wd u) → va_S A s.heap s.heap [] → lv_has ls n (lv_args 0 av) →
      (∀ (H : Heap) (locs : List Loc) (pc : Nat) (ls : Array Slot) (r0 : Int32) (u0 : σ), (r0, u0) = (r, u') → (r0 = 0 ∨ r0 = 1) → va_P D cl (Wd u0) H → va_D A (Wd u0) → va_S A s.heap H locs → decode b pc = .ok (.ireturn, 1) → W p l e (zRm fr lo) s m av.toArray below meth c H locs 0 0 Z (F0 m pc ls [.int r0])) →
      W p l e (zRm fr lo) s m av.toArray below meth c s.heap [] 0 0 Z (F0 m 0 ls [])) : KZ l D cl tys Wd y b n (some .boolean) fr lo av u r u' := by
  intro sz
  refine Met.ofW (cc := b) (maxL := n) (ret := some .boolean) hy rfl ?_
  intro p e s m args below meth c s₁ B hml hv
  obtain ⟨rfl, hsz, hP, hK, hD0, hN⟩ := hv
  have hts := atoms_spec (ws := wz y b n (some .boolean)) B.pre
  have hlocks := B.notSynchronized
  subst hsz
  have hD := hD0.self (sz := s.heap.size)
  rw [lg_entry_eq]
  refine body p e s m below meth c (va_A (Wd u) s.heap.size) _ _ ⟨B.exec, B.bytes, hml, findClass_of_methodNamed B.named, fun w h => hts w (List.mem_cons_of_mem _ h), hK, hN, fun q h => Or.inr h⟩ hP hD va_S.rf (lv_entry av hn) ?_
  intro H locs pc ls r0 u0 hru hz hP' hD' hS' hdg
  obtain ⟨rfl, rfl⟩ := Prod.mk.inj hru
  exact W.zret (v := r0) B.exec B.bytes B.returns (nz hz) (fun t ht hW => ⟨⟨r0, u0, rfl, ⟨rfl, rfl, hz⟩, by rw [ht]; exact hP', va_K.moved hW.alike hK, hD'⟩, hS'.F ht⟩) hS'.2.2 hdg
theorem mkL {r : Int64} (hy : plainName y.cls = true) (hn : (lg_sl av).length ≤ n)
    (body : ∀ (p : Program) (e : Env) (s : State) (m : MethodId) (below : List Frame) (meth : Method) (c : Code) (A : Nat → Prop) (Z : State → Prop) (ls : Array Slot), Ctx l D cl tys y.cls b n av p s m c A → va_P D cl (Wd u) s.heap → va_D A (Wd u) → va_S A s.heap s.heap [] → lv_has ls n (lv_args 0 av) →
      (∀ (H : Heap) (locs : List Loc) (pc : Nat) (ls : Array Slot) (r0 : Int64) (u0 : σ), (r0, u0) = (r, u') → va_P D cl (Wd u0) H → va_D A (Wd u0) → va_S A s.heap H locs → decode b pc = .ok (.lreturn, 1) → W p l e (zRm fr lo) s m av.toArray below meth c H locs 0 0 Z (F0 m pc ls [.long r0])) →
      W p l e (zRm fr lo) s m av.toArray below meth c s.heap [] 0 0 Z (F0 m 0 ls [])) : KL l D cl tys Wd y b n (some .long) fr lo av u r u' := by
  intro sz
  refine Met.ofW (cc := b) (maxL := n) (ret := some .long) hy rfl ?_
  intro p e s m args below meth c s₁ B hml hv
  obtain ⟨rfl, hsz, hP, hK, hD0, hN⟩ := hv
  have hts := atoms_spec (ws := wz y b n (some .long)) B.pre
  have hlocks := B.notSynchronized
  subst hsz
  have hD := hD0.self (sz := s.heap.size)
  rw [lg_entry_eq]
  refine body p e s m below meth c (va_A (Wd u) s.heap.size) _ _ ⟨B.exec, B.bytes, hml, findClass_of_methodNamed B.named, fun w h => hts w (List.mem_cons_of_mem _ h), hK, hN, fun q h => Or.inr h⟩ hP hD va_S.rf (lv_entry av hn) ?_
  intro H locs pc ls r0 u0 hru hP' hD' hS' hdg
  obtain ⟨rfl, rfl⟩ := Prod.mk.inj hru
  exact W.lret (v := r0) B.exec B.bytes B.returns (fun t ht hW => ⟨⟨r0, u0, rfl, ⟨rfl, rfl⟩, by rw [ht]; exact hP', va_K.moved hW.alike hK, hD'⟩, hS'.F ht⟩) hS'.2.2 hdg
theorem mkV (hy : plainName y.cls = true) (hn : (lg_sl av).length ≤ n)
    (body : ∀ (p : Program) (e : Env) (s : State) (m : MethodId) (below : List Frame) (meth : Method) (c : Code) (A : Nat → Prop) (Z : State → Prop) (ls : Array Slot), Ctx l D cl tys y.cls b n av p s m c A → va_P D cl (Wd u) s.heap → va_D A (Wd u) → va_S A s.heap s.heap [] → lv_has ls n (lv_args 0 av) →
      (∀ (H : Heap) (locs : List Loc) (pc : Nat) (ls : Array Slot) (r0 : Unit) (u0 : σ), (r0, u0) = ((), u') → va_P D cl (Wd u0) H → va_D A (Wd u0) → va_S A s.heap H locs → decode b pc = .ok (.return_, 1) → W p l e (zRm fr lo) s m av.toArray below meth c H locs 0 0 Z (F0 m pc ls [])) →
      W p l e (zRm fr lo) s m av.toArray below meth c s.heap [] 0 0 Z (F0 m 0 ls [])) : KV l D cl tys Wd y b n none fr lo av u u' := by
  intro sz
  refine Met.ofW (cc := b) (maxL := n) (ret := none) hy rfl ?_
  intro p e s m args below meth c s₁ B hml hv
  obtain ⟨rfl, hsz, hP, hK, hD0, hN⟩ := hv
  have hts := atoms_spec (ws := wz y b n none) B.pre
  have hlocks := B.notSynchronized
  subst hsz
  have hD := hD0.self (sz := s.heap.size)
  rw [lg_entry_eq]
  refine body p e s m below meth c (va_A (Wd u) s.heap.size) _ _ ⟨B.exec, B.bytes, hml, findClass_of_methodNamed B.named, fun w h => hts w (List.mem_cons_of_mem _ h), hK, hN, fun q h => Or.inr h⟩ hP hD va_S.rf (lv_entry av hn) ?_
  intro H locs pc ls r0 u0 hru hP' hD' hS' hdg
  obtain ⟨rfl, rfl⟩ := Prod.mk.inj hru
  exact W.vret B.exec B.bytes B.returns (fun t ht hW => ⟨⟨u0, rfl, rfl, by rw [ht]; exact hP', va_K.moved hW.alike hK, hD'⟩, hS'.F ht⟩) hS'.2.2 hdg
end Enter
