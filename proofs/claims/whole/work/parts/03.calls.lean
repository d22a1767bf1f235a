/-! CALLS: of a method with a contract over the same world. -/
section Call
variable {σ : Type} {l : Launch} {D : va_G} {cl : List vw_C} {tys : List (ClassId × FieldType)} {Wd : σ → va_W} {y y' : MethodName} {b b' : ByteArray} {n n' fr lo fr' lo' : Nat} {rt' : Option FieldType} {av : List Value} {u u' : σ}
variable {p : Program} {e : Env} {s : State} {m : MethodId} {below : List Frame} {meth : Method} {c : Code} {A : Nat → Prop} {Z : State → Prop} {ls : Array Slot} {H : Heap} {locs : List Loc} {own : String}
theorem wA (hA : ∀ q : Nat, s.heap.size ≤ q → A q) (hD : va_D A (Wd u)) (hS : va_S A s.heap H locs) : ∀ q, va_A (Wd u) H.size q → A q := by
  intro q h
  rcases h with ⟨k, e, h⟩ | h
  · exact hD.2 k (q, e) h
  · exact hA q (Nat.le_trans hS.1 h)
theorem prS {As : List Value} (hK : va_K D cl tys s) (hN : NL s) (hP : va_P D cl (Wd u) H) (hD : va_D A (Wd u)) : PreS s H (va_Pc As (kPc D cl tys Wd u H.size)) As :=
  ⟨kPc_blind, fun U hU hW => ⟨rfl, by rw [hU], by rw [hU]; exact hP, va_K.moved hW.alike hK, hD.weaken (fun _ _ _ _ => trivial), hN.warm hW⟩⟩
theorem prV {As : List Value} {b0 ci q0 : Nat} {q : vw_C} {fs : List Value} (hK : va_K D cl tys s) (hN : NL s) (hP : va_P D cl (Wd u) H) (hD : va_D A (Wd u)) (hc : cl[ci]? = some q) (he : (Wd u)[q0]? = some (b0, .inr (ci, fs))) : PreV s H q.1 b0 (va_Pc (.ref b0 :: As) (kPc D cl tys Wd u H.size)) As :=
  ⟨kPc_blind, va_recv hK hP hc he, fun U hU hW => ⟨rfl, by rw [hU], by rw [hU]; exact hP, va_K.moved hW.alike hK, hD.weaken (fun _ _ _ _ => trivial), hN.warm hW⟩⟩
theorem cbB {index : Nat} (k : Nat) (hts : ∀ w ∈ tbG, w.before av.toArray s = true) (hcode : Cond.code y' b' n' rt' ∈ tbG) (hini : Cond.initialized y'.cls ∈ tbG) (hlink : Cond.methodLink own index y' ∈ tbG)
    (hd : y'.cls ≠ "java/lang/invoke/MethodHandle" ∧ y'.cls ≠ "java/lang/invoke/VarHandle" ∧ (parseMethodDescriptor y'.desc).map (fun d => d.parameters.length) = some k) (hR : fr' + 1 ≤ fr ∧ 8 + (n' + 11) + lo' ≤ lo) :
    CallB (zRm fr lo) s av.toArray own index y' b' n' rt' (wz y' b' n' rt') (zRm fr' lo') 0 0 k :=
  callB_of k hts (tb_good hcode) rfl rfl rfl (hts _ hini) (hts _ hlink) hd hR
theorem afI {r : Int32} {rest st0 : List Value} {pc : Nat} {a : Array Value} (hA : ∀ q : Nat, s.heap.size ≤ q → A q) (hD : va_D A (Wd u)) (hS : va_S A s.heap H locs)
    (hr : va_Run p l e (zRm fr lo) s m av.toArray below meth c H locs 0 0 0 0 (F0 m pc ls st0) rest (va_Qi (fun r' v => r' = r ∧ v = u') (kB D cl tys Wd u H.size) (va_A (Wd u) H.size) a) (va_A (Wd u) H.size))
    (kk : ∀ (H1 : Heap) (locs1 : List Loc), va_P D cl (Wd u') H1 → va_D A (Wd u') → va_S A s.heap H1 locs1 → W p l e (zRm fr lo) s m av.toArray below meth c H1 locs1 0 0 Z (F0 m (pc + 3) ls (.int r :: rest))) : W p l e (zRm fr lo) s m av.toArray below meth c H locs 0 0 Z (F0 m pc ls st0) := by
  have hF := wA hA hD hS
  refine va_calli hr hS (fun q _ h => hF q h) hF (fun r_ v t H1 locs1 ht hvm hw hB hz1 hk1 hS1 => ?_)
  obtain ⟨rfl, rfl⟩ := hw
  obtain ⟨hP1, hK1, hD1⟩ := hB
  rw [ht] at hP1
  exact kk H1 locs1 hP1 (hD1.weaken (fun k q _ h => hF _ h)) hS1
theorem goVI {r : Int32} {rest st0 : List Value} {pc index : Nat} {As : List Value} {b0 ci : Nat} (q0 : Nat) {T : u_T} {N : Nat} {fs : List Value} (C0 : Ctx l D cl tys own b n av p s m c A) (hM : KI l D cl tys Wd y' b' n' rt' fr' lo' (.ref b0 :: As) u r u') (hcode : Cond.code y' b' n' rt' ∈ tbG) (hini : Cond.initialized y'.cls ∈ tbG) (hlink : Cond.methodLink own index y' ∈ tbG) (hinst : Cond.instanceMethod y' ∈ tbG) (hsel : Cond.selects y'.cls y' y' ∈ tbG)
    (hd : y'.cls ≠ "java/lang/invoke/MethodHandle" ∧ y'.cls ≠ "java/lang/invoke/VarHandle" ∧ (parseMethodDescriptor y'.desc).map (fun d => d.parameters.length) = some As.length) (hR : fr' + 1 ≤ fr ∧ 8 + (n' + 11) + lo' ≤ lo)
    (he : (Wd u)[q0]? = some (b0, .inr (ci, fs))) (hc : cl[ci]? = some (y'.cls, T, N)) (hP : va_P D cl (Wd u) H) (hD : va_D A (Wd u)) (hS : va_S A s.heap H locs) (hsz : ls.size = n) (hst : st0 = As.reverse ++ .ref b0 :: rest) (hw : (rest.map fun v => v.category).sum ≤ 8) (hdg : decode b pc = .ok (.invokevirtual index, 3))
    (kk : ∀ (H1 : Heap) (locs1 : List Loc), va_P D cl (Wd u') H1 → va_D A (Wd u') → va_S A s.heap H1 locs1 → W p l e (zRm fr lo) s m av.toArray below meth c H1 locs1 0 0 Z (F0 m (pc + 3) ls (.int r :: rest))) : W p l e (zRm fr lo) s m av.toArray below meth c H locs 0 0 Z (F0 m pc ls st0) := by
  obtain ⟨hx, hb, hml, hown, hts, hK, hN, hA⟩ := C0
  exact afI hA hD hS (va_runV (As := As) (rest := rest) ⟨hx, hb, hml, hown, hts⟩ (hM H.size) ⟨cbB As.length hts hcode hini hlink hd hR, hts _ hinst, hts _ hsel⟩ (prV hK hN hP hD hc he) rfl rfl hsz hst (lv_room (rest := st0) hw) hdg ⟨Nat.le_refl _, Nat.le_refl _⟩) kk
theorem goSI {r : Int32} {rest st0 : List Value} {pc index : Nat} {As : List Value} (C0 : Ctx l D cl tys own b n av p s m c A) (hM : KI l D cl tys Wd y' b' n' rt' fr' lo' As u r u') (hcode : Cond.code y' b' n' rt' ∈ tbG) (hini : Cond.initialized y'.cls ∈ tbG) (hlink : Cond.methodLink own index y' ∈ tbG) (hsta : Cond.static y' ∈ tbG)
    (hd : y'.cls ≠ "java/lang/invoke/MethodHandle" ∧ y'.cls ≠ "java/lang/invoke/VarHandle" ∧ (parseMethodDescriptor y'.desc).map (fun d => d.parameters.length) = some As.length) (hR : fr' + 1 ≤ fr ∧ 8 + (n' + 11) + lo' ≤ lo)
    (hP : va_P D cl (Wd u) H) (hD : va_D A (Wd u)) (hS : va_S A s.heap H locs) (hsz : ls.size = n) (hst : st0 = As.reverse ++ rest) (hw : (rest.map fun v => v.category).sum ≤ 8) (hdg : decode b pc = .ok (.invokestatic index, 3))
    (kk : ∀ (H1 : Heap) (locs1 : List Loc), va_P D cl (Wd u') H1 → va_D A (Wd u') → va_S A s.heap H1 locs1 → W p l e (zRm fr lo) s m av.toArray below meth c H1 locs1 0 0 Z (F0 m (pc + 3) ls (.int r :: rest))) : W p l e (zRm fr lo) s m av.toArray below meth c H locs 0 0 Z (F0 m pc ls st0) := by
  obtain ⟨hx, hb, hml, hown, hts, hK, hN, hA⟩ := C0
  exact afI hA hD hS (va_runS (As := As) (rest := rest) ⟨hx, hb, hml, hown, hts⟩ (hM H.size) ⟨cbB As.length hts hcode hini hlink hd hR, hts _ hsta⟩ (prS hK hN hP hD) rfl rfl hsz hst (lv_room (rest := st0) hw) hdg ⟨Nat.le_refl _, Nat.le_refl _⟩) kk
theorem goNI {r : Int32} {rest st0 : List Value} {pc index : Nat} {As : List Value} {host : String} (C0 : Ctx l D cl tys own b n av p s m c A) (hM : KI l D cl tys Wd y' b' n' rt' fr' lo' As u r u') (hcode : Cond.code y' b' n' rt' ∈ tbG) (hini : Cond.initialized y'.cls ∈ tbG) (hlink : va_Nw (.methodLinkNest own index y' host) s) (hsta : Cond.static y' ∈ tbG)
    (hd : y'.cls ≠ "java/lang/invoke/MethodHandle" ∧ y'.cls ≠ "java/lang/invoke/VarHandle" ∧ (parseMethodDescriptor y'.desc).map (fun d => d.parameters.length) = some As.length) (hR : fr' + 1 ≤ fr ∧ 8 + (n' + 11) + lo' ≤ lo)
    (hP : va_P D cl (Wd u) H) (hD : va_D A (Wd u)) (hS : va_S A s.heap H locs) (hsz : ls.size = n) (hst : st0 = As.reverse ++ rest) (hw : (rest.map fun v => v.category).sum ≤ 8) (hdg : decode b pc = .ok (.invokestatic index, 3))
    (kk : ∀ (H1 : Heap) (locs1 : List Loc), va_P D cl (Wd u') H1 → va_D A (Wd u') → va_S A s.heap H1 locs1 → W p l e (zRm fr lo) s m av.toArray below meth c H1 locs1 0 0 Z (F0 m (pc + 3) ls (.int r :: rest))) : W p l e (zRm fr lo) s m av.toArray below meth c H locs 0 0 Z (F0 m pc ls st0) := by
  obtain ⟨hx, hb, hml, hown, hts, hK, hN, hA⟩ := C0
  exact afI hA hD hS (va_runSN (As := As) (rest := rest) ⟨hx, hb, hml, hown, hts⟩ (hM H.size) ⟨va_cnB As.length hts (tb_good hcode) rfl rfl rfl hlink (hts _ hini) hd hR, hts _ hsta, trivial⟩ (prS hK hN hP hD) rfl rfl hsz hst (lv_room (rest := st0) hw) hdg ⟨Nat.le_refl _, Nat.le_refl _⟩) kk
theorem afZ {r : Int32} {rest st0 : List Value} {pc : Nat} {a : Array Value} (hA : ∀ q : Nat, s.heap.size ≤ q → A q) (hD : va_D A (Wd u)) (hS : va_S A s.heap H locs)
    (hr : va_Run p l e (zRm fr lo) s m av.toArray below meth c H locs 0 0 0 0 (F0 m pc ls st0) rest (va_Qi (fun r' v => r' = r ∧ v = u' ∧ (r = 0 ∨ r = 1)) (kB D cl tys Wd u H.size) (va_A (Wd u) H.size) a) (va_A (Wd u) H.size))
    (kk : ∀ (H1 : Heap) (locs1 : List Loc), (r = 0 ∨ r = 1) → va_P D cl (Wd u') H1 → va_D A (Wd u') → va_S A s.heap H1 locs1 → W p l e (zRm fr lo) s m av.toArray below meth c H1 locs1 0 0 Z (F0 m (pc + 3) ls (.int r :: rest))) : W p l e (zRm fr lo) s m av.toArray below meth c H locs 0 0 Z (F0 m pc ls st0) := by
  have hF := wA hA hD hS
  refine va_calli hr hS (fun q _ h => hF q h) hF (fun r_ v t H1 locs1 ht hvm hw hB hz1 hk1 hS1 => ?_)
  obtain ⟨rfl, rfl, hz⟩ := hw
  obtain ⟨hP1, hK1, hD1⟩ := hB
  rw [ht] at hP1
  exact kk H1 locs1 hz hP1 (hD1.weaken (fun k q _ h => hF _ h)) hS1
theorem goVZ {r : Int32} {rest st0 : List Value} {pc index : Nat} {As : List Value} {b0 ci : Nat} (q0 : Nat) {T : u_T} {N : Nat} {fs : List Value} (C0 : Ctx l D cl tys own b n av p s m c A) (hM : KZ l D cl tys Wd y' b' n' rt' fr' lo' (.ref b0 :: As) u r u') (hcode : Cond.code y' b' n' rt' ∈ tbG) (hini : Cond.initialized y'.cls ∈ tbG) (hlink : Cond.methodLink own index y' ∈ tbG) (hinst : Cond.instanceMethod y' ∈ tbG) (hsel : Cond.selects y'.cls y' y' ∈ tbG)
    (hd : y'.cls ≠ "java/lang/invoke/MethodHandle" ∧ y'.cls ≠ "java/lang/invoke/VarHandle" ∧ (parseMethodDescriptor y'.desc).map (fun d => d.parameters.length) = some As.length) (hR : fr' + 1 ≤ fr ∧ 8 + (n' + 11) + lo' ≤ lo)
    (he : (Wd u)[q0]? = some (b0, .inr (ci, fs))) (hc : cl[ci]? = some (y'.cls, T, N)) (hP : va_P D cl (Wd u) H) (hD : va_D A (Wd u)) (hS : va_S A s.heap H locs) (hsz : ls.size = n) (hst : st0 = As.reverse ++ .ref b0 :: rest) (hw : (rest.map fun v => v.category).sum ≤ 8) (hdg : decode b pc = .ok (.invokevirtual index, 3))
    (kk : ∀ (H1 : Heap) (locs1 : List Loc), (r = 0 ∨ r = 1) → va_P D cl (Wd u') H1 → va_D A (Wd u') → va_S A s.heap H1 locs1 → W p l e (zRm fr lo) s m av.toArray below meth c H1 locs1 0 0 Z (F0 m (pc + 3) ls (.int r :: rest))) : W p l e (zRm fr lo) s m av.toArray below meth c H locs 0 0 Z (F0 m pc ls st0) := by
  obtain ⟨hx, hb, hml, hown, hts, hK, hN, hA⟩ := C0
  exact afZ hA hD hS (va_runV (As := As) (rest := rest) ⟨hx, hb, hml, hown, hts⟩ (hM H.size) ⟨cbB As.length hts hcode hini hlink hd hR, hts _ hinst, hts _ hsel⟩ (prV hK hN hP hD hc he) rfl rfl hsz hst (lv_room (rest := st0) hw) hdg ⟨Nat.le_refl _, Nat.le_refl _⟩) kk
theorem goSZ {r : Int32} {rest st0 : List Value} {pc index : Nat} {As : List Value} (C0 : Ctx l D cl tys own b n av p s m c A) (hM : KZ l D cl tys Wd y' b' n' rt' fr' lo' As u r u') (hcode : Cond.code y' b' n' rt' ∈ tbG) (hini : Cond.initialized y'.cls ∈ tbG) (hlink : Cond.methodLink own index y' ∈ tbG) (hsta : Cond.static y' ∈ tbG)
    (hd : y'.cls ≠ "java/lang/invoke/MethodHandle" ∧ y'.cls ≠ "java/lang/invoke/VarHandle" ∧ (parseMethodDescriptor y'.desc).map (fun d => d.parameters.length) = some As.length) (hR : fr' + 1 ≤ fr ∧ 8 + (n' + 11) + lo' ≤ lo)
    (hP : va_P D cl (Wd u) H) (hD : va_D A (Wd u)) (hS : va_S A s.heap H locs) (hsz : ls.size = n) (hst : st0 = As.reverse ++ rest) (hw : (rest.map fun v => v.category).sum ≤ 8) (hdg : decode b pc = .ok (.invokestatic index, 3))
    (kk : ∀ (H1 : Heap) (locs1 : List Loc), (r = 0 ∨ r = 1) → va_P D cl (Wd u') H1 → va_D A (Wd u') → va_S A s.heap H1 locs1 → W p l e (zRm fr lo) s m av.toArray below meth c H1 locs1 0 0 Z (F0 m (pc + 3) ls (.int r :: rest))) : W p l e (zRm fr lo) s m av.toArray below meth c H locs 0 0 Z (F0 m pc ls st0) := by
  obtain ⟨hx, hb, hml, hown, hts, hK, hN, hA⟩ := C0
  exact afZ hA hD hS (va_runS (As := As) (rest := rest) ⟨hx, hb, hml, hown, hts⟩ (hM H.size) ⟨cbB As.length hts hcode hini hlink hd hR, hts _ hsta⟩ (prS hK hN hP hD) rfl rfl hsz hst (lv_room (rest := st0) hw) hdg ⟨Nat.le_refl _, Nat.le_refl _⟩) kk
theorem goNZ {r : Int32} {rest st0 : List Value} {pc index : Nat} {As : List Value} {host : String} (C0 : Ctx l D cl tys own b n av p s m c A) (hM : KZ l D cl tys Wd y' b' n' rt' fr' lo' As u r u') (hcode : Cond.code y' b' n' rt' ∈ tbG) (hini : Cond.initialized y'.cls ∈ tbG) (hlink : va_Nw (.methodLinkNest own index y' host) s) (hsta : Cond.static y' ∈ tbG)
    (hd : y'.cls ≠ "java/lang/invoke/MethodHandle" ∧ y'.cls ≠ "java/lang/invoke/VarHandle" ∧ (parseMethodDescriptor y'.desc).map (fun d => d.parameters.length) = some As.length) (hR : fr' + 1 ≤ fr ∧ 8 + (n' + 11) + lo' ≤ lo)
    (hP : va_P D cl (Wd u) H) (hD : va_D A (Wd u)) (hS : va_S A s.heap H locs) (hsz : ls.size = n) (hst : st0 = As.reverse ++ rest) (hw : (rest.map fun v => v.category).sum ≤ 8) (hdg : decode b pc = .ok (.invokestatic index, 3))
    (kk : ∀ (H1 : Heap) (locs1 : List Loc), (r = 0 ∨ r = 1) → va_P D cl (Wd u') H1 → va_D A (Wd u') → va_S A s.heap H1 locs1 → W p l e (zRm fr lo) s m av.toArray below meth c H1 locs1 0 0 Z (F0 m (pc + 3) ls (.int r :: rest))) : W p l e (zRm fr lo) s m av.toArray below meth c H locs 0 0 Z (F0 m pc ls st0) := by
  obtain ⟨hx, hb, hml, hown, hts, hK, hN, hA⟩ := C0
  exact afZ hA hD hS (va_runSN (As := As) (rest := rest) ⟨hx, hb, hml, hown, hts⟩ (hM H.size) ⟨va_cnB As.length hts (tb_good hcode) rfl rfl rfl hlink (hts _ hini) hd hR, hts _ hsta, trivial⟩ (prS hK hN hP hD) rfl rfl hsz hst (lv_room (rest := st0) hw) hdg ⟨Nat.le_refl _, Nat.le_refl _⟩) kk
theorem afL {r : Int64} {rest st0 : List Value} {pc : Nat} {a : Array Value} (hA : ∀ q : Nat, s.heap.size ≤ q → A q) (hD : va_D A (Wd u)) (hS : va_S A s.heap H locs)
    (hr : va_Run p l e (zRm fr lo) s m av.toArray below meth c H locs 0 0 0 0 (F0 m pc ls st0) rest (va_Ql (fun r' v => r' = r ∧ v = u') (kB D cl tys Wd u H.size) (va_A (Wd u) H.size) a) (va_A (Wd u) H.size))
    (kk : ∀ (H1 : Heap) (locs1 : List Loc), va_P D cl (Wd u') H1 → va_D A (Wd u') → va_S A s.heap H1 locs1 → W p l e (zRm fr lo) s m av.toArray below meth c H1 locs1 0 0 Z (F0 m (pc + 3) ls (.long r :: rest))) : W p l e (zRm fr lo) s m av.toArray below meth c H locs 0 0 Z (F0 m pc ls st0) := by
  have hF := wA hA hD hS
  refine va_calll hr hS (fun q _ h => hF q h) hF (fun r_ v t H1 locs1 ht hvm hw hB hz1 hk1 hS1 => ?_)
  obtain ⟨rfl, rfl⟩ := hw
  obtain ⟨hP1, hK1, hD1⟩ := hB
  rw [ht] at hP1
  exact kk H1 locs1 hP1 (hD1.weaken (fun k q _ h => hF _ h)) hS1
theorem goVL {r : Int64} {rest st0 : List Value} {pc index : Nat} {As : List Value} {b0 ci : Nat} (q0 : Nat) {T : u_T} {N : Nat} {fs : List Value} (C0 : Ctx l D cl tys own b n av p s m c A) (hM : KL l D cl tys Wd y' b' n' rt' fr' lo' (.ref b0 :: As) u r u') (hcode : Cond.code y' b' n' rt' ∈ tbG) (hini : Cond.initialized y'.cls ∈ tbG) (hlink : Cond.methodLink own index y' ∈ tbG) (hinst : Cond.instanceMethod y' ∈ tbG) (hsel : Cond.selects y'.cls y' y' ∈ tbG)
    (hd : y'.cls ≠ "java/lang/invoke/MethodHandle" ∧ y'.cls ≠ "java/lang/invoke/VarHandle" ∧ (parseMethodDescriptor y'.desc).map (fun d => d.parameters.length) = some As.length) (hR : fr' + 1 ≤ fr ∧ 8 + (n' + 11) + lo' ≤ lo)
    (he : (Wd u)[q0]? = some (b0, .inr (ci, fs))) (hc : cl[ci]? = some (y'.cls, T, N)) (hP : va_P D cl (Wd u) H) (hD : va_D A (Wd u)) (hS : va_S A s.heap H locs) (hsz : ls.size = n) (hst : st0 = As.reverse ++ .ref b0 :: rest) (hw : (rest.map fun v => v.category).sum ≤ 8) (hdg : decode b pc = .ok (.invokevirtual index, 3))
    (kk : ∀ (H1 : Heap) (locs1 : List Loc), va_P D cl (Wd u') H1 → va_D A (Wd u') → va_S A s.heap H1 locs1 → W p l e (zRm fr lo) s m av.toArray below meth c H1 locs1 0 0 Z (F0 m (pc + 3) ls (.long r :: rest))) : W p l e (zRm fr lo) s m av.toArray below meth c H locs 0 0 Z (F0 m pc ls st0) := by
  obtain ⟨hx, hb, hml, hown, hts, hK, hN, hA⟩ := C0
  exact afL hA hD hS (va_runV (As := As) (rest := rest) ⟨hx, hb, hml, hown, hts⟩ (hM H.size) ⟨cbB As.length hts hcode hini hlink hd hR, hts _ hinst, hts _ hsel⟩ (prV hK hN hP hD hc he) rfl rfl hsz hst (lv_room (rest := st0) hw) hdg ⟨Nat.le_refl _, Nat.le_refl _⟩) kk
theorem goSL {r : Int64} {rest st0 : List Value} {pc index : Nat} {As : List Value} (C0 : Ctx l D cl tys own b n av p s m c A) (hM : KL l D cl tys Wd y' b' n' rt' fr' lo' As u r u') (hcode : Cond.code y' b' n' rt' ∈ tbG) (hini : Cond.initialized y'.cls ∈ tbG) (hlink : Cond.methodLink own index y' ∈ tbG) (hsta : Cond.static y' ∈ tbG)
    (hd : y'.cls ≠ "java/lang/invoke/MethodHandle" ∧ y'.cls ≠ "java/lang/invoke/VarHandle" ∧ (parseMethodDescriptor y'.desc).map (fun d => d.parameters.length) = some As.length) (hR : fr' + 1 ≤ fr ∧ 8 + (n' + 11) + lo' ≤ lo)
    (hP : va_P D cl (Wd u) H) (hD : va_D A (Wd u)) (hS : va_S A s.heap H locs) (hsz : ls.size = n) (hst : st0 = As.reverse ++ rest) (hw : (rest.map fun v => v.category).sum ≤ 8) (hdg : decode b pc = .ok (.invokestatic index, 3))
    (kk : ∀ (H1 : Heap) (locs1 : List Loc), va_P D cl (Wd u') H1 → va_D A (Wd u') → va_S A s.heap H1 locs1 → W p l e (zRm fr lo) s m av.toArray below meth c H1 locs1 0 0 Z (F0 m (pc + 3) ls (.long r :: rest))) : W p l e (zRm fr lo) s m av.toArray below meth c H locs 0 0 Z (F0 m pc ls st0) := by
  obtain ⟨hx, hb, hml, hown, hts, hK, hN, hA⟩ := C0
  exact afL hA hD hS (va_runS (As := As) (rest := rest) ⟨hx, hb, hml, hown, hts⟩ (hM H.size) ⟨cbB As.length hts hcode hini hlink hd hR, hts _ hsta⟩ (prS hK hN hP hD) rfl rfl hsz hst (lv_room (rest := st0) hw) hdg ⟨Nat.le_refl _, Nat.le_refl _⟩) kk
theorem goNL {r : Int64} {rest st0 : List Value} {pc index : Nat} {As : List Value} {host : String} (C0 : Ctx l D cl tys own b n av p s m c A) (hM : KL l D cl tys Wd y' b' n' rt' fr' lo' As u r u') (hcode : Cond.code y' b' n' rt' ∈ tbG) (hini : Cond.initialized y'.cls ∈ tbG) (hlink : va_Nw (.methodLinkNest own index y' host) s) (hsta : Cond.static y' ∈ tbG)
    (hd : y'.cls ≠ "java/lang/invoke/MethodHandle" ∧ y'.cls ≠ "java/lang/invoke/VarHandle" ∧ (parseMethodDescriptor y'.desc).map (fun d => d.parameters.length) = some As.length) (hR : fr' + 1 ≤ fr ∧ 8 + (n' + 11) + lo' ≤ lo)
    (hP : va_P D cl (Wd u) H) (hD : va_D A (Wd u)) (hS : va_S A s.heap H locs) (hsz : ls.size = n) (hst : st0 = As.reverse ++ rest) (hw : (rest.map fun v => v.category).sum ≤ 8) (hdg : decode b pc = .ok (.invokestatic index, 3))
    (kk : ∀ (H1 : Heap) (locs1 : List Loc), va_P D cl (Wd u') H1 → va_D A (Wd u') → va_S A s.heap H1 locs1 → W p l e (zRm fr lo) s m av.toArray below meth c H1 locs1 0 0 Z (F0 m (pc + 3) ls (.long r :: rest))) : W p l e (zRm fr lo) s m av.toArray below meth c H locs 0 0 Z (F0 m pc ls st0) := by
  obtain ⟨hx, hb, hml, hown, hts, hK, hN, hA⟩ := C0
  exact afL hA hD hS (va_runSN (As := As) (rest := rest) ⟨hx, hb, hml, hown, hts⟩ (hM H.size) ⟨va_cnB As.length hts (tb_good hcode) rfl rfl rfl hlink (hts _ hini) hd hR, hts _ hsta, trivial⟩ (prS hK hN hP hD) rfl rfl hsz hst (lv_room (rest := st0) hw) hdg ⟨Nat.le_refl _, Nat.le_refl _⟩) kk
theorem afV {rest st0 : List Value} {pc : Nat} {a : Array Value} (hA : ∀ q : Nat, s.heap.size ≤ q → A q) (hD : va_D A (Wd u)) (hS : va_S A s.heap H locs)
    (hr : va_Run p l e (zRm fr lo) s m av.toArray below meth c H locs 0 0 0 0 (F0 m pc ls st0) rest (va_Qv (fun v => v = u') (kB D cl tys Wd u H.size) (va_A (Wd u) H.size) a) (va_A (Wd u) H.size))
    (kk : ∀ (H1 : Heap) (locs1 : List Loc), va_P D cl (Wd u') H1 → va_D A (Wd u') → va_S A s.heap H1 locs1 → W p l e (zRm fr lo) s m av.toArray below meth c H1 locs1 0 0 Z (F0 m (pc + 3) ls (rest))) : W p l e (zRm fr lo) s m av.toArray below meth c H locs 0 0 Z (F0 m pc ls st0) := by
  have hF := wA hA hD hS
  refine va_callv hr hS (fun q _ h => hF q h) hF (fun v t H1 locs1 ht hvm hw hB hz1 hk1 hS1 => ?_)
  obtain rfl := hw
  obtain ⟨hP1, hK1, hD1⟩ := hB
  rw [ht] at hP1
  exact kk H1 locs1 hP1 (hD1.weaken (fun k q _ h => hF _ h)) hS1
theorem goVV {rest st0 : List Value} {pc index : Nat} {As : List Value} {b0 ci : Nat} (q0 : Nat) {T : u_T} {N : Nat} {fs : List Value} (C0 : Ctx l D cl tys own b n av p s m c A) (hM : KV l D cl tys Wd y' b' n' rt' fr' lo' (.ref b0 :: As) u u') (hcode : Cond.code y' b' n' rt' ∈ tbG) (hini : Cond.initialized y'.cls ∈ tbG) (hlink : Cond.methodLink own index y' ∈ tbG) (hinst : Cond.instanceMethod y' ∈ tbG) (hsel : Cond.selects y'.cls y' y' ∈ tbG)
    (hd : y'.cls ≠ "java/lang/invoke/MethodHandle" ∧ y'.cls ≠ "java/lang/invoke/VarHandle" ∧ (parseMethodDescriptor y'.desc).map (fun d => d.parameters.length) = some As.length) (hR : fr' + 1 ≤ fr ∧ 8 + (n' + 11) + lo' ≤ lo)
    (he : (Wd u)[q0]? = some (b0, .inr (ci, fs))) (hc : cl[ci]? = some (y'.cls, T, N)) (hP : va_P D cl (Wd u) H) (hD : va_D A (Wd u)) (hS : va_S A s.heap H locs) (hsz : ls.size = n) (hst : st0 = As.reverse ++ .ref b0 :: rest) (hw : (rest.map fun v => v.category).sum ≤ 8) (hdg : decode b pc = .ok (.invokevirtual index, 3))
    (kk : ∀ (H1 : Heap) (locs1 : List Loc), va_P D cl (Wd u') H1 → va_D A (Wd u') → va_S A s.heap H1 locs1 → W p l e (zRm fr lo) s m av.toArray below meth c H1 locs1 0 0 Z (F0 m (pc + 3) ls (rest))) : W p l e (zRm fr lo) s m av.toArray below meth c H locs 0 0 Z (F0 m pc ls st0) := by
  obtain ⟨hx, hb, hml, hown, hts, hK, hN, hA⟩ := C0
  exact afV hA hD hS (va_runV (As := As) (rest := rest) ⟨hx, hb, hml, hown, hts⟩ (hM H.size) ⟨cbB As.length hts hcode hini hlink hd hR, hts _ hinst, hts _ hsel⟩ (prV hK hN hP hD hc he) rfl rfl hsz hst (lv_room (rest := st0) hw) hdg ⟨Nat.le_refl _, Nat.le_refl _⟩) kk
theorem goSV {rest st0 : List Value} {pc index : Nat} {As : List Value} (C0 : Ctx l D cl tys own b n av p s m c A) (hM : KV l D cl tys Wd y' b' n' rt' fr' lo' As u u') (hcode : Cond.code y' b' n' rt' ∈ tbG) (hini : Cond.initialized y'.cls ∈ tbG) (hlink : Cond.methodLink own index y' ∈ tbG) (hsta : Cond.static y' ∈ tbG)
    (hd : y'.cls ≠ "java/lang/invoke/MethodHandle" ∧ y'.cls ≠ "java/lang/invoke/VarHandle" ∧ (parseMethodDescriptor y'.desc).map (fun d => d.parameters.length) = some As.length) (hR : fr' + 1 ≤ fr ∧ 8 + (n' + 11) + lo' ≤ lo)
    (hP : va_P D cl (Wd u) H) (hD : va_D A (Wd u)) (hS : va_S A s.heap H locs) (hsz : ls.size = n) (hst : st0 = As.reverse ++ rest) (hw : (rest.map fun v => v.category).sum ≤ 8) (hdg : decode b pc = .ok (.invokestatic index, 3))
    (kk : ∀ (H1 : Heap) (locs1 : List Loc), va_P D cl (Wd u') H1 → va_D A (Wd u') → va_S A s.heap H1 locs1 → W p l e (zRm fr lo) s m av.toArray below meth c H1 locs1 0 0 Z (F0 m (pc + 3) ls (rest))) : W p l e (zRm fr lo) s m av.toArray below meth c H locs 0 0 Z (F0 m pc ls st0) := by
  obtain ⟨hx, hb, hml, hown, hts, hK, hN, hA⟩ := C0
  exact afV hA hD hS (va_runS (As := As) (rest := rest) ⟨hx, hb, hml, hown, hts⟩ (hM H.size) ⟨cbB As.length hts hcode hini hlink hd hR, hts _ hsta⟩ (prS hK hN hP hD) rfl rfl hsz hst (lv_room (rest := st0) hw) hdg ⟨Nat.le_refl _, Nat.le_refl _⟩) kk
theorem goNV {rest st0 : List Value} {pc index : Nat} {As : List Value} {host : String} (C0 : Ctx l D cl tys own b n av p s m c A) (hM : KV l D cl tys Wd y' b' n' rt' fr' lo' As u u') (hcode : Cond.code y' b' n' rt' ∈ tbG) (hini : Cond.initialized y'.cls ∈ tbG) (hlink : va_Nw (.methodLinkNest own index y' host) s) (hsta : Cond.static y' ∈ tbG)
    (hd : y'.cls ≠ "java/lang/invoke/MethodHandle" ∧ y'.cls ≠ "java/lang/invoke/VarHandle" ∧ (parseMethodDescriptor y'.desc).map (fun d => d.parameters.length) = some As.length) (hR : fr' + 1 ≤ fr ∧ 8 + (n' + 11) + lo' ≤ lo)
    (hP : va_P D cl (Wd u) H) (hD : va_D A (Wd u)) (hS : va_S A s.heap H locs) (hsz : ls.size = n) (hst : st0 = As.reverse ++ rest) (hw : (rest.map fun v => v.category).sum ≤ 8) (hdg : decode b pc = .ok (.invokestatic index, 3))
    (kk : ∀ (H1 : Heap) (locs1 : List Loc), va_P D cl (Wd u') H1 → va_D A (Wd u') → va_S A s.heap H1 locs1 → W p l e (zRm fr lo) s m av.toArray below meth c H1 locs1 0 0 Z (F0 m (pc + 3) ls (rest))) : W p l e (zRm fr lo) s m av.toArray below meth c H locs 0 0 Z (F0 m pc ls st0) := by
  obtain ⟨hx, hb, hml, hown, hts, hK, hN, hA⟩ := C0
  exact afV hA hD hS (va_runSN (As := As) (rest := rest) ⟨hx, hb, hml, hown, hts⟩ (hM H.size) ⟨va_cnB As.length hts (tb_good hcode) rfl rfl rfl hlink (hts _ hini) hd hR, hts _ hsta, trivial⟩ (prS hK hN hP hD) rfl rfl hsz hst (lv_room (rest := st0) hw) hdg ⟨Nat.le_refl _, Nat.le_refl _⟩) kk
end Call
