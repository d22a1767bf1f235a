/-! WORLDS IN PARTS; calls of a method whose world is a part of the caller's -/
theorem vp_mem {D : va_G} {cl : List vw_C} {ws : va_W} {H : Heap} : va_P D cl ws H ↔ ∀ q ∈ ws, va_at D cl q H := by
  constructor
  · intro h q hq
    obtain ⟨k, hk⟩ := List.getElem?_of_mem hq
    exact h k q hk
  · intro h k q hk
    exact h q (List.mem_of_getElem? hk)
theorem vp_app {D : va_G} {cl : List vw_C} {a b : va_W} {H : Heap} : va_P D cl (a ++ b) H ↔ va_P D cl a H ∧ va_P D cl b H := by
  simp only [vp_mem, List.mem_append]
  constructor
  · intro h
    exact ⟨fun q hq => h q (Or.inl hq), fun q hq => h q (Or.inr hq)⟩
  · rintro ⟨h1, h2⟩ q (hq | hq)
    · exact h1 q hq
    · exact h2 q hq
theorem vd_iff {A : Nat → Prop} {ws : va_W} : va_D A ws ↔ (ws.map Prod.fst).Nodup ∧ ∀ q ∈ ws, A q.1 := by
  constructor
  · rintro ⟨h1, h2⟩
    refine ⟨?_, fun q hq => ?_⟩
    · rw [List.nodup_iff_pairwise_ne, List.pairwise_iff_getElem]
      intro i j hi hj hij he
      simp only [List.length_map] at hi hj
      simp only [List.getElem_map] at he
      have := h1 i j ws[i] ws[j] (by simp [hi]) (by simp [hj]) he
      omega
    · obtain ⟨k, hk⟩ := List.getElem?_of_mem hq
      exact h2 k q hk
  · rintro ⟨h1, h2⟩
    refine ⟨?_, fun k q hk => h2 q (List.mem_of_getElem? hk)⟩
    rw [List.nodup_iff_pairwise_ne, List.pairwise_iff_getElem] at h1
    intro i j p q hi hj he
    obtain ⟨hi1, hi2⟩ := List.getElem?_eq_some_iff.mp hi
    obtain ⟨hj1, hj2⟩ := List.getElem?_eq_some_iff.mp hj
    subst hi2; subst hj2
    rcases Nat.lt_trichotomy i j with h | h | h
    · have h2 := h1 i j (by simpa using hi1) (by simpa using hj1) h
      rw [List.getElem_map, List.getElem_map] at h2
      exact absurd he h2
    · exact h
    · have h2 := h1 j i (by simpa using hj1) (by simpa using hi1) h
      rw [List.getElem_map, List.getElem_map] at h2
      exact absurd he.symm h2
theorem vd_perm {A : Nat → Prop} {ws ws' : va_W} (hp : ws.Perm ws') (h : va_D A ws) : va_D A ws' := by
  rw [vd_iff] at h ⊢
  exact ⟨(hp.map Prod.fst).nodup_iff.mp h.1, fun q hq => h.2 q (hp.mem_iff.mpr hq)⟩
theorem vp_perm {D : va_G} {cl : List vw_C} {ws ws' : va_W} {H : Heap} (hp : ws.Perm ws') (h : va_P D cl ws H) : va_P D cl ws' H := by
  rw [vp_mem] at h ⊢
  exact fun q hq => h q (hp.mem_iff.mpr hq)
theorem vd_app {A : Nat → Prop} {a b : va_W} : va_D A (a ++ b) ↔ va_D A a ∧ va_D A b ∧ ∀ p ∈ a, ∀ q ∈ b, p.1 ≠ q.1 := by
  simp only [vd_iff, List.map_append, List.nodup_append, List.mem_append]
  constructor
  · rintro ⟨⟨h1, h2, h3⟩, h4⟩
    exact ⟨⟨h1, fun q hq => h4 q (Or.inl hq)⟩, ⟨h2, fun q hq => h4 q (Or.inr hq)⟩, fun p hp q hq => h3 _ (List.mem_map_of_mem hp) _ (List.mem_map_of_mem hq)⟩
  · rintro ⟨⟨h1, h2⟩, ⟨h3, h4⟩, h5⟩
    refine ⟨⟨h1, h3, ?_⟩, ?_⟩
    · intro a ha b hb
      obtain ⟨p, hp, rfl⟩ := List.mem_map.mp ha
      obtain ⟨q, hq, rfl⟩ := List.mem_map.mp hb
      exact h5 p hp q hq
    · rintro q (hq | hq)
      · exact h2 q hq
      · exact h4 q hq
/-- behind a call: the callee's world moved, the rest stands -/
theorem vj {A : Nat → Prop} {D : va_G} {cl : List vw_C} {C C' X : va_W} {H H1 : Heap} (hP : va_P D cl (C ++ X) H) (hD : va_D A (C ++ X)) (hk : ∀ q : Nat, q < H.size → ¬ va_A C H.size q → H1[q]? = H[q]?) (hF : ∀ q, va_A C H.size q → A q) (hP1 : va_P D cl C' H1) (hD1 : va_D (va_A C H.size) C') : va_P D cl (C' ++ X) H1 ∧ va_D A (C' ++ X) := by
  obtain ⟨hPC, hPX⟩ := vp_app.mp hP
  obtain ⟨hDC, hDX, hx⟩ := vd_app.mp hD
  have hX : ∀ q ∈ X, q.1 < H.size ∧ ¬ va_A C H.size q.1 := by
    intro q hq
    have hl := ((vp_mem.mp hPX) q hq).lt
    refine ⟨hl, ?_⟩
    rintro (⟨k, e, h⟩ | h)
    · exact hx _ (List.mem_of_getElem? h) q hq rfl
    · omega
  refine ⟨vp_app.mpr ⟨hP1, vp_mem.mpr fun q hq => ((vp_mem.mp hPX) q hq).kept (hk q.1 (hX q hq).1 (hX q hq).2)⟩, vd_app.mpr ⟨?_, hDX, ?_⟩⟩
  · exact hD1.weaken (fun k q _ h => hF q.1 h)
  · intro p hp q hq he
    have h1 := (vd_iff.mp hD1).2 p hp
    rw [he] at h1
    exact (hX q hq).2 h1
section Sub
variable {σ : Type} {l : Launch} {D : va_G} {cl : List vw_C} {tys : List (ClassId × FieldType)} {Wd : σ → va_W} {y' : MethodName} {b b' : ByteArray} {n n' fr' lo' : Nat} {rt' : Option FieldType} {av : List Value} {u u' : σ} {X : va_W} {R : Room} {cells slots : Nat}
variable {p : Program} {e : Env} {s : State} {m : MethodId} {below : List Frame} {meth : Method} {c : Code} {A : Nat → Prop} {Z : State → Prop} {ls : Array Slot} {H : Heap} {locs : List Loc} {own : String}
theorem wAX (hA : ∀ q : Nat, s.heap.size ≤ q → A q) (hD : va_D A (Wd u ++ X)) (hS : va_S A s.heap H locs) : ∀ q, va_A (Wd u) H.size q → A q := by
  intro q h
  rcases h with ⟨k, e, h⟩ | h
  · exact (vd_app.mp hD).1.2 k (q, e) h
  · exact hA q (Nat.le_trans hS.1 h)
theorem cbR {index mc ms : Nat} {rm : Room} (k : Nat) (hrc : rm.cells = mc) (hrs : rm.slots = ms) (hts : ∀ w ∈ tbG, w.before av.toArray s = true) (hcode : Cond.code y' b' n' rt' ∈ tbG) (hini : Cond.initialized y'.cls ∈ tbG) (hlink : Cond.methodLink own index y' ∈ tbG)
    (hd : y'.cls ≠ "java/lang/invoke/MethodHandle" ∧ y'.cls ≠ "java/lang/invoke/VarHandle" ∧ (parseMethodDescriptor y'.desc).map (fun d => d.parameters.length) = some k) (hR : rm.frames + 1 ≤ R.frames ∧ 8 + (n' + 11) + rm.locals ≤ R.locals) :
    CallB R s av.toArray own index y' b' n' rt' (wz y' b' n' rt') rm mc ms k :=
  callB_of k hts (tb_good hcode) rfl hrc hrs (hts _ hini) (hts _ hlink) hd hR
theorem sbVI {r : Int32} {rest st0 : List Value} {pc index : Nat} {As : List Value} {b0 ci : Nat} (q0 : Nat) {T : u_T} {N : Nat} {fs : List Value} (C0 : Ctx l D cl tys own b n av p s m c A) (hM : KI l D cl tys Wd y' b' n' rt' fr' lo' (.ref b0 :: As) u r u') (hcode : Cond.code y' b' n' rt' ∈ tbG) (hini : Cond.initialized y'.cls ∈ tbG) (hlink : Cond.methodLink own index y' ∈ tbG) (hinst : Cond.instanceMethod y' ∈ tbG) (hsel : Cond.selects y'.cls y' y' ∈ tbG)
    (hd : y'.cls ≠ "java/lang/invoke/MethodHandle" ∧ y'.cls ≠ "java/lang/invoke/VarHandle" ∧ (parseMethodDescriptor y'.desc).map (fun d => d.parameters.length) = some As.length) (hR : fr' + 1 ≤ R.frames ∧ 8 + (n' + 11) + lo' ≤ R.locals) (hcl : cells ≤ R.cells) (hsl : slots ≤ R.slots)
    (he : (Wd u)[q0]? = some (b0, .inr (ci, fs))) (hc : cl[ci]? = some (y'.cls, T, N)) (hP : va_P D cl (Wd u ++ X) H) (hD : va_D A (Wd u ++ X)) (hS : va_S A s.heap H locs) (hsz : ls.size = n) (hst : st0 = As.reverse ++ .ref b0 :: rest) (hw : (rest.map fun v => v.category).sum ≤ 8) (hdg : decode b pc = .ok (.invokevirtual index, 3))
    (kk : ∀ (H1 : Heap) (locs1 : List Loc), va_P D cl (Wd u' ++ X) H1 → va_D A (Wd u' ++ X) → va_S A s.heap H1 locs1 → W p l e R s m av.toArray below meth c H1 locs1 cells slots Z (F0 m (pc + 3) ls (.int r :: rest))) : W p l e R s m av.toArray below meth c H locs cells slots Z (F0 m pc ls st0) := by
  obtain ⟨hx, hb, hml, hown, hts, hK, hN, hA⟩ := C0
  have hF := wAX hA hD hS
  have hPC := (vp_app.mp hP).1
  have hDC := (vd_app.mp hD).1
  refine va_calli (va_runV (As := As) (rest := rest) ⟨hx, hb, hml, hown, hts⟩ (hM H.size) ⟨cbR As.length rfl rfl hts hcode hini hlink hd hR, hts _ hinst, hts _ hsel⟩ (prV hK hN hPC hDC hc he) rfl rfl hsz hst (lv_room (rest := st0) hw) hdg ⟨hcl, hsl⟩) hS (fun q _ h => hF q h) hF (fun r_ v t H1 locs1 ht hvm hw hB hz1 hk1 hS1 => ?_)
  obtain ⟨rfl, rfl⟩ := hw
  obtain ⟨hP1, hK1, hD1⟩ := hB
  rw [ht] at hP1
  obtain ⟨j1, j2⟩ := vj hP hD hk1 hF hP1 hD1
  exact kk H1 locs1 j1 j2 hS1
theorem sbVZ {r : Int32} {rest st0 : List Value} {pc index : Nat} {As : List Value} {b0 ci : Nat} (q0 : Nat) {T : u_T} {N : Nat} {fs : List Value} (C0 : Ctx l D cl tys own b n av p s m c A) (hM : KZ l D cl tys Wd y' b' n' rt' fr' lo' (.ref b0 :: As) u r u') (hcode : Cond.code y' b' n' rt' ∈ tbG) (hini : Cond.initialized y'.cls ∈ tbG) (hlink : Cond.methodLink own index y' ∈ tbG) (hinst : Cond.instanceMethod y' ∈ tbG) (hsel : Cond.selects y'.cls y' y' ∈ tbG)
    (hd : y'.cls ≠ "java/lang/invoke/MethodHandle" ∧ y'.cls ≠ "java/lang/invoke/VarHandle" ∧ (parseMethodDescriptor y'.desc).map (fun d => d.parameters.length) = some As.length) (hR : fr' + 1 ≤ R.frames ∧ 8 + (n' + 11) + lo' ≤ R.locals) (hcl : cells ≤ R.cells) (hsl : slots ≤ R.slots)
    (he : (Wd u)[q0]? = some (b0, .inr (ci, fs))) (hc : cl[ci]? = some (y'.cls, T, N)) (hP : va_P D cl (Wd u ++ X) H) (hD : va_D A (Wd u ++ X)) (hS : va_S A s.heap H locs) (hsz : ls.size = n) (hst : st0 = As.reverse ++ .ref b0 :: rest) (hw : (rest.map fun v => v.category).sum ≤ 8) (hdg : decode b pc = .ok (.invokevirtual index, 3))
    (kk : ∀ (H1 : Heap) (locs1 : List Loc), (r = 0 ∨ r = 1) → va_P D cl (Wd u' ++ X) H1 → va_D A (Wd u' ++ X) → va_S A s.heap H1 locs1 → W p l e R s m av.toArray below meth c H1 locs1 cells slots Z (F0 m (pc + 3) ls (.int r :: rest))) : W p l e R s m av.toArray below meth c H locs cells slots Z (F0 m pc ls st0) := by
  obtain ⟨hx, hb, hml, hown, hts, hK, hN, hA⟩ := C0
  have hF := wAX hA hD hS
  have hPC := (vp_app.mp hP).1
  have hDC := (vd_app.mp hD).1
  refine va_calli (va_runV (As := As) (rest := rest) ⟨hx, hb, hml, hown, hts⟩ (hM H.size) ⟨cbR As.length rfl rfl hts hcode hini hlink hd hR, hts _ hinst, hts _ hsel⟩ (prV hK hN hPC hDC hc he) rfl rfl hsz hst (lv_room (rest := st0) hw) hdg ⟨hcl, hsl⟩) hS (fun q _ h => hF q h) hF (fun r_ v t H1 locs1 ht hvm hw hB hz1 hk1 hS1 => ?_)
  obtain ⟨rfl, rfl, hzz⟩ := hw
  obtain ⟨hP1, hK1, hD1⟩ := hB
  rw [ht] at hP1
  obtain ⟨j1, j2⟩ := vj hP hD hk1 hF hP1 hD1
  exact kk H1 locs1 hzz j1 j2 hS1
theorem sbVL {r : Int64} {rest st0 : List Value} {pc index : Nat} {As : List Value} {b0 ci : Nat} (q0 : Nat) {T : u_T} {N : Nat} {fs : List Value} (C0 : Ctx l D cl tys own b n av p s m c A) (hM : KL l D cl tys Wd y' b' n' rt' fr' lo' (.ref b0 :: As) u r u') (hcode : Cond.code y' b' n' rt' ∈ tbG) (hini : Cond.initialized y'.cls ∈ tbG) (hlink : Cond.methodLink own index y' ∈ tbG) (hinst : Cond.instanceMethod y' ∈ tbG) (hsel : Cond.selects y'.cls y' y' ∈ tbG)
    (hd : y'.cls ≠ "java/lang/invoke/MethodHandle" ∧ y'.cls ≠ "java/lang/invoke/VarHandle" ∧ (parseMethodDescriptor y'.desc).map (fun d => d.parameters.length) = some As.length) (hR : fr' + 1 ≤ R.frames ∧ 8 + (n' + 11) + lo' ≤ R.locals) (hcl : cells ≤ R.cells) (hsl : slots ≤ R.slots)
    (he : (Wd u)[q0]? = some (b0, .inr (ci, fs))) (hc : cl[ci]? = some (y'.cls, T, N)) (hP : va_P D cl (Wd u ++ X) H) (hD : va_D A (Wd u ++ X)) (hS : va_S A s.heap H locs) (hsz : ls.size = n) (hst : st0 = As.reverse ++ .ref b0 :: rest) (hw : (rest.map fun v => v.category).sum ≤ 8) (hdg : decode b pc = .ok (.invokevirtual index, 3))
    (kk : ∀ (H1 : Heap) (locs1 : List Loc), va_P D cl (Wd u' ++ X) H1 → va_D A (Wd u' ++ X) → va_S A s.heap H1 locs1 → W p l e R s m av.toArray below meth c H1 locs1 cells slots Z (F0 m (pc + 3) ls (.long r :: rest))) : W p l e R s m av.toArray below meth c H locs cells slots Z (F0 m pc ls st0) := by
  obtain ⟨hx, hb, hml, hown, hts, hK, hN, hA⟩ := C0
  have hF := wAX hA hD hS
  have hPC := (vp_app.mp hP).1
  have hDC := (vd_app.mp hD).1
  refine va_calll (va_runV (As := As) (rest := rest) ⟨hx, hb, hml, hown, hts⟩ (hM H.size) ⟨cbR As.length rfl rfl hts hcode hini hlink hd hR, hts _ hinst, hts _ hsel⟩ (prV hK hN hPC hDC hc he) rfl rfl hsz hst (lv_room (rest := st0) hw) hdg ⟨hcl, hsl⟩) hS (fun q _ h => hF q h) hF (fun r_ v t H1 locs1 ht hvm hw hB hz1 hk1 hS1 => ?_)
  obtain ⟨rfl, rfl⟩ := hw
  obtain ⟨hP1, hK1, hD1⟩ := hB
  rw [ht] at hP1
  obtain ⟨j1, j2⟩ := vj hP hD hk1 hF hP1 hD1
  exact kk H1 locs1 j1 j2 hS1
/-- a call that throws, caught in the caller -/
theorem sbT {B k hp : Nat} {rest st0 : List Value} {pc index : Nat} {As : List Value} {b0 ci : Nat} (q0 : Nat) {T : u_T} {N : Nat} {fs : List Value} (C0 : Ctx l D cl tys own b n av p s m c A) (hM : KT l D cl tys Wd y' b' n' rt' fr' lo' (.ref b0 :: As) u k u') (hcode : Cond.code y' b' n' rt' ∈ tbG) (hini : Cond.initialized y'.cls ∈ tbG) (hlink : Cond.methodLink own index y' ∈ tbG) (hinst : Cond.instanceMethod y' ∈ tbG) (hsel : Cond.selects y'.cls y' y' ∈ tbG)
    (hd : y'.cls ≠ "java/lang/invoke/MethodHandle" ∧ y'.cls ≠ "java/lang/invoke/VarHandle" ∧ (parseMethodDescriptor y'.desc).map (fun d => d.parameters.length) = some As.length) (hR : fr' + 1 ≤ R.frames ∧ 8 + (n' + 11) + lo' ≤ R.locals) (hcl : cells + 1 ≤ R.cells) (hsl : slots + 6 ≤ R.slots)
    (he : (Wd u)[q0]? = some (b0, .inr (ci, fs))) (hc : cl[ci]? = some (y'.cls, T, N)) (hP : va_P D cl (Wd u ++ X) H) (hD : va_D A (Wd u ++ X)) (hS : va_S A s.heap H locs) (hsz : ls.size = n) (hst : st0 = As.reverse ++ .ref b0 :: rest) (hw : (rest.map fun v => v.category).sum ≤ 8) (hdg : decode b pc = .ok (.invokevirtual index, 3))
    (hSZ : SZ B s s.heap) (hAB : ∀ q : Nat, q < s.heap.size → A q → B ≤ q) (hB : B ≤ s.heap.size)
    (hf : ∀ (x : Addr) (ce : Cell), ce.vm = .none → s.vm.findClass (ecl k) = some ce.cls → FW e s (F0 m pc ls rest) x ce c.exceptionTable.toList (.found hp))
    (kk : ∀ (x : Addr) (H1 : Heap) (locs1 : List Loc), va_P D cl (Wd u' ++ X) H1 → va_D A (Wd u' ++ X) → va_S A s.heap H1 locs1 → W p l e R s m av.toArray below meth c H1 locs1 (cells + 1) (slots + 6) Z (F0 m hp ls [.ref x])) : W p l e R s m av.toArray below meth c H locs cells slots Z (F0 m pc ls st0) := by
  obtain ⟨hx, hb, hml, hown, hts, hK, hN, hA⟩ := C0
  have hF := wAX hA hD hS
  have hPC := (vp_app.mp hP).1
  have hDC := (vd_app.mp hD).1
  obtain ⟨cB, hcB, hoB, hclB⟩ := va_recv hK hPC hc he
  have hDB : va_D (fun q => B ≤ q) (Wd u) := hDC.weaken (fun j q hj hq => by
    by_cases h : q.1 < s.heap.size
    · exact hAB q.1 h hq
    · omega)
  have hSZ' : SZ B s H := hSZ.kept (fun a ha hn => hS.2.1 a ha (fun h => hn (hAB a ha h)))
  intro T0 hT X0
  have hlen : ∀ sig, parseMethodDescriptor y'.desc = some sig → As.length = sig.parameters.length := by
    intro sig h
    have h2 := hd.2.2
    rw [h] at h2
    exact (Option.some.inj h2).symm
  obtain ⟨x, L, k1, n1, st, t, T', hst0, hal, ⟨rfl, rfl, hL, ⟨hP1, hK1, hD1⟩, ⟨hz, hk1⟩, hxs, ce, hce, hcc, hcv⟩, X', hh1, hh2, hsteps⟩ := st_callThr X0 hx (own := own) (C := y'.cls) (index := index) (y := y') (bytes := b') (maxL := n') (ret := rt') hown (hts _ hlink) (hts _ hinst) (hts _ hsel) (hts _ hcode) ⟨hd.1, hd.2.1⟩
    (S := headSpec (wz y' b' n' rt') (tRm fr' lo')) (hM H.size B) hR.1 hR.2 hcl hsl (b := b0) (cellB := cB) (by rw [hT]; exact hcB) hoB hclB (g := F0 m pc ls st0) rfl (hsz.trans hml.symm) (argsL := As) (rest := rest) hlen hst (lv_room (rest := st0) hw) (by rw [hb]; exact hdg)
    (fun U hW => ⟨atoms_intro fun w hw => pay_in hts (tb_good hcode) w hw _ U hW, word_at hW (good_of_word (List.mem_filter.mp hcode).2) (hts _ hcode), word_at hW (good_of_word (List.mem_filter.mp hini).2) (hts _ hini)⟩)
    (fun vm₁ g' mk hW => ⟨rfl, ⟨by show T0.heap.size = _; rw [hT], by show va_P D cl (Wd u) T0.heap; rw [hT]; exact hPC, va_K.moved hW.alike hK, hDC.weaken (fun _ _ _ _ => trivial), NL.call (NL.warm (U := T0.setVm vm₁) hW hN)⟩, by
      show SZ B _ T0.heap
      rw [hT]
      exact hSZ'.moved hW.alike, hDB, Nat.le_trans hB hS.1⟩)
    (E := fun x L k1 n1 st t => k1 = 1 ∧ n1 = 6 ∧ (∀ q ∈ L, va_A (Wd u) H.size q.base) ∧ kB D cl tys Wd u H.size u' t ∧ va_F (va_A (Wd u) H.size) st t ∧ H.size ≤ x ∧ ∃ ce, t.heap[x]? = some ce ∧ s.vm.findClass (ecl k) = some ce.cls ∧ ce.vm = .none)
    (fun st o t hst0 hal hq => by
      obtain ⟨x, ce, L, h1, h2, h3, h4, h5, h6, h7, h8, h9, h10⟩ := hq
      exact ⟨x, L, 1, 6, h1, h2, h3, rfl, rfl, h4, h5, h6, h7, ce, h8, by rw [← hal.findClass]; exact h9, h10⟩)
  rw [hst0, hT] at hz hk1
  rw [← hh1] at hz hk1 hP1
  obtain ⟨vm₂, hw2, X2, st2⟩ := st_catchW X' (a := x) (cell := ce) (g := F0 m pc ls rest) rfl (pc := hp) (by rw [hh1]; exact hce) (hf x ce hcv hcc)
  obtain ⟨j1, j2⟩ := vj hP hD hk1 hF hP1 hD1
  obtain ⟨t2, a1, b1⟩ := kk x T'.heap (locs ++ L) j1 j2 ⟨Nat.le_trans hS.1 hz, fun q h1 h2 => by
      rw [hk1 q (Nat.lt_of_lt_of_le h1 hS.1) (fun z => h2 (hF q z))]
      exact hS.2.1 q h1 h2, fun q hq => by
      rcases List.mem_append.mp hq with h | h
      · exact hS.2.2 q h
      · exact hF _ (hL q h)⟩ (T'.setVm vm₂) rfl X2
  exact ⟨t2, hsteps.trans (st2 t2 a1), b1⟩
end Sub
