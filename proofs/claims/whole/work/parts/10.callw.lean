/-! CALLS OF THE PROGRAM's OWN METHODS -/
theorem mm_cw_spec {j : Nat} {args : Array Value} {s : State} (h : (mm_cw j).before args s = true) : ∃ m meth c, s.methodNamed? (mm_nm j) = some m ∧ s.vm.method? m = some meth ∧ meth.code = some c ∧ c.code = mm_bs j ∧ c.maxLocals = mm_ml j ∧ meth.sig.returnType = mm_rt j ∧ meth.locks = false ∧ c.exceptionTable.toList = tableOf ((mm_ht j).map (·.1)) ∧ parseMethodDescriptor (mm_nm j).desc = some meth.sig := by
  unfold mm_cw at h
  split at h
  · rename_i h0
    obtain ⟨m, hn⟩ := Cond.code_named h
    obtain ⟨meth, c, h1, h2, h3, h4, h5, h6, h7, h8⟩ := Cond.code_spec hn h
    refine ⟨m, meth, c, hn, h1, h2, h3, h4, h5, h6, ?_, h8⟩
    have h9 : c.exceptionTable.size = 0 := by simpa [Array.isEmpty] using h7
    rw [h0]
    exact List.eq_nil_of_length_eq_zero (by simpa using h9)
  · obtain ⟨m, meth, c, h0, h1, h2, h3, h4, h5, h6, h7, h8⟩ := Cond.codeWith_spec h
    exact ⟨m, meth, c, h0, h1, h2, h3, h4, h6, h7, by rw [← h5, table_eq], h8⟩
section MML
variable {p : Program} {l : Launch} {e : Env} {R : Room} {s : State} {m : MethodId} {args : Array Value} {below : List Frame} {meth : Method} {c : Code} {T : State} {locs : List Loc} {cells slots : Nat}
theorem mm_linkS (X : Stand p l e R s m args below meth c T locs cells slots) (hexec : p.tables.exec = Jvm.exec) (hts : ∀ w ∈ mm_ws, w.before args s = true) {own : String} (hown : s.vm.findClass own = some m.cls) {idx x : Nat} (hk : mm_lk x) (hl : mm_ln own idx x) (hst : Cond.static (mm_nm x) ∈ mm_ws)
    {argsL rest : List Value} (hlen : (parseMethodDescriptor (mm_nm x).desc).map (fun d => d.parameters.length) = some argsL.length) {g : JFrame} (hg : g.method = m) (hstack : g.stack = argsL.reverse ++ rest) (hdg : decode c.code g.pc = .ok (.invokestatic idx, 3)) :
    ∃ mk vm', s.methodNamed? (mm_nm x) = some mk ∧ Stand p l e R s m args below meth c (T.setVm vm') locs cells slots ∧ ∀ target, (∀ acts, Steps p.tables e below (doInvoke e ((T.setVm vm').setTop { g with stack := rest }) acts mk argsL.toArray).1 target) → Steps p.tables e below (T.setTop g) target := by
  obtain ⟨hcw, hini, hy, -⟩ := hk
  obtain ⟨mk, methM, cM, hnamed, hmethM, -, -, -, -, -, -, hsigM⟩ := mm_cw_spec (hts _ hcw)
  have hstatic : methM.isStatic = true := Cond.static_spec hnamed hmethM (hts _ hst)
  obtain ⟨kP, hkP, -⟩ := className_of_methodNamed hnamed
  have hinitP : kP.init = .initialized := Cond.initialized_spec (findClass_of_methodNamed hnamed) hkP (hts _ hini)
  have hln : argsL.length = methM.sig.parameters.length := by
    rw [hsigM] at hlen
    exact (Option.some.inj hlen).symm
  rcases hl with hl | ⟨host, hl⟩
  · obtain ⟨vm₁, X₁, hstep₁⟩ := X.invokestatic hexec hown (hts _ hl) hnamed hmethM hstatic hkP hinitP hy (g := g) hg (argsL := argsL) (rest := rest) hln hstack hdg
    exact ⟨mk, vm₁, hnamed, X₁, hstep₁⟩
  · obtain ⟨vm₁, X₁, hstep₁⟩ := X.invokestaticNest hexec hown (hts _ hl) hnamed hmethM hstatic hkP hinitP hy (g := g) hg (argsL := argsL) (rest := rest) hln hstack hdg
    exact ⟨mk, vm₁, hnamed, X₁, hstep₁⟩
theorem mm_linkI (X : Stand p l e R s m args below meth c T locs cells slots) (hexec : p.tables.exec = Jvm.exec) (hts : ∀ w ∈ mm_ws, w.before args s = true) {own : String} (hown : s.vm.findClass own = some m.cls) {idx x : Nat} (hk : mm_lk x) (hl : mm_ln own idx x) (hin : (mm_nm x).name = "<init>") (hinst : Cond.instanceMethod (mm_nm x) ∈ mm_ws) (hcode : Cond.code (mm_nm x) (mm_bs x) (mm_ml x) none ∈ mm_ws)
    {b : Addr} {argsL rest : List Value} (hlen : (parseMethodDescriptor (mm_nm x).desc).map (fun d => d.parameters.length) = some argsL.length) {g : JFrame} (hg : g.method = m) (hstack : g.stack = argsL.reverse ++ .ref b :: rest) (hdg : decode c.code g.pc = .ok (.invokespecial idx, 3)) :
    ∃ mk vm', s.methodNamed? (mm_nm x) = some mk ∧ Stand p l e R s m args below meth c (T.setVm vm') locs cells slots ∧ ∀ target, (∀ acts, Steps p.tables e below (doInvoke e ((T.setVm vm').setTop { g with stack := rest }) acts mk (Value.ref b :: argsL).toArray).1 target) → Steps p.tables e below (T.setTop g) target := by
  subst hg
  obtain ⟨-, -, hy, -⟩ := hk
  have hpl : e.platform.magicAccessors = ({} : Platform).magicAccessors := by rw [X.admits.platform]
  have hln : ∀ sig, parseMethodDescriptor (mm_nm x).desc = some sig → argsL.length = sig.parameters.length := fun sig h => by
    rw [h] at hlen
    exact (Option.some.inj hlen).symm
  rcases hl with hl | ⟨host, hl⟩
  · obtain ⟨mk, methM, cM, kP, vm₁, hnamed, -, -, -, -, -, -, -, hW₁, hstep₁⟩ := Steps.initColdArgs (e := e) X.here hexec X.warmed hpl hown hin hy (hts _ hl) (hts _ hinst) (hts _ hcode) (f := g) rfl hln hstack hdg
    exact ⟨mk, vm₁, hnamed, X.noted hW₁, hstep₁⟩
  · obtain ⟨mk, methM, cM, kP, vm₁, hnamed, -, -, -, -, -, -, -, hW₁, hstep₁⟩ := Steps.initColdArgsNest (e := e) X.here hexec X.warmed hpl hown hin hy (hts _ hl) (hts _ hinst) (hts _ hcode) (f := g) rfl hln hstack hdg
    exact ⟨mk, vm₁, hnamed, X.noted hW₁, hstep₁⟩
theorem mm_linkV (X : Stand p l e R s m args below meth c T locs cells slots) (hexec : p.tables.exec = Jvm.exec) (hts : ∀ w ∈ mm_ws, w.before args s = true) {own : String} (hown : s.vm.findClass own = some m.cls) {idx x : Nat} (hk : mm_lk x) (hl : mm_ln own idx x) (hinst : Cond.instanceMethod (mm_nm x) ∈ mm_ws) (hsel : Cond.selects (mm_nm x).cls (mm_nm x) (mm_nm x) ∈ mm_ws)
    {b : Addr} {cellB : Cell} (hcell : T.heap[b]? = some cellB) (hobj : cellB.vm = .none) (hcls : s.vm.findClass (mm_nm x).cls = some cellB.cls)
    {argsL rest : List Value} (hlen : (parseMethodDescriptor (mm_nm x).desc).map (fun d => d.parameters.length) = some argsL.length) {g : JFrame} (hg : g.method = m) (hstack : g.stack = argsL.reverse ++ .ref b :: rest) (hdg : decode c.code g.pc = .ok (.invokevirtual idx, 3)) :
    ∃ mk vm', s.methodNamed? (mm_nm x) = some mk ∧ Stand p l e R s m args below meth c (T.setVm vm') locs cells slots ∧ ∀ target, (∀ acts, Steps p.tables e below (doInvoke e ((T.setVm vm').setTop { g with stack := rest }) acts mk (Value.ref b :: argsL).toArray).1 target) → Steps p.tables e below (T.setTop g) target := by
  obtain ⟨hcw, -, hy, -⟩ := hk
  obtain ⟨mk, methM, hnamed, hmethM, hstM, habM⟩ := Cond.instanceMethod_spec (hts _ hinst)
  obtain ⟨mk0, methM0, cM, hnamed0, hmethM0, -, -, -, -, -, -, hsigM⟩ := mm_cw_spec (hts _ hcw)
  cases hnamed.symm.trans hnamed0
  cases hmethM.symm.trans hmethM0
  obtain ⟨c2, r2, m2, q1, q2, q3, q4, kP, hkP, hkPi⟩ := Cond.selects_spec (hts _ hsel)
  cases hcls.symm.trans q1
  cases (State.methodFound?_of_named hnamed hy).symm.trans q2
  cases hnamed.symm.trans q3
  have hselP : selectMethod e.platform s.vm cellB.cls mk = .method mk := by rw [Launch.admits_selectMethod X.admits]; exact q4
  have hln : argsL.length = methM.sig.parameters.length := by
    rw [hsigM] at hlen
    exact (Option.some.inj hlen).symm
  have hob : ∀ z, cellB.vm ≠ .statics z := fun z h => by rw [hobj] at h; cases h
  rcases hl with hl | ⟨host, hl⟩
  · obtain ⟨vm₁, X₁, hstep₁⟩ := X.invokevirtual hexec hown (hts _ hl) hnamed hmethM hstM hkP hkPi hy (a := b) (cell := cellB) hcell hob hselP hmethM habM hkP hkPi (g := g) hg (argsL := argsL) (rest := rest) hln hstack hdg
    exact ⟨mk, vm₁, hnamed, X₁, hstep₁⟩
  · obtain ⟨vm₁, X₁, hstep₁⟩ := X.invokevirtualNest hexec hown (hts _ hl) hnamed hmethM hstM hkP hkPi hy (a := b) (cell := cellB) hcell hob hselP hmethM habM hkP hkPi (g := g) hg (argsL := argsL) (rest := rest) hln hstack hdg
    exact ⟨mk, vm₁, hnamed, X₁, hstep₁⟩
end MML
section MMW
variable {p : Program} {l : Launch} {e : Env} {R : Room} {s : State} {m : MethodId} {args : Array Value} {below : List Frame} {meth : Method} {c : Code} {H : Heap} {locs : List Loc} {cells slots : Nat} {Q : State → Prop}
/-- a call, linked, under the callee's contract: it goes on behind an answer; a throw lies over the frame -/
theorem mm_callW {N : mm_N} {d x pc : Nat} {as : List Value} {h : mm_H} {r : mm_R} {ls : List Slot} {st rest : List Value} {ig : Instr} (hts : ∀ w ∈ mm_ws, w.before args s = true) (hws : ∀ w ∈ mm_ws, ∀ (a' : Array Value) (U : State), s.WarmedH U.vm → w.before a' U = true) (hG : mm_G N s) (hP : mm_P N s h H) (hk : mm_lk x) (hM : mm_Met l N d x as h r) (hml : ls.length = c.maxLocals) (hdg : decode c.code pc = .ok (ig, 3)) (hwt : mm_wt rest ≤ 8)
    (hRf : 6 + d ≤ R.frames) (hRl : 262 + 30 * d ≤ R.locals) (hRc : cells + (r.2.length - h.length) ≤ R.cells) (hRs : slots + (mm_w r.2 - mm_w h) ≤ R.slots)
    (hstep : ∀ T : State, T.heap = H → Stand p l e R s m args below meth c T locs cells slots → ∃ mk vm', s.methodNamed? (mm_nm x) = some mk ∧ Stand p l e R s m args below meth c (T.setVm vm') locs cells slots ∧ ∀ target, (∀ acts, Steps p.tables e below (doInvoke e ((T.setVm vm').setTop (mm_F N m pc ls rest)) acts mk (as.map (mm_v N)).toArray).1 target) → Steps p.tables e below (T.setTop (mm_F N m pc ls st)) target)
    (kr : ∀ v, r.1 = .returned v → ∀ (H' : Heap) (L : List Loc), mm_P N s r.2 H' → (∀ q ∈ L, N.base ≤ q.base) → W p l e R s m args below meth c H' (locs ++ L) (cells + (r.2.length - h.length)) (slots + (mm_w r.2 - mm_w h)) Q (mm_F N m (pc + 3) ls (v.toList ++ rest)))
    (kt : ∀ y, r.1 = .threw y → ∀ (U : State) (L : List Loc), mm_P N s r.2 U.heap → (∀ q ∈ L, N.base ≤ q.base) → Stand p l e R s m args below meth c U (locs ++ L) (cells + (r.2.length - h.length)) (slots + (mm_w r.2 - mm_w h)) → ∃ t, Steps p.tables e below ((U.setTop (mm_F N m pc ls rest)).pushFrame (.throwing (N.base + (r.2.length - 1)))) t ∧ Q t) :
    W p l e R s m args below meth c H locs cells slots Q (mm_F N m pc ls st) := by
  intro T hT X
  obtain ⟨mk, vm₁, hnamed, X₁, hst1⟩ := hstep T hT X
  obtain ⟨hcw, hini, -, -, hml30, -⟩ := hk
  obtain ⟨mk', methM, cM, hnamed', hmethM, hcodeM, -, hmlM, -, -, -, -⟩ := mm_cw_spec (hws _ hcw args (T.setVm vm₁) X₁.warmed)
  have hn1 : (T.setVm vm₁).methodNamed? (mm_nm x) = some mk := X₁.named hnamed
  cases hn1.symm.trans hnamed'
  obtain ⟨kP, hkP, -⟩ := className_of_methodNamed hn1
  have hinitP : kP.init = .initialized := Cond.initialized_spec (findClass_of_methodNamed hn1) hkP (hws _ hini args (T.setVm vm₁) X₁.warmed)
  obtain ⟨o, U', L, X', hO, hP', hL, s1, s2⟩ := mm_back hM X₁ (g := mm_F N m pc ls rest) rfl (by show (mm_L N ls).size = _; rw [mm_L_size]; exact hml) hdg (by show 2 * 0 + ((rest.map (mm_v N)).map fun v => v.category).sum ≤ 8; rw [mm_wt_map]; omega) hn1 hmethM hcodeM hmlM hkP hinitP hws hG (by rw [← hT] at hP; exact hP) (by omega) (by omega) hRc hRs
  unfold mm_O at hO
  split at hO
  · rename_i v hr1
    obtain ⟨t, a1, b1⟩ := kr v hr1 U'.heap L hP' hL U' rfl X'
    refine ⟨t, hst1 t fun acts => ?_, b1⟩
    rw [doInvoke_state]
    refine (s1 _ hO).trans ?_
    have : (v.map (mm_v N)).toList ++ rest.map (mm_v N) = (v.toList ++ rest).map (mm_v N) := by cases v <;> rfl
    show Steps _ _ _ (U'.setTop (F0 m (pc + 3) (mm_L N ls) ((v.map (mm_v N)).toList ++ rest.map (mm_v N)))) t
    rw [this]
    exact a1
  · rename_i y hr1
    obtain ⟨t, a1, b1⟩ := kt y hr1 U' L hP' hL X'
    refine ⟨t, hst1 t fun acts => ?_, b1⟩
    rw [doInvoke_state]
    exact (s2 _ hO).trans a1
end MMW
