/-! A METHOD's END, BY RETURN OR BY THROW: contracts that know both, and calls of such methods -/
theorem mm_W_mono {p : Program} {l : Launch} {e : Env} {R : Room} {s : State} {m : MethodId} {args : Array Value} {below : List Frame} {meth : Method} {c : Code} {H : Heap} {locs : List Loc} {cells slots : Nat} {Q Q' : State → Prop} {g : JFrame} (h : ∀ t, Q t → Q' t) (k : W p l e R s m args below meth c H locs cells slots Q g) : W p l e R s m args below meth c H locs cells slots Q' g := by
  intro T hT X
  obtain ⟨t, a, b⟩ := k T hT X
  exact ⟨t, a, h t b⟩
/-- how it ended, as the JVM has it -/
def mm_O (N : mm_N) (o : Outcome) (h : mm_H) (t : Outcome) : Prop := match o with
  | .returned v => t = .returned (v.map (mm_v N))
  | .threw _ => t = .threw (N.base + (h.length - 1))
/-- what the frame keeps: slots of the program's own cells alone were written -/
def mm_fr (N : mm_N) (st t : State) (mc ms : Nat) : Prop := st.WarmedH t.vm ∧ ∃ L : List Loc, st.sameButNew ({ t with vm := st.vm } : State) L mc ms ∧ ∀ q ∈ L, N.base ≤ q.base
def mm_Qc (N : mm_N) (h : mm_H) (r : mm_R) : Array Value → State → Outcome → State → Prop := fun _ st o t =>
  mm_O N r.1 r.2 o ∧ mm_P N t r.2 t.heap ∧ mm_fr N st t (r.2.length - h.length) (mm_w r.2 - mm_w h)
def mm_Pc (N : mm_N) (as : List Value) (h : mm_H) : Array Value → State → Prop := fun a st => a = (as.map (mm_v N)).toArray ∧ mm_G N st ∧ mm_P N st h st.heap
def mm_room (d mc ms : Nat) : Room := { frames := 5 + d, cells := mc, slots := ms, locals := 232 + 30 * d }
/-- the method j, from these arguments and cells to this end: the JVM does it, in the room of the depth d -/
def mm_Met (l : Launch) (N : mm_N) (d j : Nat) (as : List Value) (h : mm_H) (r : mm_R) : Prop :=
  MetFree l (mm_nm j) (headSpec mm_ws (mm_room d (r.2.length - h.length) (mm_w r.2 - mm_w h))) (mm_Pc N as h) (fun _ _ _ _ _ => True) (mm_Qc N h r)
def mm_MQ (N : mm_N) (below : List Frame) (h : mm_H) (r : mm_R) (a : Array Value) (s : State) : State → Prop := fun t => ∃ o, t.status = .running ∧ Ended t below o ∧ mm_Qc N h r a s o t
section MMC
variable {p : Program} {l : Launch} {e : Env} {R : Room} {s : State} {m : MethodId} {args : Array Value} {below : List Frame} {meth : Method} {c : Code} {T : State} {locs : List Loc} {cells slots : Nat}
/-- a callee under its contract, from the caller's frame g (its arguments popped): it comes back with its answer, or with its throw on top -/
theorem mm_back {N : mm_N} {d j : Nat} {as : List Value} {h : mm_H} {r : mm_R} (hM : mm_Met l N d j as h r) (X : Stand p l e R s m args below meth c T locs cells slots)
    {g : JFrame} (hg : g.method = m) (hsize : g.locals.size = c.maxLocals) {ig : Instr} (hdg : decode c.code g.pc = .ok (ig, 3)) (hW : 2 * g.monitorRoom + (g.stack.map fun v => v.category).sum ≤ 8)
    {mk : MethodId} (hn : T.methodNamed? (mm_nm j) = some mk) {methY : Method} {cY : Code} (hmY : T.vm.method? mk = some methY) (hcY : methY.code = some cY) (hlY : cY.maxLocals = mm_ml j)
    {kY : Class} (hkY : T.vm.classes[mk.cls]? = some kY) (hinitY : kY.init = .initialized)
    (hws : ∀ w ∈ mm_ws, ∀ (a' : Array Value) (U : State), s.WarmedH U.vm → w.before a' U = true) (hG : mm_G N s) (hP : mm_P N s h T.heap)
    (hRf : 5 + d + 1 ≤ R.frames) (hRl : 8 + (mm_ml j + 11) + (232 + 30 * d) ≤ R.locals) (hRc : cells + (r.2.length - h.length) ≤ R.cells) (hRs : slots + (mm_w r.2 - mm_w h) ≤ R.slots) :
    ∃ (o : Outcome) (U' : State) (L : List Loc), Stand p l e R s m args below meth c U' (locs ++ L) (cells + (r.2.length - h.length)) (slots + (mm_w r.2 - mm_w h)) ∧ mm_O N r.1 r.2 o ∧ mm_P N s r.2 U'.heap ∧ (∀ q ∈ L, N.base ≤ q.base ) ∧
      (∀ v, o = .returned v → Steps p.tables e below (doInvoke e (T.setTop g) [] mk (as.map (mm_v N)).toArray).1 (U'.setTop { g with pc := g.pc + 3, stack := v.toList ++ g.stack })) ∧
      ∀ x, o = .threw x → Steps p.tables e below (doInvoke e (T.setTop g) [] mk (as.map (mm_v N)).toArray).1 ((U'.setTop g).pushFrame (.throwing x)) := by
  have hX0 : At T g.method c below := by rw [hg]; exact X.here
  have hvm : ∀ (a' : Array Value), (headSpec mm_ws (mm_room d (r.2.length - h.length) (mm_w r.2 - mm_w h))).pre.before a' T = true := fun a' => atoms_intro fun w hw => hws w hw _ _ X.warmed
  have happ : (headSpec mm_ws (mm_room d (r.2.length - h.length) (mm_w r.2 - mm_w h))).appliesLoose (mm_nm j) e.platform (T.calling g mk (as.map (mm_v N)).toArray) = true :=
    Spec.appliesLoose_calling (g := g) hX0 hdg hn hkY hinitY
      (X.room_calling (g := g) (R' := mm_room d (r.2.length - h.length) (mm_w r.2 - mm_w h)) hsize hmY hcY hRf (by rw [hlY]; show _ + (232 + 30 * d) ≤ _; omega) hRc hRs) (hvm _)
  obtain ⟨mid, hmid⟩ := hX0.above
  have hfr : (T.setTop g).frames = (.java g :: mid) ++ below := by rw [State.frames_setTop' g hX0.top, hmid]; rfl
  have hPc : mm_Pc N as h (as.map (mm_v N)).toArray (T.calling g mk (as.map (mm_v N)).toArray) := ⟨rfl, hG.warm X.warmed, hP.moved X.warmed.alike⟩
  obtain ⟨o, t, hsteps, -, hend, hq⟩ := Steps.callFree hM p X.admits X.cas X.clock (acts := []) hfr happ hPc trivial
  have hq' : mm_Qc N h r (as.map (mm_v N)).toArray (T.calling g mk (as.map (mm_v N)).toArray) o t := hq
  obtain ⟨hO, hP1, hW₂, L, hsm, hL⟩ := hq'
  rw [State.frames_setTop' g hX0.top] at hend
  obtain ⟨e2, q2, q3, q4, q5, q6⟩ := hsm
  have e3 : t = ({ (T.calling g mk (as.map (mm_v N)).toArray).setFrames t.frames with heap := t.heap, slotsUsed := t.slotsUsed } : State).setVm t.vm := by
    have h0 : t = ({ t with vm := (T.calling g mk (as.map (mm_v N)).toArray).vm } : State).setVm t.vm := rfl
    rw [e2] at h0
    exact h0
  have hW' : T.WarmedH t.vm := hW₂
  obtain ⟨g₀, hg0⟩ := Option.isSome_iff_exists.mp hX0.top
  obtain ⟨rs, hrs⟩ := State.topJava?_eq_some.mp hg0
  have hrs' : (({ T with heap := t.heap, slotsUsed := t.slotsUsed } : State).setVm t.vm).frames = .java g₀ :: rs := hrs
  have hsame : T.sameButNew ({ T with heap := t.heap, slotsUsed := t.slotsUsed } : State) L (r.2.length - h.length) (mm_w r.2 - mm_w h) := by
    refine ⟨?_, q2, q3, q4, q5, q6⟩
    obtain ⟨th, hth, -⟩ := State.frames_cons hrs
    show ({ T with heap := t.heap, slotsUsed := t.slotsUsed } : State) = { T.setFrames T.frames with heap := t.heap, slotsUsed := t.slotsUsed }
    rw [State.setFrames_self hth]
  have X' : Stand p l e R s m args below meth c (({ T with heap := t.heap, slotsUsed := t.slotsUsed } : State).setVm t.vm) (locs ++ L) (cells + (r.2.length - h.length)) (slots + (mm_w r.2 - mm_w h)) :=
    ⟨X.admits, X.cas, X.clock, X.frames, X.room, X.hears, X.method, X.code, (X.here.setHeapUsed t.heap t.slotsUsed).setVm hW'.alike, X.tail, State.WarmedH.trans X.warmed hW', X.limits, X.bytes, X.same.trans (hsame.setVm s.vm)⟩
  refine ⟨o, _, L, X', hO, ?_, hL, ?_, ?_⟩
  · exact hP1.moved X'.warmed.alike.symm
  · rintro v rfl
    obtain ⟨c₂, i₂, len₂, hc₂, hd₂, hf₂⟩ := hend
    have hcc : c₂ = c := by
      have h1 : t.code? g.method = T.code? g.method := by
        rw [State.code?_eq, State.code?_eq, hW'.alike.method?]
      exact Option.some.inj (hc₂.symm.trans (h1.trans hX0.code))
    subst hcc
    have hlen : len₂ = 3 := by rw [hdg] at hd₂; cases hd₂; rfl
    subst hlen
    have hs₂ : t = (({ T with heap := t.heap, slotsUsed := t.slotsUsed } : State).setVm t.vm).setTop { g with pc := g.pc + 3, stack := v.toList ++ g.stack } := by
      refine e3.trans ?_
      rw [hf₂, State.calling_eq hX0.top, State.setFrames_setFrames, State.setTop_of_frames _ hrs', hrs]
      rfl
    rw [← hs₂]
    exact hsteps
  · rintro x rfl
    have hf₂ : t.frames = .throwing x :: .java g :: T.frames.tail := hend
    have hs₂ : t = ((({ T with heap := t.heap, slotsUsed := t.slotsUsed } : State).setVm t.vm).setTop g).pushFrame (.throwing x) := by
      refine e3.trans ?_
      rw [hf₂, State.calling_eq hX0.top, State.setFrames_setFrames, State.pushFrame, State.frames_setTop _ hrs', State.setTop_of_frames _ hrs', State.setFrames_setFrames, hrs]
      rfl
    rw [← hs₂]
    exact hsteps
end MMC
section MMT
variable {e : Env} {f : JFrame} {a : Addr} {cell : Cell}
theorem mm_hrow {S : State} {Q : Handler → Pre} {E : CtlPost} {d : Bool} {acts : List Action} {x : ExceptionTableEntry} {t : List ExceptionTableEntry} {cid : ClassId} (hx : covers x f.pc = true) (h0 : x.catchType ≠ 0) (hl : S.vm.ClassLinks e.platform f.method.cls x.catchType cid) (hcell : S.heap[a]? = some cell) (hobj : ∀ k, cell.vm ≠ .statics k) (hk : ∃ k, S.vm.classes[cell.cls]? = some k) (hc : ∃ k, S.vm.classes[cid]? = some k) :
    wp (findHandler.go f a (x :: t)) Q E e d acts S ↔ if S.vm.assignable cell.cls cid = true then Q (.found x.handlerPc) d acts (S.setVm (S.vm.noted f.method.cls x.catchType (.cls cid))) else wp (findHandler.go f a t) Q E e d acts (S.setVm (S.vm.noted f.method.cls x.catchType (.cls cid))) := by
  simp only [covers] at hx
  obtain ⟨ha, ht⟩ := (resolveClass_links e.toSetting hl).op (op := VmOp.resolveClass f.method.cls x.catchType) rfl
  have hal : S.vm.Alike (S.vm.noted f.method.cls x.catchType (.cls cid)) := (Vm.Alike.refl S.vm).noted _ _ _
  obtain ⟨k1, hk1⟩ := hk
  obtain ⟨k2, hk2⟩ := hc
  obtain ⟨k1', hk1', -⟩ := hal.2.2 _ _ hk1
  obtain ⟨k2', hk2', -⟩ := hal.2.2 _ _ hk2
  have hfe : (S.vm.noted f.method.cls x.catchType (.cls cid)).assignable cell.cls cid = S.vm.assignable cell.cls cid := hal.assignable _ _
  cases hfit : S.vm.assignable cell.cls cid <;>
    (rw [hfit] at hfe
     simp [findHandler.go, hx, h0, ha, ht, hcell, hobj, hk1', hk2', hfe, VmOp.dirties, VmOp.acts])
/-- the search through a table whose rows catch exceptions of the list mm_xn -/
theorem mm_search {N : mm_N} {s : State} {args : Array Value} {own : String} (hpl : e.platform.magicAccessors = ({} : Platform).magicAccessors) (hown : s.vm.findClass own = some f.method.cls) (hG : mm_G N s) (hobj : ∀ k, cell.vm ≠ .statics k) {x : Nat} (hx4 : x < 4) (hcls : cell.cls = N.Y x) :
    ∀ (T : List ((Nat × Nat × Nat × Nat) × Nat)), (∀ q ∈ T, q.1.2.2.2 ≠ 0 ∧ q.2 < 4 ∧ (Cond.classLink own q.1.2.2.2 (mm_xn q.2)).before args s = true) → ∀ (S : State), s.WarmedH S.vm → S.heap[a]? = some cell →
      ∃ vm', s.WarmedH vm' ∧ ∀ (Q : Handler → Pre) (E : CtlPost) (d : Bool) (acts : List Action), wp (findHandler.go f a (tableOf (T.map (·.1)))) Q E e d acts S ↔ Q (match T.find? fun q => mm_cov f.pc q && decide (q.2 = x) with | some q => .found q.1.2.2.1 | none => .none) d acts (S.setVm vm') := by
  intro T
  induction T with
  | nil =>
    intro _ S hW _
    exact ⟨S.vm, hW, fun Q E d acts => by rw [State.setVm_self]; exact W.findHandler_go_nil⟩
  | cons q T ih =>
    intro hT S hW hcell
    obtain ⟨h0, hk4, hlink⟩ := hT q List.mem_cons_self
    have hT' := fun y hy => hT y (List.mem_cons_of_mem _ hy)
    by_cases hcov : mm_cov f.pc q = true
    · obtain ⟨cid, hcid, hcl⟩ := Cond.classLink_spec hown hlink e.platform hpl
      have hcN : cid = N.Y q.2 := Option.some.inj (hcid.symm.trans (hG.2.2.1 q.2 hk4))
      subst hcN
      obtain ⟨dk, _, _, kt, hd, _, _, _, _, hkt, _, hopen⟩ := hcl.here
      obtain ⟨kt', hkt', -⟩ := hW.alike.2.2 _ _ hkt
      have hW1 := hW.noted hd hopen (State.rightAt_cls hcl)
      obtain ⟨k0, hk0⟩ := Vm.classAt_of_findClass (hG.2.2.1 x hx4)
      obtain ⟨k0', hk0', -⟩ := hW.alike.2.2 _ _ hk0
      have hass : S.vm.assignable cell.cls (N.Y q.2) = decide (x = q.2) := by rw [hW.alike.assignable, hcls]; exact hG.2.2.2.1 x q.2 hx4 hk4
      have hrow : ∀ (Q : Handler → Pre) (E : CtlPost) (d : Bool) (acts : List Action), _ := fun Q E d acts => mm_hrow (e := e) (f := f) (a := a) (cell := cell) (S := S) (Q := Q) (E := E) (d := d) (acts := acts) (x := ⟨q.1.1, q.1.2.1, q.1.2.2.1, q.1.2.2.2⟩) (t := tableOf (T.map (·.1))) (cid := N.Y q.2) hcov h0 (hW.classLinks hcl) hcell hobj ⟨k0', by rw [hcls]; exact hk0'⟩ ⟨kt', hkt'⟩
      by_cases hxq : x = q.2
      · refine ⟨_, hW1, fun Q E d acts => ?_⟩
        have h1 := hrow Q E d acts
        rw [if_pos (by rw [hass]; simpa using hxq)] at h1
        rw [List.find?_cons_of_pos (by rw [hcov]; simpa using hxq.symm)]
        exact h1
      · obtain ⟨vm', hW', hq⟩ := ih hT' (S.setVm (S.vm.noted f.method.cls q.1.2.2.2 (.cls (N.Y q.2)))) hW1 hcell
        refine ⟨vm', hW', fun Q E d acts => ?_⟩
        have h1 := hrow Q E d acts
        rw [if_neg (by rw [hass]; simpa using hxq)] at h1
        rw [List.find?_cons_of_neg (by rw [hcov]; simpa using fun h => hxq h.symm)]
        exact h1.trans (hq Q E d acts)
    · obtain ⟨vm', hW', hq⟩ := ih hT' S hW hcell
      refine ⟨vm', hW', fun Q E d acts => ?_⟩
      rw [List.find?_cons_of_neg (by simp [hcov])]
      have h1 : wp (findHandler.go f a (⟨q.1.1, q.1.2.1, q.1.2.2.1, q.1.2.2.2⟩ :: tableOf (T.map (·.1)))) Q E e d acts S ↔ _ := W.findHandler_go_skip (x := ⟨q.1.1, q.1.2.1, q.1.2.2.1, q.1.2.2.2⟩) (t := tableOf (T.map (·.1))) (by simpa [mm_cov] using hcov)
      exact h1.trans (hq Q E d acts)
end MMT
section MMU
variable {p : Program} {l : Launch} {e : Env} {R : Room} {s : State} {m : MethodId} {args : Array Value} {below : List Frame} {meth : Method} {c : Code} {T : State} {locs : List Loc} {cells slots : Nat}
/-- a throw that this method's own handler catches -/
theorem mm_caught {N : mm_N} {own : String} (X : Stand p l e R s m args below meth c T locs cells slots) (hown : s.vm.findClass own = some m.cls) (hG : mm_G N s) {HT : List ((Nat × Nat × Nat × Nat) × Nat)} (htab : c.exceptionTable.toList = tableOf (HT.map (·.1))) (hHT : ∀ q ∈ HT, q.1.2.2.2 ≠ 0 ∧ q.2 < 4 ∧ (Cond.classLink own q.1.2.2.2 (mm_xn q.2)).before args s = true)
    {a : Addr} {cell : Cell} (hcell : T.heap[a]? = some cell) (hvm : cell.vm = .none) {x : Nat} (hx4 : x < 4) (hcls : cell.cls = N.Y x) {g : JFrame} (hg : g.method = m) {t : Nat} (hfind : ((HT.find? fun q => mm_cov g.pc q && decide (q.2 = x)).map fun q => q.1.2.2.1) = some t) :
    ∃ vm', Stand p l e R s m args below meth c (T.setVm vm') locs cells slots ∧ ∀ target, Steps p.tables e below ((T.setVm vm').setTop { g with pc := t, stack := [.ref a] }) target → Steps p.tables e below ((T.setTop g).pushFrame (.throwing a)) target := by
  subst hg
  have hpl : e.platform.magicAccessors = ({} : Platform).magicAccessors := by rw [X.admits.platform]
  obtain ⟨vm', hW', hq⟩ := mm_search (e := e) (f := g) (a := a) (cell := cell) (args := args) hpl hown hG (fun k => by rw [hvm]; exact fun h => by cases h) hx4 hcls HT hHT ((T.setTop g).pushFrame (.throwing a)) X.warmed hcell
  refine ⟨vm', X.noted hW', fun target hrest => ?_⟩
  obtain ⟨q, hq1, rfl⟩ := Option.map_eq_some_iff.mp hfind
  have hF : ∀ (Q : Handler → Pre) (E : CtlPost) (d : Bool) (acts : List Action), wp (findHandler g a) Q E e d acts ((T.setTop g).pushFrame (.throwing a)) ↔ Q (.found q.1.2.2.1) d acts (((T.setTop g).pushFrame (.throwing a)).setVm vm') := by
    intro Q E d acts
    rw [W.findHandler_eq (s := (T.setTop g).pushFrame (.throwing a)) (meth := meth) (code := c) X.method' X.code, htab]
    have h1 := hq Q E d acts
    rw [hq1] at h1
    exact h1
  obtain ⟨hgo, hw⟩ := X.here.throwing a
  refine Steps.head hgo hw ?_
  have hstep : (stepThrowing e ((T.setTop g).pushFrame (.throwing a)) a (.java g :: T.frames.tail)).Is ((((T.setTop g).pushFrame (.throwing a)).setVm vm').setFrames (.java { g with pc := q.1.2.2.1, stack := [.ref a] } :: T.frames.tail)) [] := by
    simp only [stepThrowing, searchFrame, vmDo]
    generalize hr : Sem.go _ e false [] ((T.setTop g).pushFrame (.throwing a)) = res
    obtain ⟨as, rfl, ha⟩ := Sem.eq_ok_of hr (a := Handler.found q.1.2.2.1) (s' := ((T.setTop g).pushFrame (.throwing a)).setVm vm') (acts' := []) (by simp [hF _ _ _ _])
    exact ⟨rfl, ha⟩
  rw [stepThread_throwing (frames_entered X.here.top _), hstep.1]
  obtain ⟨g₀, hg0⟩ := Option.isSome_iff_exists.mp X.here.top
  obtain ⟨rs, hrs⟩ := State.topJava?_eq_some.mp hg0
  have hrs' : (T.setVm vm').frames = .java g₀ :: rs := hrs
  have hsv : ∀ (u : State) (F G : List Frame), ((u.setFrames F).setVm vm').setFrames G = (u.setVm vm').setFrames G := fun u F G => by
    have h1 : (u.setFrames F).setVm vm' = (u.setVm vm').setFrames F := rfl
    rw [h1, State.setFrames_setFrames]
  rw [State.setTop_of_frames _ hrs'] at hrest
  rw [hrs, List.tail_cons, State.pushFrame, hsv, State.setTop_of_frames _ hrs, hsv]
  exact hrest
end MMU
