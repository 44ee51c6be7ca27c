/-! THE CLAIM OUT OF ONE WALK OF THE LAW'S BODY. Your part is whole_start (and what it stands on); all else here is the same for every law, but numbers. -/
def R_law : String := "TabletLineLaw"
def lw_P (b : Addr) (xs : List Int32) (args : Array Value) (s : State) : Prop := args = #[.ref b] ∧ s.IntsAt b xs ∧ xs.length ≤ 2051 ∧ (Jvm.Cond.and given_1 narrow_1).before args s = true
def lw_Q (_ : Array Value) (s : State) (o : Outcome) (t : State) : Prop := o = .returned (some (.int 1)) ∧ Framed s o t [] 655647 7129130
def lw_Z (below : List Frame) (a : Array Value) (s : State) : State → Prop := fun t => ∃ o, t.status = .running ∧ Ended t below o ∧ lw_Q a s o t
/-- the law's own end, with 1 on the stack, nothing written that was there before, its room as the claim has it -/
theorem lw_ret {p : Program} {l : Launch} {e : Env} {s : State} {m : MethodId} {below : List Frame} {meth : Method} {c : Code} {b : Nat} (hx : p.tables.exec = Jvm.exec) (hb : c.code = code) (hr : meth.sig.returnType = ret) (hlocks : meth.locks = false) {pc : Nat} {H : Heap} {ls : Array Slot} (hdg : decode code pc = .ok (.ireturn, 1)) : W p l e room_1 s m #[Value.ref b] below meth c H [] 655647 7129130 (lw_Z below #[Value.ref b] s) (F0 m pc ls [.int 1]) := by
  intro T hT X
  obtain ⟨fs, hret, hrun, hended, hW, hframe⟩ := X.leave (v := some (.int 1)) (hlocks := hlocks) (fun h => by rw [hr] at h; cases h)
  have hmeth' : T.vm.method? m = some meth := X.method'
  refine ⟨T.setFrames fs, ?_, .returned (some (.int 1)), hrun, hended, rfl, ⟨_, rfl⟩, hW, hframe⟩
  jvm_step X.here [X.here.top, hx, hb, hdg, hmeth', hr, ret, narrow_b1]
  (try refine ⟨rfl, ?_⟩); (try refine ⟨rfl, ?_⟩)
  first | (intro acts; rw [hret _ acts rfl rfl rfl]) | rw [hret _ _ rfl rfl rfl]
  exact Steps.refl _
/-- what holds at the law's entry: the machine, the code, the tables' words (any of lw_tbl by 'hts w (by decide +kernel)'), the script of L ints xs at the cell b, what the Statement gives of the start (any of its parts by flat_of_before) -/
def lw_At (p : Program) (s : State) (m : MethodId) (meth : Method) (c : Code) (b L : Nat) (xs : Nat → Int32) : Prop :=
  p.tables.exec = Jvm.exec ∧ c.code = code ∧ meth.sig.returnType = ret ∧ c.maxLocals = 7 ∧ s.vm.findClass R_law = some m.cls ∧ (∀ w ∈ lw_tbl, w.before #[Value.ref b] s = true) ∧ va_X b L xs s s.heap ∧ b < s.heap.size ∧ meth.locks = false ∧ (Jvm.Cond.and given_1 narrow_1).before #[Value.ref b] s = true
-- ===== YOUR PART BEGINS =====
theorem mm_flat {args : Array Value} {s : State} (h : (Jvm.Cond.and given_1 narrow_1).before args s = true) (c : Cond) (hc : (flatC (Jvm.Cond.and given_1 narrow_1)).contains c = true) : c.before args s = true := flat_of_before _ h c (List.contains_iff_mem.mp hc)
theorem mm_nc : ∀ k, k < 4 → ∀ i, i < 4 → k ≠ i → (flatC (Jvm.Cond.and given_1 narrow_1)).contains (.not (.castable (mm_xn k) (mm_xn i))) = true := by decide +kernel
theorem mm_xw : ∀ k, k < 4 → lw_tbl.contains (.castable (mm_xn k) (mm_xn k)) = true := by decide +kernel
theorem mm_sw : ∀ e ∈ mm_strs, lw_tbl.contains (.stringRef "TabletLine" e.1 e.2) = true := by decide +kernel
theorem mm_zw : lw_tbl.contains (.laysStatic Bundle.tN "UNASSIGNED_STACK" Bundle.steD) = true ∧ lw_tbl.contains (.laysStatic Bundle.tN "SUPPRESSED_SENTINEL" Bundle.listD) = true ∧ lw_tbl.contains (.initialized Bundle.tN) = true ∧ (flatC (Jvm.Cond.and given_1 narrow_1)).contains (.isRef (.static Bundle.tN "UNASSIGNED_STACK" Bundle.steD)) = true ∧ (flatC (Jvm.Cond.and given_1 narrow_1)).contains (.isRef (.static Bundle.tN "SUPPRESSED_SENTINEL" Bundle.listD)) = true ∧ lw_tbl.contains (.initialized "TabletLine") = true := by decide +kernel
theorem mm_nass {args : Array Value} {s : State} {a b : String} {cA cB : ClassId} (h : (Cond.not (.castable a b)).before args s = true) (f1 : s.vm.findClass a = some cA) (f2 : s.vm.findClass b = some cB) : s.vm.assignable cA cB = false := by
  have hv := Cond.holds_not_iff.mp h
  simp only [Cond.value, f1, f2] at hv
  exact Option.some.inj hv
/-- the numbers of classes, slots, array classes and exceptions, out of the tables' words -/
theorem mm_world {args : Array Value} {s : State} (hts : ∀ w ∈ lw_tbl, w.before args s = true) (hgv : (Jvm.Cond.and given_1 narrow_1).before args s = true) : ∃ (D : va_G) (X Y : Nat → ClassId), ∀ (q : Nat × Nat) (z : mm_Z), mm_G (D, X, Y, q, z) s := by
  have htm : ∀ w ∈ mm_ws, w.before args s = true := fun w hw => hts w (List.mem_filter.mp hw).1
  have hD : ∀ c : Nat, ∃ q : ClassId × (Nat → Nat), ∀ r : vw_C, vwCl[c]? = some r → u_Kn s r.1 r.2.1 r.2.2 q.1 q.2 := by
    intro c
    cases hc : vwCl[c]? with
    | none => exact ⟨(0, fun k => k), fun r h => by cases h⟩
    | some r =>
      obtain ⟨-, -, -, hin, -, -, hinst, -⟩ := mm_cls_ok c r hc
      obtain ⟨cC, iS, hK⟩ := u_known htm hin (htm _ hinst)
      exact ⟨(cC, iS), fun r' h => by cases h; exact hK⟩
  have hX : ∀ k : Nat, ∃ cA : ClassId, ∀ ty : FieldType, mm_ty k = some ty → ArrOfT s cA ty ∧ va_RA s cA ty := by
    intro k
    have prim : ∀ ty : FieldType, Cond.arrayClass ty ∈ mm_ws → (∀ cA, s.vm.findClass ("[" ++ ty.toString) = some cA → va_RA s cA ty) → ∃ cA : ClassId, ArrOfT s cA ty ∧ va_RA s cA ty := by
      intro ty hw hra
      obtain ⟨cA, kA, comp, h1, h2, h3⟩ := Cond.arrayClass_spec (htm _ hw)
      exact ⟨cA, fun N z => ⟨(fun k h => by cases h), kA, h2, comp, h3⟩, hra cA h1⟩
    have refs : ∀ n : String, va_AO n s → ∃ cA : ClassId, ArrOfT s cA (.object n) ∧ va_RA s cA (.object n) := by
      intro n hw
      obtain ⟨comp, cA, kA, h1, -, h2, h3, h4⟩ := Cond.arrayOver_spec hw
      exact ⟨cA, fun N z => ⟨(fun k h => by cases h), kA, h2, comp, h3⟩, kA, comp, h2, h3, h1, h4⟩
    by_cases h10 : k = 10
    · subst h10
      obtain ⟨cA, h⟩ := prim .int mm_arr_ok.1 (fun cA h => h)
      exact ⟨cA, fun ty hty => by rw [mm_ty_prim.1] at hty; cases hty; exact h⟩
    by_cases h11 : k = 11
    · subst h11
      obtain ⟨cA, h⟩ := prim .boolean mm_arr_ok.2.1 (fun cA h => h)
      exact ⟨cA, fun ty hty => by rw [mm_ty_prim.2.1] at hty; cases hty; exact h⟩
    by_cases h12 : k = 12
    · subst h12
      obtain ⟨cA, h⟩ := prim .long mm_arr_ok.2.2 (fun cA h => h)
      exact ⟨cA, fun ty hty => by rw [mm_ty_prim.2.2] at hty; cases hty; exact h⟩
    by_cases h13 : k = 13
    · subst h13
      obtain ⟨cA, h⟩ := refs "TabletLine$Section" (va_AO.of (hts _ mm_ao_ok.1))
      exact ⟨cA, fun ty hty => by cases hty; exact h⟩
    by_cases h14 : k = 14
    · subst h14
      obtain ⟨cA, h⟩ := refs "TabletLine$Train" (va_AO.of (hts _ mm_ao_ok.2))
      exact ⟨cA, fun ty hty => by cases hty; exact h⟩
    · refine ⟨0, fun ty hty => ?_⟩
      unfold mm_ty at hty
      rw [if_neg h10, if_neg h11, if_neg h12, if_neg h13, if_neg h14] at hty
      cases hty
  have hY : ∀ k : Nat, ∃ cA : ClassId, k < 4 → s.vm.findClass (mm_xn k) = some cA ∧ s.vm.assignable cA cA = true := by
    intro k
    by_cases hk : k < 4
    · obtain ⟨c, t, h1, h2, h3⟩ := Cond.castable_spec (hts _ (List.contains_iff_mem.mp (mm_xw k hk)))
      cases h1.symm.trans h2
      exact ⟨c, fun _ => ⟨h1, h3⟩⟩
    · exact ⟨0, fun h => absurd h hk⟩
  refine ⟨(fun c => (Classical.choose (hD c)).1, fun c => (Classical.choose (hD c)).2), fun k => Classical.choose (hX k), fun k => Classical.choose (hY k), fun q z => ⟨fun c r hr => Classical.choose_spec (hD c) r hr, fun k ty hk => Classical.choose_spec (hX k) ty hk, fun k hk => (Classical.choose_spec (hY k) hk).1, fun k i hk hi => ?_, ⟨va_AO.of (hts _ mm_ao_ok.1), va_AO.of (hts _ mm_ao_ok.2)⟩, fun e he => ?_⟩⟩
  · have f1 := (Classical.choose_spec (hY k) hk).1
    have f2 := (Classical.choose_spec (hY i) hi).1
    by_cases hki : k = i
    · subst hki
      rw [decide_eq_true rfl]
      exact (Classical.choose_spec (hY k) hk).2
    · rw [decide_eq_false hki]
      exact mm_nass (mm_flat hgv _ (mm_nc k hk i hi hki)) f1 f2
  · have hw := hts _ (List.contains_iff_mem.mp (mm_sw e he))
    obtain ⟨cT, hcT⟩ : ∃ cT, s.vm.findClass "TabletLine" = some cT := ⟨_, (Classical.choose_spec (hD 0) _ rfl).2.1⟩
    obtain ⟨_, _, _, sa, -, -, -, -, -, hev⟩ := Cond.stringRef_spec hcT hw
    exact ⟨sa, vk_R.of hw hev⟩
/-- YOUR PART: from the entry, for every script of at most 2051 ints, the law comes to its end with true -/
theorem whole_start {p : Program} {e : Env} {s : State} {m : MethodId} {below : List Frame} {meth : Method} {c : Code} (l : Launch) (hl : l.stackTraces = false) {b L : Nat} {xs : Nat → Int32} (hL : L ≤ 2051) (C0 : lw_At p s m meth c b L xs) (htab : c.exceptionTable.toList = []) (hname : meth.name = "law") : W p l e room_1 s m #[Value.ref b] below meth c s.heap [] 0 0 (lw_Z below #[Value.ref b] s) (entryFrame m ([Value.ref b] : List Value).toArray 7) := by
  obtain ⟨hexec, hb, hr, hml, hown, hts, hX, hbl, hlocks, hgv⟩ := C0
  obtain ⟨h', hcal, hlen, hw⟩ := mm_law L xs hL
  obtain ⟨n, hrun⟩ := hcal
  obtain ⟨D, X, Y, hG⟩ := mm_world hts hgv
  have hG := hG (s.heap.size, b) (L, xs)
  have htm : ∀ w ∈ mm_ws, w.before #[Value.ref b] s = true := fun w hw => hts w (List.mem_filter.mp hw).1
  have F : mm_Fx p l room_1 s m #[Value.ref b] meth c (D, X, Y, (s.heap.size, b), (L, xs)) 6 104 :=
    ⟨hexec, hb, hml, hown, htm, hr, hlocks, hname, htab, mm_ht_ok (by decide), hG, hl, by decide, by decide⟩
  have hA : ∀ a : Nat, a < s.heap.size → ¬ s.heap.size ≤ a := fun a h => Nat.not_le.mpr h
  obtain ⟨z1, z2, z3, z4, z5, -⟩ := mm_zw
  have hP : mm_P (D, X, Y, (s.heap.size, b), (L, xs)) s [] s.heap :=
    ⟨rfl, ⟨hbl, vx_Zqof (hts _ (List.contains_iff_mem.mp z1)) (hts _ (List.contains_iff_mem.mp z3)) (mm_flat hgv _ z4) hA, vx_Zqof (hts _ (List.contains_iff_mem.mp z2)) (hts _ (List.contains_iff_mem.mp z3)) (mm_flat hgv _ z5) hA⟩, hX, fun k q h => by simp at h⟩
  have hfr : entryFrame m ([Value.ref b] : List Value).toArray 7 = mm_F (D, X, Y, (s.heap.size, b), (L, xs)) m 0 (mm_loc 104 [.retAddr 0]) [] := mm_entry (D, X, Y, (s.heap.size, b), (L, xs)) m 104 [.retAddr 0] rfl
  rw [hfr]
  refine mm_W_mono ?_ (mm_frame (e := e) (below := below) F (fun x as h rr => mm_met hl 6 x as h rr) (h0 := []) n (0, mm_loc 104 [.retAddr 0], [], []) (.returned (some (.int 1)), h') hrun hlen hw s.heap [] 0 0 hP rfl rfl mm_le.rfl (fun q hq => nomatch hq) rfl)
  rintro t ⟨o, h1, h2, hO, -, hW, L1, hsame, hL1⟩
  have hO' : o = .returned (some (.int 1)) := hO
  subst hO'
  refine ⟨_, h1, h2, rfl, ⟨_, rfl⟩, hW, hsame.weaken (fun y hy hlt => ?_) hlen hw⟩
  exact absurd (hL1 y hy) (Nat.not_le.mpr hlt)
-- ===== YOUR PART ENDS =====
set_option maxHeartbeats 4000000 in
theorem lw_walk (l : Launch) (hl : l.stackTraces = false) (b : Addr) (xs : List Int32) : MetFree l x (headSpec (Jvm.Cond.code x code maxLocals ret :: tables_1) room_1) (lw_P b xs) (fun _ _ _ _ _ => True) lw_Q := by
  refine MetFree.of_bodyS (code := code) (maxLocals := maxLocals) (ret := ret) (by decide) ?_ ?_
  · intro args s m h hn
    obtain ⟨meth, c, h1, h2, h3, h4, h5, h6, -, -⟩ := Cond.code_spec hn (atoms_spec (ws := Jvm.Cond.code x code maxLocals ret :: tables_1) h _ List.mem_cons_self)
    exact ⟨meth, c, h1, h2, h3, h4, h5, h6⟩
  · intro p e s m args below meth c s₁ B hml0 hP _
    obtain ⟨rfl, hx, hbd, hgv⟩ := hP
    obtain ⟨scr, harrAt, hlist, hof, hsmall⟩ := hx
    obtain ⟨hcb, hkn, -, -⟩ := State.arrayAt?_spec harrAt
    have hown : s.vm.findClass R_law = some m.cls := findClass_of_methodNamed B.named
    have hts0 : ∀ c ∈ (Jvm.Cond.code x code maxLocals ret :: tables_1), c.before #[Value.ref b] s = true := atoms_spec (ws := Jvm.Cond.code x code maxLocals ret :: tables_1) B.pre
    have hts : ∀ w ∈ lw_tbl, w.before #[Value.ref b] s = true := k2_hts_sels lw_privs (fun w hw => hts0 w (List.mem_cons_of_mem _ hw)) lw_privs_ok
    have hml : c.maxLocals = 7 := B.maxLocals_eq (hts0 _ List.mem_cons_self)
    have X₀ : Stand p l e room_1 s m #[Value.ref b] below meth c s₁ [] 0 0 := Stand.of_body B
    have hh0 : s₁.heap = s.heap := by rw [B.state]; rfl
    have hsz : scr.slots.size = xs.length := by rw [← Array.length_toList, hlist, List.length_map]
    have hval : ∀ j : Nat, j < xs.length → scr.slots[j]? = some (.int (xs.getD j 0)) := fun j hj => by
      rw [← Array.getElem?_toList, hlist]
      simp [hj]
    have hbl : b < s.heap.size := (Array.getElem?_eq_some_iff.mp hcb).1
    have hX : va_X b xs.length (fun j => xs.getD j 0) s s.heap := ⟨scr, hcb, hof, hkn, hsz, hval⟩
    have K : W p l e room_1 s m #[Value.ref b] below meth c s₁.heap [] 0 0 (lw_Z below #[Value.ref b] s) (entryFrame m ([Value.ref b] : List Value).toArray 7) := by
      rw [hh0]
      obtain ⟨meth', c', q1, q2, -, -, -, -, q3, -⟩ := Cond.code_spec B.named (hts0 _ List.mem_cons_self)
      cases X₀.method.symm.trans q1
      cases X₀.code.symm.trans q2
      have htab : c.exceptionTable.toList = [] := by
        have h9 : c.exceptionTable.size = 0 := by simpa [Array.isEmpty] using q3
        exact List.eq_nil_of_length_eq_zero (by simpa using h9)
      exact whole_start l hl hbd ⟨B.exec, B.bytes, B.returns, hml, hown, hts, hX, hbl, B.notSynchronized, hgv⟩ htab (name_of_methodNamed B.named X₀.method).1
    obtain ⟨t, a1, o, b1, b2, b3⟩ := K s₁ rfl X₀
    exact ⟨t, o, a1, b1, b2, b3⟩
theorem lw_pre_spec {args : Array Value} {s : State} (h : (Jvm.Cond.and given_1 narrow_1).before args s = true) (hr : rest_1_c.before args s = true) : ∃ (b : Addr) (xs : List Int32), lw_P b xs args s := by
  have hs := flat_of_before _ h
  have hq := flat_of_before _ hr
  have hc : (Cond.count 1).before args s = true := hs _ (by decide +kernel)
  have harr : (Cond.arrayOf (.arg 0) .int).before args s = true := hs _ (by decide +kernel)
  have hle : (Cond.le (.length (.arg 0)) (.int 2051)).before args s = true := hs _ (by decide +kernel)
  have hlen : (Cond.isInt (.length (.arg 0))).before args s = true := hq _ (by decide +kernel)
  have hall : (Cond.all (.arg 0) (.isInt (.elem (.arg 0) (.index 0)))).before args s = true := hq _ (by decide +kernel)
  obtain ⟨b, xs, hb, hx⟩ := State.ints_of_pre rfl harr hlen hall
  have hsm : xs.length < 2 ^ 31 := hx.choose_spec.2.2.2
  have hev : (Term.length (.arg 0)).eval args s none [] s = some (.int xs.length.toInt32) := hx.length_eval hb
  have hv := Cond.le_ints hev (show (Term.int 2051).eval args s none [] s = some (.int 2051) from rfl)
  have hd : xs.length.toInt32 ≤ 2051 := by
    simpa [Cond.before, Cond.holds, hv] using hle
  have hN : xs.length ≤ 2051 := (Int32.ofNat_le_ofNat hsm (by decide)).mp (show Int32.ofNat xs.length ≤ Int32.ofNat 2051 from hd)
  exact ⟨b, xs, Cond.one_arg hc (show args[0]? = some (.ref b) from hb), hx, hN, h⟩
theorem lw_comes (l : Launch) (hl : l.stackTraces = false) : Comes l x (Jvm.Cond.code x code maxLocals ret :: tables_1) room_1 (fun tb e args s => Calls_1 tb e args s ∧ rest_1 tb e args s ∧ Pre_1 tb e args s)
    (fun _ _ args s o t => lw_Q args s o t) := by
  intro p e ha hc hk s m args below hf hfit hheap happ hpre
  obtain ⟨b, xs, hP⟩ := lw_pre_spec hpre.2.2 hpre.2.1
  obtain ⟨k, o, h1, h2, h3, hQ⟩ := lw_walk l hl b xs p e ha hc hk s m args below hf ((Spec.applies_iff_loose hf).mp happ).1 hP trivial
  exact ⟨k, o, h1, h2, h3, hQ⟩
theorem lw_frame {s t : State} {o : Outcome} {args : Array Value} (h : Framed s o t [] 655647 7129130) :
    Framed s o t (fieldLocs frame_1_writes args s ++ arrayLocs frame_1_arrays args s ++ staticLocs frame_1_statics s) 655647 7129130 := h
theorem lw_limb (L : Cond) (hL : ∀ (args : Array Value) (s t : State), L.after args s (.returned (some (.int 1))) t = true) :
    ArmFor flags0 classFile x code maxLocals ret World_1 tables_1 room_1 Calls_1 rest_1 Pre_1
      (fun tb e a s o t => postC L tb e a s o t ∧ Framed s o t (fieldLocs frame_1_writes a s ++ arrayLocs frame_1_arrays a s ++ staticLocs frame_1_statics s) 655647 7129130) := by
  intro l hfl _ _ p e ha hc hk s m args below hf hfit hheap happ hpre
  have hl : l.stackTraces = false := by unfold Launch.stackTraces; rw [hfl]; decide +kernel
  obtain ⟨k, o, h1, h2, h3, rfl, hF⟩ := lw_comes l hl p e ha hc hk s m args below hf hfit hheap happ hpre
  exact ⟨k, _, h1, h2, h3, hL args s _, lw_frame hF⟩
theorem i_vc : Claimed_1_1 ∧ Claimed_1_2 := ⟨lw_limb limb_1_1 (fun args s t => by simp [limb_1_1, Cond.after, Cond.holds, Cond.value]), lw_limb limb_1_2 (fun args s t => Cond.after_iff.mpr (by
  first | (rw [show limb_1_2 = Cond.eq .result (.int 1) from rfl, Cond.eq_ints (x := 1) (y := 1) rfl rfl]; simp; done) | (simp [limb_1_2, Cond.value, Term.eval]; done)))⟩
