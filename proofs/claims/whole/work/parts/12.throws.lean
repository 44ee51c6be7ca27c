/-! THE PROGRAM's THROWS -/
/-- an exception's constructor: its code, the entry by which it hands its text on -/
def mm_xcs : List (ByteArray × Nat) := [(prog_8_method_2_code, 7), (prog_9_method_2_code, 7), (prog_14_method_2_code, 7), (prog_15_method_4_code, 13)]
def mm_xown (k : Nat) : List Cond := match mm_xks[k]?, mm_xcs[k]? with
  | some e, some f => mm_own "TabletLine" e.2 (mm_xn k) f.2 f.1 "java/lang/RuntimeException" ["java/lang/Exception"]
  | _, _ => []
theorem mm_xo0 : (((mm_xown 0).filter vx_no).all fun w => decide (w ∈ lw_tbl) && mm_gw w) = true := by decide +kernel
theorem mm_xo1 : (((mm_xown 1).filter vx_no).all fun w => decide (w ∈ lw_tbl) && mm_gw w) = true := by decide +kernel
theorem mm_xo2 : (((mm_xown 2).filter vx_no).all fun w => decide (w ∈ lw_tbl) && mm_gw w) = true := by decide +kernel
theorem mm_xo3 : (((mm_xown 3).filter vx_no).all fun w => decide (w ∈ lw_tbl) && mm_gw w) = true := by decide +kernel
theorem mm_xo : ∀ k, k < 4 → ∀ w ∈ (mm_xown k).filter vx_no, w ∈ mm_ws := by
  have key : ∀ k, (((mm_xown k).filter vx_no).all fun w => decide (w ∈ lw_tbl) && mm_gw w) = true → ∀ w ∈ (mm_xown k).filter vx_no, w ∈ mm_ws := fun k h w hw => by
    have h1 := List.all_eq_true.mp h w hw
    rw [Bool.and_eq_true, decide_eq_true_eq] at h1
    exact List.mem_filter.mpr h1
  intro k hk
  match k, hk with
  | 0, _ => exact key 0 mm_xo0
  | 1, _ => exact key 1 mm_xo1
  | 2, _ => exact key 2 mm_xo2
  | 3, _ => exact key 3 mm_xo3
  | n + 4, h => exact absurd h (by omega)
theorem mm_xdec : ∀ k, k < 4 → ∃ e f, mm_xks[k]? = some e ∧ mm_xcs[k]? = some f ∧ decode f.1 0 = .ok (.aload_n 0, 1) ∧ decode f.1 1 = .ok (.aload_n 1, 1) ∧ decode f.1 2 = .ok (.invokespecial f.2, 3) ∧ decode f.1 5 = .ok (.return_, 1) ∧ Bundle.fit (mm_xn k) = true ∧ Cond.classLink "TabletLine" e.1 (mm_xn k) ∈ mm_ws ∧ Cond.initialized (mm_xn k) ∈ mm_ws
  | 0, _ => ⟨_, _, rfl, rfl, by decide +kernel, by decide +kernel, by decide +kernel, by decide +kernel, by decide +kernel, mm_in 207 (by decide +kernel) (by decide +kernel), mm_in 48 (by decide +kernel) (by decide +kernel)⟩
  | 1, _ => ⟨_, _, rfl, rfl, by decide +kernel, by decide +kernel, by decide +kernel, by decide +kernel, by decide +kernel, mm_in 352 (by decide +kernel) (by decide +kernel), mm_in 49 (by decide +kernel) (by decide +kernel)⟩
  | 2, _ => ⟨_, _, rfl, rfl, by decide +kernel, by decide +kernel, by decide +kernel, by decide +kernel, by decide +kernel, mm_in 423 (by decide +kernel) (by decide +kernel), mm_in 50 (by decide +kernel) (by decide +kernel)⟩
  | 3, _ => ⟨_, _, rfl, rfl, by decide +kernel, by decide +kernel, by decide +kernel, by decide +kernel, by decide +kernel, mm_in 448 (by decide +kernel) (by decide +kernel), mm_in 52 (by decide +kernel) (by decide +kernel)⟩
  | n + 4, h => absurd h (by omega)
section MMY
variable {p : Program} {l : Launch} {e : Env} {R : Room} {s : State} {m : MethodId} {args : Array Value} {below : List Frame} {meth : Method} {c : Code} {H : Heap} {locs : List Loc} {cells slots : Nat}
variable {cc : ByteArray} {pc : Nat} {N : mm_N} {C : Nat → List Value → mm_H → mm_R → Prop} {j : Nat} {K : mm_S → mm_R → Prop} {r : mm_R} {hh h0 : mm_H} {ls : List Slot} {st : List Value}
set_option maxHeartbeats 1000000 in
theorem mm_s_throw {ik is ic k : Nat} (hexec : p.tables.exec = Jvm.exec) (hb : c.code = cc) (hl : l.stackTraces = false) (hws : ∀ w ∈ mm_ws, ∀ (a' : Array Value) (U : State), s.WarmedH U.vm → w.before a' U = true) (hG : mm_G N s) (hP : mm_P N s hh H) (hown : s.vm.findClass "TabletLine" = some m.cls)
    (hk4 : k < 4) (hxk : mm_xks[k]? = some (ik, ic)) (his : (mm_strs.map (·.1)).contains is = true)
    (d0 : decode cc pc = .ok (.new ik, 3)) (d3 : decode cc (pc + 3) = .ok (.dup, 1)) (d4 : decode cc (pc + 4) = .ok (.ldc is, 2)) (d6 : decode cc (pc + 6) = .ok (.invokespecial ic, 3)) (d9 : decode cc (pc + 9) = .ok (.athrow, 1)) (hout : c.exceptionTable.toList = [])
    (hsize : ls.length = c.maxLocals) (hRf : 6 ≤ R.frames) (hRl : 100 ≤ R.locals) (hlocks : meth.locks = false) (hc : cells = hh.length - h0.length) (hs : slots = mm_w hh - mm_w h0) (hle : mm_le h0 hh) (hL : ∀ q ∈ locs, N.base ≤ q.base)
    (hRc : cells + 1 ≤ R.cells) (hRs : slots + 6 ≤ R.slots) (hr : mm_do C j pc K r (mm_new (pc + 3) (20 + k) ls st hh)) :
    W p l e R s m args below meth c H locs cells slots (mm_MQ N below h0 r args s) (mm_F N m pc ls st) := by
  unfold mm_new at hr
  rw [if_neg (by omega)] at hr
  split at hr
  case isFalse => exact False.elim hr
  case isTrue hst =>
  change r = _ at hr
  subst hr
  obtain ⟨⟨ik', ic'⟩, ⟨rx, ix⟩, hx1, hx2, x0, x1, x2, x5, hfit, hcl, hini⟩ := mm_xdec k hk4
  cases hxk.symm.trans hx1
  have hstr0 : ∃ text, (is, text) ∈ mm_strs := by
    have h1 : is ∈ mm_strs.map (·.1) := by simpa using his
    obtain ⟨e0, he0, rfl⟩ := List.mem_map.mp h1
    exact ⟨e0.2, he0⟩
  obtain ⟨text, htx⟩ := hstr0
  obtain ⟨sa, hstr⟩ := hG.2.2.2.2.2 _ htx
  have hYk := hG.2.2.1 k hk4
  intro T hT X
  have htr : e.platform.stackTraces = false := (show e.platform.stackTraces = l.stackTraces by rw [X.admits.platform]).trans hl
  have Y := vx_rebase X (R' := { frames := R.frames, locals := R.locals, cells := 1, slots := 6 }) (Nat.le_refl _) (Nat.le_refl _) hRc hRs
  obtain ⟨s', hA⟩ : ∃ z, z = (T.setVm s.vm).setFrames (.invoking m args :: below) := ⟨_, rfl⟩
  rw [← hA] at Y
  have hvm : s'.vm = s.vm := by rw [hA]; rfl
  have hhp : s'.heap = H := by rw [hA]; exact hT
  have hW0 : s.WarmedH s'.vm := by rw [hvm]; exact State.WarmedH.refl s
  have hU' : vx_Zq Bundle.tN "UNASSIGNED_STACK" Bundle.steD (fun q => N.base ≤ q) s' s'.heap := by rw [hhp]; exact vx_Zq.moved hW0.alike hP.2.1.2.1
  have hN' : vx_Zq Bundle.tN "SUPPRESSED_SENTINEL" Bundle.listD (fun q => N.base ≤ q) s' s'.heap := by rw [hhp]; exact vx_Zq.moved hW0.alike hP.2.1.2.2
  have hown2 : mm_xown k = mm_own "TabletLine" ic (mm_xn k) ix rx "java/lang/RuntimeException" ["java/lang/Exception"] := by
    unfold mm_xown
    rw [hx1, hx2]
  have h : ∀ w ∈ mm_own "TabletLine" ic (mm_xn k) ix rx "java/lang/RuntimeException" ["java/lang/Exception"], w.before args s' = true :=
    vx_own (fun w hw => hws w (mm_xo k hk4 w (by rw [hown2]; exact hw)) _ _ hW0) (vx_isRefq hU'.1) (vx_isRefq hN'.1) hU'.2.word hN'.2.word
  have hown' : s'.vm.findClass "TabletLine" = some m.cls := by rw [hvm]; exact hown
  have hins : (Cond.instantiable (mm_xn k) 6).before args s' = true := h _ (by simp [mm_own])
  obtain ⟨vm₁, cX, kX, hfX, hkX, -, -, X₁, st1⟩ := Y.newCold hexec (own := "TabletLine") (C := mm_xn k) (index := ik) (n := 6) hown' (hws _ hcl _ _ hW0) hins (hws _ hini _ _ hW0)
    (g := mm_F N m pc ls st) rfl (by rw [hb]; exact d0) (Nat.le_refl _) (Nat.le_refl _)
  generalize hT1 : (T.setVm vm₁).pushCell { cls := cX, slots := kX.instanceTypes.map defaultValue, vm := .none } = T1 at X₁ st1
  have hcat : (Value.ref T.heap.size).category = 1 := rfl
  have hcellA : T1.heap[T.heap.size]? = some (freshCell cX kX) := by rw [← hT1]; exact State.heap_pushCell_size _ _
  have d3' : decode c.code (pc + 3) = .ok (.dup, 1) := by rw [hb]; exact d3
  have d4' : decode c.code (pc + 4) = .ok (.ldc is, 2) := by rw [hb]; exact d4
  have hstr' : vk_R "TabletLine" is text sa s' := vk_R.warm hW0 hstr
  have hwt := mm_wt_map N st
  obtain ⟨U, hsteps, hrun, hend, hW, hsame, ce, hce, hO1, hO2⟩ := mm_ctor X₁ hexec htr x0 x1 x2 x5 hown' hfit (by decide +kernel) (by decide +kernel) h (fun x hx => nomatch hx) hfX hkX hcellA (by rw [hhp, hT]; exact Nat.le_refl _) (msg := .ref sa) rfl
    (g := { method := m, pc := pc + 6, locals := mm_L N ls, stack := .ref sa :: .ref T.heap.size :: .ref T.heap.size :: st.map (mm_v N), locked := none }) rfl (by rw [mm_L_size]; exact hsize) rfl rfl (rest := st.map (mm_v N)) rfl
    (by rw [hb]; exact d6) (by rw [hb]; exact d9) (by rw [hout]; exact fun x hx => nomatch hx) (by simp only [List.length_cons, List.length_nil]; omega) (by simp only [List.map_cons, List.sum_cons, hcat, List.length_cons, List.length_nil, hwt]; show 2 * 0 + _ + _ ≤ _; omega) hlocks
  obtain ⟨f1, f2⟩ := vx_frame hsame
  rw [hhp] at f1 f2
  have hWs : s.WarmedH U.vm := State.WarmedH.trans hW0 hW
  have hcY : cX = N.Y k := by
    rw [hvm] at hfX
    exact Option.some.inj (hfX.symm.trans hYk)
  have hall : s.sameButNew ({ U with vm := s.vm } : State) locs (cells + 1) (slots + 6) := by
    subst hA
    obtain ⟨e1, e2⟩ := hsame
    rw [State.setFrames_setFrames] at e1
    have h2 : (T.setVm s.vm).sameButNew ({ U with vm := s.vm } : State) [] (0 + 1) (0 + 6) := ⟨e1, e2⟩
    have h3 := X.same.trans h2
    rw [List.append_nil] at h3
    exact h3
  have hsz : U.heap.size = H.size + 1 := by
    have h1 : U.heap.size ≤ s'.heap.size + (0 + 1) := hsame.2.2.1
    have h2 := (Array.getElem?_eq_some_iff.mp hce).1
    rw [hT] at h2
    rw [hhp] at h1
    omega
  refine ⟨U, ?_, .threw T.heap.size, hrun, hend, ?_, ?_, hWs, locs, ?_, hL⟩
  · refine st1 _ ?_
    show Steps p.tables e below (T1.setTop { method := m, pc := pc + 3, locals := mm_L N ls, stack := .ref T.heap.size :: st.map (mm_v N), locked := none }) _
    jvm_step X₁.here [X₁.here.top, hexec, d3', Value.category]
    exact X₁.ldcString hexec (own := "TabletLine") (text := text) (index := is) (a := sa) hown' hstr'.1 hstr'.2
      (g := { method := m, pc := pc + 4, locals := mm_L N ls, stack := .ref T.heap.size :: .ref T.heap.size :: st.map (mm_v N), locked := none }) rfl d4' _ hsteps
  · show Outcome.threw T.heap.size = .threw (N.base + ((hh ++ [_]).length - 1))
    rw [hT, hP.1]
    simp
  · refine (hP.moved hWs.alike).push hsz (fun q hq => f2 q hq (fun z hz => nomatch hz)) (Or.inr (Or.inr ⟨by show 20 ≤ 20 + k; omega, ce, ?_, ?_, hO2⟩))
    · rw [← hP.1, ← hT]; exact hce
    · rw [hO1, hcY]
      show N.Y k = N.Y (20 + k - 20)
      rw [Nat.add_sub_cancel_left]
  · have e1 : (hh ++ [(20 + k, List.replicate 6 Value.null)]).length - h0.length = cells + 1 := by
      have := hle.1
      rw [hc, List.length_append]
      show hh.length + 1 - h0.length = _
      omega
    have e2 : mm_w (hh ++ [(20 + k, List.replicate 6 Value.null)]) - mm_w h0 = slots + 6 := by
      have := hle.2
      rw [hs, mm_w_push]
      show mm_w hh + 6 - mm_w h0 = _
      omega
    show s.sameButNew _ locs ((hh ++ [(20 + k, List.replicate 6 Value.null)]).length - h0.length) (mm_w (hh ++ [(20 + k, List.replicate 6 Value.null)]) - mm_w h0)
    rw [e1, e2]
    exact hall
end MMY
