/-! WHAT THE SMALL MACHINE DOES THE JVM DOES -/
section MMS
variable {p : Program} {l : Launch} {e : Env} {R : Room} {s : State} {m : MethodId} {args : Array Value} {below : List Frame} {meth : Method} {c : Code} {H : Heap} {locs : List Loc} {cells slots : Nat}
variable {cc : ByteArray} {pc : Nat} {N : mm_N} {C : Nat → List Value → mm_H → mm_R → Prop} {j x y : Nat} {K : mm_S → mm_R → Prop} {r : mm_R} {hh h0 : mm_H} {ls : List Slot} {st : List Value}
/-- an end by return, as the kit's rows give it -/
theorem mm_fin {v : Option Value} (hP : mm_P N s hh H) (hc : cells = hh.length - h0.length) (hs : slots = mm_w hh - mm_w h0) (t : State) (h : MQ below (fun _ _ o t => o = .returned (v.map (mm_v N)) ∧ t.heap = H) args s cells slots (fun q => N.base ≤ q) t) : mm_MQ N below h0 (.returned v, hh) args s t := by
  obtain ⟨o, h1, h2, ⟨rfl, hheap⟩, L, ⟨-, hW, hsame⟩, hL⟩ := h
  refine ⟨_, h1, h2, rfl, ?_, hW, L, ?_, hL⟩
  · show mm_P N t hh t.heap
    rw [hheap]
    exact hP.moved hW.alike
  · rw [hc, hs] at hsame
    exact hsame
theorem mm_s_ireturn (hx : p.tables.exec = Jvm.exec) (hb : c.code = cc) (hd : decode cc pc = .ok (.ireturn, 1)) (hrt : (x = 1 ∧ meth.sig.returnType = some .int) ∨ (x ≠ 1 ∧ meth.sig.returnType = some .boolean)) (hlocks : meth.locks = false) (hP : mm_P N s hh H) (hc : cells = hh.length - h0.length) (hs : slots = mm_w hh - mm_w h0) (hL : ∀ q ∈ locs, N.base ≤ q.base) (hr : mm_do C j pc K r (mm_iret x st hh)) : W p l e R s m args below meth c H locs cells slots (mm_MQ N below h0 r args s) (mm_F N m pc ls st) := by
  unfold mm_iret at hr
  split at hr
  · rename_i v
    split at hr
    · rename_i hv
      change r = _ at hr
      subst hr
      rcases hrt with ⟨h1, h2⟩ | ⟨h1, h2⟩
      · exact mm_W_mono (mm_fin (v := some (.int v)) hP hc hs) (W.zret hx hb h2 rfl (fun t ht hW => ⟨rfl, ht⟩) hL hd hlocks)
      · have hn : narrow .boolean (.int v) = .int v := by
          rcases hv with hv | rfl | rfl
          · exact absurd hv h1
          · decide
          · decide
        exact mm_W_mono (mm_fin (v := some (.int v)) hP hc hs) (W.zret hx hb h2 hn (fun t ht hW => ⟨rfl, ht⟩) hL hd hlocks)
    · exact False.elim hr
  · exact False.elim hr
theorem mm_s_areturn {rt : FieldType} (hx : p.tables.exec = Jvm.exec) (hb : c.code = cc) (hd : decode cc pc = .ok (.areturn, 1)) (hrt : meth.sig.returnType = some rt) (hrf : (∃ n, rt = .object n) ∨ ∃ t, rt = .array t) (hlocks : meth.locks = false) (hP : mm_P N s hh H) (hc : cells = hh.length - h0.length) (hs : slots = mm_w hh - mm_w h0) (hL : ∀ q ∈ locs, N.base ≤ q.base) (hr : mm_do C j pc K r (mm_aret st hh)) : W p l e R s m args below meth c H locs cells slots (mm_MQ N below h0 r args s) (mm_F N m pc ls st) := by
  unfold mm_aret at hr
  split at hr
  · rename_i v
    change r = _ at hr
    subst hr
    exact mm_W_mono (mm_fin (v := some (.ref v)) hP hc hs) (W.aret hx hb hrt hrf (Or.inr ⟨_, rfl⟩) (fun t ht hW => ⟨rfl, ht⟩) hL hd hlocks)
  · change r = _ at hr
    subst hr
    exact mm_W_mono (mm_fin (v := some .null) hP hc hs) (W.aret hx hb hrt hrf (Or.inl rfl) (fun t ht hW => ⟨rfl, ht⟩) hL hd hlocks)
  · exact False.elim hr
theorem mm_s_vreturn (hx : p.tables.exec = Jvm.exec) (hb : c.code = cc) (hd : decode cc pc = .ok (.return_, 1)) (hrt : meth.sig.returnType = none) (hlocks : meth.locks = false) (hP : mm_P N s hh H) (hc : cells = hh.length - h0.length) (hs : slots = mm_w hh - mm_w h0) (hL : ∀ q ∈ locs, N.base ≤ q.base) (hr : mm_do C j pc K r (mm_vret st hh)) : W p l e R s m args below meth c H locs cells slots (mm_MQ N below h0 r args s) (mm_F N m pc ls st) := by
  unfold mm_vret at hr
  split at hr
  · change r = _ at hr
    subst hr
    exact mm_W_mono (mm_fin (v := none) hP hc hs) (W.vret hx hb hrt (fun t ht hW => ⟨rfl, ht⟩) hL hd hlocks)
  · exact False.elim hr
end MMS
theorem mm_hws {args : Array Value} {s : State} (hts : ∀ w ∈ mm_ws, w.before args s = true) : ∀ w ∈ mm_ws, ∀ (a' : Array Value) (U : State), s.WarmedH U.vm → w.before a' U = true := by
  intro w hw a' U hW
  have hg := (List.mem_filter.mp hw).2
  have hb := hts w hw
  simp only [mm_gw, Bool.or_eq_true, Bool.and_eq_true] at hg
  rcases hg with hg | ⟨hot, hg⟩
  · exact word_at hW (good_of_word hg) hb
  · have key : w.before args (s.setVm U.vm) = true := by
      cases w <;> first | (simp at hg; done) | exact Cond.fieldLinkNest_warmed hW hb | exact Cond.methodLinkNest_warmed hW hb | exact Cond.before_warmed hW _ trivial hb
    exact va_tabs hot (rfl : (s.setVm U.vm).vm = U.vm) key
theorem mm_lookup_mem {α : Type} : ∀ (l : List (Nat × α)) (k : Nat) (v : α), l.lookup k = some v → (k, v) ∈ l
  | [], _, _, h => by simp [List.lookup] at h
  | (a, b) :: l, k, v, h => by
    unfold List.lookup at h
    split at h
    · rename_i he
      cases h
      have : k = a := by simpa using he
      subst this
      exact List.mem_cons_self
    · exact List.mem_cons_of_mem _ (mm_lookup_mem l k v h)
theorem mm_at_chk {j pc : Nat} {e : mm_I} (h : mm_at j pc = some e) : decode (mm_bs j) pc = .ok (e.1, e.2.1 - pc) ∧ (mm_len e.1 = 0 ∨ e.2.1 = pc + mm_len e.1) ∧ mm_lchk j pc e.1 e.2.2.1 e.2.2.2 = true := by
  have h1 := List.all_eq_true.mp (mm_k j) _ (mm_lookup_mem _ _ _ h)
  simp only [mm_chk, mm_dchk, Bool.and_eq_true, Bool.or_eq_true, decide_eq_true_eq] at h1
  exact ⟨h1.1.1.1, h1.1.2, h1.2⟩
theorem mm_dec1 {j pc n : Nat} {i : Instr} (L : Nat) (hdec : decode (mm_bs j) pc = .ok (i, n - pc)) (hlen : mm_len i = 0 ∨ n = pc + mm_len i) (hL : mm_len i = L) (h0 : L ≠ 0) : n = pc + L ∧ decode (mm_bs j) pc = .ok (i, L) := by
  have hn : n = pc + L := by rcases hlen with h | h <;> omega
  refine ⟨hn, ?_⟩
  rw [hdec, hn, Nat.add_sub_cancel_left]
theorem mm_on_cl : ∀ (c : Nat) (r : vw_C), vwCl[c]? = some r → r.1 = mm_on c
  | 0, _, h => by cases h; rfl
  | 1, _, h => by cases h; rfl
  | 2, _, h => by cases h; rfl
  | 3, _, h => by cases h; rfl
  | 4, _, h => by cases h; rfl
  | n + 5, _, h => by simp at h
theorem mm_vi_sz : ∀ x ∈ mm_viT, x < 104 ∧ mm_np x + 1 ≤ mm_ml x ∧ mm_cls x < 5 := by decide +kernel
theorem mm_in_sz : ∀ x ∈ mm_inT, x < 104 ∧ mm_np x + 1 ≤ mm_ml x := by decide +kernel
theorem mm_st_sz : ∀ x ∈ mm_stT, x < 104 ∧ mm_np x ≤ mm_ml x := by decide +kernel
theorem mm_key_d (j k : Nat) (hk : k < 100000) : mm_key j k / 100000 = mm_cls j ∧ mm_key j k % 100000 = k := by unfold mm_key; omega
theorem mm_split (f : Value → Value) (st : List Value) (y : Nat) : st.map f = (((st.take y).reverse).map f).reverse ++ (st.drop y).map f := by
  rw [List.map_reverse, List.reverse_reverse, ← List.map_append, List.take_append_drop]
