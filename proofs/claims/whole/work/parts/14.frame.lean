/-! WHAT THE SMALL MACHINE DOES THE JVM DOES: one frame -/
theorem mm_no_out {j pc : Nat} (h : mm_no j pc = true) : ∀ x ∈ tableOf ((mm_ht j).map (·.1)), covers x pc = false := by
  intro x hx
  unfold tableOf at hx
  rw [List.map_map] at hx
  obtain ⟨q, hq, rfl⟩ := List.mem_map.mp hx
  have h1 := List.all_eq_true.mp h q hq
  show mm_cov pc q = false
  cases hc : mm_cov pc q
  · rfl
  · rw [hc] at h1; cases h1
section MMS2
variable {p : Program} {l : Launch} {e : Env} {R : Room} {s : State} {m : MethodId} {args : Array Value} {below : List Frame} {meth : Method} {c : Code}
/-- what stands fixed while a frame of the method j runs -/
def mm_Fx (p : Program) (l : Launch) (R : Room) (s : State) (m : MethodId) (args : Array Value) (meth : Method) (c : Code) (N : mm_N) (d j : Nat) : Prop :=
  p.tables.exec = Jvm.exec ∧ c.code = mm_bs j ∧ c.maxLocals = mm_ml j ∧ s.vm.findClass (mm_on (mm_cls j)) = some m.cls ∧ (∀ w ∈ mm_ws, w.before args s = true) ∧ meth.sig.returnType = mm_rt j ∧ meth.locks = false ∧ meth.name = (mm_nm j).name ∧
  c.exceptionTable.toList = tableOf ((mm_ht j).map (·.1)) ∧ (∀ q ∈ mm_ht j, q.1.2.2.2 ≠ 0 ∧ q.2 < 4 ∧ Cond.classLink (mm_on (mm_cls j)) q.1.2.2.2 (mm_xn q.2) ∈ mm_ws) ∧ mm_G N s ∧ l.stackTraces = false ∧ 6 + d ≤ R.frames ∧ 262 + 30 * d ≤ R.locals
/-- a call of the method x, linked: behind it the frame goes on, or the throw is caught, or it leaves -/
theorem mm_s_call {N : mm_N} {d j x pc : Nat} {as : List Value} {hh h0 : mm_H} {ls : List Slot} {st rest : List Value} {ig : Instr} {r : mm_R} {K : mm_S → mm_R → Prop} {H : Heap} {locs : List Loc} {cells slots : Nat}
    (F : mm_Fx p l R s m args meth c N d j) (hMet : ∀ rr : mm_R, mm_cal N.z d x as hh rr → mm_Met l N d x as hh rr) (hk : mm_lk x) (hP : mm_P N s hh H) (hc : cells = hh.length - h0.length) (hs : slots = mm_w hh - mm_w h0) (hle : mm_le h0 hh) (hL : ∀ q ∈ locs, N.base ≤ q.base) (hls : ls.length = mm_ml j)
    (hdg : decode (mm_bs j) pc = .ok (ig, 3)) (hwt : mm_wt rest ≤ 8)
    (hstep : ∀ T : State, T.heap = H → Stand p l e R s m args below meth c T locs cells slots → ∃ mk vm', s.methodNamed? (mm_nm x) = some mk ∧ Stand p l e R s m args below meth c (T.setVm vm') locs cells slots ∧ ∀ target, (∀ acts, Steps p.tables e below (doInvoke e ((T.setVm vm').setTop (mm_F N m pc ls rest)) acts mk (as.map (mm_v N)).toArray).1 target) → Steps p.tables e below (T.setTop (mm_F N m pc ls st)) target)
    (hrc : r.2.length - h0.length ≤ R.cells) (hrs : mm_w r.2 - mm_w h0 ≤ R.slots) (hK : ∀ S, K S r → mm_endOk S.2.2.2 r)
    (hr : ∃ (o : Outcome) (h' : mm_H), mm_cal N.z d x as hh (o, h') ∧ mm_aft j pc ls rest (pc + 3) K r o h')
    (ih : ∀ S, K S r → ∀ (H : Heap) (locs : List Loc) (cells slots : Nat), mm_P N s S.2.2.2 H → cells = S.2.2.2.length - h0.length → slots = mm_w S.2.2.2 - mm_w h0 → mm_le h0 S.2.2.2 → (∀ q ∈ locs, N.base ≤ q.base) → S.2.1.length = mm_ml j → W p l e R s m args below meth c H locs cells slots (mm_MQ N below h0 r args s) (mm_F N m S.1 S.2.1 S.2.2.1)) :
    W p l e R s m args below meth c H locs cells slots (mm_MQ N below h0 r args s) (mm_F N m pc ls st) := by
  obtain ⟨hexec, hb, hml, hown, hts, hrt, hlocks, hname, htab, hhtl, hG, hl, hRf, hRl⟩ := F
  obtain ⟨o, h', hcal, haft⟩ := hr
  obtain ⟨hle', hthr⟩ := mm_cal_ok _ _ _ _ _ hcal
  have hle2 : mm_le h0 h' := hle.trans hle'
  have a1 := hle.1
  have a2 := hle.2
  have b1 := hle'.1
  have b2 := hle'.2
  dsimp only at b1 b2
  have hend : mm_le h' r.2 := by
    unfold mm_aft at haft
    split at haft
    · exact (hK _ haft).1
    · split at haft
      · exact (hK _ haft).1
      · rw [haft.2]; exact mm_le.rfl
  have c1 := hend.1
  have c2 := hend.2
  have ec : cells + (h'.length - hh.length) = h'.length - h0.length := by omega
  have es : slots + (mm_w h' - mm_w hh) = mm_w h' - mm_w h0 := by omega
  refine mm_callW (r := (o, h')) hts (mm_hws hts) hG hP hk (hMet _ hcal) (by rw [hls, hml]) (by rw [hb]; exact hdg) hwt hRf hRl (by show cells + (h'.length - hh.length) ≤ _; omega) (by show slots + (mm_w h' - mm_w hh) ≤ _; omega) hstep ?_ ?_
  · intro v ho H' L hP' hL'
    change o = _ at ho
    subst ho
    change W p l e R s m args below meth c H' (locs ++ L) (cells + (h'.length - hh.length)) (slots + (mm_w h' - mm_w hh)) _ _
    rw [ec, es]
    refine ih (pc + 3, ls, v.toList ++ rest, h') haft H' (locs ++ L) _ _ hP' rfl rfl hle2 (fun q hq => ?_) hls
    rcases List.mem_append.mp hq with hq | hq
    · exact hL q hq
    · exact hL' q hq
  · intro y ho U L hP' hL' X
    change o = _ at ho
    subst ho
    have hLL : ∀ q ∈ locs ++ L, N.base ≤ q.base := fun q hq => by
      rcases List.mem_append.mp hq with hq | hq
      · exact hL q hq
      · exact hL' q hq
    obtain ⟨vs, hvs⟩ := hthr y rfl
    change h'[h'.length - 1]? = _ at hvs
    have hcl := hP'.2.2.2 _ _ hvs
    unfold mm_aft at haft
    dsimp only at haft
    change Stand p l e R s m args below meth c U (locs ++ L) (cells + (h'.length - hh.length)) (slots + (mm_w h' - mm_w hh)) at X
    rw [ec, es] at X
    split at haft
    · rename_i t ht
      have hx4 : y < 4 := by
        unfold mm_hd at ht
        obtain ⟨q, hq, -⟩ := Option.map_eq_some_iff.mp ht
        have h1 := List.find?_some hq
        have h2 := (hhtl q (List.mem_of_find?_eq_some hq)).2.1
        simp only [Bool.and_eq_true, decide_eq_true_eq] at h1
        rw [← h1.2]
        exact h2
      rcases hcl with ⟨h3, -⟩ | ⟨-, h3, -⟩ | ⟨-, cell, h4, h5, h6⟩
      · exact absurd h3 (by show ¬ 20 + y < 10; omega)
      · exact absurd h3 (by show ¬ 20 + y < 20; omega)
      · obtain ⟨vm', X', st1⟩ := mm_caught X hown hG htab (fun q hq => ⟨(hhtl q hq).1, (hhtl q hq).2.1, hts _ (hhtl q hq).2.2⟩) h4 h6 hx4 (by rw [h5]; show N.Y (20 + y - 20) = _; rw [Nat.add_sub_cancel_left]) (g := mm_F N m pc ls rest) rfl ht
        obtain ⟨t2, q1, q2⟩ := ih (t, ls, [.ref (h'.length - 1)], h') haft U.heap (locs ++ L) _ _ hP' rfl rfl hle2 hLL hls (U.setVm vm') rfl X'
        exact ⟨t2, st1 t2 q1, q2⟩
    · obtain ⟨hno, rfl⟩ := haft
      obtain ⟨g1, g2, g3, g4, g5⟩ := X.leaveThrown (N.base + (h'.length - 1)) (g := mm_F N m pc ls rest) rfl rfl rfl (by rw [htab]; exact mm_no_out hno) hlocks
      exact ⟨_, g1, _, g2, g3, rfl, hP'.moved g4.alike, g4, locs ++ L, g5, hLL⟩

set_option maxHeartbeats 4000000 in
theorem mm_frame {N : mm_N} {d j : Nat} (F : mm_Fx p l R s m args meth c N d j) (IH : ∀ x as h rr, x < 104 → mm_cal N.z d x as h rr → as.all (fun v => v.category == 1) = true → as.length ≤ mm_ml x → mm_Met l N d x as h rr) {h0 : mm_H} :
    ∀ (n : Nat) (S : mm_S) (r : mm_R), mm_run N.z (mm_cal N.z d) j n S r → r.2.length - h0.length ≤ R.cells → mm_w r.2 - mm_w h0 ≤ R.slots → ∀ (H : Heap) (locs : List Loc) (cells slots : Nat), mm_P N s S.2.2.2 H → cells = S.2.2.2.length - h0.length → slots = mm_w S.2.2.2 - mm_w h0 → mm_le h0 S.2.2.2 → (∀ q ∈ locs, N.base ≤ q.base) → S.2.1.length = mm_ml j →
      W p l e R s m args below meth c H locs cells slots (mm_MQ N below h0 r args s) (mm_F N m S.1 S.2.1 S.2.2.1) := by
  intro n
  induction n with
  | zero => intro S r h; exact False.elim h
  | succ n ih =>
    rintro ⟨pc, ls, st, hh⟩ r hrun hrc hrs H locs cells slots hP hc hs hle hL hls
    have F0 := F
    obtain ⟨hexec, hb, hml, hown, hts, hrt, hlocks, hname, htab, hhtl, hG, hl, hRf, hRl⟩ := F
    change mm_do (mm_cal N.z d) j pc (mm_run N.z (mm_cal N.z d) j n) r (mm_step N.z j (pc, ls, st, hh)) at hrun
    unfold mm_step at hrun
    split at hrun
    case h_2 => exact False.elim hrun
    case h_1 ei hat =>
    obtain ⟨hdec, hlen, hlk⟩ := mm_at_chk hat
    obtain ⟨i, n', x, y⟩ := ei
    dsimp only at hdec hlen hlk hrun hP hc hs hle hls
    have hmono : ∀ S, mm_run N.z (mm_cal N.z d) j n S r → mm_endOk S.2.2.2 r := fun S h => mm_run_ok (mm_cal_ok d) n S r h
    have ih2 : ∀ S, mm_run N.z (mm_cal N.z d) j n S r → ∀ (H : Heap) (locs : List Loc) (cells slots : Nat), mm_P N s S.2.2.2 H → cells = S.2.2.2.length - h0.length → slots = mm_w S.2.2.2 - mm_w h0 → mm_le h0 S.2.2.2 → (∀ q ∈ locs, N.base ≤ q.base) → S.2.1.length = mm_ml j → W p l e R s m args below meth c H locs cells slots (mm_MQ N below h0 r args s) (mm_F N m S.1 S.2.1 S.2.2.1) := fun S h => ih S r h hrc hrs
    have kk : ∀ n2 ls2 st2, ls2.length = ls.length → mm_run N.z (mm_cal N.z d) j n (n2, ls2, st2, hh) r → W p l e R s m args below meth c H locs cells slots (mm_MQ N below h0 r args s) (mm_F N m n2 ls2 st2) := fun n2 ls2 st2 hl2 h => ih2 _ h H locs cells slots hP hc hs hle hL (hl2.trans hls)
    have kw : ∀ H' lo n2 ls2 st2 h', mm_P N s h' H' → N.base ≤ lo.base → h'.length = hh.length → mm_w h' = mm_w hh → ls2.length = ls.length → mm_run N.z (mm_cal N.z d) j n (n2, ls2, st2, h') r → W p l e R s m args below meth c H' (locs ++ [lo]) cells slots (mm_MQ N below h0 r args s) (mm_F N m n2 ls2 st2) := fun H' lo n2 ls2 st2 h' hP' hlo e1 e2 hl2 h => ih2 _ h H' (locs ++ [lo]) cells slots hP' (by rw [hc]; show _ = h'.length - _; rw [e1]) (by rw [hs]; show _ = mm_w h' - _; rw [e2]) ⟨by show _ ≤ h'.length; rw [e1]; exact hle.1, by show _ ≤ mm_w h'; rw [e2]; exact hle.2⟩ (fun q hq => by
      rcases List.mem_append.mp hq with hq | hq
      · exact hL q hq
      · rw [List.mem_singleton.mp hq]; exact hlo) (hl2.trans hls)
    have a1 := hle.1
    have a2 := hle.2
    have kn : ∀ H' n2 ls2 st2 (q : mm_C), mm_P N s (hh ++ [q]) H' → ls2.length = ls.length → mm_run N.z (mm_cal N.z d) j n (n2, ls2, st2, hh ++ [q]) r → W p l e R s m args below meth c H' locs (cells + 1) (slots + q.2.length) (mm_MQ N below h0 r args s) (mm_F N m n2 ls2 st2) := fun H' n2 ls2 st2 q hP' hl2 h => ih2 _ h H' locs _ _ hP' (by show cells + 1 = (hh ++ [q]).length - _; rw [hc, List.length_append]; show _ = hh.length + 1 - _; omega) (by show slots + q.2.length = mm_w (hh ++ [q]) - _; rw [hs, mm_w_push]; omega) (hle.trans (mm_le.push _ _)) hL (hl2.trans hls)
    have hR : ∀ n2 ls2 st2 (q : mm_C), mm_run N.z (mm_cal N.z d) j n (n2, ls2, st2, hh ++ [q]) r → cells + 1 ≤ R.cells ∧ slots + q.2.length ≤ R.slots := fun n2 ls2 st2 q h => by
      obtain ⟨⟨b1, b2⟩, -⟩ := hmono _ h
      dsimp only at b1 b2
      rw [List.length_append] at b1
      rw [mm_w_push] at b2
      have b1' : hh.length + 1 ≤ r.2.length := b1
      constructor <;> omega
    cases i
    case iconst v =>
      obtain ⟨rfl, hd⟩ := mm_dec1 1 hdec hlen rfl (by decide)
      exact mm_s_iconst hexec hb hd hrun kk
    case bipush v =>
      obtain ⟨rfl, hd⟩ := mm_dec1 2 hdec hlen rfl (by decide)
      exact mm_s_bipush hexec hb hd hrun kk
    case sipush v =>
      obtain ⟨rfl, hd⟩ := mm_dec1 3 hdec hlen rfl (by decide)
      exact mm_s_sipush hexec hb hd hrun kk
    case lconst v =>
      obtain ⟨rfl, hd⟩ := mm_dec1 1 hdec hlen rfl (by decide)
      exact mm_s_lconst hexec hb hd hrun kk
    case aconst_null  =>
      obtain ⟨rfl, hd⟩ := mm_dec1 1 hdec hlen rfl (by decide)
      exact mm_s_null hexec hb hd hrun kk
    case iload_n k =>
      obtain ⟨rfl, hd⟩ := mm_dec1 1 hdec hlen rfl (by decide)
      exact mm_s_iload_n hexec hb hd hrun kk
    case iload k =>
      obtain ⟨rfl, hd⟩ := mm_dec1 2 hdec hlen rfl (by decide)
      exact mm_s_iload hexec hb hd hrun kk
    case aload_n k =>
      obtain ⟨rfl, hd⟩ := mm_dec1 1 hdec hlen rfl (by decide)
      exact mm_s_aload_n hexec hb hd hrun kk
    case aload k =>
      obtain ⟨rfl, hd⟩ := mm_dec1 2 hdec hlen rfl (by decide)
      exact mm_s_aload hexec hb hd hrun kk
    case istore_n k =>
      obtain ⟨rfl, hd⟩ := mm_dec1 1 hdec hlen rfl (by decide)
      exact mm_s_istore_n hexec hb hd hrun kk
    case istore k =>
      obtain ⟨rfl, hd⟩ := mm_dec1 2 hdec hlen rfl (by decide)
      exact mm_s_istore hexec hb hd hrun kk
    case astore_n k =>
      obtain ⟨rfl, hd⟩ := mm_dec1 1 hdec hlen rfl (by decide)
      exact mm_s_astore_n hexec hb hd hrun kk
    case astore k =>
      obtain ⟨rfl, hd⟩ := mm_dec1 2 hdec hlen rfl (by decide)
      exact mm_s_astore hexec hb hd hrun kk
    case iinc k v =>
      obtain ⟨rfl, hd⟩ := mm_dec1 3 hdec hlen rfl (by decide)
      exact mm_s_iinc hexec hb hd hrun kk
    case iadd  =>
      obtain ⟨rfl, hd⟩ := mm_dec1 1 hdec hlen rfl (by decide)
      exact mm_s_iadd hexec hb hd hrun kk
    case isub  =>
      obtain ⟨rfl, hd⟩ := mm_dec1 1 hdec hlen rfl (by decide)
      exact mm_s_isub hexec hb hd hrun kk
    case imul  =>
      obtain ⟨rfl, hd⟩ := mm_dec1 1 hdec hlen rfl (by decide)
      exact mm_s_imul hexec hb hd hrun kk
    case iand  =>
      obtain ⟨rfl, hd⟩ := mm_dec1 1 hdec hlen rfl (by decide)
      exact mm_s_iand hexec hb hd hrun kk
    case ishr  =>
      obtain ⟨rfl, hd⟩ := mm_dec1 1 hdec hlen rfl (by decide)
      exact mm_s_ishr hexec hb hd hrun kk
    case idiv  =>
      obtain ⟨rfl, hd⟩ := mm_dec1 1 hdec hlen rfl (by decide)
      exact mm_s_idiv hexec hb hd hrun kk
    case irem  =>
      obtain ⟨rfl, hd⟩ := mm_dec1 1 hdec hlen rfl (by decide)
      exact mm_s_irem hexec hb hd hrun kk
    case i2l  =>
      obtain ⟨rfl, hd⟩ := mm_dec1 1 hdec hlen rfl (by decide)
      exact mm_s_i2l hexec hb hd hrun kk
    case lcmp  =>
      obtain ⟨rfl, hd⟩ := mm_dec1 1 hdec hlen rfl (by decide)
      exact mm_s_lcmp hexec hb hd hrun kk
    case dup  =>
      obtain ⟨rfl, hd⟩ := mm_dec1 1 hdec hlen rfl (by decide)
      exact mm_s_dup hexec hb hd hrun kk
    case dup2  =>
      obtain ⟨rfl, hd⟩ := mm_dec1 1 hdec hlen rfl (by decide)
      exact mm_s_dup2 hexec hb hd hrun kk
    case pop  =>
      obtain ⟨rfl, hd⟩ := mm_dec1 1 hdec hlen rfl (by decide)
      exact mm_s_pop hexec hb hd hrun kk
    case ifCond q off =>
      obtain ⟨rfl, hd⟩ := mm_dec1 3 hdec hlen rfl (by decide)
      exact mm_s_if hexec hb hd (of_decide_eq_true hlk) hrun kk
    case if_icmp q off =>
      obtain ⟨rfl, hd⟩ := mm_dec1 3 hdec hlen rfl (by decide)
      exact mm_s_icmp hexec hb hd (of_decide_eq_true hlk) hrun kk
    case if_acmp q off =>
      obtain ⟨rfl, hd⟩ := mm_dec1 3 hdec hlen rfl (by decide)
      exact mm_s_acmp hexec hb hd (of_decide_eq_true hlk) hrun kk
    case ifnull off =>
      obtain ⟨rfl, hd⟩ := mm_dec1 3 hdec hlen rfl (by decide)
      exact mm_s_ifnull hexec hb hd (of_decide_eq_true hlk) hrun kk
    case ifnonnull off =>
      obtain ⟨rfl, hd⟩ := mm_dec1 3 hdec hlen rfl (by decide)
      exact mm_s_ifnonnull hexec hb hd (of_decide_eq_true hlk) hrun kk
    case goto off =>
      obtain ⟨rfl, hd⟩ := mm_dec1 3 hdec hlen rfl (by decide)
      exact mm_s_goto hexec hb hd (of_decide_eq_true hlk) hrun kk
    case tableswitch d1 lo hi offs =>
      have hrun' : mm_do (mm_cal N.z d) j pc (mm_run N.z (mm_cal N.z d) j n) r (mm_exec N.z (.tableswitch d1 lo hi offs) (pc + (n' - pc)) x y pc ls st hh) := hrun
      exact mm_s_tsw hexec hb hdec hrun' kk
    case iaload =>
      obtain ⟨rfl, hd⟩ := mm_dec1 1 hdec hlen rfl (by decide)
      exact mm_s_iaload hexec hb hd hts hG hP hrun kk
    case baload =>
      obtain ⟨rfl, hd⟩ := mm_dec1 1 hdec hlen rfl (by decide)
      exact mm_s_baload hexec hb hd hts hG hP hrun kk
    case laload =>
      obtain ⟨rfl, hd⟩ := mm_dec1 1 hdec hlen rfl (by decide)
      exact mm_s_laload hexec hb hd hts hG hP hrun kk
    case aaload =>
      obtain ⟨rfl, hd⟩ := mm_dec1 1 hdec hlen rfl (by decide)
      exact mm_s_aaload hexec hb hd hts hG hP hrun kk
    case arraylength =>
      obtain ⟨rfl, hd⟩ := mm_dec1 1 hdec hlen rfl (by decide)
      exact mm_s_alen hexec hb hd hts hG hP hrun kk
    case iastore =>
      obtain ⟨rfl, hd⟩ := mm_dec1 1 hdec hlen rfl (by decide)
      exact mm_s_iastore hexec hb hd hts hG hP hrun kw
    case bastore =>
      obtain ⟨rfl, hd⟩ := mm_dec1 1 hdec hlen rfl (by decide)
      exact mm_s_bastore hexec hb hd hts hG hP hrun kw
    case lastore =>
      obtain ⟨rfl, hd⟩ := mm_dec1 1 hdec hlen rfl (by decide)
      exact mm_s_lastore hexec hb hd hts hG hP hrun kw
    case aastore =>
      obtain ⟨rfl, hd⟩ := mm_dec1 1 hdec hlen rfl (by decide)
      exact mm_s_aastore hexec hb hd hts hG hP hrun kw
    case newarray a =>
      obtain ⟨rfl, hd⟩ := mm_dec1 2 hdec hlen rfl (by decide)
      simp only [mm_lchk, Bool.and_eq_true, decide_eq_true_eq] at hlk
      refine mm_s_newarray hexec hb hd hts hG hP hlk.1.1 ⟨hlk.1.2, hlk.2⟩ ?_ hR hrun kn
      have h3 : x = 10 ∨ x = 11 ∨ x = 12 := by omega
      rcases h3 with rfl | rfl | rfl
      · rw [mm_ty_prim.1] at hlk; rw [← Option.some.inj hlk.1.1]; exact mm_arr_ok.1
      · rw [mm_ty_prim.2.1] at hlk; rw [← Option.some.inj hlk.1.1]; exact mm_arr_ok.2.1
      · rw [mm_ty_prim.2.2] at hlk; rw [← Option.some.inj hlk.1.1]; exact mm_arr_ok.2.2
    case anewarray k =>
      obtain ⟨rfl, hd⟩ := mm_dec1 3 hdec hlen rfl (by decide)
      simp only [mm_lchk, Bool.and_eq_true, decide_eq_true_eq] at hlk
      obtain ⟨hk, ⟨hlc, h13⟩, h15⟩ := hlk
      obtain ⟨kd1, kd2⟩ := mm_key_d j k hk
      have hw := mm_lcT_ok _ (List.contains_iff_mem.mp hlc)
      dsimp only at hw
      rw [kd1, kd2] at hw
      obtain ⟨r0, hr0, hty⟩ := mm_ty_ref x h13 h15
      have hcn : mm_cn (mm_comp x) = r0.1 := by
        have hlt := (mm_cls_ok _ _ hr0).1
        unfold mm_cn
        rw [if_pos (by omega), mm_on_cl _ _ hr0]
      rw [hcn] at hw
      have hao : va_AO r0.1 s := by
        have h3 : x = 13 ∨ x = 14 := by omega
        rcases h3 with rfl | rfl
        · cases hr0; exact hG.2.2.2.2.1.1
        · cases hr0; exact hG.2.2.2.2.1.2
      exact mm_s_anewarray hexec hb hd hts hG hP hown hr0 ⟨h13, h15⟩ hw hao hR hrun kn
    case new k =>
      obtain ⟨rfl, hd⟩ := mm_dec1 3 hdec hlen rfl (by decide)
      simp only [mm_lchk, Bool.and_eq_true, Bool.or_eq_true, decide_eq_true_eq] at hlk
      obtain ⟨hk, hlc, hor⟩ := hlk
      obtain ⟨kd1, kd2⟩ := mm_key_d j k hk
      have hw := mm_lcT_ok _ (List.contains_iff_mem.mp hlc)
      dsimp only at hw
      rw [kd1, kd2] at hw
      rcases hor with h5 | ⟨⟨h20, h24⟩, hthr⟩
      · have hex : ∃ r0, vwCl[x]? = some r0 := ⟨vwCl[x]'(by show x < 5; exact h5), List.getElem?_eq_getElem _⟩
        obtain ⟨r0, hr0⟩ := hex
        have hcn : mm_cn x = r0.1 := by
          unfold mm_cn
          rw [if_pos (by omega), mm_on_cl _ _ hr0]
        rw [hcn] at hw
        exact mm_s_new hexec hb hd hts hG hP hown hr0 hw hR hrun kn
      · obtain ⟨k0, rfl⟩ : ∃ k0, x = 20 + k0 := ⟨x - 20, by omega⟩
        rw [Nat.add_sub_cancel_left] at hthr
        simp only [mm_thr, Bool.and_eq_true, decide_eq_true_eq] at hthr
        obtain ⟨⟨⟨⟨hc0, hd3⟩, hd9⟩, hht⟩, hm⟩ := hthr
        split at hm
        · rename_i e0 is ic he0 hd4 hd6
          simp only [Bool.and_eq_true, decide_eq_true_eq] at hm
          obtain ⟨rfl, his⟩ := hm
          have hout : c.exceptionTable.toList = [] := by rw [htab, hht]; rfl
          have hown0 : s.vm.findClass "TabletLine" = some m.cls := by rw [hc0] at hown; exact hown
          have hb1 : hh.length + 1 ≤ r.2.length ∧ mm_w hh + 6 ≤ mm_w r.2 := by
            change mm_do _ j pc _ r (mm_new (pc + 3) (20 + k0) ls st hh) at hrun
            unfold mm_new at hrun
            rw [if_neg (by omega)] at hrun
            split at hrun
            · change r = _ at hrun
              subst hrun
              show hh.length + 1 ≤ (hh ++ [_]).length ∧ mm_w hh + 6 ≤ mm_w (hh ++ [_])
              rw [List.length_append, mm_w_push]
              exact ⟨Nat.le_refl _, Nat.le_refl _⟩
            · exact False.elim hrun
          exact mm_s_throw (k := k0) hexec hb hl (mm_hws hts) hG hP hown0 (by omega) he0 his hd hd3 hd4 hd6 hd9 hout (by rw [hls, hml]) (by omega) (by omega) hlocks hc hs hle hL (by omega) (by omega) hrun
        · cases hm
    case getfield k =>
      obtain ⟨rfl, hd⟩ := mm_dec1 3 hdec hlen rfl (by decide)
      simp only [mm_lchk, Bool.and_eq_true, decide_eq_true_eq] at hlk
      obtain ⟨kd1, kd2⟩ := mm_key_d j k hlk.1
      have hw := mm_lfT_ok _ (List.contains_iff_mem.mp hlk.2)
      dsimp only at hw
      rw [kd1, kd2] at hw
      exact mm_s_getfield hexec hb hd hts hG hP hown hw hrun kk
    case putfield k =>
      obtain ⟨rfl, hd⟩ := mm_dec1 3 hdec hlen rfl (by decide)
      simp only [mm_lchk, Bool.and_eq_true, Bool.or_eq_true, decide_eq_true_eq] at hlk
      obtain ⟨hk, hor⟩ := hlk
      obtain ⟨kd1, kd2⟩ := mm_key_d j k hk
      have hlf : mm_lf (mm_on (mm_cls j)) k x y := by
        have h1 : mm_lfT.contains (mm_key j k, x, y) = true := by
          rcases hor with h | h
          · exact h.1
          · exact h.1.1
        have hw := mm_lfT_ok _ (List.contains_iff_mem.mp h1)
        dsimp only at hw
        rw [kd1, kd2] at hw
        exact hw
      obtain ⟨r0, hr0, hy, hlinks⟩ := hlf
      have hlp : mm_lp (mm_on (mm_cls j)) k x y meth.name := by
        refine ⟨r0, hr0, hy, ?_⟩
        cases hfin : (r0.2.1 y).2.2.2 with
        | false => exact Or.inl ⟨rfl, hlinks⟩
        | true =>
          rcases hor with h | h
          · have h2 := h.2
            rw [hr0] at h2
            simp [hfin] at h2
          · have hw := mm_finT_ok _ (List.contains_iff_mem.mp h.1.2)
            dsimp only at hw
            rw [kd1, kd2] at hw
            obtain ⟨g1, g2, g3⟩ := hw r0 hr0 hfin
            exact Or.inr ⟨rfl, g1, by rw [hname]; exact h.2, g3⟩
      exact mm_s_putfield hexec hb hd hts hG hP hown hlp hrun kw
    case invokevirtual k =>
      obtain ⟨rfl, hd⟩ := mm_dec1 3 hdec hlen rfl (by decide)
      simp only [mm_lchk, Bool.and_eq_true, decide_eq_true_eq] at hlk
      obtain ⟨hk, ⟨hlm, hvi⟩, hy⟩ := hlk
      obtain ⟨kd1, kd2⟩ := mm_key_d j k hk
      have hw := mm_lmT_ok _ (List.contains_iff_mem.mp hlm)
      dsimp only at hw
      rw [kd1, kd2] at hw
      have hvi' := List.contains_iff_mem.mp hvi
      obtain ⟨hx104, hmlx, hcx⟩ := mm_vi_sz x hvi'
      obtain ⟨hinst, hsel⟩ := mm_viT_ok x hvi'
      have hk0 := mm_lk_ok x hx104
      obtain ⟨-, -, -, -, -, hpar, hnc⟩ := hk0
      change mm_do (mm_cal N.z d) j pc _ r (mm_invV (pc + 3) x y ls st hh) at hrun
      unfold mm_invV at hrun
      split at hrun
      · rename_i a as' has
        split at hrun
        · rename_i q hq
          split at hrun
          · rename_i hqc
            unfold mm_inv at hrun
            split at hrun
            · rename_i hcond
              obtain ⟨hyl, hwt, hcat⟩ := hcond
              have hlen2 : (st.take y).reverse.length = y := by rw [List.length_reverse, List.length_take]; omega
              have hcell := (hP.2.2.2 _ _ hq).obj (by omega)
              obtain ⟨r0, hr0, -, cellB, q1, q2, q3, -⟩ := hcell
              rw [hqc] at hr0 q2
              have hfc := (hG.1 _ _ hr0).2.1
              rw [mm_on_cl _ _ hr0, ← hnc] at hfc
              refine mm_s_call (as := (st.take y).reverse) (rest := st.drop y) F0 (fun rr h => IH _ _ _ _ hx104 h (by rw [List.all_reverse]; exact hcat) (by rw [hlen2]; omega)) (mm_lk_ok x hx104) hP hc hs hle hL hls hd hwt ?_ hrc hrs hmono hrun ih2
              intro T hT X
              have hsp := mm_split (mm_v N) st y
              rw [has] at hsp ⊢
              rw [has, List.length_cons] at hlen2
              exact mm_linkV X hexec hts hown (mm_lk_ok x hx104) hw hinst hsel (b := N.base + a) (cellB := cellB) (by rw [hT]; exact q1) q3 (by rw [q2]; exact hfc) (argsL := as'.map (mm_v N)) (rest := (st.drop y).map (mm_v N)) (by rw [hpar, List.length_map]; congr 1; omega) (g := mm_F N m pc ls st) rfl (by show st.map (mm_v N) = _; rw [hsp]; simp [mm_v]) (by rw [hb]; exact hd)
            · exact False.elim hrun
          · exact False.elim hrun
        · exact False.elim hrun
      · exact False.elim hrun
    case invokespecial k =>
      obtain ⟨rfl, hd⟩ := mm_dec1 3 hdec hlen rfl (by decide)
      simp only [mm_lchk, Bool.and_eq_true, decide_eq_true_eq] at hlk
      obtain ⟨hk, hor⟩ := hlk
      obtain ⟨kd1, kd2⟩ := mm_key_d j k hk
      by_cases hx0 : x = 1000
      · rw [if_pos hx0] at hor
        have hw := mm_loT_ok _ (List.contains_iff_mem.mp hor)
        dsimp only at hw
        rw [kd1, kd2] at hw
        exact mm_s_objInit hexec hb hd hts hG hP hown hx0 hw mm_jdk0.1 mm_jdk0.2 (by rw [hls, hml]) (by omega) (by omega) hrun kk
      · rw [if_neg hx0] at hor
        simp only [Bool.and_eq_true, decide_eq_true_eq] at hor
        obtain ⟨⟨hlm, hvi⟩, hy⟩ := hor
        have hw := mm_lmT_ok _ (List.contains_iff_mem.mp hlm)
        dsimp only at hw
        rw [kd1, kd2] at hw
        have hvi' := List.contains_iff_mem.mp hvi
        obtain ⟨hx104, hmlx⟩ := mm_in_sz x hvi'
        obtain ⟨hin, hinst, hcode⟩ := mm_inT_ok x hvi'
        have hk0 := mm_lk_ok x hx104
        obtain ⟨-, -, -, -, -, hpar, -⟩ := hk0
        change mm_do (mm_cal N.z d) j pc _ r (if x = 1000 then mm_obj (pc + 3) ls st hh else mm_invI (pc + 3) x y ls st hh) at hrun
        rw [if_neg hx0] at hrun
        unfold mm_invI at hrun
        split at hrun
        · rename_i a as' has
          unfold mm_inv at hrun
          split at hrun
          · rename_i hcond
            obtain ⟨hyl, hwt, hcat⟩ := hcond
            have hlen2 : (st.take y).reverse.length = y := by rw [List.length_reverse, List.length_take]; omega
            refine mm_s_call (as := (st.take y).reverse) (rest := st.drop y) F0 (fun rr h => IH _ _ _ _ hx104 h (by rw [List.all_reverse]; exact hcat) (by rw [hlen2]; omega)) (mm_lk_ok x hx104) hP hc hs hle hL hls hd hwt ?_ hrc hrs hmono hrun ih2
            intro T hT X
            have hsp := mm_split (mm_v N) st y
            rw [has] at hsp ⊢
            rw [has, List.length_cons] at hlen2
            exact mm_linkI X hexec hts hown (mm_lk_ok x hx104) hw hin hinst hcode (b := N.base + a) (argsL := as'.map (mm_v N)) (rest := (st.drop y).map (mm_v N)) (by rw [hpar, List.length_map]; congr 1; omega) (g := mm_F N m pc ls st) rfl (by show st.map (mm_v N) = _; rw [hsp]; simp [mm_v]) (by rw [hb]; exact hd)
          · exact False.elim hrun
        · exact False.elim hrun
    case invokestatic k =>
      obtain ⟨rfl, hd⟩ := mm_dec1 3 hdec hlen rfl (by decide)
      simp only [mm_lchk, Bool.and_eq_true, decide_eq_true_eq] at hlk
      obtain ⟨hk, hor⟩ := hlk
      obtain ⟨kd1, kd2⟩ := mm_key_d j k hk
      have hcle : cells ≤ R.cells ∧ slots ≤ R.slots := by
        obtain ⟨⟨b1, b2⟩, -⟩ := mm_run_ok (z := N.z) (j := j) (mm_cal_ok d) (n + 1) (pc, ls, st, hh) r (by change mm_do _ j pc _ r (mm_step N.z j (pc, ls, st, hh)); unfold mm_step; rw [hat]; exact hrun)
        dsimp only at b1 b2
        constructor <;> omega
      by_cases hx1 : x = 1001
      · rw [if_pos hx1] at hor
        have hw := mm_loT_ok _ (List.contains_iff_mem.mp hor)
        dsimp only at hw
        rw [kd1, kd2] at hw
        exact mm_s_mathMin hexec hb hd hts hG hP hown hx1 hw mm_jdk1.1 mm_jdk1.2.2.2.2 mm_jdk1.2.1 (by rw [hls, hml]) (by omega) (by omega) hcle.1 hcle.2 hrun kk
      · rw [if_neg hx1] at hor
        by_cases hx2 : x = 1002
        · rw [if_pos hx2] at hor
          have hw := mm_loT_ok _ (List.contains_iff_mem.mp hor)
          dsimp only at hw
          rw [kd1, kd2] at hw
          exact mm_s_mathAbs hexec hb hd hts hG hP hown hx2 hw mm_jdk1.2.2.1 mm_jdk1.2.2.2.2 mm_jdk1.2.2.2.1 (by rw [hls, hml]) (by omega) (by omega) hcle.1 hcle.2 hrun kk
        · rw [if_neg hx2] at hor
          simp only [Bool.and_eq_true, decide_eq_true_eq] at hor
          obtain ⟨⟨hlm, hvi⟩, hy⟩ := hor
          have hw := mm_lmT_ok _ (List.contains_iff_mem.mp hlm)
          dsimp only at hw
          rw [kd1, kd2] at hw
          have hvi' := List.contains_iff_mem.mp hvi
          obtain ⟨hx104, hmlx⟩ := mm_st_sz x hvi'
          have hst := mm_stT_ok x hvi'
          have hk0 := mm_lk_ok x hx104
          obtain ⟨-, -, -, -, -, hpar, -⟩ := hk0
          change mm_do (mm_cal N.z d) j pc _ r (if x = 1001 then mm_min (pc + 3) ls st hh else if x = 1002 then mm_abs (pc + 3) ls st hh else mm_inv (pc + 3) x y ls st hh) at hrun
          rw [if_neg hx1, if_neg hx2] at hrun
          unfold mm_inv at hrun
          split at hrun
          · rename_i hcond
            obtain ⟨hyl, hwt, hcat⟩ := hcond
            have hlen2 : (st.take y).reverse.length = y := by rw [List.length_reverse, List.length_take]; omega
            refine mm_s_call (as := (st.take y).reverse) (rest := st.drop y) F0 (fun rr h => IH _ _ _ _ hx104 h (by rw [List.all_reverse]; exact hcat) (by rw [hlen2]; omega)) (mm_lk_ok x hx104) hP hc hs hle hL hls hd hwt ?_ hrc hrs hmono hrun ih2
            intro T hT X
            exact mm_linkS X hexec hts hown (mm_lk_ok x hx104) hw hst (argsL := ((st.take y).reverse).map (mm_v N)) (rest := (st.drop y).map (mm_v N)) (by rw [hpar, List.length_map, hlen2, hy]) (g := mm_F N m pc ls st) rfl (mm_split (mm_v N) st y) (by rw [hb]; exact hd)
          · exact False.elim hrun
    case ireturn =>
      obtain ⟨rfl, hd⟩ := mm_dec1 1 hdec hlen rfl (by decide)
      have h1 : (x = 1 ∧ mm_rt j = some .int) ∨ (x = 2 ∧ mm_rt j = some .boolean) := of_decide_eq_true hlk
      refine mm_s_ireturn (x := x) hexec hb hd ?_ hlocks hP hc hs hL hrun
      rcases h1 with ⟨h1, h2⟩ | ⟨h1, h2⟩
      · exact Or.inl ⟨h1, by rw [hrt]; exact h2⟩
      · exact Or.inr ⟨by omega, by rw [hrt]; exact h2⟩
    case areturn =>
      obtain ⟨rfl, hd⟩ := mm_dec1 1 hdec hlen rfl (by decide)
      simp only [mm_lchk] at hlk
      split at hlk
      · rename_i nm hnm
        exact mm_s_areturn hexec hb hd (by rw [hrt]; exact hnm) (Or.inl ⟨_, rfl⟩) hlocks hP hc hs hL hrun
      · cases hlk
    case return_ =>
      obtain ⟨rfl, hd⟩ := mm_dec1 1 hdec hlen rfl (by decide)
      exact mm_s_vreturn hexec hb hd (by rw [hrt]; exact of_decide_eq_true hlk) hlocks hP hc hs hL hrun
    all_goals exact False.elim hrun
end MMS2
