/-! THE SMALL MACHINE's INSTRUCTIONS ARE THE JVM's: those that read, write or make cells -/
/-- the cell of the JVM at the address o is this cell -/
def mm_cell (N : mm_N) (q : mm_C) (o : Nat) (H : Heap) : Prop :=
  (q.1 < 10 ∧ ∃ r : vw_C, vwCl[q.1]? = some r ∧ q.2.length = r.2.2 ∧ t_OB o (N.D.1 q.1) r.2.2 (N.D.2 q.1) H (fun k => mm_v N (vp_V q.2 k))) ∨
  (10 ≤ q.1 ∧ q.1 < 20 ∧ (∃ ty : FieldType, mm_ty q.1 = some ty) ∧ H[o]? = some (arrV (N.X q.1) q.2.length (fun k => mm_v N (vp_V q.2 k)))) ∨
  (20 ≤ q.1 ∧ ∃ cell : Cell, H[o]? = some cell ∧ cell.cls = N.Y (q.1 - 20) ∧ cell.vm = .none)
/-- the heap from the first cell's address on is these cells; the script and the JDK's statics lie below -/
def mm_P (N : mm_N) (s : State) (h : mm_H) (H : Heap) : Prop := H.size = N.base + h.length ∧ (N.sa < N.base ∧ vx_Zq Bundle.tN "UNASSIGNED_STACK" Bundle.steD (fun q => N.base ≤ q) s H ∧ vx_Zq Bundle.tN "SUPPRESSED_SENTINEL" Bundle.listD (fun q => N.base ≤ q) s H) ∧ va_X N.sa N.z.1 N.z.2 s H ∧ ∀ (k : Nat) (q : mm_C), h[k]? = some q → mm_cell N q (N.base + k) H
/-- what the tables say of the classes -/
def mm_G (N : mm_N) (s : State) : Prop := (∀ (c : Nat) (r : vw_C), vwCl[c]? = some r → u_Kn s r.1 r.2.1 r.2.2 (N.D.1 c) (N.D.2 c)) ∧ (∀ (k : Nat) (ty : FieldType), mm_ty k = some ty → ArrOfT s (N.X k) ty ∧ va_RA s (N.X k) ty) ∧ (∀ k, k < 4 → s.vm.findClass (mm_xn k) = some (N.Y k)) ∧ (∀ k i, k < 4 → i < 4 → s.vm.assignable (N.Y k) (N.Y i) = decide (k = i)) ∧ (va_AO "TabletLine$Section" s ∧ va_AO "TabletLine$Train" s) ∧ ∀ e ∈ mm_strs, ∃ sa, vk_R "TabletLine" e.1 e.2 sa s
theorem mm_G.warm {N : mm_N} {u U : State} (hW : u.WarmedH U.vm) (h : mm_G N u) : mm_G N U :=
  ⟨fun c r hr => u_Kn_moved hW.alike (h.1 c r hr), fun k ty hk => ⟨arrOfT_moved hW.alike (h.2.1 k ty hk).1, (h.2.1 k ty hk).2.moved hW.alike⟩, fun k hk => by rw [hW.alike.findClass]; exact h.2.2.1 k hk, fun k i hk hi => by rw [hW.alike.assignable]; exact h.2.2.2.1 k i hk hi,
    ⟨va_AO.moved hW.alike h.2.2.2.2.1.1, va_AO.moved hW.alike h.2.2.2.2.1.2⟩, fun e he => by obtain ⟨sa, hs⟩ := h.2.2.2.2.2 e he; exact ⟨sa, vk_R.warm hW hs⟩⟩
theorem mm_P.moved {N : mm_N} {u U : State} {h : mm_H} {H : Heap} (hvm : u.vm.Alike U.vm) (hP : mm_P N u h H) : mm_P N U h H := ⟨hP.1, ⟨hP.2.1.1, vx_Zq.moved hvm hP.2.1.2.1, vx_Zq.moved hvm hP.2.1.2.2⟩, hP.2.2.1.moved hvm, hP.2.2.2⟩
theorem mm_cell.kept {N : mm_N} {q : mm_C} {o : Nat} {H H1 : Heap} (h : mm_cell N q o H) (hq : H1[o]? = H[o]?) : mm_cell N q o H1 := by
  rcases h with ⟨h1, r, h2, h3, h4⟩ | ⟨h1, h2, h3, h4⟩ | ⟨h1, cell, h2, h3⟩
  · exact Or.inl ⟨h1, r, h2, h3, h4.kept hq⟩
  · exact Or.inr (Or.inl ⟨h1, h2, h3, by rw [hq]; exact h4⟩)
  · exact Or.inr (Or.inr ⟨h1, cell, by rw [hq]; exact h2, h3⟩)
theorem mm_P.lt {N : mm_N} {s : State} {h : mm_H} {H : Heap} (hP : mm_P N s h H) {k : Nat} {q : mm_C} (hq : h[k]? = some q) : N.base + k < H.size := by
  have := (List.getElem?_eq_some_iff.mp hq).1
  rw [hP.1]; omega
theorem mm_P.below {N : mm_N} {s : State} {h : mm_H} {H H1 : Heap} (hP : mm_P N s h H) (oq : ∀ x : Nat, x < N.base → H1[x]? = H[x]?) : (N.sa < N.base ∧ vx_Zq Bundle.tN "UNASSIGNED_STACK" Bundle.steD (fun q => N.base ≤ q) s H1 ∧ vx_Zq Bundle.tN "SUPPRESSED_SENTINEL" Bundle.listD (fun q => N.base ≤ q) s H1) ∧ va_X N.sa N.z.1 N.z.2 s H1 :=
  ⟨⟨hP.2.1.1, hP.2.1.2.1.kept (fun a _ h => oq a (Nat.not_le.mp h)), hP.2.1.2.2.kept (fun a _ h => oq a (Nat.not_le.mp h))⟩, hP.2.2.1.kept (oq _ hP.2.1.1)⟩
theorem mm_P.set {N : mm_N} {s : State} {h : mm_H} {H H1 : Heap} (hP : mm_P N s h H) {k : Nat} {q q' : mm_C} (hq : h[k]? = some q) (hz : H1.size = H.size) (oq : ∀ x : Nat, x ≠ N.base + k → H1[x]? = H[x]?) (hc : mm_cell N q' (N.base + k) H1) : mm_P N s (h.set k q') H1 := by
  obtain ⟨b1, b2⟩ := hP.below (fun x hx => oq x (by omega))
  refine ⟨by rw [hz, hP.1, List.length_set], b1, b2, fun i x hi => ?_⟩
  by_cases hik : i = k
  · subst hik
    rw [List.getElem?_set_self (List.getElem?_eq_some_iff.mp hq).1] at hi
    cases hi
    exact hc
  · rw [List.getElem?_set_ne (Ne.symm hik)] at hi
    exact (hP.2.2.2 i x hi).kept (oq _ (by omega))
theorem mm_P.push {N : mm_N} {s : State} {h : mm_H} {H H1 : Heap} (hP : mm_P N s h H) {q : mm_C} (hz : H1.size = H.size + 1) (oq : ∀ x : Nat, x < H.size → H1[x]? = H[x]?) (hc : mm_cell N q (N.base + h.length) H1) : mm_P N s (h ++ [q]) H1 := by
  have h1 := hP.1
  obtain ⟨b1, b2⟩ := hP.below (fun x hx => oq x (by omega))
  refine ⟨by rw [hz, h1, List.length_append]; simp; omega, b1, b2, fun i x hi => ?_⟩
  by_cases hl : i < h.length
  · rw [List.getElem?_append_left hl] at hi
    exact (hP.2.2.2 i x hi).kept (oq _ (hP.lt hi))
  · rw [List.getElem?_append_right (by omega)] at hi
    have hi0 : i - h.length < 1 := (List.getElem?_eq_some_iff.mp hi).1
    have hi1 : i = h.length := by omega
    subst hi1
    rw [Nat.sub_self] at hi
    cases hi
    exact hc
theorem mm_el_inv {lo hi : Nat} {h : mm_H} {a : Nat} {i : Int32} {v : Value} (hv : mm_el lo hi h a i = some v) : ∃ q : mm_C, h[a]? = some q ∧ lo ≤ q.1 ∧ q.1 < hi ∧ ¬ i < 0 ∧ q.2[i.toNatClampNeg]? = some v := by
  unfold mm_el at hv
  split at hv
  · rename_i q hq
    split at hv
    · rename_i hc
      exact ⟨q, hq, hc.1, hc.2.1, hc.2.2, hv⟩
    · cases hv
  · cases hv
theorem mm_upd_eq {h : mm_H} {a : Nat} {q : mm_C} (hq : h[a]? = some q) (i : Nat) (v : Value) : mm_upd h a i v = h.set a (q.1, q.2.set i v) := by
  unfold mm_upd
  rw [hq]
/-- an array's cell, read -/
theorem mm_cell.arr {N : mm_N} {q : mm_C} {o : Nat} {H : Heap} (h : mm_cell N q o H) (h1 : 10 ≤ q.1) (h2 : q.1 < 20) : (∃ ty : FieldType, mm_ty q.1 = some ty) ∧ H[o]? = some (arrV (N.X q.1) q.2.length (fun k => mm_v N (vp_V q.2 k))) := by
  rcases h with ⟨h3, -⟩ | ⟨-, -, h3, h4⟩ | ⟨h3, -⟩
  · omega
  · exact ⟨h3, h4⟩
  · omega
/-- an object's cell, read -/
theorem mm_cell.obj {N : mm_N} {q : mm_C} {o : Nat} {H : Heap} (h : mm_cell N q o H) (h1 : q.1 < 10) : ∃ r : vw_C, vwCl[q.1]? = some r ∧ q.2.length = r.2.2 ∧ t_OB o (N.D.1 q.1) r.2.2 (N.D.2 q.1) H (fun k => mm_v N (vp_V q.2 k)) := by
  rcases h with ⟨-, h2⟩ | ⟨h3, -⟩ | ⟨h3, -⟩
  · exact h2
  · omega
  · omega
theorem mm_vV_set {N : mm_N} {vs : List Value} {i : Nat} (hi : i < vs.length) (v : Value) : updV (fun k => mm_v N (vp_V vs k)) i (mm_v N v) = fun k => mm_v N (vp_V (vs.set i v) k) := by
  funext k
  rw [← vp_updV_set hi v k]
  unfold updV
  split <;> rfl
theorem mm_cell.upd {N : mm_N} {q : mm_C} {o : Nat} {H H1 : Heap} (h : mm_cell N q o H) (h1 : 10 ≤ q.1) (h2 : q.1 < 20) {i : Nat} (hi : i < q.2.length) (v : Value) (hc : H1[o]? = some ((arrV (N.X q.1) q.2.length (fun k => mm_v N (vp_V q.2 k))).setSlot i (mm_v N v))) : mm_cell N (q.1, q.2.set i v) o H1 := by
  refine Or.inr (Or.inl ⟨h1, h2, (h.arr h1 h2).1, ?_⟩)
  rw [hc, arrV_store, mm_vV_set hi]
  simp
theorem mm_fits_ok {N : mm_N} {ty : FieldType} {v : Value} (h : mm_fits ty v = true) : narrow ty (mm_v N v) = mm_v N v ∧ fits ty (mm_v N v) = true := by
  cases v with
  | int x =>
    simp only [mm_fits, Bool.or_eq_true, Bool.and_eq_true, decide_eq_true_eq] at h
    rcases h with rfl | ⟨rfl, rfl | rfl⟩
    · exact ⟨rfl, rfl⟩
    · exact ⟨(by decide : narrow .boolean (.int 0) = .int 0), (by decide : fits .boolean (.int 0) = true)⟩
    · exact ⟨(by decide : narrow .boolean (.int 1) = .int 1), (by decide : fits .boolean (.int 1) = true)⟩
  | ref a => cases ty <;> first | (exact ⟨rfl, rfl⟩) | (simp [mm_fits, FieldType.isReference] at h)
  | null => cases ty <;> first | (exact ⟨rfl, rfl⟩) | (simp [mm_fits, FieldType.isReference] at h)
  | long x => cases h
  | float x => cases h
  | double x => cases h
  | retAddr x => cases h
theorem mm_arrV {cI : ClassId} {n : Nat} {f g : Nat → Value} (h : ∀ k, k < n → f k = g k) : arrV cI n f = arrV cI n g := by
  unfold arrV
  have h1 : (fun j : Fin n => f j.val) = fun j : Fin n => g j.val := funext fun j => h j.val j.isLt
  rw [h1]
theorem mm_v_default (N : mm_N) (ty : FieldType) : mm_v N (defaultValue ty) = defaultValue ty := by cases ty <;> rfl
/-- the same for writing: a final field by its own class's constructor alone -/
def mm_lp (own : String) (idx x y : Nat) (name : String) : Prop := ∃ r : vw_C, vwCl[x]? = some r ∧ y < r.2.2 ∧
  (((r.2.1 y).2.2.2 = false ∧ (Cond.fieldLink own idx (r.2.1 y).1 (r.2.1 y).2.1 (r.2.1 y).2.2.1 ∈ mm_ws ∨ ∃ host : String, Cond.fieldLinkNest own idx (r.2.1 y).1 (r.2.1 y).2.1 (r.2.1 y).2.2.1 host ∈ mm_ws)) ∨
   ((r.2.1 y).2.2.2 = true ∧ (r.2.1 y).1 = own ∧ name = "<init>" ∧ Cond.fieldLink own idx (r.2.1 y).1 (r.2.1 y).2.1 (r.2.1 y).2.2.1 ∈ mm_ws))
section MMH
variable {p : Program} {l : Launch} {e : Env} {R : Room} {s : State} {m : MethodId} {args : Array Value} {below : List Frame} {meth : Method} {c : Code} {H : Heap} {locs : List Loc} {cells slots : Nat} {Q : State → Prop}
variable {cc : ByteArray} {pc : Nat} {N : mm_N} {C : Nat → List Value → mm_H → mm_R → Prop} {j x y : Nat} {K : mm_S → mm_R → Prop} {r : mm_R} {hh : mm_H} {ls : List Slot} {st : List Value} {own : String}
/-- the classes' slots are apart -/
theorem mm_apart (hts : ∀ w ∈ mm_ws, w.before args s = true) (hG : mm_G N s) {ci : Nat} {q : vw_C} (hc : vwCl[ci]? = some q) : ∀ x y, x < q.2.2 → y < q.2.2 → x ≠ y → (N.D.2 ci) x ≠ (N.D.2 ci) y := by
  intro x y hx hy hne
  obtain ⟨-, hty, hnm, hin, -⟩ := mm_cls_ok ci q hc
  obtain ⟨hS, -⟩ := hG.1 ci q hc
  obtain ⟨_, _, _, fa, hia, ea⟩ := hS x hx
  obtain ⟨_, _, _, fb, hib, eb⟩ := hS y hy
  rw [← ea, ← eb]
  refine u_apart (u_lays hts hin hx) (u_lays hts hin hy) hia hib ?_
  rw [(State.fieldFound?_type hia (hty x hx)).1, (State.fieldFound?_type hib (hty y hy)).1]
  exact hnm x hx y hy hne

theorem mm_s_iaload (hx : p.tables.exec = Jvm.exec) (hb : c.code = cc) (hd : decode cc pc = .ok (.iaload, 1)) (hts : ∀ w ∈ mm_ws, w.before args s = true) (hG : mm_G N s) (hP : mm_P N s hh H) (hr : mm_do C j pc K r (mm_exec N.z (.iaload) (pc + 1) x y pc ls st hh)) (kk : ∀ n' ls' st', ls'.length = ls.length → K (n', ls', st', hh) r → W p l e R s m args below meth c H locs cells slots Q (mm_F N m n' ls' st')) : W p l e R s m args below meth c H locs cells slots Q (mm_F N m pc ls st) := by
  change mm_do C j pc K r (mm_iald N.z (pc + 1) ls st hh) at hr
  unfold mm_iald at hr
  split at hr
  · rename_i i a st'
    split at hr
    · rename_i hc
      obtain ⟨scr, h1, h2, h3, h4, h5⟩ := hP.2.2.1
      exact W.iald (v := .int (N.z.2 i.toNatClampNeg)) hx hb h1 h2 h3 (by rw [h4]; rintro (q | q); exact hc.1 q; omega) (h5 _ hc.2) rfl rfl hd (kk _ _ _ rfl hr)
    · exact False.elim hr
  · rename_i i a st'
    split at hr
    · rename_i v hv
      obtain ⟨q, hq, l1, l2, h0, hv'⟩ := mm_el_inv hv
      have hlt : i.toNatClampNeg < q.2.length := (List.getElem?_eq_some_iff.mp hv').1
      have hc := ((hP.2.2.2 _ _ hq).arr (by omega) (by omega)).2
      have hk : q.1 = 10 := by omega
      rw [hk] at hc
      exact W.iald (v := mm_v N v) hx hb hc ((hG.2.1 10 .int mm_ty_prim.1).1 _ _) (fun q => by cases q) (by rw [arrV_size]; rintro (q | q); exact h0 q; omega) (by rw [arrV_read _ _ hlt]; simp [vp_V, hv']) rfl rfl hd (kk _ _ _ rfl hr)
    · exact False.elim hr
  · exact False.elim hr
theorem mm_s_baload (hx : p.tables.exec = Jvm.exec) (hb : c.code = cc) (hd : decode cc pc = .ok (.baload, 1)) (hts : ∀ w ∈ mm_ws, w.before args s = true) (hG : mm_G N s) (hP : mm_P N s hh H) (hr : mm_do C j pc K r (mm_exec N.z (.baload) (pc + 1) x y pc ls st hh)) (kk : ∀ n' ls' st', ls'.length = ls.length → K (n', ls', st', hh) r → W p l e R s m args below meth c H locs cells slots Q (mm_F N m n' ls' st')) : W p l e R s m args below meth c H locs cells slots Q (mm_F N m pc ls st) := by
  change mm_do C j pc K r (mm_ald 11 12 (pc + 1) ls st hh) at hr
  unfold mm_ald at hr
  split at hr
  · rename_i i a st'
    split at hr
    · rename_i v hv
      obtain ⟨q, hq, l1, l2, h0, hv'⟩ := mm_el_inv hv
      have hlt : i.toNatClampNeg < q.2.length := (List.getElem?_eq_some_iff.mp hv').1
      have hc := ((hP.2.2.2 _ _ hq).arr (by omega) (by omega)).2
      have hk : q.1 = 11 := by omega
      rw [hk] at hc
      exact W.zald (v := mm_v N v) hx hb hc ((hG.2.1 11 .boolean mm_ty_prim.2.1).1 _ _) (fun q => by cases q) (by rw [arrV_size]; rintro (q | q); exact h0 q; omega) (by rw [arrV_read _ _ hlt]; simp [vp_V, hv']) rfl rfl hd (kk _ _ _ rfl hr)
    · exact False.elim hr
  · exact False.elim hr
theorem mm_s_laload (hx : p.tables.exec = Jvm.exec) (hb : c.code = cc) (hd : decode cc pc = .ok (.laload, 1)) (hts : ∀ w ∈ mm_ws, w.before args s = true) (hG : mm_G N s) (hP : mm_P N s hh H) (hr : mm_do C j pc K r (mm_exec N.z (.laload) (pc + 1) x y pc ls st hh)) (kk : ∀ n' ls' st', ls'.length = ls.length → K (n', ls', st', hh) r → W p l e R s m args below meth c H locs cells slots Q (mm_F N m n' ls' st')) : W p l e R s m args below meth c H locs cells slots Q (mm_F N m pc ls st) := by
  change mm_do C j pc K r (mm_ald 12 13 (pc + 1) ls st hh) at hr
  unfold mm_ald at hr
  split at hr
  · rename_i i a st'
    split at hr
    · rename_i v hv
      obtain ⟨q, hq, l1, l2, h0, hv'⟩ := mm_el_inv hv
      have hlt : i.toNatClampNeg < q.2.length := (List.getElem?_eq_some_iff.mp hv').1
      have hc := ((hP.2.2.2 _ _ hq).arr (by omega) (by omega)).2
      have hk : q.1 = 12 := by omega
      rw [hk] at hc
      exact W.lald (v := mm_v N v) hx hb hc ((hG.2.1 12 .long mm_ty_prim.2.2).1 _ _) (fun q => by cases q) (by rw [arrV_size]; rintro (q | q); exact h0 q; omega) (by rw [arrV_read _ _ hlt]; simp [vp_V, hv']) rfl rfl hd (kk _ _ _ rfl hr)
    · exact False.elim hr
  · exact False.elim hr
theorem mm_s_aaload (hx : p.tables.exec = Jvm.exec) (hb : c.code = cc) (hd : decode cc pc = .ok (.aaload, 1)) (hts : ∀ w ∈ mm_ws, w.before args s = true) (hG : mm_G N s) (hP : mm_P N s hh H) (hr : mm_do C j pc K r (mm_exec N.z (.aaload) (pc + 1) x y pc ls st hh)) (kk : ∀ n' ls' st', ls'.length = ls.length → K (n', ls', st', hh) r → W p l e R s m args below meth c H locs cells slots Q (mm_F N m n' ls' st')) : W p l e R s m args below meth c H locs cells slots Q (mm_F N m pc ls st) := by
  change mm_do C j pc K r (mm_ald 13 15 (pc + 1) ls st hh) at hr
  unfold mm_ald at hr
  split at hr
  · rename_i i a st'
    split at hr
    · rename_i v hv
      obtain ⟨q, hq, l1, l2, h0, hv'⟩ := mm_el_inv hv
      have hlt : i.toNatClampNeg < q.2.length := (List.getElem?_eq_some_iff.mp hv').1
      have hc := ((hP.2.2.2 _ _ hq).arr (by omega) (by omega)).2
      obtain ⟨r0, -, hty⟩ := mm_ty_ref q.1 l1 l2
      exact W.aald (v := mm_v N v) (ty := .object r0.1) hx hb hc ((hG.2.1 _ _ hty).1 _ _) rfl (fun q => by cases q) (by rw [arrV_size]; rintro (q | q); exact h0 q; omega) (by rw [arrV_read _ _ hlt]; simp [vp_V, hv']) rfl rfl hd (kk _ _ _ rfl hr)
    · exact False.elim hr
  · exact False.elim hr
theorem mm_s_iastore (hx : p.tables.exec = Jvm.exec) (hb : c.code = cc) (hd : decode cc pc = .ok (.iastore, 1)) (hts : ∀ w ∈ mm_ws, w.before args s = true) (hG : mm_G N s) (hP : mm_P N s hh H) (hr : mm_do C j pc K r (mm_exec N.z (.iastore) (pc + 1) x y pc ls st hh)) (kk : ∀ H' lo n' ls' st' h', mm_P N s h' H' → N.base ≤ lo.base → h'.length = hh.length → mm_w h' = mm_w hh → ls'.length = ls.length → K (n', ls', st', h') r → W p l e R s m args below meth c H' (locs ++ [lo]) cells slots Q (mm_F N m n' ls' st')) : W p l e R s m args below meth c H locs cells slots Q (mm_F N m pc ls st) := by
  change mm_do C j pc K r (mm_iast (pc + 1) ls st hh) at hr
  unfold mm_iast at hr
  split at hr
  · rename_i w i a st'
    split at hr
    · rename_i v hv
      obtain ⟨q, hq, l1, l2, h0, hv'⟩ := mm_el_inv hv
      have hlt : i.toNatClampNeg < q.2.length := (List.getElem?_eq_some_iff.mp hv').1
      have hcc := hP.2.2.2 _ _ hq
      have hc := (hcc.arr (by omega) (by omega)).2
      have hk : q.1 = 10 := by omega
      have hc' := hc
      rw [hk] at hc'
      refine W.iast hx hb hc' ((hG.2.1 10 .int mm_ty_prim.1).1 _ _) (fun q => by cases q) (by rw [arrV_size]; rintro (q | q); exact h0 q; omega) rfl rfl hd fun H1 e1 z1 o1 => ?_
      refine kk H1 _ _ _ _ _ ?_ (Nat.le_add_right _ _) (mm_upd_len _ _ _ _) (mm_w_upd _ _ _ _) rfl hr
      rw [mm_upd_eq hq]
      refine hP.set hq z1 o1 (hcc.upd (by omega) (by omega) hlt _ ?_)
      rw [e1, hk]
      rfl
    · exact False.elim hr
  · exact False.elim hr
theorem mm_s_lastore (hx : p.tables.exec = Jvm.exec) (hb : c.code = cc) (hd : decode cc pc = .ok (.lastore, 1)) (hts : ∀ w ∈ mm_ws, w.before args s = true) (hG : mm_G N s) (hP : mm_P N s hh H) (hr : mm_do C j pc K r (mm_exec N.z (.lastore) (pc + 1) x y pc ls st hh)) (kk : ∀ H' lo n' ls' st' h', mm_P N s h' H' → N.base ≤ lo.base → h'.length = hh.length → mm_w h' = mm_w hh → ls'.length = ls.length → K (n', ls', st', h') r → W p l e R s m args below meth c H' (locs ++ [lo]) cells slots Q (mm_F N m n' ls' st')) : W p l e R s m args below meth c H locs cells slots Q (mm_F N m pc ls st) := by
  change mm_do C j pc K r (mm_last (pc + 1) ls st hh) at hr
  unfold mm_last at hr
  split at hr
  · rename_i w i a st'
    split at hr
    · rename_i v hv
      obtain ⟨q, hq, l1, l2, h0, hv'⟩ := mm_el_inv hv
      have hlt : i.toNatClampNeg < q.2.length := (List.getElem?_eq_some_iff.mp hv').1
      have hcc := hP.2.2.2 _ _ hq
      have hc := (hcc.arr (by omega) (by omega)).2
      have hk : q.1 = 12 := by omega
      have hc' := hc
      rw [hk] at hc'
      refine W.last hx hb hc' ((hG.2.1 12 .long mm_ty_prim.2.2).1 _ _) (fun q => by cases q) (by rw [arrV_size]; rintro (q | q); exact h0 q; omega) rfl rfl hd fun H1 e1 z1 o1 => ?_
      refine kk H1 _ _ _ _ _ ?_ (Nat.le_add_right _ _) (mm_upd_len _ _ _ _) (mm_w_upd _ _ _ _) rfl hr
      rw [mm_upd_eq hq]
      refine hP.set hq z1 o1 (hcc.upd (by omega) (by omega) hlt _ ?_)
      rw [e1, hk]
      rfl
    · exact False.elim hr
  · exact False.elim hr
theorem mm_s_bastore (hx : p.tables.exec = Jvm.exec) (hb : c.code = cc) (hd : decode cc pc = .ok (.bastore, 1)) (hts : ∀ w ∈ mm_ws, w.before args s = true) (hG : mm_G N s) (hP : mm_P N s hh H) (hr : mm_do C j pc K r (mm_exec N.z (.bastore) (pc + 1) x y pc ls st hh)) (kk : ∀ H' lo n' ls' st' h', mm_P N s h' H' → N.base ≤ lo.base → h'.length = hh.length → mm_w h' = mm_w hh → ls'.length = ls.length → K (n', ls', st', h') r → W p l e R s m args below meth c H' (locs ++ [lo]) cells slots Q (mm_F N m n' ls' st')) : W p l e R s m args below meth c H locs cells slots Q (mm_F N m pc ls st) := by
  change mm_do C j pc K r (mm_zast (pc + 1) ls st hh) at hr
  unfold mm_zast at hr
  split at hr
  · rename_i w i a st'
    split at hr
    · rename_i v hv
      split at hr
      · rename_i hw
        obtain ⟨q, hq, l1, l2, h0, hv'⟩ := mm_el_inv hv
        have hlt : i.toNatClampNeg < q.2.length := (List.getElem?_eq_some_iff.mp hv').1
        have hcc := hP.2.2.2 _ _ hq
        have hc := (hcc.arr (by omega) (by omega)).2
        have hk : q.1 = 11 := by omega
        have hc' := hc
        rw [hk] at hc'
        refine W.zast hx hb hc' ((hG.2.1 11 .boolean mm_ty_prim.2.1).1 _ _) (fun q => by cases q) (by rw [arrV_size]; rintro (q | q); exact h0 q; omega) rfl rfl hd fun H1 e1 z1 o1 => ?_
        refine kk H1 _ _ _ _ _ ?_ (Nat.le_add_right _ _) (mm_upd_len _ _ _ _) (mm_w_upd _ _ _ _) rfl hr
        rw [mm_upd_eq hq]
        refine hP.set hq z1 o1 (hcc.upd (by omega) (by omega) hlt _ ?_)
        rw [e1, hk]
        rcases hw with rfl | rfl <;> rfl
      · exact False.elim hr
    · exact False.elim hr
  · exact False.elim hr
theorem mm_s_aastore (hx : p.tables.exec = Jvm.exec) (hb : c.code = cc) (hd : decode cc pc = .ok (.aastore, 1)) (hts : ∀ w ∈ mm_ws, w.before args s = true) (hG : mm_G N s) (hP : mm_P N s hh H) (hr : mm_do C j pc K r (mm_exec N.z (.aastore) (pc + 1) x y pc ls st hh)) (kk : ∀ H' lo n' ls' st' h', mm_P N s h' H' → N.base ≤ lo.base → h'.length = hh.length → mm_w h' = mm_w hh → ls'.length = ls.length → K (n', ls', st', h') r → W p l e R s m args below meth c H' (locs ++ [lo]) cells slots Q (mm_F N m n' ls' st')) : W p l e R s m args below meth c H locs cells slots Q (mm_F N m pc ls st) := by
  change mm_do C j pc K r (mm_aast (pc + 1) ls st hh) at hr
  unfold mm_aast at hr
  split at hr
  · rename_i w i a st'
    split at hr
    · rename_i q v hq hv
      split at hr
      · rename_i hcd
        obtain ⟨l1, l2, h0, hlt, hcomp⟩ := hcd
        have hcc := hP.2.2.2 _ _ hq
        have hc := (hcc.arr (by omega) (by omega)).2
        obtain ⟨r0, hr0, hty⟩ := mm_ty_ref q.1 l1 l2
        have hc10 : v.1 < 10 := by rw [hcomp]; exact (mm_cls_ok _ _ hr0).1
        obtain ⟨r1, hr1, -, cellV, g1, g2, g3, -⟩ := (hP.2.2.2 _ _ hv).obj hc10
        rw [hcomp] at g2
        have hcls := (hG.1 _ _ hr0).2
        obtain ⟨kA, comp, k1, k2, k3, -⟩ := (hG.2.1 _ _ hty).2
        have hce : comp = N.D.1 (mm_comp q.1) := Option.some.inj (k3.symm.trans hcls.1)
        subst hce
        obtain ⟨kC, hkC, -⟩ := hcls.2
        refine W.aast hx hb hc (fun q h => by cases h) (fun h => by cases h) k1 k2 rfl hkC ⟨h0, by rw [arrV_size]; exact hlt⟩ g1 (fun q h => by rw [g3] at h; cases h) (by rw [g2]; exact hkC) (by rw [g2]; exact va_assign hcls) rfl rfl hd fun H1 e1 z1 o1 => ?_
        refine kk H1 _ _ _ _ _ ?_ (Nat.le_add_right _ _) (mm_upd_len _ _ _ _) (mm_w_upd _ _ _ _) rfl hr
        rw [mm_upd_eq hq]
        refine hP.set hq z1 o1 (hcc.upd (by omega) (by omega) hlt _ ?_)
        rw [e1]
        rfl
      · exact False.elim hr
    · exact False.elim hr
  · exact False.elim hr
theorem mm_s_alen (hx : p.tables.exec = Jvm.exec) (hb : c.code = cc) (hd : decode cc pc = .ok (.arraylength, 1)) (hts : ∀ w ∈ mm_ws, w.before args s = true) (hG : mm_G N s) (hP : mm_P N s hh H) (hr : mm_do C j pc K r (mm_exec N.z (.arraylength) (pc + 1) x y pc ls st hh)) (kk : ∀ n' ls' st', ls'.length = ls.length → K (n', ls', st', hh) r → W p l e R s m args below meth c H locs cells slots Q (mm_F N m n' ls' st')) : W p l e R s m args below meth c H locs cells slots Q (mm_F N m pc ls st) := by
  change mm_do C j pc K r (mm_alen N.z (pc + 1) ls st hh) at hr
  unfold mm_alen at hr
  split at hr
  · obtain ⟨scr, h1, h2, h3, h4, h5⟩ := hP.2.2.1
    exact W.alen (n := Int32.ofNat N.z.1) hx hb h1 h2 (by rw [h4]) rfl rfl hd (kk _ _ _ rfl hr)
  · rename_i a st'
    split at hr
    · rename_i q hq
      split at hr
      · rename_i hk
        obtain ⟨⟨ty, hty⟩, hc⟩ := (hP.2.2.2 _ _ hq).arr hk.1 (by omega)
        exact W.alen (n := Int32.ofNat q.2.length) hx hb hc ((hG.2.1 _ _ hty).1 _ _) (by rw [arrV_size]) rfl rfl hd (kk _ _ _ rfl hr)
      · exact False.elim hr
    · exact False.elim hr
  · exact False.elim hr
theorem mm_s_newarray {at_ : ArrayType} (hx : p.tables.exec = Jvm.exec) (hb : c.code = cc) (hd : decode cc pc = .ok (.newarray at_, 2)) (hts : ∀ w ∈ mm_ws, w.before args s = true) (hG : mm_G N s) (hP : mm_P N s hh H) (hty : mm_ty x = some (newarray.typeOf at_)) (hx13 : 10 ≤ x ∧ x < 13) (haw : Cond.arrayClass (newarray.typeOf at_) ∈ mm_ws) (hR : ∀ n' ls' st' q, K (n', ls', st', hh ++ [q]) r → cells + 1 ≤ R.cells ∧ slots + q.2.length ≤ R.slots) (hr : mm_do C j pc K r (mm_exec N.z (.newarray at_) (pc + 2) x y pc ls st hh)) (kk : ∀ H' n' ls' st' q, mm_P N s (hh ++ [q]) H' → ls'.length = ls.length → K (n', ls', st', hh ++ [q]) r → W p l e R s m args below meth c H' locs (cells + 1) (slots + q.2.length) Q (mm_F N m n' ls' st')) : W p l e R s m args below meth c H locs cells slots Q (mm_F N m pc ls st) := by
  change mm_do C j pc K r (mm_newa (pc + 2) x ls st hh) at hr
  unfold mm_newa at hr
  split at hr
  · rename_i v st'
    split at hr
    · rename_i hv
      obtain ⟨hc, hs⟩ := hR _ _ _ _ hr
      have hz : mm_zero x = defaultValue (newarray.typeOf at_) ∧ componentBytes (newarray.typeOf at_) ≤ 8 := by
        have h3 : x = 10 ∨ x = 11 ∨ x = 12 := by omega
        rcases h3 with rfl | rfl | rfl
        · rw [mm_ty_prim.1] at hty; cases at_ <;> first | (cases hty; done) | exact ⟨rfl, by decide⟩
        · rw [mm_ty_prim.2.1] at hty; cases at_ <;> first | (cases hty; done) | exact ⟨rfl, by decide⟩
        · rw [mm_ty_prim.2.2] at hty; cases at_ <;> first | (cases hty; done) | exact ⟨rfl, by decide⟩
      refine va_newaK hx hb (hts _ haw) rfl hd rfl hv.1 rfl (Nat.le_trans (Nat.mul_le_mul hv.2 hz.2) (by decide)) hc (by simpa using hs) rfl fun H1 cA e1 z1 o1 hAr hNm => ?_
      have hcA : cA = N.X x := by
        have h2 := (hG.2.1 _ _ hty).2
        have h3 : s.vm.findClass ("[" ++ (newarray.typeOf at_).toString) = some (N.X x) := by
          cases at_ <;> exact h2
        exact Option.some.inj (hNm.symm.trans h3)
      subst hcA
      have hcell : mm_cell N (x, List.replicate v.toNatClampNeg (mm_zero x)) (N.base + hh.length) H1 := by
        refine Or.inr (Or.inl ⟨hx13.1, by omega, ⟨_, hty⟩, ?_⟩)
        rw [← hP.1, e1]
        simp only [List.length_replicate]
        refine congrArg some (mm_arrV fun k hk => ?_)
        simp [vp_V, hk, hz.1, mm_v_default]
      have hk := kk H1 _ _ _ _ (hP.push z1 o1 hcell) rfl hr
      rw [hP.1]
      simp only [List.length_replicate] at hk
      exact hk
    · exact False.elim hr
  · exact False.elim hr
theorem mm_s_anewarray {idx : Nat} {r0 : vw_C} (hx : p.tables.exec = Jvm.exec) (hb : c.code = cc) (hd : decode cc pc = .ok (.anewarray idx, 3)) (hts : ∀ w ∈ mm_ws, w.before args s = true) (hG : mm_G N s) (hP : mm_P N s hh H) (hown : s.vm.findClass own = some m.cls) (hr0 : vwCl[mm_comp x]? = some r0) (hx13 : 13 ≤ x ∧ x < 15) (haw : Cond.classLink own idx r0.1 ∈ mm_ws) (hao : va_AO r0.1 s) (hR : ∀ n' ls' st' q, K (n', ls', st', hh ++ [q]) r → cells + 1 ≤ R.cells ∧ slots + q.2.length ≤ R.slots) (hr : mm_do C j pc K r (mm_exec N.z (.anewarray idx) (pc + 3) x y pc ls st hh)) (kk : ∀ H' n' ls' st' q, mm_P N s (hh ++ [q]) H' → ls'.length = ls.length → K (n', ls', st', hh ++ [q]) r → W p l e R s m args below meth c H' locs (cells + 1) (slots + q.2.length) Q (mm_F N m n' ls' st')) : W p l e R s m args below meth c H locs cells slots Q (mm_F N m pc ls st) := by
  change mm_do C j pc K r (mm_newa (pc + 3) x ls st hh) at hr
  unfold mm_newa at hr
  split at hr
  · rename_i v st'
    split at hr
    · rename_i hv
      obtain ⟨hc, hs⟩ := hR _ _ _ _ hr
      obtain ⟨r1, hr1, hty⟩ := mm_ty_ref x hx13.1 hx13.2
      cases hr0.symm.trans hr1
      have hz : mm_zero x = .null := by
        unfold mm_zero
        rw [if_neg (by omega), if_neg (by omega), if_neg (by omega)]
      refine W.anew hx hb hown (hts _ haw) (va_AO.use hao) rfl hd rfl hv.1 (by have := hv.2; omega) hc (by simpa using hs) fun cA kA comp f1 f2 f3 f4 => ?_
      have hcA : cA = N.X x := by
        obtain ⟨_, _, _, _, _, h2⟩ := (hG.2.1 _ _ hty).2
        exact Option.some.inj (f1.symm.trans h2)
      subst hcA
      generalize hH1 : H.push ({ cls := N.X x, slots := Array.replicate v.toNatClampNeg .null, vm := .none } : Cell) = H1
      have z1 : H1.size = H.size + 1 := by rw [← hH1, Array.size_push]
      have e1 : H1[H.size]? = some (arrV (N.X x) v.toNatClampNeg (fun _ => .null)) := by rw [← hH1, Array.getElem?_push_size, ← arrV_new]
      have o1 : ∀ q : Nat, q < H.size → H1[q]? = H[q]? := fun q hq => by rw [← hH1, Array.getElem?_push, if_neg (Nat.ne_of_lt hq)]
      have hcell : mm_cell N (x, List.replicate v.toNatClampNeg (mm_zero x)) (N.base + hh.length) H1 := by
        refine Or.inr (Or.inl ⟨by show 10 ≤ x; omega, by show x < 20; omega, ⟨_, hty⟩, ?_⟩)
        rw [← hP.1, e1]
        simp only [List.length_replicate]
        refine congrArg some (mm_arrV fun k hk => ?_)
        simp [vp_V, hk, hz, mm_v]
      have hk := kk H1 _ _ _ _ (hP.push z1 o1 hcell) rfl hr
      rw [hP.1]
      simp only [List.length_replicate] at hk
      exact hk
    · exact False.elim hr
  · exact False.elim hr
theorem mm_s_new {idx : Nat} {r0 : vw_C} (hx : p.tables.exec = Jvm.exec) (hb : c.code = cc) (hd : decode cc pc = .ok (.new idx, 3)) (hts : ∀ w ∈ mm_ws, w.before args s = true) (hG : mm_G N s) (hP : mm_P N s hh H) (hown : s.vm.findClass own = some m.cls) (hr0 : vwCl[x]? = some r0) (haw : Cond.classLink own idx r0.1 ∈ mm_ws) (hR : ∀ n' ls' st' q, K (n', ls', st', hh ++ [q]) r → cells + 1 ≤ R.cells ∧ slots + q.2.length ≤ R.slots) (hr : mm_do C j pc K r (mm_exec N.z (.new idx) (pc + 3) x y pc ls st hh)) (kk : ∀ H' n' ls' st' q, mm_P N s (hh ++ [q]) H' → ls'.length = ls.length → K (n', ls', st', hh ++ [q]) r → W p l e R s m args below meth c H' locs (cells + 1) (slots + q.2.length) Q (mm_F N m n' ls' st')) : W p l e R s m args below meth c H locs cells slots Q (mm_F N m pc ls st) := by
  change mm_do C j pc K r (mm_new (pc + 3) x ls st hh) at hr
  obtain ⟨hx10, hty, -, hin, hlen, hdef, hinst, hini⟩ := mm_cls_ok x r0 hr0
  unfold mm_new at hr
  rw [if_pos hx10] at hr
  obtain ⟨hc, hs⟩ := hR _ _ _ _ hr
  have hKn := hG.1 x r0 hr0
  refine W.newcK hx hb hown (hts _ haw) (hts _ hinst) (hts _ hini) rfl hd hc (by rw [← hlen]; exact hs) hKn.2.1 rfl fun H1 kC hkC e1 z1 o1 => ?_
  have hcell : mm_cell N (x, mm_dv x) (N.base + hh.length) H1 := by
    refine Or.inl ⟨hx10, r0, hr0, hlen, ?_⟩
    rw [← hP.1]
    exact (u_born (mm_ft x) hts hin hKn hkC e1 hty).to fun k hk => by rw [← hdef k hk, mm_v_default]
  have hk := kk H1 _ _ _ _ (hP.push z1 o1 hcell) rfl hr
  rw [hP.1, ← hlen]
  exact hk
theorem mm_s_getfield {idx : Nat} (hx : p.tables.exec = Jvm.exec) (hb : c.code = cc) (hd : decode cc pc = .ok (.getfield idx, 3)) (hts : ∀ w ∈ mm_ws, w.before args s = true) (hG : mm_G N s) (hP : mm_P N s hh H) (hown : s.vm.findClass own = some m.cls) (hf : mm_lf own idx x y) (hr : mm_do C j pc K r (mm_exec N.z (.getfield idx) (pc + 3) x y pc ls st hh)) (kk : ∀ n' ls' st', ls'.length = ls.length → K (n', ls', st', hh) r → W p l e R s m args below meth c H locs cells slots Q (mm_F N m n' ls' st')) : W p l e R s m args below meth c H locs cells slots Q (mm_F N m pc ls st) := by
  change mm_do C j pc K r (mm_get (pc + 3) x y ls st hh) at hr
  obtain ⟨r0, hr0, hy, hl⟩ := hf
  obtain ⟨hx10, -, -, hin, -⟩ := mm_cls_ok x r0 hr0
  unfold mm_get at hr
  split at hr
  · rename_i a st'
    split at hr
    · rename_i q hq
      split at hr
      · rename_i hqx
        split at hr
        · rename_i v hv
          subst hqx
          obtain ⟨r1, hr1, -, cell, q1, q2, q3, q4⟩ := (hP.2.2.2 _ _ hq).obj hx10
          cases hr0.symm.trans hr1
          obtain ⟨hS, hfc, kC, hkC, hkind⟩ := hG.1 _ _ hr0
          obtain ⟨cf, kf, fi, f, hi, hsl⟩ := hS y hy
          have hst := (u_facts hfc hkC (u_lays hts hin hy) hi).1
          have hslot : cell.slots[f.slot]? = some (mm_v N v) := by
            rw [hsl, q4 y hy]
            simp [vp_V, hv]
          rcases hl with hl | ⟨host, hl⟩
          · exact W.getf hx hb hown (hts _ hl) hi hst q1 (by rw [q3]; exact fun h => by cases h) hslot rfl rfl hd (kk _ _ _ rfl hr)
          · exact va_Wgetf hx hb hown (hts _ hl) hi hst q1 (by rw [q3]; exact fun h => by cases h) hslot rfl rfl hd (kk _ _ _ rfl hr)
        · exact False.elim hr
      · exact False.elim hr
    · exact False.elim hr
  · exact False.elim hr
theorem mm_s_putfield {idx : Nat} (hx : p.tables.exec = Jvm.exec) (hb : c.code = cc) (hd : decode cc pc = .ok (.putfield idx, 3)) (hts : ∀ w ∈ mm_ws, w.before args s = true) (hG : mm_G N s) (hP : mm_P N s hh H) (hown : s.vm.findClass own = some m.cls) (hf : mm_lp own idx x y meth.name) (hr : mm_do C j pc K r (mm_exec N.z (.putfield idx) (pc + 3) x y pc ls st hh)) (kk : ∀ H' lo n' ls' st' h', mm_P N s h' H' → N.base ≤ lo.base → h'.length = hh.length → mm_w h' = mm_w hh → ls'.length = ls.length → K (n', ls', st', h') r → W p l e R s m args below meth c H' (locs ++ [lo]) cells slots Q (mm_F N m n' ls' st')) : W p l e R s m args below meth c H locs cells slots Q (mm_F N m pc ls st) := by
  change mm_do C j pc K r (mm_put (pc + 3) x y ls st hh) at hr
  obtain ⟨r0, hr0, hy, hl⟩ := hf
  obtain ⟨hx10, hty, -, hin, -⟩ := mm_cls_ok x r0 hr0
  unfold mm_put at hr
  split at hr
  · rename_i v a st'
    split at hr
    · rename_i q hq
      split at hr
      · rename_i hcd
        obtain ⟨hqx, hyl, hfit⟩ := hcd
        subst hqx
        obtain ⟨r1, hr1, hlen, cell, q1, q2, q3, q4⟩ := (hP.2.2.2 _ _ hq).obj hx10
        cases hr0.symm.trans hr1
        obtain ⟨hS, hfc, kC, hkC, hkind⟩ := hG.1 _ _ hr0
        obtain ⟨cf, kf, fi, f, hi, hsl⟩ := hS y hy
        have hst := (u_facts hfc hkC (u_lays hts hin hy) hi).1
        obtain ⟨hn1, hn2⟩ := mm_fits_ok (N := N) hfit
        have hap := mm_apart hts hG hr0
        have hlt : f.slot < cell.slots.size := by rw [hsl]; exact k2_hasslot (q4 y hy)
        have fin : ∀ H1 : Heap, H1[N.base + a]? = some (cell.setSlot f.slot (mm_v N v)) → H1.size = H.size → (∀ x, x ≠ N.base + a → H1[x]? = H[x]?) → mm_P N s (mm_upd hh a y v) H1 := by
          intro H1 e1 z1 o1
          rw [mm_upd_eq hq]
          refine hP.set hq z1 o1 (Or.inl ⟨hx10, r0, hr0, by simpa using hlen, ?_⟩)
          rw [hsl] at e1
          exact t_OB.to (V := updV (fun k => mm_v N (vp_V q.2 k)) y (mm_v N v)) ⟨_, e1, q2, q3, t_set q4 hap hy _⟩ (fun k _ => by rw [mm_vV_set hyl])
        have hlay := hts _ (hin _ (u_in_lay hy))
        unfold u_lay at hlay
        rcases hl with ⟨hfin, hl⟩ | ⟨hfin, hdecl, hname, hl⟩
        · rw [if_neg (by rw [hfin]; decide)] at hlay
          have h6 := u_store hfc hkC hkind hlay hi (hty y hy) hn1 hn2
          rcases hl with hl | ⟨host, hl⟩
          · exact W.putK hx hb (f := f) ⟨hown, hts _ hl, ⟨_, _, _, hi⟩, hst⟩ (by rw [q2]; exact h6) q1 q3 hlt rfl rfl hd fun H1 e1 z1 o1 => kk H1 _ _ _ _ _ (fin H1 e1 z1 o1) (Nat.le_add_right _ _) (mm_upd_len _ _ _ _) (mm_w_upd _ _ _ _) rfl hr
          · exact va_WputK hx hb (f := f) hown (hts _ hl) hi hst (by rw [q2]; exact h6) q1 q3 hlt rfl rfl hd fun H1 e1 z1 o1 => kk H1 _ _ _ _ _ (fin H1 e1 z1 o1) (Nat.le_add_right _ _) (mm_upd_len _ _ _ _) (mm_w_upd _ _ _ _) rfl hr
        · rw [if_pos hfin] at hlay
          have hcf : m.cls = cf := by
            obtain ⟨_, _, c', _, _, _, -, -, hf', -, -, -, hown2, -⟩ := Cond.laysFinal_spec hlay
            have e1 : c' = cf := by have := hi.symm.trans hf'; simp at this; exact this.1.symm
            rw [hdecl] at hown2
            rw [← e1]; exact Option.some.inj (hown.symm.trans hown2)
          have h6 := u_fits hfc hkC hkind (Or.inr hlay) hi (hty y hy) hn1 hn2
          exact W.putFinK hx hb hown (hts _ hl) hi hst hcf hname (by rw [q2]; exact h6) q1 q3 hlt rfl rfl hd fun H1 e1 z1 o1 => kk H1 _ _ _ _ _ (fin H1 e1 z1 o1) (Nat.le_add_right _ _) (mm_upd_len _ _ _ _) (mm_w_upd _ _ _ _) rfl hr
      · exact False.elim hr
    · exact False.elim hr
  · exact False.elim hr
theorem mm_s_objInit {idx : Nat} (hx : p.tables.exec = Jvm.exec) (hb : c.code = cc) (hd : decode cc pc = .ok (.invokespecial idx, 3)) (hts : ∀ w ∈ mm_ws, w.before args s = true) (hG : mm_G N s) (hP : mm_P N s hh H) (hown : s.vm.findClass own = some m.cls) (hx0 : x = 1000) (h1 : Cond.methodLink own idx Lib.objectInit ∈ mm_ws) (h2 : Cond.instanceMethod Lib.objectInit ∈ mm_ws) (h3 : Cond.code Lib.objectInit ⟨#[0xb1]⟩ 1 none ∈ mm_ws) (hml : ls.length = c.maxLocals) (hRf : 1 ≤ R.frames) (hRl : 40 ≤ R.locals) (hr : mm_do C j pc K r (mm_exec N.z (.invokespecial idx) (pc + 3) x y pc ls st hh)) (kk : ∀ n' ls' st', ls'.length = ls.length → K (n', ls', st', hh) r → W p l e R s m args below meth c H locs cells slots Q (mm_F N m n' ls' st')) : W p l e R s m args below meth c H locs cells slots Q (mm_F N m pc ls st) := by
  change mm_do C j pc K r (if x = 1000 then mm_obj (pc + 3) ls st hh else mm_invI (pc + 3) x y ls st hh) at hr
  rw [if_pos hx0] at hr
  unfold mm_obj at hr
  split at hr
  · rename_i a st'
    split at hr
    · rename_i hw
      exact W.objInit hx hb hown (hts _ h1) (hts _ h2) (hts _ h3) rfl (by rw [mm_L_size]; exact hml) rfl hd hRf (by rw [mm_wt_map]; show 2 * 0 + _ + 12 ≤ _; omega) (kk _ _ _ rfl hr)
    · exact False.elim hr
  · exact False.elim hr
theorem mm_s_mathMin {idx : Nat} (hx : p.tables.exec = Jvm.exec) (hb : c.code = cc) (hd : decode cc pc = .ok (.invokestatic idx, 3)) (hts : ∀ w ∈ mm_ws, w.before args s = true) (hG : mm_G N s) (hP : mm_P N s hh H) (hown : s.vm.findClass own = some m.cls) (hx0 : x = 1001) (h1 : Cond.methodLink own idx Lib.Math.min.name ∈ mm_ws) (h2 : Cond.static Lib.Math.min.name ∈ mm_ws) (h3 : Cond.initialized "java/lang/Math" ∈ mm_ws) (h4 : Cond.code Lib.Math.min.name Lib.Math.min.code 2 (some .int) ∈ mm_ws) (hml : ls.length = c.maxLocals) (hRf : 1 ≤ R.frames) (hRl : 40 ≤ R.locals) (hc : cells ≤ R.cells) (hs : slots ≤ R.slots) (hr : mm_do C j pc K r (mm_exec N.z (.invokestatic idx) (pc + 3) x y pc ls st hh)) (kk : ∀ n' ls' st', ls'.length = ls.length → K (n', ls', st', hh) r → W p l e R s m args below meth c H locs cells slots Q (mm_F N m n' ls' st')) : W p l e R s m args below meth c H locs cells slots Q (mm_F N m pc ls st) := by
  change mm_do C j pc K r (if x = 1001 then mm_min (pc + 3) ls st hh else if x = 1002 then mm_abs (pc + 3) ls st hh else mm_inv (pc + 3) x y ls st hh) at hr
  rw [if_pos hx0] at hr
  unfold mm_min at hr
  split at hr
  · rename_i v w st'
    split at hr
    · rename_i hw
      exact va_mmin hx hb (by rw [mm_L_size]; exact hml.symm) hown (hts _ h1) (hts _ h2) (hts _ h3) (hts _ h4) hRf (by rw [mm_wt_map]; omega) hc hs hd (kk _ _ _ rfl hr)
    · exact False.elim hr
  · exact False.elim hr
theorem mm_s_mathAbs {idx : Nat} (hx : p.tables.exec = Jvm.exec) (hb : c.code = cc) (hd : decode cc pc = .ok (.invokestatic idx, 3)) (hts : ∀ w ∈ mm_ws, w.before args s = true) (hG : mm_G N s) (hP : mm_P N s hh H) (hown : s.vm.findClass own = some m.cls) (hx0 : x = 1002) (h1 : Cond.methodLink own idx Lib.Math.abs.name ∈ mm_ws) (h2 : Cond.static Lib.Math.abs.name ∈ mm_ws) (h3 : Cond.initialized "java/lang/Math" ∈ mm_ws) (h4 : Cond.code Lib.Math.abs.name Lib.Math.abs.code 1 (some .int) ∈ mm_ws) (hml : ls.length = c.maxLocals) (hRf : 1 ≤ R.frames) (hRl : 40 ≤ R.locals) (hc : cells ≤ R.cells) (hs : slots ≤ R.slots) (hr : mm_do C j pc K r (mm_exec N.z (.invokestatic idx) (pc + 3) x y pc ls st hh)) (kk : ∀ n' ls' st', ls'.length = ls.length → K (n', ls', st', hh) r → W p l e R s m args below meth c H locs cells slots Q (mm_F N m n' ls' st')) : W p l e R s m args below meth c H locs cells slots Q (mm_F N m pc ls st) := by
  change mm_do C j pc K r (if x = 1001 then mm_min (pc + 3) ls st hh else if x = 1002 then mm_abs (pc + 3) ls st hh else mm_inv (pc + 3) x y ls st hh) at hr
  rw [if_neg (by omega), if_pos hx0] at hr
  unfold mm_abs at hr
  split at hr
  · rename_i v st'
    split at hr
    · rename_i hw
      exact va_mabs hx hb (by rw [mm_L_size]; exact hml.symm) hown (hts _ h1) (hts _ h2) (hts _ h3) (hts _ h4) hRf (by rw [mm_wt_map]; omega) hc hs hd (kk _ _ _ rfl hr)
    · exact False.elim hr
  · exact False.elim hr
end MMH
