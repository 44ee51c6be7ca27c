/-! THE SMALL MACHINE's INSTRUCTIONS ARE THE JVM's: those that leave the cells as they are -/
/-- classes and slots; array classes; exceptions' classes; the first cell's address, the script's; the script -/
abbrev mm_N : Type := va_G × (Nat → ClassId) × (Nat → ClassId) × (Nat × Nat) × mm_Z
abbrev mm_N.D (N : mm_N) : va_G := N.1
abbrev mm_N.X (N : mm_N) : Nat → ClassId := N.2.1
abbrev mm_N.Y (N : mm_N) : Nat → ClassId := N.2.2.1
abbrev mm_N.base (N : mm_N) : Nat := N.2.2.2.1.1
abbrev mm_N.sa (N : mm_N) : Nat := N.2.2.2.1.2
abbrev mm_N.z (N : mm_N) : mm_Z := N.2.2.2.2
/-- a value of the small machine, as the JVM has it -/
def mm_v (N : mm_N) (v : Value) : Value := match v with
  | .ref k => .ref (N.base + k)
  | .retAddr _ => .ref N.sa
  | .int x => .int x
  | .long x => .long x
  | .float x => .float x
  | .double x => .double x
  | .null => .null
def mm_sl (N : mm_N) (x : Slot) : Slot := match x with
  | .val v => .val (mm_v N v)
  | .unset => .unset
  | .second => .second
abbrev mm_L (N : mm_N) (ls : List Slot) : Array Slot := (ls.map (mm_sl N)).toArray
abbrev mm_F (N : mm_N) (m : MethodId) (pc : Nat) (ls : List Slot) (st : List Value) : JFrame := F0 m pc (mm_L N ls) (st.map (mm_v N))
theorem mm_cat (N : mm_N) (v : Value) : (mm_v N v).category = v.category := by cases v <;> rfl
theorem mm_wt_map (N : mm_N) (st : List Value) : ((st.map (mm_v N)).map fun v => v.category).sum = mm_wt st := by
  rw [List.map_map]
  show _ = (st.map fun v => v.category).sum
  congr 1
  exact List.map_congr_left fun v _ => mm_cat N v
theorem mm_L_at (N : mm_N) (ls : List Slot) (k : Nat) : (mm_L N ls)[k]? = (ls[k]?).map (mm_sl N) := by simp
theorem mm_L_set (N : mm_N) (ls : List Slot) (k : Nat) (v : Value) : (mm_L N ls).setIfInBounds k (.val (mm_v N v)) = mm_L N (ls.set k (.val v)) := by
  simp [List.map_set, mm_sl]
theorem mm_L_size (N : mm_N) (ls : List Slot) : (mm_L N ls).size = ls.length := by simp
theorem mm_L_store {N : mm_N} {ls : List Slot} {k : Nat} {x : Slot} (v : Value) (hx : ls[k]? = some x) (h1 : mm_slot1 x = true) (hv : v.category = 1) : storeLocals (mm_L N ls) k (mm_v N v) = some (mm_L N (ls.set k (.val v))) := by
  rw [← mm_L_set]
  refine storeLocals_cat1 (x := mm_sl N x) (by rw [mm_L_at, hx]; rfl) (by rw [mm_cat]; exact hv) ?_
  cases x with
  | unset => trivial
  | second => cases h1
  | val w =>
    show (mm_v N w).category = 1
    rw [mm_cat]
    simpa [mm_slot1] using h1
section MMR
variable {p : Program} {l : Launch} {e : Env} {R : Room} {s : State} {m : MethodId} {args : Array Value} {below : List Frame} {meth : Method} {c : Code} {H : Heap} {locs : List Loc} {cells slots : Nat} {Q : State → Prop}
variable {cc : ByteArray} {pc : Nat} {N : mm_N} {z : mm_Z} {C : Nat → List Value → mm_H → mm_R → Prop} {j x y : Nat} {K : mm_S → mm_R → Prop} {r : mm_R} {hh : mm_H} {ls : List Slot} {st : List Value}
theorem mm_W_istore_n {k : Fin 4} {i : Nat} {v : Int32} {L L' : Array Slot} {S : List Value} (hexec : p.tables.exec = Jvm.exec) (hb : c.code = cc) (hdg : decode cc pc = .ok (.istore_n k, 1)) (hi : (k : Nat) = i) (e' : storeLocals L i (.int v) = some L') (kk : W p l e R s m args below meth c H locs cells slots Q (F0 m (pc + 1) L' S)) : W p l e R s m args below meth c H locs cells slots Q (F0 m pc L (.int v :: S)) := by
  subst hi
  intro T hT X
  obtain ⟨t, a, b⟩ := kk T hT X
  refine ⟨t, ?_, b⟩
  jvm_step X.here [X.here.top, ↓top_set X.here.top, hexec, hb, hdg, e']
  exact a
theorem mm_W_istore {i : Nat} {v : Int32} {L L' : Array Slot} {S : List Value} (hexec : p.tables.exec = Jvm.exec) (hb : c.code = cc) (hdg : decode cc pc = .ok (.istore i, 2)) (e' : storeLocals L i (.int v) = some L') (kk : W p l e R s m args below meth c H locs cells slots Q (F0 m (pc + 2) L' S)) : W p l e R s m args below meth c H locs cells slots Q (F0 m pc L (.int v :: S)) := by
  intro T hT X
  obtain ⟨t, a, b⟩ := kk T hT X
  refine ⟨t, ?_, b⟩
  jvm_step X.here [X.here.top, ↓top_set X.here.top, hexec, hb, hdg, e']
  exact a
theorem mm_W_astore_n {k : Fin 4} {i v : Nat} {L L' : Array Slot} {S : List Value} (hexec : p.tables.exec = Jvm.exec) (hb : c.code = cc) (hdg : decode cc pc = .ok (.astore_n k, 1)) (hi : (k : Nat) = i) (e' : storeLocals L i (.ref v) = some L') (kk : W p l e R s m args below meth c H locs cells slots Q (F0 m (pc + 1) L' S)) : W p l e R s m args below meth c H locs cells slots Q (F0 m pc L (.ref v :: S)) := by
  subst hi
  intro T hT X
  obtain ⟨t, a, b⟩ := kk T hT X
  refine ⟨t, ?_, b⟩
  jvm_step X.here [X.here.top, ↓top_set X.here.top, hexec, hb, hdg, e', Value.isRef]
  exact a
theorem mm_W_astore_nN {k : Fin 4} {i : Nat} {L L' : Array Slot} {S : List Value} (hexec : p.tables.exec = Jvm.exec) (hb : c.code = cc) (hdg : decode cc pc = .ok (.astore_n k, 1)) (hi : (k : Nat) = i) (e' : storeLocals L i .null = some L') (kk : W p l e R s m args below meth c H locs cells slots Q (F0 m (pc + 1) L' S)) : W p l e R s m args below meth c H locs cells slots Q (F0 m pc L (.null :: S)) := by
  subst hi
  intro T hT X
  obtain ⟨t, a, b⟩ := kk T hT X
  refine ⟨t, ?_, b⟩
  jvm_step X.here [X.here.top, ↓top_set X.here.top, hexec, hb, hdg, e', Value.isRef]
  exact a
theorem mm_W_astore {i v : Nat} {L L' : Array Slot} {S : List Value} (hexec : p.tables.exec = Jvm.exec) (hb : c.code = cc) (hdg : decode cc pc = .ok (.astore i, 2)) (e' : storeLocals L i (.ref v) = some L') (kk : W p l e R s m args below meth c H locs cells slots Q (F0 m (pc + 2) L' S)) : W p l e R s m args below meth c H locs cells slots Q (F0 m pc L (.ref v :: S)) := by
  intro T hT X
  obtain ⟨t, a, b⟩ := kk T hT X
  refine ⟨t, ?_, b⟩
  jvm_step X.here [X.here.top, ↓top_set X.here.top, hexec, hb, hdg, e', Value.isRef]
  exact a
theorem mm_W_astoreN {i : Nat} {L L' : Array Slot} {S : List Value} (hexec : p.tables.exec = Jvm.exec) (hb : c.code = cc) (hdg : decode cc pc = .ok (.astore i, 2)) (e' : storeLocals L i .null = some L') (kk : W p l e R s m args below meth c H locs cells slots Q (F0 m (pc + 2) L' S)) : W p l e R s m args below meth c H locs cells slots Q (F0 m pc L (.null :: S)) := by
  intro T hT X
  obtain ⟨t, a, b⟩ := kk T hT X
  refine ⟨t, ?_, b⟩
  jvm_step X.here [X.here.top, ↓top_set X.here.top, hexec, hb, hdg, e', Value.isRef]
  exact a
theorem mm_W_iinc {i : Nat} {n : Int} {v : Int32} {L L' : Array Slot} {S : List Value} (hexec : p.tables.exec = Jvm.exec) (hb : c.code = cc) (hdg : decode cc pc = .ok (.iinc i n, 3)) (hg : L[i]? = some (.val (.int v))) (e' : storeLocals L i (.int (v + Int32.ofInt n)) = some L') (kk : W p l e R s m args below meth c H locs cells slots Q (F0 m (pc + 3) L' S)) : W p l e R s m args below meth c H locs cells slots Q (F0 m pc L S) := by
  intro T hT X
  obtain ⟨t, a, b⟩ := kk T hT X
  refine ⟨t, ?_, b⟩
  jvm_step X.here [X.here.top, ↓top_set X.here.top, hexec, hb, hdg, hg, e']
  exact a

theorem mm_s_iconst {i : Int} (hx : p.tables.exec = Jvm.exec) (hb : c.code = cc) (hd : decode cc pc = .ok (.iconst i, 1)) (hr : mm_do C j pc K r (mm_exec z (.iconst i) (pc + 1) x y pc ls st hh)) (kk : ∀ n' ls' st', ls'.length = ls.length → K (n', ls', st', hh) r → W p l e R s m args below meth c H locs cells slots Q (mm_F N m n' ls' st')) : W p l e R s m args below meth c H locs cells slots Q (mm_F N m pc ls st) := by
  exact lv_iconst hx hb hd rfl (kk _ _ _ rfl hr)
theorem mm_s_bipush {i : Int} (hx : p.tables.exec = Jvm.exec) (hb : c.code = cc) (hd : decode cc pc = .ok (.bipush i, 2)) (hr : mm_do C j pc K r (mm_exec z (.bipush i) (pc + 2) x y pc ls st hh)) (kk : ∀ n' ls' st', ls'.length = ls.length → K (n', ls', st', hh) r → W p l e R s m args below meth c H locs cells slots Q (mm_F N m n' ls' st')) : W p l e R s m args below meth c H locs cells slots Q (mm_F N m pc ls st) := by
  exact lv_bipush hx hb hd rfl (kk _ _ _ rfl hr)
theorem mm_s_sipush {i : Int} (hx : p.tables.exec = Jvm.exec) (hb : c.code = cc) (hd : decode cc pc = .ok (.sipush i, 3)) (hr : mm_do C j pc K r (mm_exec z (.sipush i) (pc + 3) x y pc ls st hh)) (kk : ∀ n' ls' st', ls'.length = ls.length → K (n', ls', st', hh) r → W p l e R s m args below meth c H locs cells slots Q (mm_F N m n' ls' st')) : W p l e R s m args below meth c H locs cells slots Q (mm_F N m pc ls st) := by
  exact lv_sipush hx hb hd rfl (kk _ _ _ rfl hr)
theorem mm_s_lconst {i : Fin 2} (hx : p.tables.exec = Jvm.exec) (hb : c.code = cc) (hd : decode cc pc = .ok (.lconst i, 1)) (hr : mm_do C j pc K r (mm_exec z (.lconst i) (pc + 1) x y pc ls st hh)) (kk : ∀ n' ls' st', ls'.length = ls.length → K (n', ls', st', hh) r → W p l e R s m args below meth c H locs cells slots Q (mm_F N m n' ls' st')) : W p l e R s m args below meth c H locs cells slots Q (mm_F N m pc ls st) := by
  exact lv_lconst hx hb hd rfl (kk _ _ _ rfl hr)
theorem mm_s_null (hx : p.tables.exec = Jvm.exec) (hb : c.code = cc) (hd : decode cc pc = .ok (.aconst_null, 1)) (hr : mm_do C j pc K r (mm_exec z (.aconst_null) (pc + 1) x y pc ls st hh)) (kk : ∀ n' ls' st', ls'.length = ls.length → K (n', ls', st', hh) r → W p l e R s m args below meth c H locs cells slots Q (mm_F N m n' ls' st')) : W p l e R s m args below meth c H locs cells slots Q (mm_F N m pc ls st) := by
  exact lv_null hx hb hd (kk _ _ _ rfl hr)
theorem mm_s_iload_n {k : Fin 4} (hx : p.tables.exec = Jvm.exec) (hb : c.code = cc) (hd : decode cc pc = .ok (.iload_n k, 1)) (hr : mm_do C j pc K r (mm_exec z (.iload_n k) (pc + 1) x y pc ls st hh)) (kk : ∀ n' ls' st', ls'.length = ls.length → K (n', ls', st', hh) r → W p l e R s m args below meth c H locs cells slots Q (mm_F N m n' ls' st')) : W p l e R s m args below meth c H locs cells slots Q (mm_F N m pc ls st) := by
  change mm_do C j pc K r (mm_iload (pc + 1) k ls st hh) at hr
  unfold mm_iload at hr
  split at hr
  · rename_i v hv
    exact lv_iload_n hx hb hd rfl (by rw [mm_L_at, hv]; rfl) (kk _ _ _ rfl hr)
  · exact False.elim hr
theorem mm_s_iload {k : Nat} (hx : p.tables.exec = Jvm.exec) (hb : c.code = cc) (hd : decode cc pc = .ok (.iload k, 2)) (hr : mm_do C j pc K r (mm_exec z (.iload k) (pc + 2) x y pc ls st hh)) (kk : ∀ n' ls' st', ls'.length = ls.length → K (n', ls', st', hh) r → W p l e R s m args below meth c H locs cells slots Q (mm_F N m n' ls' st')) : W p l e R s m args below meth c H locs cells slots Q (mm_F N m pc ls st) := by
  change mm_do C j pc K r (mm_iload (pc + 2) k ls st hh) at hr
  unfold mm_iload at hr
  split at hr
  · rename_i v hv
    exact lv_iload hx hb hd (by rw [mm_L_at, hv]; rfl) (kk _ _ _ rfl hr)
  · exact False.elim hr
theorem mm_s_aload_n {k : Fin 4} (hx : p.tables.exec = Jvm.exec) (hb : c.code = cc) (hd : decode cc pc = .ok (.aload_n k, 1)) (hr : mm_do C j pc K r (mm_exec z (.aload_n k) (pc + 1) x y pc ls st hh)) (kk : ∀ n' ls' st', ls'.length = ls.length → K (n', ls', st', hh) r → W p l e R s m args below meth c H locs cells slots Q (mm_F N m n' ls' st')) : W p l e R s m args below meth c H locs cells slots Q (mm_F N m pc ls st) := by
  change mm_do C j pc K r (mm_aload (pc + 1) k ls st hh) at hr
  unfold mm_aload at hr
  split at hr
  · rename_i hv
    exact lv_aload_nN hx hb hd rfl (by rw [mm_L_at, hv]; rfl) (kk _ _ _ rfl hr)
  · rename_i v hv
    exact lv_aload_n (x := N.base + v) hx hb hd rfl (by rw [mm_L_at, hv]; rfl) (kk _ _ _ rfl hr)
  · rename_i v hv
    exact lv_aload_n (x := N.sa) hx hb hd rfl (by rw [mm_L_at, hv]; rfl) (kk _ _ _ rfl hr)
  · exact False.elim hr
theorem mm_s_aload {k : Nat} (hx : p.tables.exec = Jvm.exec) (hb : c.code = cc) (hd : decode cc pc = .ok (.aload k, 2)) (hr : mm_do C j pc K r (mm_exec z (.aload k) (pc + 2) x y pc ls st hh)) (kk : ∀ n' ls' st', ls'.length = ls.length → K (n', ls', st', hh) r → W p l e R s m args below meth c H locs cells slots Q (mm_F N m n' ls' st')) : W p l e R s m args below meth c H locs cells slots Q (mm_F N m pc ls st) := by
  change mm_do C j pc K r (mm_aload (pc + 2) k ls st hh) at hr
  unfold mm_aload at hr
  split at hr
  · rename_i hv
    exact lv_aloadN hx hb hd (by rw [mm_L_at, hv]; rfl) (kk _ _ _ rfl hr)
  · rename_i v hv
    exact lv_aload (x := N.base + v) hx hb hd (by rw [mm_L_at, hv]; rfl) (kk _ _ _ rfl hr)
  · rename_i v hv
    exact lv_aload (x := N.sa) hx hb hd (by rw [mm_L_at, hv]; rfl) (kk _ _ _ rfl hr)
  · exact False.elim hr
theorem mm_s_istore_n {k : Fin 4} (hx : p.tables.exec = Jvm.exec) (hb : c.code = cc) (hd : decode cc pc = .ok (.istore_n k, 1)) (hr : mm_do C j pc K r (mm_exec z (.istore_n k) (pc + 1) x y pc ls st hh)) (kk : ∀ n' ls' st', ls'.length = ls.length → K (n', ls', st', hh) r → W p l e R s m args below meth c H locs cells slots Q (mm_F N m n' ls' st')) : W p l e R s m args below meth c H locs cells slots Q (mm_F N m pc ls st) := by
  change mm_do C j pc K r (mm_istore (pc + 1) k ls st hh) at hr
  unfold mm_istore at hr
  split at hr
  · rename_i v st'
    unfold mm_set at hr
    split at hr
    · rename_i w hw
      split at hr
      · rename_i h1
        exact mm_W_istore_n hx hb hd rfl (mm_L_store (.int v) hw h1 rfl) (kk _ _ _ (by simp) hr)
      · exact False.elim hr
    · exact False.elim hr
  · exact False.elim hr
theorem mm_s_istore {k : Nat} (hx : p.tables.exec = Jvm.exec) (hb : c.code = cc) (hd : decode cc pc = .ok (.istore k, 2)) (hr : mm_do C j pc K r (mm_exec z (.istore k) (pc + 2) x y pc ls st hh)) (kk : ∀ n' ls' st', ls'.length = ls.length → K (n', ls', st', hh) r → W p l e R s m args below meth c H locs cells slots Q (mm_F N m n' ls' st')) : W p l e R s m args below meth c H locs cells slots Q (mm_F N m pc ls st) := by
  change mm_do C j pc K r (mm_istore (pc + 2) k ls st hh) at hr
  unfold mm_istore at hr
  split at hr
  · rename_i v st'
    unfold mm_set at hr
    split at hr
    · rename_i w hw
      split at hr
      · rename_i h1
        exact mm_W_istore hx hb hd (mm_L_store (.int v) hw h1 rfl) (kk _ _ _ (by simp) hr)
      · exact False.elim hr
    · exact False.elim hr
  · exact False.elim hr
theorem mm_s_astore_n {k : Fin 4} (hx : p.tables.exec = Jvm.exec) (hb : c.code = cc) (hd : decode cc pc = .ok (.astore_n k, 1)) (hr : mm_do C j pc K r (mm_exec z (.astore_n k) (pc + 1) x y pc ls st hh)) (kk : ∀ n' ls' st', ls'.length = ls.length → K (n', ls', st', hh) r → W p l e R s m args below meth c H locs cells slots Q (mm_F N m n' ls' st')) : W p l e R s m args below meth c H locs cells slots Q (mm_F N m pc ls st) := by
  change mm_do C j pc K r (mm_astore (pc + 1) k ls st hh) at hr
  unfold mm_astore at hr
  split at hr
  · rename_i v st'
    unfold mm_set at hr
    split at hr
    · rename_i w hw
      split at hr
      · rename_i h1
        exact mm_W_astore_n hx hb hd rfl (mm_L_store (.ref v) hw h1 rfl) (kk _ _ _ (by simp) hr)
      · exact False.elim hr
    · exact False.elim hr
  · rename_i st'
    unfold mm_set at hr
    split at hr
    · rename_i w hw
      split at hr
      · rename_i h1
        exact mm_W_astore_nN hx hb hd rfl (mm_L_store .null hw h1 rfl) (kk _ _ _ (by simp) hr)
      · exact False.elim hr
    · exact False.elim hr
  · exact False.elim hr
theorem mm_s_astore {k : Nat} (hx : p.tables.exec = Jvm.exec) (hb : c.code = cc) (hd : decode cc pc = .ok (.astore k, 2)) (hr : mm_do C j pc K r (mm_exec z (.astore k) (pc + 2) x y pc ls st hh)) (kk : ∀ n' ls' st', ls'.length = ls.length → K (n', ls', st', hh) r → W p l e R s m args below meth c H locs cells slots Q (mm_F N m n' ls' st')) : W p l e R s m args below meth c H locs cells slots Q (mm_F N m pc ls st) := by
  change mm_do C j pc K r (mm_astore (pc + 2) k ls st hh) at hr
  unfold mm_astore at hr
  split at hr
  · rename_i v st'
    unfold mm_set at hr
    split at hr
    · rename_i w hw
      split at hr
      · rename_i h1
        exact mm_W_astore hx hb hd (mm_L_store (.ref v) hw h1 rfl) (kk _ _ _ (by simp) hr)
      · exact False.elim hr
    · exact False.elim hr
  · rename_i st'
    unfold mm_set at hr
    split at hr
    · rename_i w hw
      split at hr
      · rename_i h1
        exact mm_W_astoreN hx hb hd (mm_L_store .null hw h1 rfl) (kk _ _ _ (by simp) hr)
      · exact False.elim hr
    · exact False.elim hr
  · exact False.elim hr
theorem mm_s_iinc {k : Nat} {i : Int} (hx : p.tables.exec = Jvm.exec) (hb : c.code = cc) (hd : decode cc pc = .ok (.iinc k i, 3)) (hr : mm_do C j pc K r (mm_exec z (.iinc k i) (pc + 3) x y pc ls st hh)) (kk : ∀ n' ls' st', ls'.length = ls.length → K (n', ls', st', hh) r → W p l e R s m args below meth c H locs cells slots Q (mm_F N m n' ls' st')) : W p l e R s m args below meth c H locs cells slots Q (mm_F N m pc ls st) := by
  change mm_do C j pc K r (mm_iinc (pc + 3) k i ls st hh) at hr
  unfold mm_iinc at hr
  split at hr
  · rename_i v hv
    exact mm_W_iinc hx hb hd (by rw [mm_L_at, hv]; rfl) (mm_L_store (.int (v + Int32.ofInt i)) hv rfl rfl) (kk _ _ _ (by simp) hr)
  · exact False.elim hr
theorem mm_s_iadd (hx : p.tables.exec = Jvm.exec) (hb : c.code = cc) (hd : decode cc pc = .ok (.iadd, 1)) (hr : mm_do C j pc K r (mm_exec z (.iadd) (pc + 1) x y pc ls st hh)) (kk : ∀ n' ls' st', ls'.length = ls.length → K (n', ls', st', hh) r → W p l e R s m args below meth c H locs cells slots Q (mm_F N m n' ls' st')) : W p l e R s m args below meth c H locs cells slots Q (mm_F N m pc ls st) := by
  simp only [mm_exec, mm_bin] at hr
  split at hr
  · exact lv_iadd hx hb hd (kk _ _ _ rfl hr)
  · exact False.elim hr
theorem mm_s_isub (hx : p.tables.exec = Jvm.exec) (hb : c.code = cc) (hd : decode cc pc = .ok (.isub, 1)) (hr : mm_do C j pc K r (mm_exec z (.isub) (pc + 1) x y pc ls st hh)) (kk : ∀ n' ls' st', ls'.length = ls.length → K (n', ls', st', hh) r → W p l e R s m args below meth c H locs cells slots Q (mm_F N m n' ls' st')) : W p l e R s m args below meth c H locs cells slots Q (mm_F N m pc ls st) := by
  simp only [mm_exec, mm_bin] at hr
  split at hr
  · exact lv_isub hx hb hd (kk _ _ _ rfl hr)
  · exact False.elim hr
theorem mm_s_imul (hx : p.tables.exec = Jvm.exec) (hb : c.code = cc) (hd : decode cc pc = .ok (.imul, 1)) (hr : mm_do C j pc K r (mm_exec z (.imul) (pc + 1) x y pc ls st hh)) (kk : ∀ n' ls' st', ls'.length = ls.length → K (n', ls', st', hh) r → W p l e R s m args below meth c H locs cells slots Q (mm_F N m n' ls' st')) : W p l e R s m args below meth c H locs cells slots Q (mm_F N m pc ls st) := by
  simp only [mm_exec, mm_bin] at hr
  split at hr
  · exact lv_imul hx hb hd (kk _ _ _ rfl hr)
  · exact False.elim hr
theorem mm_s_iand (hx : p.tables.exec = Jvm.exec) (hb : c.code = cc) (hd : decode cc pc = .ok (.iand, 1)) (hr : mm_do C j pc K r (mm_exec z (.iand) (pc + 1) x y pc ls st hh)) (kk : ∀ n' ls' st', ls'.length = ls.length → K (n', ls', st', hh) r → W p l e R s m args below meth c H locs cells slots Q (mm_F N m n' ls' st')) : W p l e R s m args below meth c H locs cells slots Q (mm_F N m pc ls st) := by
  simp only [mm_exec, mm_bin] at hr
  split at hr
  · exact lv_iand hx hb hd (kk _ _ _ rfl hr)
  · exact False.elim hr
theorem mm_s_ishr (hx : p.tables.exec = Jvm.exec) (hb : c.code = cc) (hd : decode cc pc = .ok (.ishr, 1)) (hr : mm_do C j pc K r (mm_exec z (.ishr) (pc + 1) x y pc ls st hh)) (kk : ∀ n' ls' st', ls'.length = ls.length → K (n', ls', st', hh) r → W p l e R s m args below meth c H locs cells slots Q (mm_F N m n' ls' st')) : W p l e R s m args below meth c H locs cells slots Q (mm_F N m pc ls st) := by
  simp only [mm_exec, mm_bin] at hr
  split at hr
  · exact lv_ishr hx hb hd (kk _ _ _ rfl hr)
  · exact False.elim hr
theorem mm_s_idiv (hx : p.tables.exec = Jvm.exec) (hb : c.code = cc) (hd : decode cc pc = .ok (.idiv, 1)) (hr : mm_do C j pc K r (mm_exec z (.idiv) (pc + 1) x y pc ls st hh)) (kk : ∀ n' ls' st', ls'.length = ls.length → K (n', ls', st', hh) r → W p l e R s m args below meth c H locs cells slots Q (mm_F N m n' ls' st')) : W p l e R s m args below meth c H locs cells slots Q (mm_F N m pc ls st) := by
  simp only [mm_exec, mm_bin] at hr
  split at hr
  · split at hr
    · rename_i w hw
      split at hw
      · cases hw
      · rename_i h0
        cases hw
        exact lv_idiv hx hb hd h0 (kk _ _ _ rfl hr)
    · exact False.elim hr
  · exact False.elim hr
theorem mm_s_irem (hx : p.tables.exec = Jvm.exec) (hb : c.code = cc) (hd : decode cc pc = .ok (.irem, 1)) (hr : mm_do C j pc K r (mm_exec z (.irem) (pc + 1) x y pc ls st hh)) (kk : ∀ n' ls' st', ls'.length = ls.length → K (n', ls', st', hh) r → W p l e R s m args below meth c H locs cells slots Q (mm_F N m n' ls' st')) : W p l e R s m args below meth c H locs cells slots Q (mm_F N m pc ls st) := by
  simp only [mm_exec, mm_bin] at hr
  split at hr
  · split at hr
    · rename_i w hw
      split at hw
      · cases hw
      · rename_i h0
        cases hw
        exact lv_irem hx hb hd h0 (kk _ _ _ rfl hr)
    · exact False.elim hr
  · exact False.elim hr
theorem mm_s_i2l (hx : p.tables.exec = Jvm.exec) (hb : c.code = cc) (hd : decode cc pc = .ok (.i2l, 1)) (hr : mm_do C j pc K r (mm_exec z (.i2l) (pc + 1) x y pc ls st hh)) (kk : ∀ n' ls' st', ls'.length = ls.length → K (n', ls', st', hh) r → W p l e R s m args below meth c H locs cells slots Q (mm_F N m n' ls' st')) : W p l e R s m args below meth c H locs cells slots Q (mm_F N m pc ls st) := by
  simp only [mm_exec, mm_i2l] at hr
  split at hr
  · exact lv_i2l hx hb hd rfl (kk _ _ _ rfl hr)
  · exact False.elim hr
theorem mm_s_lcmp (hx : p.tables.exec = Jvm.exec) (hb : c.code = cc) (hd : decode cc pc = .ok (.lcmp, 1)) (hr : mm_do C j pc K r (mm_exec z (.lcmp) (pc + 1) x y pc ls st hh)) (kk : ∀ n' ls' st', ls'.length = ls.length → K (n', ls', st', hh) r → W p l e R s m args below meth c H locs cells slots Q (mm_F N m n' ls' st')) : W p l e R s m args below meth c H locs cells slots Q (mm_F N m pc ls st) := by
  simp only [mm_exec, mm_lcmp] at hr
  split at hr
  · exact W.lcmp hx hb hd (kk _ _ _ rfl hr)
  · exact False.elim hr
theorem mm_s_dup (hx : p.tables.exec = Jvm.exec) (hb : c.code = cc) (hd : decode cc pc = .ok (.dup, 1)) (hr : mm_do C j pc K r (mm_exec z (.dup) (pc + 1) x y pc ls st hh)) (kk : ∀ n' ls' st', ls'.length = ls.length → K (n', ls', st', hh) r → W p l e R s m args below meth c H locs cells slots Q (mm_F N m n' ls' st')) : W p l e R s m args below meth c H locs cells slots Q (mm_F N m pc ls st) := by
  simp only [mm_exec, mm_dup] at hr
  split at hr
  · split at hr
    · rename_i hv
      exact lv_dup hx hb hd (by rw [mm_cat]; exact hv) (kk _ _ _ rfl hr)
    · exact False.elim hr
  · exact False.elim hr
theorem mm_s_dup2 (hx : p.tables.exec = Jvm.exec) (hb : c.code = cc) (hd : decode cc pc = .ok (.dup2, 1)) (hr : mm_do C j pc K r (mm_exec z (.dup2) (pc + 1) x y pc ls st hh)) (kk : ∀ n' ls' st', ls'.length = ls.length → K (n', ls', st', hh) r → W p l e R s m args below meth c H locs cells slots Q (mm_F N m n' ls' st')) : W p l e R s m args below meth c H locs cells slots Q (mm_F N m pc ls st) := by
  simp only [mm_exec, mm_dup2] at hr
  split at hr
  · split at hr
    · rename_i hv
      exact lv_dup2_11 hx hb hd (by rw [mm_cat]; exact hv.1) (by rw [mm_cat]; exact hv.2) (kk _ _ _ rfl hr)
    · exact False.elim hr
  · exact False.elim hr
theorem mm_s_pop (hx : p.tables.exec = Jvm.exec) (hb : c.code = cc) (hd : decode cc pc = .ok (.pop, 1)) (hr : mm_do C j pc K r (mm_exec z (.pop) (pc + 1) x y pc ls st hh)) (kk : ∀ n' ls' st', ls'.length = ls.length → K (n', ls', st', hh) r → W p l e R s m args below meth c H locs cells slots Q (mm_F N m n' ls' st')) : W p l e R s m args below meth c H locs cells slots Q (mm_F N m pc ls st) := by
  simp only [mm_exec, mm_pop] at hr
  split at hr
  · split at hr
    · rename_i hv
      exact lv_pop hx hb hd (by rw [mm_cat]; exact hv) (kk _ _ _ rfl hr)
    · exact False.elim hr
  · exact False.elim hr
theorem mm_s_if {q : ClassFile.Cond} {off : Int} (hx : p.tables.exec = Jvm.exec) (hb : c.code = cc) (hd : decode cc pc = .ok (.ifCond q off, 3)) (ht : (pc : Int) + off = (x : Int)) (hr : mm_do C j pc K r (mm_exec z (.ifCond q off) (pc + 3) x y pc ls st hh)) (kk : ∀ n' ls' st', ls'.length = ls.length → K (n', ls', st', hh) r → W p l e R s m args below meth c H locs cells slots Q (mm_F N m n' ls' st')) : W p l e R s m args below meth c H locs cells slots Q (mm_F N m pc ls st) := by
  change mm_do C j pc K r (mm_if (pc + 3) x q ls st hh) at hr
  unfold mm_if at hr
  split at hr
  · rename_i v st'
    cases q with
    | eq =>
      simp only [mm_cnd, decide_eq_true_eq] at hr
      exact lv_if_eq hx hb hd ht (fun hP => by rw [if_pos hP] at hr; exact kk _ _ _ rfl hr) (fun hP => by rw [if_neg hP] at hr; exact kk _ _ _ rfl hr)
    | ne =>
      simp only [mm_cnd, decide_eq_true_eq] at hr
      exact lv_if_ne hx hb hd ht (fun hP => by rw [if_pos hP] at hr; exact kk _ _ _ rfl hr) (fun hP => by rw [if_neg (fun q => q hP)] at hr; exact kk _ _ _ rfl hr)
    | lt =>
      simp only [mm_cnd, decide_eq_true_eq] at hr
      exact lv_if_lt hx hb hd ht (fun hP => by rw [if_pos hP] at hr; exact kk _ _ _ rfl hr) (fun hP => by rw [if_neg hP] at hr; exact kk _ _ _ rfl hr)
    | ge =>
      simp only [mm_cnd, decide_eq_true_eq] at hr
      exact lv_if_ge hx hb hd ht (fun hP => by rw [if_pos hP] at hr; exact kk _ _ _ rfl hr) (fun hP => by rw [if_neg hP] at hr; exact kk _ _ _ rfl hr)
    | gt =>
      simp only [mm_cnd, decide_eq_true_eq] at hr
      exact lv_if_gt hx hb hd ht (fun hP => by rw [if_pos hP] at hr; exact kk _ _ _ rfl hr) (fun hP => by rw [if_neg hP] at hr; exact kk _ _ _ rfl hr)
    | le =>
      simp only [mm_cnd, decide_eq_true_eq] at hr
      exact lv_if_le hx hb hd ht (fun hP => by rw [if_pos hP] at hr; exact kk _ _ _ rfl hr) (fun hP => by rw [if_neg hP] at hr; exact kk _ _ _ rfl hr)
  · exact False.elim hr
theorem mm_s_icmp {q : ClassFile.Cond} {off : Int} (hx : p.tables.exec = Jvm.exec) (hb : c.code = cc) (hd : decode cc pc = .ok (.if_icmp q off, 3)) (ht : (pc : Int) + off = (x : Int)) (hr : mm_do C j pc K r (mm_exec z (.if_icmp q off) (pc + 3) x y pc ls st hh)) (kk : ∀ n' ls' st', ls'.length = ls.length → K (n', ls', st', hh) r → W p l e R s m args below meth c H locs cells slots Q (mm_F N m n' ls' st')) : W p l e R s m args below meth c H locs cells slots Q (mm_F N m pc ls st) := by
  change mm_do C j pc K r (mm_icmp (pc + 3) x q ls st hh) at hr
  unfold mm_icmp at hr
  split at hr
  · rename_i w v st'
    cases q with
    | eq =>
      simp only [mm_cnd, decide_eq_true_eq] at hr
      exact lv_icmp_eq hx hb hd ht (fun hP => by rw [if_pos hP] at hr; exact kk _ _ _ rfl hr) (fun hP => by rw [if_neg hP] at hr; exact kk _ _ _ rfl hr)
    | ne =>
      simp only [mm_cnd, decide_eq_true_eq] at hr
      exact lv_icmp_ne hx hb hd ht (fun hP => by rw [if_pos hP] at hr; exact kk _ _ _ rfl hr) (fun hP => by rw [if_neg (fun q => q hP)] at hr; exact kk _ _ _ rfl hr)
    | lt =>
      simp only [mm_cnd, decide_eq_true_eq] at hr
      exact lv_icmp_lt hx hb hd ht (fun hP => by rw [if_pos hP] at hr; exact kk _ _ _ rfl hr) (fun hP => by rw [if_neg hP] at hr; exact kk _ _ _ rfl hr)
    | ge =>
      simp only [mm_cnd, decide_eq_true_eq] at hr
      exact lv_icmp_ge hx hb hd ht (fun hP => by rw [if_pos hP] at hr; exact kk _ _ _ rfl hr) (fun hP => by rw [if_neg hP] at hr; exact kk _ _ _ rfl hr)
    | gt =>
      simp only [mm_cnd, decide_eq_true_eq] at hr
      exact lv_icmp_gt hx hb hd ht (fun hP => by rw [if_pos hP] at hr; exact kk _ _ _ rfl hr) (fun hP => by rw [if_neg hP] at hr; exact kk _ _ _ rfl hr)
    | le =>
      simp only [mm_cnd, decide_eq_true_eq] at hr
      exact lv_icmp_le hx hb hd ht (fun hP => by rw [if_pos hP] at hr; exact kk _ _ _ rfl hr) (fun hP => by rw [if_neg hP] at hr; exact kk _ _ _ rfl hr)
  · exact False.elim hr
theorem mm_s_acmp {q : ACond} {off : Int} (hx : p.tables.exec = Jvm.exec) (hb : c.code = cc) (hd : decode cc pc = .ok (.if_acmp q off, 3)) (ht : (pc : Int) + off = (x : Int)) (hr : mm_do C j pc K r (mm_exec z (.if_acmp q off) (pc + 3) x y pc ls st hh)) (kk : ∀ n' ls' st', ls'.length = ls.length → K (n', ls', st', hh) r → W p l e R s m args below meth c H locs cells slots Q (mm_F N m n' ls' st')) : W p l e R s m args below meth c H locs cells slots Q (mm_F N m pc ls st) := by
  change mm_do C j pc K r (mm_acmp (pc + 3) x q ls st hh) at hr
  unfold mm_acmp at hr
  split at hr
  · rename_i vy vx st'
    split at hr
    · rename_i p1 q1 hp hq
      have ex : mm_v N vx = va_rf (p1.map fun a => N.base + a) := by
        cases vx <;> simp [mm_rf] at hp <;> subst hp <;> rfl
      have ey : mm_v N vy = va_rf (q1.map fun a => N.base + a) := by
        cases vy <;> simp [mm_rf] at hq <;> subst hq <;> rfl
      have hpq : (p1.map fun a => N.base + a) = (q1.map fun a => N.base + a) ↔ p1 = q1 := by
        cases p1 <;> cases q1 <;> simp
      show W p l e R s m args below meth c H locs cells slots Q (F0 m pc (mm_L N ls) (mm_v N vy :: mm_v N vx :: st'.map (mm_v N)))
      rw [ex, ey]
      cases q with
      | eq =>
        refine lv_acmp_eq hx hb hd ht (fun hP => ?_) (fun hP => ?_)
        · rw [if_pos (by simp [hpq.mp hP])] at hr
          exact kk _ _ _ rfl hr
        · rw [if_neg (by simp; exact fun h => hP (hpq.mpr h))] at hr
          exact kk _ _ _ rfl hr
      | ne =>
        refine lv_acmp_ne hx hb hd ht (fun hP => ?_) (fun hP => ?_)
        · rw [if_pos (by simp; exact fun h => hP (hpq.mpr h))] at hr
          exact kk _ _ _ rfl hr
        · rw [if_neg (by simp [hpq.mp hP])] at hr
          exact kk _ _ _ rfl hr
    · exact False.elim hr
  · exact False.elim hr
theorem mm_s_ifnull {off : Int} (hx : p.tables.exec = Jvm.exec) (hb : c.code = cc) (hd : decode cc pc = .ok (.ifnull off, 3)) (ht : (pc : Int) + off = (x : Int)) (hr : mm_do C j pc K r (mm_exec z (.ifnull off) (pc + 3) x y pc ls st hh)) (kk : ∀ n' ls' st', ls'.length = ls.length → K (n', ls', st', hh) r → W p l e R s m args below meth c H locs cells slots Q (mm_F N m n' ls' st')) : W p l e R s m args below meth c H locs cells slots Q (mm_F N m pc ls st) := by
  simp only [mm_exec, mm_ifnull] at hr
  split at hr
  · exact lv_ifnullN hx hb hd ht (kk _ _ _ rfl hr)
  · exact lv_ifnull hx hb hd (kk _ _ _ rfl hr)
  · exact False.elim hr
theorem mm_s_ifnonnull {off : Int} (hx : p.tables.exec = Jvm.exec) (hb : c.code = cc) (hd : decode cc pc = .ok (.ifnonnull off, 3)) (ht : (pc : Int) + off = (x : Int)) (hr : mm_do C j pc K r (mm_exec z (.ifnonnull off) (pc + 3) x y pc ls st hh)) (kk : ∀ n' ls' st', ls'.length = ls.length → K (n', ls', st', hh) r → W p l e R s m args below meth c H locs cells slots Q (mm_F N m n' ls' st')) : W p l e R s m args below meth c H locs cells slots Q (mm_F N m pc ls st) := by
  simp only [mm_exec, mm_ifnonnull] at hr
  split at hr
  · exact lv_ifnonnullN hx hb hd (kk _ _ _ rfl hr)
  · exact lv_ifnonnull hx hb hd ht (kk _ _ _ rfl hr)
  · exact False.elim hr
theorem mm_s_goto {off : Int} (hx : p.tables.exec = Jvm.exec) (hb : c.code = cc) (hd : decode cc pc = .ok (.goto off, 3)) (ht : (pc : Int) + off = (x : Int)) (hr : mm_do C j pc K r (mm_exec z (.goto off) (pc + 3) x y pc ls st hh)) (kk : ∀ n' ls' st', ls'.length = ls.length → K (n', ls', st', hh) r → W p l e R s m args below meth c H locs cells slots Q (mm_F N m n' ls' st')) : W p l e R s m args below meth c H locs cells slots Q (mm_F N m pc ls st) := by
  exact lv_goto hx hb hd ht (kk _ _ _ rfl hr)
theorem mm_s_tsw {d lo hi : Int} {offs : Array Int} {len : Nat} (hx : p.tables.exec = Jvm.exec) (hb : c.code = cc) (hd : decode cc pc = .ok (.tableswitch d lo hi offs, len)) (hr : mm_do C j pc K r (mm_exec z (.tableswitch d lo hi offs) (pc + len) x y pc ls st hh)) (kk : ∀ n' ls' st', ls'.length = ls.length → K (n', ls', st', hh) r → W p l e R s m args below meth c H locs cells slots Q (mm_F N m n' ls' st')) : W p l e R s m args below meth c H locs cells slots Q (mm_F N m pc ls st) := by
  change mm_do C j pc K r (mm_tsw pc d lo hi offs ls st hh) at hr
  unfold mm_tsw at hr
  split at hr
  · rename_i v st'
    split at hr
    · rename_i ho
      split at hr
      · rename_i h0
        exact lv_tableOut hx hb hd ho (Int.toNat_of_nonneg h0).symm (kk _ _ _ rfl hr)
      · exact False.elim hr
    · rename_i ho
      split at hr
      · rename_i o hoo
        split at hr
        · rename_i h0
          exact lv_tableIn hx hb hd (fun q => ho (Or.inl q)) (fun q => ho (Or.inr q)) hoo (Int.toNat_of_nonneg h0).symm (kk _ _ _ rfl hr)
        · exact False.elim hr
      · exact False.elim hr
  · exact False.elim hr
end MMR
