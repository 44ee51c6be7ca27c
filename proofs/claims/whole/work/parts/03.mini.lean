/-! A SMALL MACHINE: the program's methods over a list of cells; references are places in that list; no tables, no frames below. What it does the JVM does (part 'sound'). A cell: its kind and its contents; kinds below 10: objects of the class with that place in vwCl; 10 to 14: arrays; from 20 on: exceptions. -/
abbrev mm_C : Type := Nat × List Value
abbrev mm_H : Type := List mm_C
/-- pc, locals, operand stack, cells -/
abbrev mm_S : Type := Nat × List Slot × List Value × mm_H
abbrev mm_R : Type := Outcome × mm_H
/-- goes on; ends; calls (which method, its arguments, the frame behind the call without its answer) -/
abbrev mm_A : Type := mm_S ⊕ mm_R ⊕ (Nat × List Value × mm_S)
/-- the script: its length, its ints -/
abbrev mm_Z : Type := Nat × (Nat → Int32)
def mm_go (n : Nat) (ls : List Slot) (st : List Value) (h : mm_H) : Option mm_A := some (.inl (n, ls, st, h))
def mm_iload (n k : Nat) (ls : List Slot) (st : List Value) (h : mm_H) : Option mm_A := match ls[k]? with
  | some (.val (.int v)) => mm_go n ls (.int v :: st) h
  | _ => none
def mm_aload (n k : Nat) (ls : List Slot) (st : List Value) (h : mm_H) : Option mm_A := match ls[k]? with
  | some (.val .null) => mm_go n ls (.null :: st) h
  | some (.val (.ref a)) => mm_go n ls (.ref a :: st) h
  | some (.val (.retAddr a)) => mm_go n ls (.retAddr a :: st) h
  | _ => none
/-- a place that holds a value of one slot, or nothing -/
def mm_slot1 : Slot → Bool
  | .unset => true
  | .val v => v.category == 1
  | .second => false
def mm_set (n k : Nat) (v : Value) (ls : List Slot) (st : List Value) (h : mm_H) : Option mm_A := match ls[k]? with
  | some x => if mm_slot1 x = true then mm_go n (ls.set k (.val v)) st h else none
  | none => none
def mm_istore (n k : Nat) (ls : List Slot) (st : List Value) (h : mm_H) : Option mm_A := match st with
  | .int v :: st' => mm_set n k (.int v) ls st' h
  | _ => none
def mm_astore (n k : Nat) (ls : List Slot) (st : List Value) (h : mm_H) : Option mm_A := match st with
  | .ref v :: st' => mm_set n k (.ref v) ls st' h
  | .null :: st' => mm_set n k .null ls st' h
  | _ => none
def mm_iinc (n k : Nat) (c : Int) (ls : List Slot) (st : List Value) (h : mm_H) : Option mm_A := match ls[k]? with
  | some (.val (.int v)) => mm_go n (ls.set k (.val (.int (v + Int32.ofInt c)))) st h
  | _ => none
def mm_bin (n : Nat) (f : Int32 → Int32 → Option Int32) (ls : List Slot) (st : List Value) (h : mm_H) : Option mm_A := match st with
  | .int y :: .int x :: st' => match f x y with
    | some w => mm_go n ls (.int w :: st') h
    | none => none
  | _ => none
def mm_i2l (n : Nat) (ls : List Slot) (st : List Value) (h : mm_H) : Option mm_A := match st with
  | .int x :: st' => mm_go n ls (.long x.toInt64 :: st') h
  | _ => none
def mm_lcmp (n : Nat) (ls : List Slot) (st : List Value) (h : mm_H) : Option mm_A := match st with
  | .long y :: .long x :: st' => mm_go n ls (.int (lg_cmp x y) :: st') h
  | _ => none
def mm_dup (n : Nat) (ls : List Slot) (st : List Value) (h : mm_H) : Option mm_A := match st with
  | v :: st' => if v.category = 1 then mm_go n ls (v :: v :: st') h else none
  | _ => none
def mm_dup2 (n : Nat) (ls : List Slot) (st : List Value) (h : mm_H) : Option mm_A := match st with
  | v :: w :: st' => if v.category = 1 ∧ w.category = 1 then mm_go n ls (v :: w :: v :: w :: st') h else none
  | _ => none
def mm_pop (n : Nat) (ls : List Slot) (st : List Value) (h : mm_H) : Option mm_A := match st with
  | v :: st' => if v.category = 1 then mm_go n ls st' h else none
  | _ => none
def mm_cnd (c : ClassFile.Cond) (x y : Int32) : Bool := match c with
  | .eq => decide (x = y)
  | .ne => decide (¬ x = y)
  | .lt => decide (x < y)
  | .ge => decide (x ≥ y)
  | .gt => decide (x > y)
  | .le => decide (x ≤ y)
def mm_if (n t : Nat) (c : ClassFile.Cond) (ls : List Slot) (st : List Value) (h : mm_H) : Option mm_A := match st with
  | .int x :: st' => if mm_cnd c x 0 = true then mm_go t ls st' h else mm_go n ls st' h
  | _ => none
def mm_icmp (n t : Nat) (c : ClassFile.Cond) (ls : List Slot) (st : List Value) (h : mm_H) : Option mm_A := match st with
  | .int y :: .int x :: st' => if mm_cnd c x y = true then mm_go t ls st' h else mm_go n ls st' h
  | _ => none
/-- null, or a cell's place -/
def mm_rf : Value → Option (Option Nat)
  | .null => some none
  | .ref a => some (some a)
  | _ => none
def mm_acmp (n t : Nat) (c : ACond) (ls : List Slot) (st : List Value) (h : mm_H) : Option mm_A := match st with
  | y :: x :: st' => match mm_rf x, mm_rf y with
    | some p, some q => if (c = .eq ↔ p = q) then mm_go t ls st' h else mm_go n ls st' h
    | _, _ => none
  | _ => none
def mm_ifnull (n t : Nat) (ls : List Slot) (st : List Value) (h : mm_H) : Option mm_A := match st with
  | .null :: st' => mm_go t ls st' h
  | .ref _ :: st' => mm_go n ls st' h
  | _ => none
def mm_ifnonnull (n t : Nat) (ls : List Slot) (st : List Value) (h : mm_H) : Option mm_A := match st with
  | .null :: st' => mm_go n ls st' h
  | .ref _ :: st' => mm_go t ls st' h
  | _ => none
/-- the target of a switch: its offset's place in the table (from lo on), or the default's -/
def mm_tsw (pc : Nat) (d lo hi : Int) (offs : Array Int) (ls : List Slot) (st : List Value) (h : mm_H) : Option mm_A := match st with
  | .int x :: st' =>
    if x.toInt < lo ∨ hi < x.toInt then (if 0 ≤ (pc : Int) + d then mm_go ((pc : Int) + d).toNat ls st' h else none)
    else match offs[(x.toInt - lo).toNat]? with
      | some o => if 0 ≤ (pc : Int) + o then mm_go ((pc : Int) + o).toNat ls st' h else none
      | none => none
  | _ => none
/-- what an array of a kind from lo up to hi holds at the place i -/
def mm_el (lo hi : Nat) (h : mm_H) (a : Nat) (i : Int32) : Option Value := match h[a]? with
  | some q => if lo ≤ q.1 ∧ q.1 < hi ∧ ¬ i < 0 then q.2[i.toNatClampNeg]? else none
  | none => none
def mm_ald (lo hi n : Nat) (ls : List Slot) (st : List Value) (h : mm_H) : Option mm_A := match st with
  | .int i :: .ref a :: st' => match mm_el lo hi h a i with
    | some v => mm_go n ls (v :: st') h
    | none => none
  | _ => none
def mm_iald (z : mm_Z) (n : Nat) (ls : List Slot) (st : List Value) (h : mm_H) : Option mm_A := match st with
  | .int i :: .retAddr _ :: st' => if ¬ i < 0 ∧ i.toNatClampNeg < z.1 then mm_go n ls (.int (z.2 i.toNatClampNeg) :: st') h else none
  | .int i :: .ref a :: st' => match mm_el 10 11 h a i with
    | some v => mm_go n ls (v :: st') h
    | none => none
  | _ => none
/-- the cells with another value at the place i of the cell a -/
def mm_upd (h : mm_H) (a : Nat) (i : Nat) (v : Value) : mm_H := match h[a]? with
  | some q => h.set a (q.1, q.2.set i v)
  | none => h
def mm_iast (n : Nat) (ls : List Slot) (st : List Value) (h : mm_H) : Option mm_A := match st with
  | .int x :: .int i :: .ref a :: st' => match mm_el 10 11 h a i with
    | some _ => mm_go n ls st' (mm_upd h a i.toNatClampNeg (.int x))
    | none => none
  | _ => none
def mm_zast (n : Nat) (ls : List Slot) (st : List Value) (h : mm_H) : Option mm_A := match st with
  | .int x :: .int i :: .ref a :: st' => match mm_el 11 12 h a i with
    | some _ => if x = 0 ∨ x = 1 then mm_go n ls st' (mm_upd h a i.toNatClampNeg (.int x)) else none
    | none => none
  | _ => none
def mm_last (n : Nat) (ls : List Slot) (st : List Value) (h : mm_H) : Option mm_A := match st with
  | .long x :: .int i :: .ref a :: st' => match mm_el 12 13 h a i with
    | some _ => mm_go n ls st' (mm_upd h a i.toNatClampNeg (.long x))
    | none => none
  | _ => none
def mm_aast (n : Nat) (ls : List Slot) (st : List Value) (h : mm_H) : Option mm_A := match st with
  | .ref v :: .int i :: .ref a :: st' => match h[a]?, h[v]? with
    | some q, some w => if 13 ≤ q.1 ∧ q.1 < 15 ∧ ¬ i < 0 ∧ i.toNatClampNeg < q.2.length ∧ w.1 = mm_comp q.1 then mm_go n ls st' (mm_upd h a i.toNatClampNeg (.ref v)) else none
    | _, _ => none
  | _ => none
def mm_alen (z : mm_Z) (n : Nat) (ls : List Slot) (st : List Value) (h : mm_H) : Option mm_A := match st with
  | .retAddr _ :: st' => mm_go n ls (.int (Int32.ofNat z.1) :: st') h
  | .ref a :: st' => match h[a]? with
    | some q => if 10 ≤ q.1 ∧ q.1 < 15 then mm_go n ls (.int (Int32.ofNat q.2.length) :: st') h else none
    | none => none
  | _ => none
/-- what an array of this kind holds when it is made -/
def mm_zero (k : Nat) : Value := if k = 10 then .int 0 else if k = 11 then .int 0 else if k = 12 then .long 0 else .null
def mm_newa (n k : Nat) (ls : List Slot) (st : List Value) (h : mm_H) : Option mm_A := match st with
  | .int x :: st' => if ¬ x < 0 ∧ x.toNatClampNeg ≤ 60000000 then mm_go n ls (.ref h.length :: st') (h ++ [(k, List.replicate x.toNatClampNeg (mm_zero k))]) else none
  | _ => none
def mm_wt (st : List Value) : Nat := (st.map fun v => v.category).sum
/-- an object of the class k of vwCl; from 20 on: an exception, made and thrown at once -/
def mm_new (n k : Nat) (ls : List Slot) (st : List Value) (h : mm_H) : Option mm_A :=
  if k < 10 then mm_go n ls (.ref h.length :: st) (h ++ [(k, mm_dv k)])
  else if 20 ≤ k ∧ mm_wt st ≤ 8 then some (.inr (.inl (.threw (k - 20), h ++ [(k, List.replicate 6 .null)]))) else none
def mm_get (n c k : Nat) (ls : List Slot) (st : List Value) (h : mm_H) : Option mm_A := match st with
  | .ref a :: st' => match h[a]? with
    | some q => if q.1 = c then (match q.2[k]? with
      | some v => mm_go n ls (v :: st') h
      | none => none) else none
    | none => none
  | _ => none
/-- may a field of this type hold it? -/
def mm_fits (ty : FieldType) (v : Value) : Bool := match v with
  | .int x => decide (ty = .int) || (decide (ty = .boolean) && (decide (x = 0) || decide (x = 1)))
  | .ref _ => ty.isReference
  | .null => ty.isReference
  | _ => false
def mm_put (n c k : Nat) (ls : List Slot) (st : List Value) (h : mm_H) : Option mm_A := match st with
  | v :: .ref a :: st' => match h[a]? with
    | some q => if q.1 = c ∧ k < q.2.length ∧ mm_fits (mm_ft c k) v = true then mm_go n ls st' (mm_upd h a k v) else none
    | none => none
  | _ => none
def mm_inv (n x y : Nat) (ls : List Slot) (st : List Value) (h : mm_H) : Option mm_A :=
  if y ≤ st.length ∧ mm_wt (st.drop y) ≤ 8 ∧ (st.take y).all (fun v => v.category == 1) = true then some (.inr (.inr (x, (st.take y).reverse, (n, ls, st.drop y, h)))) else none
/-- a method of an object: the receiver is one of its class -/
def mm_invV (n x y : Nat) (ls : List Slot) (st : List Value) (h : mm_H) : Option mm_A := match (st.take y).reverse with
  | .ref a :: _ => match h[a]? with
    | some q => if q.1 = mm_cls x then mm_inv n x y ls st h else none
    | none => none
  | _ => none
def mm_invI (n x y : Nat) (ls : List Slot) (st : List Value) (h : mm_H) : Option mm_A := match (st.take y).reverse with
  | .ref _ :: _ => mm_inv n x y ls st h
  | _ => none
/-- Object's constructor -/
def mm_obj (n : Nat) (ls : List Slot) (st : List Value) (h : mm_H) : Option mm_A := match st with
  | .ref _ :: st' => if mm_wt st' ≤ 8 then mm_go n ls st' h else none
  | _ => none
def mm_min (n : Nat) (ls : List Slot) (st : List Value) (h : mm_H) : Option mm_A := match st with
  | .int y :: .int x :: st' => if mm_wt st' ≤ 8 then mm_go n ls (.int (if y < x then y else x) :: st') h else none
  | _ => none
def mm_abs (n : Nat) (ls : List Slot) (st : List Value) (h : mm_H) : Option mm_A := match st with
  | .int x :: st' => if mm_wt st' ≤ 8 then mm_go n ls (.int (if 0 ≤ x then x else 0 - x) :: st') h else none
  | _ => none
def mm_iret (k : Nat) (st : List Value) (h : mm_H) : Option mm_A := match st with
  | [.int v] => if k = 1 ∨ v = 0 ∨ v = 1 then some (.inr (.inl (.returned (some (.int v)), h))) else none
  | _ => none
def mm_aret (st : List Value) (h : mm_H) : Option mm_A := match st with
  | [.ref v] => some (.inr (.inl (.returned (some (.ref v)), h)))
  | [.null] => some (.inr (.inl (.returned (some .null), h)))
  | _ => none
def mm_vret (st : List Value) (h : mm_H) : Option mm_A := match st with
  | [] => some (.inr (.inl (.returned none, h)))
  | _ => none
/-- an instruction at pc; n: the pc behind it; x, y: two numbers of it (a target; a class and a field; a method and how many arguments) -/
def mm_exec (z : mm_Z) (i : Instr) (n x y pc : Nat) (ls : List Slot) (st : List Value) (h : mm_H) : Option mm_A :=
  match i with
  | .iconst i => mm_go n ls (.int (Int32.ofInt i) :: st) h
  | .bipush i => mm_go n ls (.int (Int8.ofInt i).toInt32 :: st) h
  | .sipush i => mm_go n ls (.int (Int16.ofInt i).toInt32 :: st) h
  | .lconst i => mm_go n ls (.long (Int64.ofNat (i : Nat)) :: st) h
  | .aconst_null => mm_go n ls (.null :: st) h
  | .iload_n k => mm_iload n k ls st h
  | .iload k => mm_iload n k ls st h
  | .aload_n k => mm_aload n k ls st h
  | .aload k => mm_aload n k ls st h
  | .istore_n k => mm_istore n k ls st h
  | .istore k => mm_istore n k ls st h
  | .astore_n k => mm_astore n k ls st h
  | .astore k => mm_astore n k ls st h
  | .iinc k c => mm_iinc n k c ls st h
  | .iadd => mm_bin n (fun a b => some (a + b)) ls st h
  | .isub => mm_bin n (fun a b => some (a - b)) ls st h
  | .imul => mm_bin n (fun a b => some (a * b)) ls st h
  | .iand => mm_bin n (fun a b => some (a &&& b)) ls st h
  | .ishr => mm_bin n (fun a b => some (a >>> (b &&& 31))) ls st h
  | .idiv => mm_bin n (fun a b => if b = 0 then none else some (a / b)) ls st h
  | .irem => mm_bin n (fun a b => if b = 0 then none else some (a - a / b * b)) ls st h
  | .i2l => mm_i2l n ls st h
  | .lcmp => mm_lcmp n ls st h
  | .dup => mm_dup n ls st h
  | .dup2 => mm_dup2 n ls st h
  | .pop => mm_pop n ls st h
  | .ifCond c _ => mm_if n x c ls st h
  | .if_icmp c _ => mm_icmp n x c ls st h
  | .if_acmp c _ => mm_acmp n x c ls st h
  | .ifnull _ => mm_ifnull n x ls st h
  | .ifnonnull _ => mm_ifnonnull n x ls st h
  | .goto _ => mm_go x ls st h
  | .tableswitch d lo hi offs => mm_tsw pc d lo hi offs ls st h
  | .iaload => mm_iald z n ls st h
  | .baload => mm_ald 11 12 n ls st h
  | .laload => mm_ald 12 13 n ls st h
  | .aaload => mm_ald 13 15 n ls st h
  | .iastore => mm_iast n ls st h
  | .bastore => mm_zast n ls st h
  | .lastore => mm_last n ls st h
  | .aastore => mm_aast n ls st h
  | .arraylength => mm_alen z n ls st h
  | .newarray _ => mm_newa n x ls st h
  | .anewarray _ => mm_newa n x ls st h
  | .new _ => mm_new n x ls st h
  | .getfield _ => mm_get n x y ls st h
  | .putfield _ => mm_put n x y ls st h
  | .invokevirtual _ => mm_invV n x y ls st h
  | .invokespecial _ => if x = 1000 then mm_obj n ls st h else mm_invI n x y ls st h
  | .invokestatic _ => if x = 1001 then mm_min n ls st h else if x = 1002 then mm_abs n ls st h else mm_inv n x y ls st h
  | .ireturn => mm_iret x st h
  | .areturn => mm_aret st h
  | .return_ => mm_vret st h
  | _ => none
def mm_step (z : mm_Z) (j : Nat) (s : mm_S) : Option mm_A := match mm_at j s.1 with
  | some e => mm_exec z e.1 e.2.1 e.2.2.1 e.2.2.2 s.1 s.2.1 s.2.2.1 s.2.2.2
  | none => none
/-- a row of a handler table: start, end, handler, the entry of the class that it catches; which exception that is -/
def mm_cov (pc : Nat) (q : (Nat × Nat × Nat × Nat) × Nat) : Bool := decide (q.1.1 ≤ pc) && decide (pc < q.1.2.1)
/-- where the exception x is caught, thrown at pc of the method j -/
def mm_hd (j pc x : Nat) : Option Nat := ((mm_ht j).find? fun q => mm_cov pc q && decide (q.2 = x)).map fun q => q.1.2.2.1
/-- pc of the method j stands under no handler -/
def mm_no (j pc : Nat) : Bool := (mm_ht j).all fun q => !mm_cov pc q
/-- behind a call: its answer is pushed; its throw goes to this method's handler, or on -/
def mm_aft (j pc : Nat) (ls : List Slot) (st : List Value) (n : Nat) (k : mm_S → mm_R → Prop) (r : mm_R) (o : Outcome) (h : mm_H) : Prop := match o with
  | .returned v => k (n, ls, v.toList ++ st, h) r
  | .threw x => match mm_hd j pc x with
    | some t => k (t, ls, [.ref (h.length - 1)], h) r
    | none => mm_no j pc = true ∧ r = (.threw x, h)
def mm_do (C : Nat → List Value → mm_H → mm_R → Prop) (j pc : Nat) (k : mm_S → mm_R → Prop) (r : mm_R) (a : Option mm_A) : Prop := match a with
  | none => False
  | some (.inl s) => k s r
  | some (.inr (.inl r')) => r = r'
  | some (.inr (.inr (c, as, n, ls, st, h))) => ∃ (o : Outcome) (h' : mm_H), C c as h (o, h') ∧ mm_aft j pc ls st n k r o h'
def mm_run (z : mm_Z) (C : Nat → List Value → mm_H → mm_R → Prop) (j : Nat) : Nat → (mm_S → mm_R → Prop)
  | 0 => fun _ _ => False
  | n + 1 => fun s r => mm_do C j s.1 (mm_run z C j n) r (mm_step z j s)
/-- the locals at a method's entry -/
def mm_loc (j : Nat) (as : List Value) : List Slot := as.map .val ++ List.replicate (mm_ml j - as.length) .unset
/-- the method j, called at a depth of at most d: its arguments, the cells; its end -/
def mm_cal (z : mm_Z) : Nat → (Nat → List Value → mm_H → mm_R → Prop)
  | 0 => fun _ _ _ _ => False
  | d + 1 => fun j as h r => ∃ n, mm_run z (mm_cal z d) j n (0, mm_loc j as, [], h) r
/-- how many slots the cells have -/
def mm_w (h : mm_H) : Nat := (h.map fun q => q.2.length).sum
/-- cells are made, never lost -/
def mm_le (h h' : mm_H) : Prop := h.length ≤ h'.length ∧ mm_w h ≤ mm_w h'
theorem mm_le.rfl {h : mm_H} : mm_le h h := ⟨Nat.le_refl _, Nat.le_refl _⟩
theorem mm_le.trans {a b c : mm_H} (h1 : mm_le a b) (h2 : mm_le b c) : mm_le a c := ⟨Nat.le_trans h1.1 h2.1, Nat.le_trans h1.2 h2.2⟩
theorem mm_upd_len (h : mm_H) (a i : Nat) (v : Value) : (mm_upd h a i v).length = h.length := by
  unfold mm_upd
  split
  · simp
  · rfl
theorem mm_w_set : ∀ (h : mm_H) (a : Nat) (q q' : mm_C), h[a]? = some q → q'.2.length = q.2.length → mm_w (h.set a q') = mm_w h
  | [], a, q, q', h1, _ => by simp at h1
  | x :: t, 0, q, q', h1, h2 => by
    simp only [List.getElem?_cons_zero, Option.some.injEq] at h1
    subst h1
    simp [mm_w, h2]
  | x :: t, a + 1, q, q', h1, h2 => by
    have ih := mm_w_set t a q q' (by simpa using h1) h2
    simp only [mm_w, List.set_cons_succ, List.map_cons, List.sum_cons] at ih ⊢
    rw [ih]
theorem mm_w_upd (h : mm_H) (a i : Nat) (v : Value) : mm_w (mm_upd h a i v) = mm_w h := by
  unfold mm_upd
  split
  · rename_i q hq
    exact mm_w_set h a q _ hq (by simp)
  · rfl
theorem mm_w_push (h : mm_H) (q : mm_C) : mm_w (h ++ [q]) = mm_w h + q.2.length := by simp [mm_w]
theorem mm_le.upd (h : mm_H) (a i : Nat) (v : Value) : mm_le h (mm_upd h a i v) := ⟨by rw [mm_upd_len]; exact Nat.le_refl _, by rw [mm_w_upd]; exact Nat.le_refl _⟩
theorem mm_le.push (h : mm_H) (q : mm_C) : mm_le h (h ++ [q]) := ⟨by simp, by rw [mm_w_push]; exact Nat.le_add_right _ _⟩
/-- what an end says of the cells -/
def mm_endOk (h : mm_H) (r : mm_R) : Prop := mm_le h r.2 ∧ ∀ x, r.1 = .threw x → ∃ vs, r.2[r.2.length - 1]? = some (20 + x, vs)
def mm_actOk (ls : List Slot) (h : mm_H) (a : mm_A) : Prop := match a with
  | .inl (_, ls', _, h') => mm_le h h' ∧ ls'.length = ls.length
  | .inr (.inl r) => mm_endOk h r
  | .inr (.inr (_, _, _, ls', _, h')) => h' = h ∧ ls' = ls
theorem mm_exec_ok {z : mm_Z} {i : Instr} {n x y pc : Nat} {ls : List Slot} {st : List Value} {h : mm_H} {a : mm_A} (ha : mm_exec z i n x y pc ls st h = some a) : mm_actOk ls h a := by
  unfold mm_exec at ha
  split at ha
  all_goals try simp only [mm_go, mm_iload, mm_aload, mm_istore, mm_astore, mm_set, mm_iinc, mm_bin, mm_i2l, mm_lcmp, mm_dup, mm_dup2, mm_pop, mm_if, mm_icmp, mm_acmp, mm_ifnull, mm_ifnonnull, mm_tsw, mm_ald, mm_iald, mm_iast, mm_zast, mm_last, mm_aast, mm_alen, mm_newa, mm_new, mm_get, mm_put, mm_invV, mm_invI, mm_inv, mm_obj, mm_min, mm_abs, mm_iret, mm_aret, mm_vret] at ha
  all_goals repeat' (split at ha)
  all_goals first
    | (cases ha; done)
    | (cases ha; exact ⟨mm_le.rfl, rfl⟩)
    | (cases ha; exact ⟨mm_le.rfl, by simp⟩)
    | (cases ha; exact ⟨mm_le.upd _ _ _ _, rfl⟩)
    | (cases ha; exact ⟨mm_le.push _ _, rfl⟩)
    | (cases ha; exact ⟨mm_le.rfl, fun x h => by cases h⟩)
    | (cases ha; exact ⟨rfl, rfl⟩)
    | (cases ha; refine ⟨mm_le.push _ _, fun x h => ?_⟩; cases h; rename_i hk; refine ⟨List.replicate 6 .null, ?_⟩; simp; omega)
theorem mm_run_ok {z : mm_Z} {C : Nat → List Value → mm_H → mm_R → Prop} {j : Nat} (hC : ∀ c as h r, C c as h r → mm_endOk h r) : ∀ (n : Nat) (s : mm_S) (r : mm_R), mm_run z C j n s r → mm_endOk s.2.2.2 r
  | 0, _, _, h => False.elim h
  | n + 1, s, r, h => by
    have ih := mm_run_ok (z := z) (j := j) hC n
    change mm_do C j s.1 (mm_run z C j n) r (mm_step z j s) at h
    unfold mm_step at h
    split at h
    · rename_i e he
      cases ha : mm_exec z e.1 e.2.1 e.2.2.1 e.2.2.2 s.1 s.2.1 s.2.2.1 s.2.2.2 with
      | none => rw [ha] at h; exact False.elim h
      | some a =>
        have hok := mm_exec_ok ha
        rw [ha] at h
        match a, hok, h with
        | .inl (n', ls', st', h'), hok, h =>
          obtain ⟨i1, i2⟩ := ih _ _ h
          exact ⟨hok.1.trans i1, i2⟩
        | .inr (.inl r'), hok, h =>
          change r = r' at h
          subst h
          exact hok
        | .inr (.inr (c, as, n', ls', st', h')), hok, h =>
          obtain ⟨e1, e2⟩ := hok
          obtain ⟨o, h2, hc, haft⟩ := h
          rw [e1] at hc
          obtain ⟨g1, g3⟩ := hC _ _ _ _ hc
          have key : ∀ s2 : mm_S, s2.2.2.2 = h2 → mm_run z C j n s2 r → mm_endOk s.2.2.2 r := by
            intro s2 q1 hrun
            obtain ⟨i1, i2⟩ := ih _ _ hrun
            rw [q1] at i1
            exact ⟨g1.trans i1, i2⟩
          unfold mm_aft at haft
          split at haft
          · exact key _ rfl haft
          · split at haft
            · exact key _ rfl haft
            · rename_i x _
              obtain ⟨-, rfl⟩ := haft
              exact ⟨g1, fun y hy => g3 y hy⟩
    · exact False.elim h
theorem mm_cal_ok {z : mm_Z} : ∀ (d j : Nat) (as : List Value) (h : mm_H) (r : mm_R), mm_cal z d j as h r → mm_endOk h r
  | 0, _, _, _, _, h => False.elim h
  | d + 1, j, as, h, r, hc => by
    obtain ⟨n, hn⟩ := hc
    exact mm_run_ok (mm_cal_ok d) n _ _ hn
