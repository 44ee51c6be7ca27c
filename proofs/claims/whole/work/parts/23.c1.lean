/-! THE CLASS's CELLS: instruments and sections; their methods -/
def lo (s : Nat) : Nat := if s < 10 then s else s - 11
def up (s : Nat) : Nat := if s < 10 then s + 1 else s - 9
/-- the box at an end of a section (false: the lower) -/
def eb (s : Nat) (e : Bool) : Nat := if e then up s else lo s
/-- numbers as an array holds them -/
def nums (p : List Nat) : List Value := p.map fun k => Value.int (nI k)
/-- an instrument at a: its pile (bottom first) of at most cap tablets, its wheel, its plunger -/
def InstAt (h : mm_H) (a cap : Nat) (p : List Nat) (w l : Bool) : Prop :=
  h[a]? = some (2, [.ref (a + 1), .int (nI p.length), .int (bI w), .int (bI l)]) ∧ p.length ≤ cap ∧ ∃ arr : List Value, h[a + 1]? = some (10, arr) ∧ arr.length = cap ∧ ∀ (i x : Nat), p[i]? = some x → arr[i]? = some (Value.int (nI x))
/-- what a section holds: lower instrument, upper instrument (pile, wheel, plunger), its tablets' places, its wire -/
abbrev Sg : Type := (List Nat × Bool × Bool) × (List Nat × Bool × Bool) × List Nat × Bool
/-- the instrument at an end -/
def Sg.at (g : Sg) (e : Bool) : List Nat × Bool × Bool := if e then g.2.1 else g.1
def Sg.with (g : Sg) (e : Bool) (i : List Nat × Bool × Bool) : Sg := if e then (g.1, i, g.2.2) else (i, g.2)
def SecAt (h : mm_H) (a s t : Nat) (g : Sg) : Prop :=
  h[a]? = some (1, [.int (nI s), .int (nI (lo s)), .int (nI (up s)), .ref (a + 1), .ref (a + 3), .ref (a + 5), .int (bI g.2.2.2)]) ∧
  InstAt h (a + 1) t g.1.1 g.1.2.1 g.1.2.2 ∧ InstAt h (a + 3) t g.2.1.1 g.2.1.2.1 g.2.1.2.2 ∧ h[a + 5]? = some (10, nums g.2.2.1) ∧ g.2.2.1.length = t
def ia (a : Nat) (e : Bool) : Nat := if e then a + 3 else a + 1
/-- a section's number, and how many tablets it may have -/
def SecNo (s t : Nat) : Prop := s < 15 ∧ s ≠ 10 ∧ t ≤ 8
theorem SecNo.lt {s t : Nat} (x : SecNo s t) : lo s < up s ∧ up s < 11 ∧ s < 15 := by
  obtain ⟨h1, h2, h3⟩ := x
  unfold lo up
  split <;> omega
/-- the cells from a up to b alone have changed -/
def Off (a b : Nat) (h h' : mm_H) : Prop := h'.length = h.length ∧ mm_w h' = mm_w h ∧ ∀ k, k < a ∨ b ≤ k → h'[k]? = h[k]?
theorem Off.rfl {a b : Nat} {h : mm_H} : Off a b h h := ⟨Eq.refl _, Eq.refl _, fun _ _ => Eq.refl _⟩
theorem Off.trans {a b : Nat} {h h1 h2 : mm_H} (x : Off a b h h1) (y : Off a b h1 h2) : Off a b h h2 := ⟨y.1.trans x.1, y.2.1.trans x.2.1, fun k hk => (y.2.2 k hk).trans (x.2.2 k hk)⟩
theorem Off.wide {a b a' b' : Nat} {h h' : mm_H} (x : Off a b h h') (ha : a' ≤ a) (hb : b ≤ b') : Off a' b' h h' := ⟨x.1, x.2.1, fun k hk => x.2.2 k (by omega)⟩
theorem Off.upd {h : mm_H} {k i : Nat} {v : Value} {a b : Nat} (ha : a ≤ k) (hb : k < b) : Off a b h (mm_upd h k i v) := ⟨mm_upd_len _ _ _ _, mm_w_upd _ _ _ _, fun q hq => mm_upd_ne (by omega) i v⟩
theorem nums_at {p : List Nat} {i x : Nat} (h : p[i]? = some x) : (nums p)[i]? = some (.int (nI x)) := by unfold nums; rw [List.getElem?_map, h]; rfl
theorem nums_set (p : List Nat) (i x : Nat) : (nums p).set i (.int (nI x)) = nums (p.set i x) := by unfold nums; rw [List.map_set]
theorem nums_len (p : List Nat) : (nums p).length = p.length := by unfold nums; simp
theorem InstAt.off {h h' : mm_H} {a cap : Nat} {p : List Nat} {w l : Bool} {b c : Nat} (x : InstAt h a cap p w l) (o : Off b c h h') (hd : a + 1 < b ∨ c ≤ a) : InstAt h' a cap p w l := by
  obtain ⟨h1, h2, arr, h3, h4⟩ := x
  exact ⟨by rw [o.2.2 _ (by omega)]; exact h1, h2, arr, by rw [o.2.2 _ (by omega)]; exact h3, h4⟩
theorem SecAt.off {h h' : mm_H} {a s t : Nat} {g : Sg} {b c : Nat} (x : SecAt h a s t g) (o : Off b c h h') (hd : a + 5 < b ∨ c ≤ a) : SecAt h' a s t g := by
  obtain ⟨h1, h2, h3, h4, h5⟩ := x
  exact ⟨by rw [o.2.2 _ (by omega)]; exact h1, h2.off o (by omega), h3.off o (by omega), by rw [o.2.2 _ (by omega)]; exact h4, h5⟩
theorem SecAt.inst {h : mm_H} {a s t : Nat} {g : Sg} (x : SecAt h a s t g) (e : Bool) : InstAt h (ia a e) t (g.at e).1 (g.at e).2.1 (g.at e).2.2 := by
  cases e
  · exact x.2.1
  · exact x.2.2.1
/-- an instrument alone has changed -/
theorem SecAt.setInst {h h' : mm_H} {a s t : Nat} {g : Sg} (x : SecAt h a s t g) (e : Bool) {i : List Nat × Bool × Bool} (o : Off (ia a e) (ia a e + 2) h h') (hi : InstAt h' (ia a e) t i.1 i.2.1 i.2.2) : SecAt h' a s t (g.with e i) := by
  obtain ⟨h1, h2, h3, h4, h5⟩ := x
  cases e
  · have o' : Off (a + 1) (a + 1 + 2) h h' := o
    exact ⟨by rw [o'.2.2 _ (by omega)]; exact h1, hi, h3.off o' (by omega), by rw [o'.2.2 _ (by omega)]; exact h4, h5⟩
  · have o' : Off (a + 3) (a + 3 + 2) h h' := o
    exact ⟨by rw [o'.2.2 _ (by omega)]; exact h1, h2.off o' (by omega), hi, by rw [o'.2.2 _ (by omega)]; exact h4, h5⟩
section C1
variable {z : mm_Z} {h : mm_H}
theorem c_turnWheel {a cap : Nat} {p : List Nat} {w l : Bool} (d : Nat) (hI : InstAt h a cap p w l) : ∃ h', mm_cal z (d + 1) 48 [.ref a] h (.returned none, h') ∧ InstAt h' a cap p (!w) l ∧ Off a (a + 2) h h' := by
  obtain ⟨h1, h2, arr, h3, h4⟩ := hI
  refine ⟨mm_upd h a 2 (.int (bI (!w))), ?_, ⟨?_, h2, arr, ?_, h4⟩, Off.upd (Nat.le_refl _) (by omega)⟩
  · refine mm_cal_of ?_
    refine ev_go at_48_0 rfl ?_
    refine ev_ic (nI 1) at_48_1 (by decide) ?_
    refine ev_go at_48_2 rfl ?_
    refine ev_get at_48_3 (by assumption) rfl ?_
    refine ev_go at_48_6 rfl ?_
    refine ev_top (congrArg Value.int (show nI 1 - bI w = bI (!w) by cases w <;> decide)) ?_
    refine ev_put at_48_7 (by assumption) (by simp) (by first | rfl | exact fits_b _) ?_
    refine ev_end at_48_10 rfl ?_
    rfl
  · rw [mm_upd_at h1]; rfl
  · rw [mm_upd_ne (by omega)]; exact h3
theorem c_push {a cap : Nat} {p : List Nat} {w l : Bool} (d x : Nat) (hI : InstAt h a cap p w l) (hp : p.length < cap) (hcap : cap ≤ 8) : ∃ h', mm_cal z (d + 1) 46 [.ref a, .int (nI x)] h (.returned none, h') ∧ InstAt h' a cap (p ++ [x]) w l ∧ Off a (a + 2) h h' := by
  obtain ⟨h1, h2, arr, h3, h4, h5⟩ := hI
  have e1 : (mm_upd h (a + 1) p.length (.int (nI x)))[a]? = some (2, [.ref (a + 1), .int (nI p.length), .int (bI w), .int (bI l)]) := by rw [mm_upd_ne (by omega)]; exact h1
  refine ⟨mm_upd (mm_upd h (a + 1) p.length (.int (nI x))) a 1 (.int (nI (p.length + 1))), ?_, ⟨?_, by simp; omega, arr.set p.length (.int (nI x)), ?_, by simpa using h4, fun i y hi => ?_⟩, (Off.upd (by omega) (by omega)).trans (Off.upd (Nat.le_refl _) (by omega))⟩
  · refine mm_cal_of ?_
    refine ev_go at_46_0 rfl ?_
    refine ev_get at_46_1 (by assumption) rfl ?_
    refine ev_go at_46_4 rfl ?_
    refine ev_get at_46_5 (by assumption) rfl ?_
    refine ev_alen at_46_8 (by assumption) (by decide) ?_
    refine ev_icmp_ge at_46_9 (fun hc => absurd hc (nI_ge (by omega) (by omega))) (fun _ => ?_)
    refine ev_go at_46_12 rfl ?_
    refine ev_get at_46_13 (by assumption) rfl ?_
    refine ev_go at_46_16 rfl ?_
    refine ev_get at_46_17 (by assumption) rfl ?_
    refine ev_go at_46_20 rfl ?_
    refine ev_iast at_46_21 (by assumption) (by omega) (by omega) ?_
    refine ev_go at_46_22 rfl ?_
    refine ev_go at_46_23 rfl ?_
    refine ev_get at_46_24 (by assumption) rfl ?_
    refine ev_ic (nI 1) at_46_27 (by decide) ?_
    refine ev_go at_46_28 rfl ?_
    first | refine ev_top (congrArg Value.int (nI_add _ _)) ?_ | skip
    refine ev_put at_46_29 (by assumption) (by simp) (by first | rfl | exact fits_b _) ?_
    refine ev_end at_46_32 rfl ?_
    rfl
  · rw [mm_upd_at e1]
    simp
  · rw [mm_upd_ne (by omega), mm_upd_at h3]
  · by_cases hip : i < p.length
    · rw [List.getElem?_append_left hip] at hi
      rw [List.getElem?_set_ne (by omega)]
      exact h5 i y hi
    · rw [List.getElem?_append_right (by omega)] at hi
      have hlt := (List.getElem?_eq_some_iff.mp hi).1
      have hi0 : i = p.length := by simp at hlt; omega
      subst hi0
      rw [Nat.sub_self] at hi
      cases hi
      rw [List.getElem?_set_self (by omega)]
theorem c_pop {a cap : Nat} {q : List Nat} {w l : Bool} (d x : Nat) (hI : InstAt h a cap (q ++ [x]) w l) (hcap : cap ≤ 8) : ∃ h', mm_cal z (d + 1) 47 [.ref a] h (.returned (some (.int (nI x))), h') ∧ InstAt h' a cap q w l ∧ Off a (a + 2) h h' := by
  obtain ⟨h1, h2, arr, h3, h4, h5⟩ := hI
  rw [List.length_append] at h1 h2
  change h[a]? = some (2, [.ref (a + 1), .int (nI (q.length + 1)), .int (bI w), .int (bI l)]) at h1
  change q.length + 1 ≤ cap at h2
  have e1 := mm_upd_at h1 1 (.int (nI q.length))
  change _ = some (2, [Value.ref (a + 1), .int (nI q.length), .int (bI w), .int (bI l)]) at e1
  have e2 : (mm_upd h a 1 (.int (nI q.length)))[a + 1]? = some (10, arr) := by rw [mm_upd_ne (by omega)]; exact h3
  have e3 : arr[q.length]? = some (.int (nI x)) := h5 _ _ (by simp)
  refine ⟨mm_upd h a 1 (.int (nI q.length)), ?_, ⟨e1, by omega, arr, e2, h4, fun i y hi => h5 i y ?_⟩, Off.upd (Nat.le_refl _) (by omega)⟩
  · refine mm_cal_of ?_
    refine ev_go at_47_0 rfl ?_
    refine ev_get at_47_1 (by assumption) rfl ?_
    refine ev_if_ne at_47_4 (fun _ => ?_) (fun hc => absurd hc (nI_ne0 (by omega) (by omega)))
    refine ev_go at_47_9 rfl ?_
    refine ev_go at_47_10 rfl ?_
    refine ev_get at_47_11 (by assumption) rfl ?_
    refine ev_ic (nI 1) at_47_14 (by decide) ?_
    refine ev_go at_47_15 rfl ?_
    refine ev_top (congrArg Value.int (show nI (q.length + 1) - nI 1 = nI q.length by rw [pk_sub (by omega)]; rfl)) ?_
    refine ev_put at_47_16 (by assumption) (by simp) (by first | rfl | exact fits_b _) ?_
    refine ev_go at_47_19 rfl ?_
    refine ev_get at_47_20 (by assumption) rfl ?_
    refine ev_go at_47_23 rfl ?_
    refine ev_get at_47_24 (by assumption) rfl ?_
    refine ev_iald at_47_27 (by assumption) (by omega) (by assumption) ?_
    refine ev_iret at_47_28 (by first | exact Or.inl rfl | exact Or.inr (Or.inl rfl) | exact Or.inr (Or.inr rfl) | exact Or.inr (bI_01 _)) ?_
    rfl
  · rw [List.getElem?_append_left (List.getElem?_eq_some_iff.mp hi).1]; exact hi
theorem c_instrumentAt {a s t : Nat} {g : Sg} (d : Nat) (hS : SecAt h a s t g) (hn : SecNo s t) (e : Bool) : mm_cal z (d + 1) 36 [.ref a, .int (nI (eb s e))] h (.returned (some (.ref (ia a e))), h) := by
  obtain ⟨h1, -⟩ := hS
  obtain ⟨n1, n2, n3⟩ := hn.lt
  refine mm_cal_of ?_
  cases e
  · skip
    refine ev_go at_36_0 rfl ?_
    refine ev_go at_36_1 rfl ?_
    refine ev_get at_36_2 (by assumption) rfl ?_
    refine ev_icmp_ne at_36_5 (fun hc => absurd rfl hc) (fun _ => ?_)
    refine ev_go at_36_8 rfl ?_
    refine ev_get at_36_9 (by assumption) rfl ?_
    refine ev_go at_36_12 rfl ?_
    refine ev_end at_36_19 rfl ?_
    rfl
  · skip
    refine ev_go at_36_0 rfl ?_
    refine ev_go at_36_1 rfl ?_
    refine ev_get at_36_2 (by assumption) rfl ?_
    refine ev_icmp_ne at_36_5 (fun _ => ?_) (fun hc => absurd hc (fun q => by have q2 : up s = lo s := (nI_eq (by omega) (by omega)).mp q; omega))
    refine ev_go at_36_15 rfl ?_
    refine ev_get at_36_16 (by assumption) rfl ?_
    refine ev_end at_36_19 rfl ?_
    rfl
theorem c_otherEnd {a s t : Nat} {g : Sg} (d : Nat) (hS : SecAt h a s t g) (hn : SecNo s t) (e : Bool) : mm_cal z (d + 1) 42 [.ref a, .int (nI (eb s e))] h (.returned (some (.int (nI (eb s (!e))))), h) := by
  obtain ⟨h1, -⟩ := hS
  obtain ⟨n1, n2, n3⟩ := hn.lt
  refine mm_cal_of ?_
  cases e
  · skip
    refine ev_go at_42_0 rfl ?_
    refine ev_go at_42_1 rfl ?_
    refine ev_get at_42_2 (by assumption) rfl ?_
    refine ev_icmp_ne at_42_5 (fun hc => absurd rfl hc) (fun _ => ?_)
    refine ev_go at_42_8 rfl ?_
    refine ev_get at_42_9 (by assumption) rfl ?_
    refine ev_go at_42_12 rfl ?_
    refine ev_iret at_42_19 (by first | exact Or.inl rfl | exact Or.inr (Or.inl rfl) | exact Or.inr (Or.inr rfl) | exact Or.inr (bI_01 _)) ?_
    rfl
  · skip
    refine ev_go at_42_0 rfl ?_
    refine ev_go at_42_1 rfl ?_
    refine ev_get at_42_2 (by assumption) rfl ?_
    refine ev_icmp_ne at_42_5 (fun _ => ?_) (fun hc => absurd hc (fun q => by have q2 : up s = lo s := (nI_eq (by omega) (by omega)).mp q; omega))
    refine ev_go at_42_15 rfl ?_
    refine ev_get at_42_16 (by assumption) rfl ?_
    refine ev_iret at_42_19 (by first | exact Or.inl rfl | exact Or.inr (Or.inl rfl) | exact Or.inr (Or.inr rfl) | exact Or.inr (bI_01 _)) ?_
    rfl
theorem c_instrumentOpposite {a s t : Nat} {g : Sg} (d : Nat) (hS : SecAt h a s t g) (hn : SecNo s t) (e : Bool) : mm_cal z (d + 2) 41 [.ref a, .int (nI (eb s e))] h (.returned (some (.ref (ia a (!e)))), h) := by
  have h1 := hS.1
  refine mm_cal_of ?_
  refine ev_go at_41_0 rfl ?_
  refine ev_go at_41_1 rfl ?_
  refine ev_go at_41_2 rfl ?_
  refine ev_callV (as := [_]) at_41_3 rfl rfl (by simp [mm_wt, Value.category]) rfl (by assumption) (c_otherEnd d hS hn e) ?_
  refine ev_callV (as := [_]) at_41_6 rfl rfl (by simp [mm_wt, Value.category]) rfl (by assumption) (c_instrumentAt d hS hn (!e)) ?_
  refine ev_end at_41_9 rfl ?_
  rfl
theorem c_inPhase {a s t : Nat} {g : Sg} (d : Nat) (hS : SecAt h a s t g) : mm_cal z (d + 1) 43 [.ref a] h (.returned (some (.int (bI (g.1.2.1 == g.2.1.2.1)))), h) := by
  obtain ⟨⟨pl, wl, hl⟩, ⟨pu, wu, hu⟩, pls, wr⟩ := g
  obtain ⟨h1, ⟨h2, -⟩, ⟨h3, -⟩, -⟩ := hS
  refine mm_cal_of ?_
  refine ev_go at_43_0 rfl ?_
  refine ev_get at_43_1 (by assumption) rfl ?_
  refine ev_get at_43_4 (by assumption) rfl ?_
  refine ev_go at_43_7 rfl ?_
  refine ev_get at_43_8 (by assumption) rfl ?_
  refine ev_get at_43_11 (by assumption) rfl ?_
  refine ev_icmp_ne at_43_14 (fun hc14 => ?_) (fun hc14 => ?_)
  · skip
    refine ev_ic (nI 0) at_43_21 (by decide) ?_
    refine ev_iret at_43_22 (by first | exact Or.inl rfl | exact Or.inr (Or.inl rfl) | exact Or.inr (Or.inr rfl) | exact Or.inr (bI_01 _)) ?_
    revert hc14; cases wl <;> cases wu <;> intro hc14 <;> first | rfl | exact absurd rfl hc14 | (dsimp only at hc14; exact absurd hc14 (by decide))
  · skip
    refine ev_ic (nI 1) at_43_17 (by decide) ?_
    refine ev_go at_43_18 rfl ?_
    refine ev_iret at_43_22 (by first | exact Or.inl rfl | exact Or.inr (Or.inl rfl) | exact Or.inr (Or.inr rfl) | exact Or.inr (bI_01 _)) ?_
    revert hc14; cases wl <;> cases wu <;> intro hc14 <;> first | rfl | exact absurd rfl hc14 | (dsimp only at hc14; exact absurd hc14 (by decide))
theorem c_hasEnd {a s t : Nat} {g : Sg} (d : Nat) (hS : SecAt h a s t g) (b : Int32) : mm_cal z (d + 1) 40 [.ref a, .int b] h (.returned (some (.int (bI (decide (b = nI (lo s)) || decide (b = nI (up s)))))), h) := by
  obtain ⟨h1, -⟩ := hS
  refine mm_cal_of ?_
  refine ev_go at_40_0 rfl ?_
  refine ev_go at_40_1 rfl ?_
  refine ev_get at_40_2 (by assumption) rfl ?_
  refine ev_icmp_eq at_40_5 (fun hc5 => ?_) (fun hc5 => ?_)
  · skip
    refine ev_ic (nI 1) at_40_16 (by decide) ?_
    refine ev_go at_40_17 rfl ?_
    refine ev_iret at_40_21 (by first | exact Or.inl rfl | exact Or.inr (Or.inl rfl) | exact Or.inr (Or.inr rfl) | exact Or.inr (bI_01 _)) ?_
    simp [*, bI]; try rfl
  · skip
    refine ev_go at_40_8 rfl ?_
    refine ev_go at_40_9 rfl ?_
    refine ev_get at_40_10 (by assumption) rfl ?_
    refine ev_icmp_ne at_40_13 (fun hc13 => ?_) (fun hc13 => ?_)
    · skip
      refine ev_ic (nI 0) at_40_20 (by decide) ?_
      refine ev_iret at_40_21 (by first | exact Or.inl rfl | exact Or.inr (Or.inl rfl) | exact Or.inr (Or.inr rfl) | exact Or.inr (bI_01 _)) ?_
      simp [*, bI]; try rfl
    · skip
      refine ev_ic (nI 1) at_40_16 (by decide) ?_
      refine ev_go at_40_17 rfl ?_
      refine ev_iret at_40_21 (by first | exact Or.inl rfl | exact Or.inr (Or.inl rfl) | exact Or.inr (Or.inr rfl) | exact Or.inr (bI_01 _)) ?_
      simp [*, bI]; try rfl
theorem c_indexOf {a s t : Nat} {g : Sg} (d : Nat) (hS : SecAt h a s t g) (k : Nat) (hk : s * 100 ≤ k) : mm_cal z (d + 1) 39 [.ref a, .int (nI k)] h (.returned (some (.int (nI (k - s * 100)))), h) := by
  obtain ⟨h1, -⟩ := hS
  refine mm_cal_of ?_
  refine ev_go at_39_0 rfl ?_
  refine ev_go at_39_1 rfl ?_
  refine ev_get at_39_2 (by assumption) rfl ?_
  refine ev_bi (nI 100) at_39_5 (by decide) ?_
  refine ev_go at_39_7 rfl ?_
  first | refine ev_top (congrArg Value.int (pk_mul _ _)) ?_ | skip
  refine ev_go at_39_8 rfl ?_
  first | refine ev_top (congrArg Value.int (pk_sub (by omega))) ?_ | skip
  refine ev_iret at_39_9 (by first | exact Or.inl rfl | exact Or.inr (Or.inl rfl) | exact Or.inr (Or.inr rfl) | exact Or.inr (bI_01 _)) ?_
  rfl
theorem c_hasTablet {a s t : Nat} {g : Sg} (d : Nat) (hS : SecAt h a s t g) (hn : SecNo s t) (k : Nat) (hk : s * 100 ≤ k) (hk2 : k < 2 ^ 31) : mm_cal z (d + 2) 38 [.ref a, .int (nI k)] h (.returned (some (.int (bI (decide (k - s * 100 < t))))), h) := by
  have h1 := hS.1
  have h4 := hS.2.2.2.1
  have h5 := hS.2.2.2.2
  have h6 := hn.2.2
  refine mm_cal_of ?_
  refine ev_go at_38_0 rfl ?_
  refine ev_go at_38_1 rfl ?_
  refine ev_callV (as := [_]) at_38_2 rfl rfl (by simp [mm_wt, Value.category]) rfl (by assumption) (c_indexOf d hS k hk) ?_
  refine ev_go at_38_5 rfl ?_
  refine ev_go at_38_6 rfl ?_
  refine ev_if_lt at_38_7 (fun hc => absurd hc (nI_pos (by omega))) (fun _ => ?_)
  refine ev_go at_38_10 rfl ?_
  refine ev_go at_38_11 rfl ?_
  refine ev_get at_38_12 (by assumption) rfl ?_
  refine ev_alen at_38_15 (by assumption) (by decide) ?_
  refine ev_icmp_ge at_38_16 (fun hc16 => ?_) (fun hc16 => ?_)
  · skip
    refine ev_ic (nI 0) at_38_23 (by decide) ?_
    refine ev_iret at_38_24 (by first | exact Or.inl rfl | exact Or.inr (Or.inl rfl) | exact Or.inr (Or.inr rfl) | exact Or.inr (bI_01 _)) ?_
    rw [nums_len] at hc16
    first | (rw [decide_eq_false (fun q => hc16 (nI_le (by omega) (by omega)))]; rfl) | (rw [decide_eq_true (Nat.not_le.mp fun q => hc16 (nI_le (by omega) (by omega)))]; rfl) | (rw [decide_eq_false (Nat.not_lt.mpr ((nI_leI (by omega) (by omega)).mp hc16 |> fun q => by omega))]; rfl)
  · skip
    refine ev_ic (nI 1) at_38_19 (by decide) ?_
    refine ev_go at_38_20 rfl ?_
    refine ev_iret at_38_24 (by first | exact Or.inl rfl | exact Or.inr (Or.inl rfl) | exact Or.inr (Or.inr rfl) | exact Or.inr (bI_01 _)) ?_
    rw [nums_len] at hc16
    first | (rw [decide_eq_false (fun q => hc16 (nI_le (by omega) (by omega)))]; rfl) | (rw [decide_eq_true (Nat.not_le.mp fun q => hc16 (nI_le (by omega) (by omega)))]; rfl) | (rw [decide_eq_false (Nat.not_lt.mpr ((nI_leI (by omega) (by omega)).mp hc16 |> fun q => by omega))]; rfl)
theorem c_placeOf {a s t : Nat} {g : Sg} (d : Nat) (hS : SecAt h a s t g) (hn : SecNo s t) (i v : Nat) (hi : g.2.2.1[i]? = some v) : mm_cal z (d + 3) 44 [.ref a, .int (nI (s * 100 + i))] h (.returned (some (.int (nI v))), h) := by
  have h1 := hS.1
  have h4 := hS.2.2.2.1
  have hit : i < t := by rw [← hS.2.2.2.2]; exact (List.getElem?_eq_some_iff.mp hi).1
  have h15 := hn.1
  have h8 := hn.2.2
  have hT := c_hasTablet (z := z) d hS hn (s * 100 + i) (by omega) (by omega)
  rw [Nat.add_sub_cancel_left, decide_eq_true hit] at hT
  have hX := c_indexOf (z := z) (d + 1) hS (s * 100 + i) (by omega)
  rw [Nat.add_sub_cancel_left] at hX
  have hv := nums_at hi
  refine mm_cal_of ?_
  refine ev_go at_44_0 rfl ?_
  refine ev_go at_44_1 rfl ?_
  refine ev_callV (as := [_]) at_44_2 rfl rfl (by simp [mm_wt, Value.category]) rfl (by assumption) hT ?_
  refine ev_ifb_eq at_44_5 (fun hc => nomatch hc) (fun _ => ?_)
  refine ev_go at_44_8 rfl ?_
  refine ev_get at_44_9 (by assumption) rfl ?_
  refine ev_go at_44_12 rfl ?_
  refine ev_go at_44_13 rfl ?_
  refine ev_callV (as := [_]) at_44_14 rfl rfl (by simp [mm_wt, Value.category]) rfl (by assumption) hX ?_
  refine ev_iald at_44_17 (by assumption) (by omega) (by assumption) ?_
  refine ev_go at_44_18 rfl ?_
  refine ev_iret at_44_22 (by first | exact Or.inl rfl | exact Or.inr (Or.inl rfl) | exact Or.inr (Or.inr rfl) | exact Or.inr (bI_01 _)) ?_
  rfl
theorem c_setPlaceOf {a s t : Nat} {g : Sg} (d : Nat) (hS : SecAt h a s t g) (hn : SecNo s t) (i v : Nat) (hit : i < t) : ∃ h', mm_cal z (d + 3) 37 [.ref a, .int (nI (s * 100 + i)), .int (nI v)] h (.returned none, h') ∧ SecAt h' a s t (g.1, g.2.1, g.2.2.1.set i v, g.2.2.2) ∧ Off a (a + 6) h h' := by
  have h1 := hS.1
  have h4 := hS.2.2.2.1
  have h15 := hn.1
  have h8 := hn.2.2
  have hT := c_hasTablet (z := z) d hS hn (s * 100 + i) (by omega) (by omega)
  rw [Nat.add_sub_cancel_left, decide_eq_true hit] at hT
  have hX := c_indexOf (z := z) (d + 1) hS (s * 100 + i) (by omega)
  rw [Nat.add_sub_cancel_left] at hX
  have hlen : i < (nums g.2.2.1).length := by rw [nums_len, hS.2.2.2.2]; exact hit
  have o : Off (a + 5) (a + 6) h (mm_upd h (a + 5) i (.int (nI v))) := Off.upd (Nat.le_refl _) (by omega)
  refine ⟨mm_upd h (a + 5) i (.int (nI v)), ?_, ⟨by rw [o.2.2 _ (by omega)]; exact h1, hS.2.1.off o (by omega), hS.2.2.1.off o (by omega), ?_, by simpa using hS.2.2.2.2⟩, o.wide (by omega) (Nat.le_refl _)⟩
  · refine mm_cal_of ?_
    refine ev_go at_37_0 rfl ?_
    refine ev_go at_37_1 rfl ?_
    refine ev_callV (as := [_]) at_37_2 rfl rfl (by simp [mm_wt, Value.category]) rfl (by assumption) hT ?_
    refine ev_ifb_eq at_37_5 (fun hc => nomatch hc) (fun _ => ?_)
    refine ev_go at_37_8 rfl ?_
    refine ev_get at_37_9 (by assumption) rfl ?_
    refine ev_go at_37_12 rfl ?_
    refine ev_go at_37_13 rfl ?_
    refine ev_callV (as := [_]) at_37_14 rfl rfl (by simp [mm_wt, Value.category]) rfl (by assumption) hX ?_
    refine ev_go at_37_17 rfl ?_
    refine ev_iast at_37_18 (by assumption) (by omega) hlen ?_
    refine ev_end at_37_19 rfl ?_
    rfl
  · rw [mm_upd_at h4, nums_set]
def eN (e : Bool) : Nat := if e then 1 else 0
theorem Sg.at_with (g : Sg) (e : Bool) (i : List Nat × Bool × Bool) : (g.with e i).at e = i := by cases e <;> rfl
theorem Sg.at_with' (g : Sg) (e : Bool) (i : List Nat × Bool × Bool) : (g.with e i).at (!e) = g.at (!e) := by cases e <;> rfl
theorem Sg.with_pl (g : Sg) (e : Bool) (i : List Nat × Bool × Bool) : (g.with e i).2.2 = g.2.2 := by cases e <;> rfl
theorem c_layIn {a s t : Nat} {g : Sg} (d : Nat) (hS : SecAt h a s t g) (hn : SecNo s t) (e : Bool) (i : Nat) (hit : i < t) (hp : (g.at e).1.length < t) : ∃ h', mm_cal z (d + 4) 35 [.ref a, .int (nI (eb s e)), .int (nI (s * 100 + i))] h (.returned none, h') ∧ SecAt h' a s t ((g.with e ((g.at e).1 ++ [s * 100 + i], (g.at e).2)).1, (g.with e ((g.at e).1 ++ [s * 100 + i], (g.at e).2)).2.1, g.2.2.1.set i (eN e), g.2.2.2) ∧ Off a (a + 6) h h' := by
  have h1 := hS.1
  have hI := hS.inst e
  obtain ⟨n1, n2, n3⟩ := hn.lt
  have hIq : h[ia a e]? = some (mm_cls 46, [.ref (ia a e + 1), .int (nI (g.at e).1.length), .int (bI (g.at e).2.1), .int (bI (g.at e).2.2)]) := hI.1
  obtain ⟨h2, hc2, hI2, o2⟩ := c_push (z := z) (d + 2) (s * 100 + i) hI hp hn.2.2
  have hS2 : SecAt h2 a s t (g.with e ((g.at e).1 ++ [s * 100 + i], (g.at e).2)) := hS.setInst e o2 hI2
  have h12 := hS2.1
  obtain ⟨h3, hc3, hS3, o3⟩ := c_setPlaceOf (z := z) d hS2 hn i (eN e) hit
  have o2' : Off a (a + 6) h h2 := o2.wide (by unfold ia; split <;> omega) (by unfold ia; split <;> omega)
  refine ⟨h3, ?_, by rw [Sg.with_pl] at hS3; exact hS3, o2'.trans o3⟩
  refine mm_cal_of ?_
  cases e
  · skip
    refine ev_go at_35_0 rfl ?_
    refine ev_go at_35_1 rfl ?_
    refine ev_callV (as := [_]) at_35_2 rfl rfl (by simp [mm_wt, Value.category]) rfl (by assumption) (c_instrumentAt (d + 2) hS hn false) ?_
    refine ev_go at_35_5 rfl ?_
    refine ev_callV (as := [_]) at_35_6 rfl rfl (by simp [mm_wt, Value.category]) rfl hIq hc2 ?_
    refine ev_go at_35_9 rfl ?_
    refine ev_go at_35_10 rfl ?_
    refine ev_go at_35_11 rfl ?_
    refine ev_go at_35_12 rfl ?_
    refine ev_get at_35_13 (by assumption) rfl ?_
    refine ev_icmp_ne at_35_16 (fun hc => absurd rfl hc) (fun _ => ?_)
    refine ev_ic (nI 0) at_35_19 (by decide) ?_
    refine ev_go at_35_20 rfl ?_
    refine ev_callV (as := [_, _]) at_35_24 rfl rfl (by simp [mm_wt, Value.category]) rfl (by assumption) hc3 ?_
    refine ev_end at_35_27 rfl ?_
    rfl
  · skip
    refine ev_go at_35_0 rfl ?_
    refine ev_go at_35_1 rfl ?_
    refine ev_callV (as := [_]) at_35_2 rfl rfl (by simp [mm_wt, Value.category]) rfl (by assumption) (c_instrumentAt (d + 2) hS hn true) ?_
    refine ev_go at_35_5 rfl ?_
    refine ev_callV (as := [_]) at_35_6 rfl rfl (by simp [mm_wt, Value.category]) rfl hIq hc2 ?_
    refine ev_go at_35_9 rfl ?_
    refine ev_go at_35_10 rfl ?_
    refine ev_go at_35_11 rfl ?_
    refine ev_go at_35_12 rfl ?_
    refine ev_get at_35_13 (by assumption) rfl ?_
    refine ev_icmp_ne at_35_16 (fun _ => ?_) (fun hc => absurd hc (fun q => by have q2 : up s = lo s := (nI_eq (by omega) (by omega)).mp q; omega))
    refine ev_ic (nI 1) at_35_23 (by decide) ?_
    refine ev_callV (as := [_, _]) at_35_24 rfl rfl (by simp [mm_wt, Value.category]) rfl (by assumption) hc3 ?_
    refine ev_end at_35_27 rfl ?_
    rfl
end C1
