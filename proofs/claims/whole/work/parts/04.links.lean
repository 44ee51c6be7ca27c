/-! THE TABLES ARE THE PROGRAM's: links, decoded instructions -/
/-- a field's link: the field y of the class x, read by the class own through its entry idx -/
def mm_lf (own : String) (idx x y : Nat) : Prop := ∃ r : vw_C, vwCl[x]? = some r ∧ y < r.2.2 ∧ (Cond.fieldLink own idx (r.2.1 y).1 (r.2.1 y).2.1 (r.2.1 y).2.2.1 ∈ mm_ws ∨ ∃ host : String, Cond.fieldLinkNest own idx (r.2.1 y).1 (r.2.1 y).2.1 (r.2.1 y).2.2.1 host ∈ mm_ws)
/-- a final field is written by its own class's constructor alone, by a plain link -/
def mm_fin_ok (own : String) (idx x y : Nat) (name : String) : Prop := ∀ r : vw_C, vwCl[x]? = some r → (r.2.1 y).2.2.2 = true → (r.2.1 y).1 = own ∧ name = "<init>" ∧ Cond.fieldLink own idx (r.2.1 y).1 (r.2.1 y).2.1 (r.2.1 y).2.2.1 ∈ mm_ws
/-- the link of the entry idx of the class own to the method x -/
def mm_ln (own : String) (idx x : Nat) : Prop := Cond.methodLink own idx (mm_nm x) ∈ mm_ws ∨ ∃ host : String, Cond.methodLinkNest own idx (mm_nm x) host ∈ mm_ws
/-- the word that pins a method's code -/
def mm_cw (j : Nat) : Cond := match mm_ht j with
  | [] => .code (mm_nm j) (mm_bs j) (mm_ml j) (mm_rt j)
  | _ => .codeWith (mm_nm j) (mm_bs j) (mm_ml j) (mm_rt j) ((mm_ht j).map (·.1))
/-- what a call of the method x needs, whatever its instruction -/
def mm_lk (x : Nat) : Prop := mm_cw x ∈ mm_ws ∧ Cond.initialized (mm_nm x).cls ∈ mm_ws ∧ ((mm_nm x).cls ≠ "java/lang/invoke/MethodHandle" ∧ (mm_nm x).cls ≠ "java/lang/invoke/VarHandle") ∧ plainName (mm_nm x).cls = true ∧ mm_ml x ≤ 11 ∧ (parseMethodDescriptor (mm_nm x).desc).map (fun d => d.parameters.length) = some (mm_np x) ∧ (mm_nm x).cls = mm_on (mm_cls x)
def mm_lfT : List (Nat × Nat × Nat) := [(7, 0, 0), (13, 0, 1), (19, 0, 2), (28, 0, 3), (41, 2, 3), (51, 1, 6), (61, 2, 1), (97, 3, 1), (105, 3, 4), (118, 3, 0), (156, 3, 2), (159, 3, 3), (170, 1, 3), (174, 1, 4), (189, 2, 2), (213, 1, 0), (216, 1, 1), (219, 1, 2), (200009, 2, 0), (200015, 2, 1), (200019, 2, 2), (100009, 1, 0), (100015, 1, 1), (100018, 1, 2), (100026, 1, 3), (100030, 1, 4), (100033, 1, 5), (100037, 1, 6), (100053, 2, 2), (300009, 3, 1), (300015, 3, 2), (300018, 3, 3), (300021, 3, 4), (400007, 4, 3), (400013, 4, 4), (400017, 4, 5), (400020, 4, 6), (400023, 4, 7), (400026, 4, 8), (400029, 4, 9), (400033, 4, 10), (400036, 4, 11), (400039, 4, 12), (400042, 4, 13), (400045, 4, 14), (400048, 4, 0), (400051, 4, 1), (400054, 4, 2)]
set_option maxRecDepth 100000 in
theorem mm_lf_7 : mm_lf "TabletLine" 7 0 0 := ⟨_, rfl, by decide, Or.inl (mm_in 171 rfl rfl)⟩
set_option maxRecDepth 100000 in
theorem mm_lf_13 : mm_lf "TabletLine" 13 0 1 := ⟨_, rfl, by decide, Or.inl (mm_in 172 rfl rfl)⟩
set_option maxRecDepth 100000 in
theorem mm_lf_19 : mm_lf "TabletLine" 19 0 2 := ⟨_, rfl, by decide, Or.inl (mm_in 173 rfl rfl)⟩
set_option maxRecDepth 100000 in
theorem mm_lf_28 : mm_lf "TabletLine" 28 0 3 := ⟨_, rfl, by decide, Or.inl (mm_in 174 rfl rfl)⟩
set_option maxRecDepth 100000 in
theorem mm_lf_41 : mm_lf "TabletLine" 41 2 3 := ⟨_, rfl, by decide, Or.inr ⟨"TabletLine", mm_in 80 rfl rfl⟩⟩
set_option maxRecDepth 100000 in
theorem mm_lf_51 : mm_lf "TabletLine" 51 1 6 := ⟨_, rfl, by decide, Or.inr ⟨"TabletLine", mm_in 128 rfl rfl⟩⟩
set_option maxRecDepth 100000 in
theorem mm_lf_61 : mm_lf "TabletLine" 61 2 1 := ⟨_, rfl, by decide, Or.inr ⟨"TabletLine", mm_in 76 rfl rfl⟩⟩
set_option maxRecDepth 100000 in
theorem mm_lf_97 : mm_lf "TabletLine" 97 3 1 := ⟨_, rfl, by decide, Or.inr ⟨"TabletLine", mm_in 153 rfl rfl⟩⟩
set_option maxRecDepth 100000 in
theorem mm_lf_105 : mm_lf "TabletLine" 105 3 4 := ⟨_, rfl, by decide, Or.inr ⟨"TabletLine", mm_in 159 rfl rfl⟩⟩
set_option maxRecDepth 100000 in
theorem mm_lf_118 : mm_lf "TabletLine" 118 3 0 := ⟨_, rfl, by decide, Or.inr ⟨"TabletLine", mm_in 151 rfl rfl⟩⟩
set_option maxRecDepth 100000 in
theorem mm_lf_156 : mm_lf "TabletLine" 156 3 2 := ⟨_, rfl, by decide, Or.inr ⟨"TabletLine", mm_in 155 rfl rfl⟩⟩
set_option maxRecDepth 100000 in
theorem mm_lf_159 : mm_lf "TabletLine" 159 3 3 := ⟨_, rfl, by decide, Or.inr ⟨"TabletLine", mm_in 157 rfl rfl⟩⟩
set_option maxRecDepth 100000 in
theorem mm_lf_170 : mm_lf "TabletLine" 170 1 3 := ⟨_, rfl, by decide, Or.inr ⟨"TabletLine", mm_in 123 rfl rfl⟩⟩
set_option maxRecDepth 100000 in
theorem mm_lf_174 : mm_lf "TabletLine" 174 1 4 := ⟨_, rfl, by decide, Or.inr ⟨"TabletLine", mm_in 125 rfl rfl⟩⟩
set_option maxRecDepth 100000 in
theorem mm_lf_189 : mm_lf "TabletLine" 189 2 2 := ⟨_, rfl, by decide, Or.inr ⟨"TabletLine", mm_in 79 rfl rfl⟩⟩
set_option maxRecDepth 100000 in
theorem mm_lf_213 : mm_lf "TabletLine" 213 1 0 := ⟨_, rfl, by decide, Or.inr ⟨"TabletLine", mm_in 117 rfl rfl⟩⟩
set_option maxRecDepth 100000 in
theorem mm_lf_216 : mm_lf "TabletLine" 216 1 1 := ⟨_, rfl, by decide, Or.inr ⟨"TabletLine", mm_in 119 rfl rfl⟩⟩
set_option maxRecDepth 100000 in
theorem mm_lf_219 : mm_lf "TabletLine" 219 1 2 := ⟨_, rfl, by decide, Or.inr ⟨"TabletLine", mm_in 121 rfl rfl⟩⟩
set_option maxRecDepth 100000 in
theorem mm_lf_200009 : mm_lf "TabletLine$Instrument" 9 2 0 := ⟨_, rfl, by decide, Or.inl (mm_in 74 rfl rfl)⟩
set_option maxRecDepth 100000 in
theorem mm_lf_200015 : mm_lf "TabletLine$Instrument" 15 2 1 := ⟨_, rfl, by decide, Or.inl (mm_in 75 rfl rfl)⟩
set_option maxRecDepth 100000 in
theorem mm_lf_200019 : mm_lf "TabletLine$Instrument" 19 2 2 := ⟨_, rfl, by decide, Or.inl (mm_in 77 rfl rfl)⟩
set_option maxRecDepth 100000 in
theorem mm_lf_100009 : mm_lf "TabletLine$Section" 9 1 0 := ⟨_, rfl, by decide, Or.inl (mm_in 116 rfl rfl)⟩
set_option maxRecDepth 100000 in
theorem mm_lf_100015 : mm_lf "TabletLine$Section" 15 1 1 := ⟨_, rfl, by decide, Or.inl (mm_in 118 rfl rfl)⟩
set_option maxRecDepth 100000 in
theorem mm_lf_100018 : mm_lf "TabletLine$Section" 18 1 2 := ⟨_, rfl, by decide, Or.inl (mm_in 120 rfl rfl)⟩
set_option maxRecDepth 100000 in
theorem mm_lf_100026 : mm_lf "TabletLine$Section" 26 1 3 := ⟨_, rfl, by decide, Or.inl (mm_in 122 rfl rfl)⟩
set_option maxRecDepth 100000 in
theorem mm_lf_100030 : mm_lf "TabletLine$Section" 30 1 4 := ⟨_, rfl, by decide, Or.inl (mm_in 124 rfl rfl)⟩
set_option maxRecDepth 100000 in
theorem mm_lf_100033 : mm_lf "TabletLine$Section" 33 1 5 := ⟨_, rfl, by decide, Or.inl (mm_in 126 rfl rfl)⟩
set_option maxRecDepth 100000 in
theorem mm_lf_100037 : mm_lf "TabletLine$Section" 37 1 6 := ⟨_, rfl, by decide, Or.inl (mm_in 127 rfl rfl)⟩
set_option maxRecDepth 100000 in
theorem mm_lf_100053 : mm_lf "TabletLine$Section" 53 2 2 := ⟨_, rfl, by decide, Or.inr ⟨"TabletLine", mm_in 78 rfl rfl⟩⟩
set_option maxRecDepth 100000 in
theorem mm_lf_300009 : mm_lf "TabletLine$Train" 9 3 1 := ⟨_, rfl, by decide, Or.inl (mm_in 152 rfl rfl)⟩
set_option maxRecDepth 100000 in
theorem mm_lf_300015 : mm_lf "TabletLine$Train" 15 3 2 := ⟨_, rfl, by decide, Or.inl (mm_in 154 rfl rfl)⟩
set_option maxRecDepth 100000 in
theorem mm_lf_300018 : mm_lf "TabletLine$Train" 18 3 3 := ⟨_, rfl, by decide, Or.inl (mm_in 156 rfl rfl)⟩
set_option maxRecDepth 100000 in
theorem mm_lf_300021 : mm_lf "TabletLine$Train" 21 3 4 := ⟨_, rfl, by decide, Or.inl (mm_in 158 rfl rfl)⟩
set_option maxRecDepth 100000 in
theorem mm_lf_400007 : mm_lf "TabletLineModel" 7 4 3 := ⟨_, rfl, by decide, Or.inl (mm_in 556 rfl rfl)⟩
set_option maxRecDepth 100000 in
theorem mm_lf_400013 : mm_lf "TabletLineModel" 13 4 4 := ⟨_, rfl, by decide, Or.inl (mm_in 557 rfl rfl)⟩
set_option maxRecDepth 100000 in
theorem mm_lf_400017 : mm_lf "TabletLineModel" 17 4 5 := ⟨_, rfl, by decide, Or.inl (mm_in 558 rfl rfl)⟩
set_option maxRecDepth 100000 in
theorem mm_lf_400020 : mm_lf "TabletLineModel" 20 4 6 := ⟨_, rfl, by decide, Or.inl (mm_in 559 rfl rfl)⟩
set_option maxRecDepth 100000 in
theorem mm_lf_400023 : mm_lf "TabletLineModel" 23 4 7 := ⟨_, rfl, by decide, Or.inl (mm_in 560 rfl rfl)⟩
set_option maxRecDepth 100000 in
theorem mm_lf_400026 : mm_lf "TabletLineModel" 26 4 8 := ⟨_, rfl, by decide, Or.inl (mm_in 561 rfl rfl)⟩
set_option maxRecDepth 100000 in
theorem mm_lf_400029 : mm_lf "TabletLineModel" 29 4 9 := ⟨_, rfl, by decide, Or.inl (mm_in 562 rfl rfl)⟩
set_option maxRecDepth 100000 in
theorem mm_lf_400033 : mm_lf "TabletLineModel" 33 4 10 := ⟨_, rfl, by decide, Or.inl (mm_in 563 rfl rfl)⟩
set_option maxRecDepth 100000 in
theorem mm_lf_400036 : mm_lf "TabletLineModel" 36 4 11 := ⟨_, rfl, by decide, Or.inl (mm_in 564 rfl rfl)⟩
set_option maxRecDepth 100000 in
theorem mm_lf_400039 : mm_lf "TabletLineModel" 39 4 12 := ⟨_, rfl, by decide, Or.inl (mm_in 565 rfl rfl)⟩
set_option maxRecDepth 100000 in
theorem mm_lf_400042 : mm_lf "TabletLineModel" 42 4 13 := ⟨_, rfl, by decide, Or.inl (mm_in 566 rfl rfl)⟩
set_option maxRecDepth 100000 in
theorem mm_lf_400045 : mm_lf "TabletLineModel" 45 4 14 := ⟨_, rfl, by decide, Or.inl (mm_in 567 rfl rfl)⟩
set_option maxRecDepth 100000 in
theorem mm_lf_400048 : mm_lf "TabletLineModel" 48 4 0 := ⟨_, rfl, by decide, Or.inl (mm_in 553 rfl rfl)⟩
set_option maxRecDepth 100000 in
theorem mm_lf_400051 : mm_lf "TabletLineModel" 51 4 1 := ⟨_, rfl, by decide, Or.inl (mm_in 554 rfl rfl)⟩
set_option maxRecDepth 100000 in
theorem mm_lf_400054 : mm_lf "TabletLineModel" 54 4 2 := ⟨_, rfl, by decide, Or.inl (mm_in 555 rfl rfl)⟩
theorem mm_lfT_ok : ∀ e ∈ mm_lfT, mm_lf (mm_on (e.1 / 100000)) (e.1 % 100000) e.2.1 e.2.2 := by
  unfold mm_lfT
  simp only [List.forall_mem_cons]
  exact ⟨mm_lf_7, mm_lf_13, mm_lf_19, mm_lf_28, mm_lf_41, mm_lf_51, mm_lf_61, mm_lf_97, mm_lf_105, mm_lf_118, mm_lf_156, mm_lf_159, mm_lf_170, mm_lf_174, mm_lf_189, mm_lf_213, mm_lf_216, mm_lf_219, mm_lf_200009, mm_lf_200015, mm_lf_200019, mm_lf_100009, mm_lf_100015, mm_lf_100018, mm_lf_100026, mm_lf_100030, mm_lf_100033, mm_lf_100037, mm_lf_100053, mm_lf_300009, mm_lf_300015, mm_lf_300018, mm_lf_300021, mm_lf_400007, mm_lf_400013, mm_lf_400017, mm_lf_400020, mm_lf_400023, mm_lf_400026, mm_lf_400029, mm_lf_400033, mm_lf_400036, mm_lf_400039, mm_lf_400042, mm_lf_400045, mm_lf_400048, mm_lf_400051, mm_lf_400054, fun _ h => absurd h List.not_mem_nil⟩
/-- entries through which a constructor writes a final field of its own class -/
def mm_finT : List (Nat × Nat × Nat) := [(7, 0, 0), (13, 0, 1), (19, 0, 2), (28, 0, 3), (200009, 2, 0), (100009, 1, 0), (100015, 1, 1), (100018, 1, 2), (100026, 1, 3), (100030, 1, 4), (100033, 1, 5), (400013, 4, 4), (400017, 4, 5), (400020, 4, 6), (400023, 4, 7), (400026, 4, 8), (400029, 4, 9), (400033, 4, 10), (400036, 4, 11), (400039, 4, 12), (400042, 4, 13), (400045, 4, 14), (400048, 4, 0), (400051, 4, 1)]
set_option maxRecDepth 100000 in
theorem mm_fin_7 : mm_fin_ok "TabletLine" 7 0 0 "<init>" := fun r h _ => by cases h; exact ⟨rfl, rfl, mm_in 171 rfl rfl⟩
set_option maxRecDepth 100000 in
theorem mm_fin_13 : mm_fin_ok "TabletLine" 13 0 1 "<init>" := fun r h _ => by cases h; exact ⟨rfl, rfl, mm_in 172 rfl rfl⟩
set_option maxRecDepth 100000 in
theorem mm_fin_19 : mm_fin_ok "TabletLine" 19 0 2 "<init>" := fun r h _ => by cases h; exact ⟨rfl, rfl, mm_in 173 rfl rfl⟩
set_option maxRecDepth 100000 in
theorem mm_fin_28 : mm_fin_ok "TabletLine" 28 0 3 "<init>" := fun r h _ => by cases h; exact ⟨rfl, rfl, mm_in 174 rfl rfl⟩
set_option maxRecDepth 100000 in
theorem mm_fin_200009 : mm_fin_ok "TabletLine$Instrument" 9 2 0 "<init>" := fun r h _ => by cases h; exact ⟨rfl, rfl, mm_in 74 rfl rfl⟩
set_option maxRecDepth 100000 in
theorem mm_fin_100009 : mm_fin_ok "TabletLine$Section" 9 1 0 "<init>" := fun r h _ => by cases h; exact ⟨rfl, rfl, mm_in 116 rfl rfl⟩
set_option maxRecDepth 100000 in
theorem mm_fin_100015 : mm_fin_ok "TabletLine$Section" 15 1 1 "<init>" := fun r h _ => by cases h; exact ⟨rfl, rfl, mm_in 118 rfl rfl⟩
set_option maxRecDepth 100000 in
theorem mm_fin_100018 : mm_fin_ok "TabletLine$Section" 18 1 2 "<init>" := fun r h _ => by cases h; exact ⟨rfl, rfl, mm_in 120 rfl rfl⟩
set_option maxRecDepth 100000 in
theorem mm_fin_100026 : mm_fin_ok "TabletLine$Section" 26 1 3 "<init>" := fun r h _ => by cases h; exact ⟨rfl, rfl, mm_in 122 rfl rfl⟩
set_option maxRecDepth 100000 in
theorem mm_fin_100030 : mm_fin_ok "TabletLine$Section" 30 1 4 "<init>" := fun r h _ => by cases h; exact ⟨rfl, rfl, mm_in 124 rfl rfl⟩
set_option maxRecDepth 100000 in
theorem mm_fin_100033 : mm_fin_ok "TabletLine$Section" 33 1 5 "<init>" := fun r h _ => by cases h; exact ⟨rfl, rfl, mm_in 126 rfl rfl⟩
set_option maxRecDepth 100000 in
theorem mm_fin_400013 : mm_fin_ok "TabletLineModel" 13 4 4 "<init>" := fun r h _ => by cases h; exact ⟨rfl, rfl, mm_in 557 rfl rfl⟩
set_option maxRecDepth 100000 in
theorem mm_fin_400017 : mm_fin_ok "TabletLineModel" 17 4 5 "<init>" := fun r h _ => by cases h; exact ⟨rfl, rfl, mm_in 558 rfl rfl⟩
set_option maxRecDepth 100000 in
theorem mm_fin_400020 : mm_fin_ok "TabletLineModel" 20 4 6 "<init>" := fun r h _ => by cases h; exact ⟨rfl, rfl, mm_in 559 rfl rfl⟩
set_option maxRecDepth 100000 in
theorem mm_fin_400023 : mm_fin_ok "TabletLineModel" 23 4 7 "<init>" := fun r h _ => by cases h; exact ⟨rfl, rfl, mm_in 560 rfl rfl⟩
set_option maxRecDepth 100000 in
theorem mm_fin_400026 : mm_fin_ok "TabletLineModel" 26 4 8 "<init>" := fun r h _ => by cases h; exact ⟨rfl, rfl, mm_in 561 rfl rfl⟩
set_option maxRecDepth 100000 in
theorem mm_fin_400029 : mm_fin_ok "TabletLineModel" 29 4 9 "<init>" := fun r h _ => by cases h; exact ⟨rfl, rfl, mm_in 562 rfl rfl⟩
set_option maxRecDepth 100000 in
theorem mm_fin_400033 : mm_fin_ok "TabletLineModel" 33 4 10 "<init>" := fun r h _ => by cases h; exact ⟨rfl, rfl, mm_in 563 rfl rfl⟩
set_option maxRecDepth 100000 in
theorem mm_fin_400036 : mm_fin_ok "TabletLineModel" 36 4 11 "<init>" := fun r h _ => by cases h; exact ⟨rfl, rfl, mm_in 564 rfl rfl⟩
set_option maxRecDepth 100000 in
theorem mm_fin_400039 : mm_fin_ok "TabletLineModel" 39 4 12 "<init>" := fun r h _ => by cases h; exact ⟨rfl, rfl, mm_in 565 rfl rfl⟩
set_option maxRecDepth 100000 in
theorem mm_fin_400042 : mm_fin_ok "TabletLineModel" 42 4 13 "<init>" := fun r h _ => by cases h; exact ⟨rfl, rfl, mm_in 566 rfl rfl⟩
set_option maxRecDepth 100000 in
theorem mm_fin_400045 : mm_fin_ok "TabletLineModel" 45 4 14 "<init>" := fun r h _ => by cases h; exact ⟨rfl, rfl, mm_in 567 rfl rfl⟩
set_option maxRecDepth 100000 in
theorem mm_fin_400048 : mm_fin_ok "TabletLineModel" 48 4 0 "<init>" := fun r h _ => by cases h; exact ⟨rfl, rfl, mm_in 553 rfl rfl⟩
set_option maxRecDepth 100000 in
theorem mm_fin_400051 : mm_fin_ok "TabletLineModel" 51 4 1 "<init>" := fun r h _ => by cases h; exact ⟨rfl, rfl, mm_in 554 rfl rfl⟩
theorem mm_finT_ok : ∀ e ∈ mm_finT, mm_fin_ok (mm_on (e.1 / 100000)) (e.1 % 100000) e.2.1 e.2.2 "<init>" := by
  unfold mm_finT
  simp only [List.forall_mem_cons]
  exact ⟨mm_fin_7, mm_fin_13, mm_fin_19, mm_fin_28, mm_fin_200009, mm_fin_100009, mm_fin_100015, mm_fin_100018, mm_fin_100026, mm_fin_100030, mm_fin_100033, mm_fin_400013, mm_fin_400017, mm_fin_400020, mm_fin_400023, mm_fin_400026, mm_fin_400029, mm_fin_400033, mm_fin_400036, mm_fin_400039, mm_fin_400042, mm_fin_400045, mm_fin_400048, mm_fin_400051, fun _ h => absurd h List.not_mem_nil⟩
def mm_lmT : List (Nat × Nat) := [(23, 34), (32, 49), (33, 2), (37, 36), (47, 3), (54, 41), (57, 43), (64, 7), (68, 47), (72, 48), (75, 37), (79, 11), (89, 44), (93, 12), (108, 35), (111, 14), (114, 15), (123, 17), (134, 20), (138, 9), (147, 21), (164, 24), (167, 8), (177, 25), (186, 42), (194, 4), (199, 40), (206, 38), (100023, 45), (100041, 35), (100045, 42), (100049, 36), (100056, 39), (100059, 38), (100063, 46), (100066, 37), (500007, 1), (500015, 5), (500019, 6), (500023, 10), (500029, 13), (500033, 16), (500036, 18), (500040, 19), (500048, 22), (500051, 23), (500054, 26), (500057, 27), (500060, 28), (500063, 29), (500066, 30), (500069, 31), (500072, 32), (500075, 33), (500079, 85), (500085, 0), (500089, 50), (500090, 86), (500093, 52), (500094, 51), (500098, 87), (500101, 59), (500102, 88), (500105, 60), (500106, 89), (500109, 65), (500110, 90), (500113, 68), (500114, 91), (500116, 69), (500117, 92), (500120, 72), (500121, 93), (500124, 73), (500125, 94), (500127, 74), (500128, 95), (500130, 75), (500131, 96), (500133, 76), (500134, 97), (500136, 77), (500137, 98), (500139, 79), (500140, 99), (500142, 80), (500143, 100), (500145, 81), (500146, 101), (500148, 82), (500149, 102), (500151, 83), (500152, 103), (500154, 84), (400057, 54), (400061, 55), (400064, 56), (400068, 57), (400071, 53), (400075, 58), (400079, 61), (400082, 62), (400085, 63), (400088, 64), (400092, 66), (400095, 67), (400098, 70), (400101, 71), (400104, 78)]
set_option maxRecDepth 100000 in
theorem mm_lm_23 : mm_ln "TabletLine" 23 34 := Or.inr ⟨"TabletLine", mm_in 64 rfl rfl⟩
set_option maxRecDepth 100000 in
theorem mm_lm_32 : mm_ln "TabletLine" 32 49 := Or.inr ⟨"TabletLine", mm_in 147 rfl rfl⟩
set_option maxRecDepth 100000 in
theorem mm_lm_33 : mm_ln "TabletLine" 33 2 := Or.inl (mm_in 195 rfl rfl)
set_option maxRecDepth 100000 in
theorem mm_lm_37 : mm_ln "TabletLine" 37 36 := Or.inr ⟨"TabletLine", mm_in 281 rfl rfl⟩
set_option maxRecDepth 100000 in
theorem mm_lm_47 : mm_ln "TabletLine" 47 3 := Or.inl (mm_in 199 rfl rfl)
set_option maxRecDepth 100000 in
theorem mm_lm_54 : mm_ln "TabletLine" 54 41 := Or.inr ⟨"TabletLine", mm_in 296 rfl rfl⟩
set_option maxRecDepth 100000 in
theorem mm_lm_57 : mm_ln "TabletLine" 57 43 := Or.inr ⟨"TabletLine", mm_in 304 rfl rfl⟩
set_option maxRecDepth 100000 in
theorem mm_lm_64 : mm_ln "TabletLine" 64 7 := Or.inl (mm_in 308 rfl rfl)
set_option maxRecDepth 100000 in
theorem mm_lm_68 : mm_ln "TabletLine" 68 47 := Or.inr ⟨"TabletLine", mm_in 320 rfl rfl⟩
set_option maxRecDepth 100000 in
theorem mm_lm_72 : mm_ln "TabletLine" 72 48 := Or.inr ⟨"TabletLine", mm_in 324 rfl rfl⟩
set_option maxRecDepth 100000 in
theorem mm_lm_75 : mm_ln "TabletLine" 75 37 := Or.inr ⟨"TabletLine", mm_in 328 rfl rfl⟩
set_option maxRecDepth 100000 in
theorem mm_lm_79 : mm_ln "TabletLine" 79 11 := Or.inl (mm_in 337 rfl rfl)
set_option maxRecDepth 100000 in
theorem mm_lm_89 : mm_ln "TabletLine" 89 44 := Or.inr ⟨"TabletLine", mm_in 344 rfl rfl⟩
set_option maxRecDepth 100000 in
theorem mm_lm_93 : mm_ln "TabletLine" 93 12 := Or.inl (mm_in 348 rfl rfl)
set_option maxRecDepth 100000 in
theorem mm_lm_108 : mm_ln "TabletLine" 108 35 := Or.inr ⟨"TabletLine", mm_in 368 rfl rfl⟩
set_option maxRecDepth 100000 in
theorem mm_lm_111 : mm_ln "TabletLine" 111 14 := Or.inl (mm_in 376 rfl rfl)
set_option maxRecDepth 100000 in
theorem mm_lm_114 : mm_ln "TabletLine" 114 15 := Or.inl (mm_in 381 rfl rfl)
set_option maxRecDepth 100000 in
theorem mm_lm_123 : mm_ln "TabletLine" 123 17 := Or.inl (mm_in 394 rfl rfl)
set_option maxRecDepth 100000 in
theorem mm_lm_134 : mm_ln "TabletLine" 134 20 := Or.inl (mm_in 419 rfl rfl)
set_option maxRecDepth 100000 in
theorem mm_lm_138 : mm_ln "TabletLine" 138 9 := Or.inl (mm_in 316 rfl rfl)
set_option maxRecDepth 100000 in
theorem mm_lm_147 : mm_ln "TabletLine" 147 21 := Or.inl (mm_in 439 rfl rfl)
set_option maxRecDepth 100000 in
theorem mm_lm_164 : mm_ln "TabletLine" 164 24 := Or.inl (mm_in 479 rfl rfl)
set_option maxRecDepth 100000 in
theorem mm_lm_167 : mm_ln "TabletLine" 167 8 := Or.inl (mm_in 312 rfl rfl)
set_option maxRecDepth 100000 in
theorem mm_lm_177 : mm_ln "TabletLine" 177 25 := Or.inl (mm_in 483 rfl rfl)
set_option maxRecDepth 100000 in
theorem mm_lm_186 : mm_ln "TabletLine" 186 42 := Or.inr ⟨"TabletLine", mm_in 504 rfl rfl⟩
set_option maxRecDepth 100000 in
theorem mm_lm_194 : mm_ln "TabletLine" 194 4 := Or.inl (mm_in 203 rfl rfl)
set_option maxRecDepth 100000 in
theorem mm_lm_199 : mm_ln "TabletLine" 199 40 := Or.inr ⟨"TabletLine", mm_in 276 rfl rfl⟩
set_option maxRecDepth 100000 in
theorem mm_lm_206 : mm_ln "TabletLine" 206 38 := Or.inr ⟨"TabletLine", mm_in 342 rfl rfl⟩
set_option maxRecDepth 100000 in
theorem mm_lm_100023 : mm_ln "TabletLine$Section" 23 45 := Or.inr ⟨"TabletLine", mm_in 70 rfl rfl⟩
set_option maxRecDepth 100000 in
theorem mm_lm_100041 : mm_ln "TabletLine$Section" 41 35 := Or.inl (mm_in 92 rfl rfl)
set_option maxRecDepth 100000 in
theorem mm_lm_100045 : mm_ln "TabletLine$Section" 45 42 := Or.inl (mm_in 300 rfl rfl)
set_option maxRecDepth 100000 in
theorem mm_lm_100049 : mm_ln "TabletLine$Section" 49 36 := Or.inl (mm_in 96 rfl rfl)
set_option maxRecDepth 100000 in
theorem mm_lm_100056 : mm_ln "TabletLine$Section" 56 39 := Or.inl (mm_in 112 rfl rfl)
set_option maxRecDepth 100000 in
theorem mm_lm_100059 : mm_ln "TabletLine$Section" 59 38 := Or.inl (mm_in 108 rfl rfl)
set_option maxRecDepth 100000 in
theorem mm_lm_100063 : mm_ln "TabletLine$Section" 63 46 := Or.inr ⟨"TabletLine", mm_in 100 rfl rfl⟩
set_option maxRecDepth 100000 in
theorem mm_lm_100066 : mm_ln "TabletLine$Section" 66 37 := Or.inl (mm_in 104 rfl rfl)
set_option maxRecDepth 100000 in
theorem mm_lm_500007 : mm_ln "TabletLineLaw" 7 1 := Or.inl (mm_in 191 rfl rfl)
set_option maxRecDepth 100000 in
theorem mm_lm_500015 : mm_ln "TabletLineLaw" 15 5 := Or.inl (mm_in 285 rfl rfl)
set_option maxRecDepth 100000 in
theorem mm_lm_500019 : mm_ln "TabletLineLaw" 19 6 := Or.inl (mm_in 292 rfl rfl)
set_option maxRecDepth 100000 in
theorem mm_lm_500023 : mm_ln "TabletLineLaw" 23 10 := Or.inl (mm_in 333 rfl rfl)
set_option maxRecDepth 100000 in
theorem mm_lm_500029 : mm_ln "TabletLineLaw" 29 13 := Or.inl (mm_in 372 rfl rfl)
set_option maxRecDepth 100000 in
theorem mm_lm_500033 : mm_ln "TabletLineLaw" 33 16 := Or.inl (mm_in 390 rfl rfl)
set_option maxRecDepth 100000 in
theorem mm_lm_500036 : mm_ln "TabletLineLaw" 36 18 := Or.inl (mm_in 404 rfl rfl)
set_option maxRecDepth 100000 in
theorem mm_lm_500040 : mm_ln "TabletLineLaw" 40 19 := Or.inl (mm_in 414 rfl rfl)
set_option maxRecDepth 100000 in
theorem mm_lm_500048 : mm_ln "TabletLineLaw" 48 22 := Or.inl (mm_in 467 rfl rfl)
set_option maxRecDepth 100000 in
theorem mm_lm_500051 : mm_ln "TabletLineLaw" 51 23 := Or.inl (mm_in 475 rfl rfl)
set_option maxRecDepth 100000 in
theorem mm_lm_500054 : mm_ln "TabletLineLaw" 54 26 := Or.inl (mm_in 490 rfl rfl)
set_option maxRecDepth 100000 in
theorem mm_lm_500057 : mm_ln "TabletLineLaw" 57 27 := Or.inl (mm_in 497 rfl rfl)
set_option maxRecDepth 100000 in
theorem mm_lm_500060 : mm_ln "TabletLineLaw" 60 28 := Or.inl (mm_in 508 rfl rfl)
set_option maxRecDepth 100000 in
theorem mm_lm_500063 : mm_ln "TabletLineLaw" 63 29 := Or.inl (mm_in 515 rfl rfl)
set_option maxRecDepth 100000 in
theorem mm_lm_500066 : mm_ln "TabletLineLaw" 66 30 := Or.inl (mm_in 522 rfl rfl)
set_option maxRecDepth 100000 in
theorem mm_lm_500069 : mm_ln "TabletLineLaw" 69 31 := Or.inl (mm_in 529 rfl rfl)
set_option maxRecDepth 100000 in
theorem mm_lm_500072 : mm_ln "TabletLineLaw" 72 32 := Or.inl (mm_in 536 rfl rfl)
set_option maxRecDepth 100000 in
theorem mm_lm_500075 : mm_ln "TabletLineLaw" 75 33 := Or.inl (mm_in 543 rfl rfl)
set_option maxRecDepth 100000 in
theorem mm_lm_500079 : mm_ln "TabletLineLaw" 79 85 := Or.inl (mm_in 184 rfl rfl)
set_option maxRecDepth 100000 in
theorem mm_lm_500085 : mm_ln "TabletLineLaw" 85 0 := Or.inl (mm_in 55 rfl rfl)
set_option maxRecDepth 100000 in
theorem mm_lm_500089 : mm_ln "TabletLineLaw" 89 50 := Or.inl (mm_in 549 rfl rfl)
set_option maxRecDepth 100000 in
theorem mm_lm_500090 : mm_ln "TabletLineLaw" 90 86 := Or.inl (mm_in 187 rfl rfl)
set_option maxRecDepth 100000 in
theorem mm_lm_500093 : mm_ln "TabletLineLaw" 93 52 := Or.inl (mm_in 603 rfl rfl)
set_option maxRecDepth 100000 in
theorem mm_lm_500094 : mm_ln "TabletLineLaw" 94 51 := Or.inl (mm_in 599 rfl rfl)
set_option maxRecDepth 100000 in
theorem mm_lm_500098 : mm_ln "TabletLineLaw" 98 87 := Or.inl (mm_in 282 rfl rfl)
set_option maxRecDepth 100000 in
theorem mm_lm_500101 : mm_ln "TabletLineLaw" 101 59 := Or.inl (mm_in 628 rfl rfl)
set_option maxRecDepth 100000 in
theorem mm_lm_500102 : mm_ln "TabletLineLaw" 102 88 := Or.inl (mm_in 289 rfl rfl)
set_option maxRecDepth 100000 in
theorem mm_lm_500105 : mm_ln "TabletLineLaw" 105 60 := Or.inl (mm_in 632 rfl rfl)
set_option maxRecDepth 100000 in
theorem mm_lm_500106 : mm_ln "TabletLineLaw" 106 89 := Or.inl (mm_in 329 rfl rfl)
set_option maxRecDepth 100000 in
theorem mm_lm_500109 : mm_ln "TabletLineLaw" 109 65 := Or.inl (mm_in 652 rfl rfl)
set_option maxRecDepth 100000 in
theorem mm_lm_500110 : mm_ln "TabletLineLaw" 110 90 := Or.inl (mm_in 369 rfl rfl)
set_option maxRecDepth 100000 in
theorem mm_lm_500113 : mm_ln "TabletLineLaw" 113 68 := Or.inl (mm_in 663 rfl rfl)
set_option maxRecDepth 100000 in
theorem mm_lm_500114 : mm_ln "TabletLineLaw" 114 91 := Or.inl (mm_in 387 rfl rfl)
set_option maxRecDepth 100000 in
theorem mm_lm_500116 : mm_ln "TabletLineLaw" 116 69 := Or.inl (mm_in 667 rfl rfl)
set_option maxRecDepth 100000 in
theorem mm_lm_500117 : mm_ln "TabletLineLaw" 117 92 := Or.inl (mm_in 401 rfl rfl)
set_option maxRecDepth 100000 in
theorem mm_lm_500120 : mm_ln "TabletLineLaw" 120 72 := Or.inl (mm_in 679 rfl rfl)
set_option maxRecDepth 100000 in
theorem mm_lm_500121 : mm_ln "TabletLineLaw" 121 93 := Or.inl (mm_in 409 rfl rfl)
set_option maxRecDepth 100000 in
theorem mm_lm_500124 : mm_ln "TabletLineLaw" 124 73 := Or.inl (mm_in 683 rfl rfl)
set_option maxRecDepth 100000 in
theorem mm_lm_500125 : mm_ln "TabletLineLaw" 125 94 := Or.inl (mm_in 464 rfl rfl)
set_option maxRecDepth 100000 in
theorem mm_lm_500127 : mm_ln "TabletLineLaw" 127 74 := Or.inl (mm_in 687 rfl rfl)
set_option maxRecDepth 100000 in
theorem mm_lm_500128 : mm_ln "TabletLineLaw" 128 95 := Or.inl (mm_in 472 rfl rfl)
set_option maxRecDepth 100000 in
theorem mm_lm_500130 : mm_ln "TabletLineLaw" 130 75 := Or.inl (mm_in 691 rfl rfl)
set_option maxRecDepth 100000 in
theorem mm_lm_500131 : mm_ln "TabletLineLaw" 131 96 := Or.inl (mm_in 487 rfl rfl)
set_option maxRecDepth 100000 in
theorem mm_lm_500133 : mm_ln "TabletLineLaw" 133 76 := Or.inl (mm_in 695 rfl rfl)
set_option maxRecDepth 100000 in
theorem mm_lm_500134 : mm_ln "TabletLineLaw" 134 97 := Or.inl (mm_in 494 rfl rfl)
set_option maxRecDepth 100000 in
theorem mm_lm_500136 : mm_ln "TabletLineLaw" 136 77 := Or.inl (mm_in 699 rfl rfl)
set_option maxRecDepth 100000 in
theorem mm_lm_500137 : mm_ln "TabletLineLaw" 137 98 := Or.inl (mm_in 505 rfl rfl)
set_option maxRecDepth 100000 in
theorem mm_lm_500139 : mm_ln "TabletLineLaw" 139 79 := Or.inl (mm_in 707 rfl rfl)
set_option maxRecDepth 100000 in
theorem mm_lm_500140 : mm_ln "TabletLineLaw" 140 99 := Or.inl (mm_in 512 rfl rfl)
set_option maxRecDepth 100000 in
theorem mm_lm_500142 : mm_ln "TabletLineLaw" 142 80 := Or.inl (mm_in 711 rfl rfl)
set_option maxRecDepth 100000 in
theorem mm_lm_500143 : mm_ln "TabletLineLaw" 143 100 := Or.inl (mm_in 519 rfl rfl)
set_option maxRecDepth 100000 in
theorem mm_lm_500145 : mm_ln "TabletLineLaw" 145 81 := Or.inl (mm_in 715 rfl rfl)
set_option maxRecDepth 100000 in
theorem mm_lm_500146 : mm_ln "TabletLineLaw" 146 101 := Or.inl (mm_in 526 rfl rfl)
set_option maxRecDepth 100000 in
theorem mm_lm_500148 : mm_ln "TabletLineLaw" 148 82 := Or.inl (mm_in 719 rfl rfl)
set_option maxRecDepth 100000 in
theorem mm_lm_500149 : mm_ln "TabletLineLaw" 149 102 := Or.inl (mm_in 533 rfl rfl)
set_option maxRecDepth 100000 in
theorem mm_lm_500151 : mm_ln "TabletLineLaw" 151 83 := Or.inl (mm_in 723 rfl rfl)
set_option maxRecDepth 100000 in
theorem mm_lm_500152 : mm_ln "TabletLineLaw" 152 103 := Or.inl (mm_in 540 rfl rfl)
set_option maxRecDepth 100000 in
theorem mm_lm_500154 : mm_ln "TabletLineLaw" 154 84 := Or.inl (mm_in 727 rfl rfl)
set_option maxRecDepth 100000 in
theorem mm_lm_400057 : mm_ln "TabletLineModel" 57 54 := Or.inl (mm_in 611 rfl rfl)
set_option maxRecDepth 100000 in
theorem mm_lm_400061 : mm_ln "TabletLineModel" 61 55 := Or.inl (mm_in 615 rfl rfl)
set_option maxRecDepth 100000 in
theorem mm_lm_400064 : mm_ln "TabletLineModel" 64 56 := Or.inl (mm_in 619 rfl rfl)
set_option maxRecDepth 100000 in
theorem mm_lm_400068 : mm_ln "TabletLineModel" 68 57 := Or.inl (mm_in 622 rfl rfl)
set_option maxRecDepth 100000 in
theorem mm_lm_400071 : mm_ln "TabletLineModel" 71 53 := Or.inl (mm_in 607 rfl rfl)
set_option maxRecDepth 100000 in
theorem mm_lm_400075 : mm_ln "TabletLineModel" 75 58 := Or.inl (mm_in 625 rfl rfl)
set_option maxRecDepth 100000 in
theorem mm_lm_400079 : mm_ln "TabletLineModel" 79 61 := Or.inl (mm_in 636 rfl rfl)
set_option maxRecDepth 100000 in
theorem mm_lm_400082 : mm_ln "TabletLineModel" 82 62 := Or.inl (mm_in 640 rfl rfl)
set_option maxRecDepth 100000 in
theorem mm_lm_400085 : mm_ln "TabletLineModel" 85 63 := Or.inl (mm_in 644 rfl rfl)
set_option maxRecDepth 100000 in
theorem mm_lm_400088 : mm_ln "TabletLineModel" 88 64 := Or.inl (mm_in 648 rfl rfl)
set_option maxRecDepth 100000 in
theorem mm_lm_400092 : mm_ln "TabletLineModel" 92 66 := Or.inl (mm_in 656 rfl rfl)
set_option maxRecDepth 100000 in
theorem mm_lm_400095 : mm_ln "TabletLineModel" 95 67 := Or.inl (mm_in 660 rfl rfl)
set_option maxRecDepth 100000 in
theorem mm_lm_400098 : mm_ln "TabletLineModel" 98 70 := Or.inl (mm_in 671 rfl rfl)
set_option maxRecDepth 100000 in
theorem mm_lm_400101 : mm_ln "TabletLineModel" 101 71 := Or.inl (mm_in 675 rfl rfl)
set_option maxRecDepth 100000 in
theorem mm_lm_400104 : mm_ln "TabletLineModel" 104 78 := Or.inl (mm_in 703 rfl rfl)
theorem mm_lmT_ok : ∀ e ∈ mm_lmT, mm_ln (mm_on (e.1 / 100000)) (e.1 % 100000) e.2 := by
  unfold mm_lmT
  simp only [List.forall_mem_cons]
  exact ⟨mm_lm_23, mm_lm_32, mm_lm_33, mm_lm_37, mm_lm_47, mm_lm_54, mm_lm_57, mm_lm_64, mm_lm_68, mm_lm_72, mm_lm_75, mm_lm_79, mm_lm_89, mm_lm_93, mm_lm_108, mm_lm_111, mm_lm_114, mm_lm_123, mm_lm_134, mm_lm_138, mm_lm_147, mm_lm_164, mm_lm_167, mm_lm_177, mm_lm_186, mm_lm_194, mm_lm_199, mm_lm_206, mm_lm_100023, mm_lm_100041, mm_lm_100045, mm_lm_100049, mm_lm_100056, mm_lm_100059, mm_lm_100063, mm_lm_100066, mm_lm_500007, mm_lm_500015, mm_lm_500019, mm_lm_500023, mm_lm_500029, mm_lm_500033, mm_lm_500036, mm_lm_500040, mm_lm_500048, mm_lm_500051, mm_lm_500054, mm_lm_500057, mm_lm_500060, mm_lm_500063, mm_lm_500066, mm_lm_500069, mm_lm_500072, mm_lm_500075, mm_lm_500079, mm_lm_500085, mm_lm_500089, mm_lm_500090, mm_lm_500093, mm_lm_500094, mm_lm_500098, mm_lm_500101, mm_lm_500102, mm_lm_500105, mm_lm_500106, mm_lm_500109, mm_lm_500110, mm_lm_500113, mm_lm_500114, mm_lm_500116, mm_lm_500117, mm_lm_500120, mm_lm_500121, mm_lm_500124, mm_lm_500125, mm_lm_500127, mm_lm_500128, mm_lm_500130, mm_lm_500131, mm_lm_500133, mm_lm_500134, mm_lm_500136, mm_lm_500137, mm_lm_500139, mm_lm_500140, mm_lm_500142, mm_lm_500143, mm_lm_500145, mm_lm_500146, mm_lm_500148, mm_lm_500149, mm_lm_500151, mm_lm_500152, mm_lm_500154, mm_lm_400057, mm_lm_400061, mm_lm_400064, mm_lm_400068, mm_lm_400071, mm_lm_400075, mm_lm_400079, mm_lm_400082, mm_lm_400085, mm_lm_400088, mm_lm_400092, mm_lm_400095, mm_lm_400098, mm_lm_400101, mm_lm_400104, fun _ h => absurd h List.not_mem_nil⟩
/-- the JDK's own: Object's constructor 1000, Math.min 1001, Math.abs 1002 -/
def mm_loT : List (Nat × Nat) := [(1, 1000), (222, 1001), (227, 1002), (200003, 1000), (100003, 1000), (300003, 1000), (400001, 1000)]
def mm_jdk (x : Nat) : MethodName := if x = 1000 then Lib.objectInit else if x = 1001 then Lib.Math.min.name else Lib.Math.abs.name
set_option maxRecDepth 100000 in
theorem mm_lo_1 : Cond.methodLink "TabletLine" 1 (mm_jdk 1000) ∈ mm_ws := mm_in 58 rfl rfl
set_option maxRecDepth 100000 in
theorem mm_lo_222 : Cond.methodLink "TabletLine" 222 (mm_jdk 1001) ∈ mm_ws := mm_in 442 rfl rfl
set_option maxRecDepth 100000 in
theorem mm_lo_227 : Cond.methodLink "TabletLine" 227 (mm_jdk 1002) ∈ mm_ws := mm_in 445 rfl rfl
set_option maxRecDepth 100000 in
theorem mm_lo_200003 : Cond.methodLink "TabletLine$Instrument" 3 (mm_jdk 1000) ∈ mm_ws := mm_in 73 rfl rfl
set_option maxRecDepth 100000 in
theorem mm_lo_100003 : Cond.methodLink "TabletLine$Section" 3 (mm_jdk 1000) ∈ mm_ws := mm_in 67 rfl rfl
set_option maxRecDepth 100000 in
theorem mm_lo_300003 : Cond.methodLink "TabletLine$Train" 3 (mm_jdk 1000) ∈ mm_ws := mm_in 150 rfl rfl
set_option maxRecDepth 100000 in
theorem mm_lo_400001 : Cond.methodLink "TabletLineModel" 1 (mm_jdk 1000) ∈ mm_ws := mm_in 552 rfl rfl
theorem mm_loT_ok : ∀ e ∈ mm_loT, Cond.methodLink (mm_on (e.1 / 100000)) (e.1 % 100000) (mm_jdk e.2) ∈ mm_ws := by
  unfold mm_loT
  simp only [List.forall_mem_cons]
  exact ⟨mm_lo_1, mm_lo_222, mm_lo_227, mm_lo_200003, mm_lo_100003, mm_lo_300003, mm_lo_400001, fun _ h => absurd h List.not_mem_nil⟩
set_option maxRecDepth 100000 in
theorem mm_jdk0 : Cond.instanceMethod Lib.objectInit ∈ mm_ws ∧ Cond.code Lib.objectInit ⟨#[0xb1]⟩ 1 none ∈ mm_ws := ⟨mm_in 59 rfl rfl, mm_in 60 rfl rfl⟩
set_option maxRecDepth 100000 in
theorem mm_jdk1 : Cond.static Lib.Math.min.name ∈ mm_ws ∧ Cond.code Lib.Math.min.name Lib.Math.min.code 2 (some .int) ∈ mm_ws ∧ Cond.static Lib.Math.abs.name ∈ mm_ws ∧ Cond.code Lib.Math.abs.name Lib.Math.abs.code 1 (some .int) ∈ mm_ws ∧ Cond.initialized "java/lang/Math" ∈ mm_ws := ⟨mm_in 443 rfl rfl, mm_in 444 rfl rfl, mm_in 446 rfl rfl, mm_in 447 rfl rfl, mm_in 51 rfl rfl⟩
set_option maxRecDepth 100000 in
theorem mm_lk_0 : mm_lk 0 := ⟨mm_in 57 rfl rfl, mm_in 40 rfl rfl, ⟨by decide, by decide⟩, by decide +kernel, by decide, by decide +kernel, rfl⟩
set_option maxRecDepth 100000 in
theorem mm_lk_1 : mm_lk 1 := ⟨mm_in 194 rfl rfl, mm_in 40 rfl rfl, ⟨by decide, by decide⟩, by decide +kernel, by decide, by decide +kernel, rfl⟩
set_option maxRecDepth 100000 in
theorem mm_lk_2 : mm_lk 2 := ⟨mm_in 198 rfl rfl, mm_in 40 rfl rfl, ⟨by decide, by decide⟩, by decide +kernel, by decide, by decide +kernel, rfl⟩
set_option maxRecDepth 100000 in
theorem mm_lk_3 : mm_lk 3 := ⟨mm_in 202 rfl rfl, mm_in 40 rfl rfl, ⟨by decide, by decide⟩, by decide +kernel, by decide, by decide +kernel, rfl⟩
set_option maxRecDepth 100000 in
theorem mm_lk_4 : mm_lk 4 := ⟨mm_in 206 rfl rfl, mm_in 40 rfl rfl, ⟨by decide, by decide⟩, by decide +kernel, by decide, by decide +kernel, rfl⟩
set_option maxRecDepth 100000 in
theorem mm_lk_5 : mm_lk 5 := ⟨mm_in 288 rfl rfl, mm_in 40 rfl rfl, ⟨by decide, by decide⟩, by decide +kernel, by decide, by decide +kernel, rfl⟩
set_option maxRecDepth 100000 in
theorem mm_lk_6 : mm_lk 6 := ⟨mm_in 295 rfl rfl, mm_in 40 rfl rfl, ⟨by decide, by decide⟩, by decide +kernel, by decide, by decide +kernel, rfl⟩
set_option maxRecDepth 100000 in
theorem mm_lk_7 : mm_lk 7 := ⟨mm_in 311 rfl rfl, mm_in 40 rfl rfl, ⟨by decide, by decide⟩, by decide +kernel, by decide, by decide +kernel, rfl⟩
set_option maxRecDepth 100000 in
theorem mm_lk_8 : mm_lk 8 := ⟨mm_in 315 rfl rfl, mm_in 40 rfl rfl, ⟨by decide, by decide⟩, by decide +kernel, by decide, by decide +kernel, rfl⟩
set_option maxRecDepth 100000 in
theorem mm_lk_9 : mm_lk 9 := ⟨mm_in 319 rfl rfl, mm_in 40 rfl rfl, ⟨by decide, by decide⟩, by decide +kernel, by decide, by decide +kernel, rfl⟩
set_option maxRecDepth 100000 in
theorem mm_lk_10 : mm_lk 10 := ⟨mm_in 336 rfl rfl, mm_in 40 rfl rfl, ⟨by decide, by decide⟩, by decide +kernel, by decide, by decide +kernel, rfl⟩
set_option maxRecDepth 100000 in
theorem mm_lk_11 : mm_lk 11 := ⟨mm_in 340 rfl rfl, mm_in 40 rfl rfl, ⟨by decide, by decide⟩, by decide +kernel, by decide, by decide +kernel, rfl⟩
set_option maxRecDepth 100000 in
theorem mm_lk_12 : mm_lk 12 := ⟨mm_in 351 rfl rfl, mm_in 40 rfl rfl, ⟨by decide, by decide⟩, by decide +kernel, by decide, by decide +kernel, rfl⟩
set_option maxRecDepth 100000 in
theorem mm_lk_13 : mm_lk 13 := ⟨mm_in 375 rfl rfl, mm_in 40 rfl rfl, ⟨by decide, by decide⟩, by decide +kernel, by decide, by decide +kernel, rfl⟩
set_option maxRecDepth 100000 in
theorem mm_lk_14 : mm_lk 14 := ⟨mm_in 379 rfl rfl, mm_in 40 rfl rfl, ⟨by decide, by decide⟩, by decide +kernel, by decide, by decide +kernel, rfl⟩
set_option maxRecDepth 100000 in
theorem mm_lk_15 : mm_lk 15 := ⟨mm_in 384 rfl rfl, mm_in 40 rfl rfl, ⟨by decide, by decide⟩, by decide +kernel, by decide, by decide +kernel, rfl⟩
set_option maxRecDepth 100000 in
theorem mm_lk_16 : mm_lk 16 := ⟨mm_in 393 rfl rfl, mm_in 40 rfl rfl, ⟨by decide, by decide⟩, by decide +kernel, by decide, by decide +kernel, rfl⟩
set_option maxRecDepth 100000 in
theorem mm_lk_17 : mm_lk 17 := ⟨mm_in 397 rfl rfl, mm_in 40 rfl rfl, ⟨by decide, by decide⟩, by decide +kernel, by decide, by decide +kernel, rfl⟩
set_option maxRecDepth 100000 in
theorem mm_lk_18 : mm_lk 18 := ⟨mm_in 407 rfl rfl, mm_in 40 rfl rfl, ⟨by decide, by decide⟩, by decide +kernel, by decide, by decide +kernel, rfl⟩
set_option maxRecDepth 100000 in
theorem mm_lk_19 : mm_lk 19 := ⟨mm_in 417 rfl rfl, mm_in 40 rfl rfl, ⟨by decide, by decide⟩, by decide +kernel, by decide, by decide +kernel, rfl⟩
set_option maxRecDepth 100000 in
theorem mm_lk_20 : mm_lk 20 := ⟨mm_in 422 rfl rfl, mm_in 40 rfl rfl, ⟨by decide, by decide⟩, by decide +kernel, by decide, by decide +kernel, rfl⟩
set_option maxRecDepth 100000 in
theorem mm_lk_21 : mm_lk 21 := ⟨mm_in 441 rfl rfl, mm_in 40 rfl rfl, ⟨by decide, by decide⟩, by decide +kernel, by decide, by decide +kernel, rfl⟩
set_option maxRecDepth 100000 in
theorem mm_lk_22 : mm_lk 22 := ⟨mm_in 470 rfl rfl, mm_in 40 rfl rfl, ⟨by decide, by decide⟩, by decide +kernel, by decide, by decide +kernel, rfl⟩
set_option maxRecDepth 100000 in
theorem mm_lk_23 : mm_lk 23 := ⟨mm_in 478 rfl rfl, mm_in 40 rfl rfl, ⟨by decide, by decide⟩, by decide +kernel, by decide, by decide +kernel, rfl⟩
set_option maxRecDepth 100000 in
theorem mm_lk_24 : mm_lk 24 := ⟨mm_in 482 rfl rfl, mm_in 40 rfl rfl, ⟨by decide, by decide⟩, by decide +kernel, by decide, by decide +kernel, rfl⟩
set_option maxRecDepth 100000 in
theorem mm_lk_25 : mm_lk 25 := ⟨mm_in 486 rfl rfl, mm_in 40 rfl rfl, ⟨by decide, by decide⟩, by decide +kernel, by decide, by decide +kernel, rfl⟩
set_option maxRecDepth 100000 in
theorem mm_lk_26 : mm_lk 26 := ⟨mm_in 493 rfl rfl, mm_in 40 rfl rfl, ⟨by decide, by decide⟩, by decide +kernel, by decide, by decide +kernel, rfl⟩
set_option maxRecDepth 100000 in
theorem mm_lk_27 : mm_lk 27 := ⟨mm_in 500 rfl rfl, mm_in 40 rfl rfl, ⟨by decide, by decide⟩, by decide +kernel, by decide, by decide +kernel, rfl⟩
set_option maxRecDepth 100000 in
theorem mm_lk_28 : mm_lk 28 := ⟨mm_in 511 rfl rfl, mm_in 40 rfl rfl, ⟨by decide, by decide⟩, by decide +kernel, by decide, by decide +kernel, rfl⟩
set_option maxRecDepth 100000 in
theorem mm_lk_29 : mm_lk 29 := ⟨mm_in 518 rfl rfl, mm_in 40 rfl rfl, ⟨by decide, by decide⟩, by decide +kernel, by decide, by decide +kernel, rfl⟩
set_option maxRecDepth 100000 in
theorem mm_lk_30 : mm_lk 30 := ⟨mm_in 525 rfl rfl, mm_in 40 rfl rfl, ⟨by decide, by decide⟩, by decide +kernel, by decide, by decide +kernel, rfl⟩
set_option maxRecDepth 100000 in
theorem mm_lk_31 : mm_lk 31 := ⟨mm_in 532 rfl rfl, mm_in 40 rfl rfl, ⟨by decide, by decide⟩, by decide +kernel, by decide, by decide +kernel, rfl⟩
set_option maxRecDepth 100000 in
theorem mm_lk_32 : mm_lk 32 := ⟨mm_in 539 rfl rfl, mm_in 40 rfl rfl, ⟨by decide, by decide⟩, by decide +kernel, by decide, by decide +kernel, rfl⟩
set_option maxRecDepth 100000 in
theorem mm_lk_33 : mm_lk 33 := ⟨mm_in 546 rfl rfl, mm_in 40 rfl rfl, ⟨by decide, by decide⟩, by decide +kernel, by decide, by decide +kernel, rfl⟩
set_option maxRecDepth 100000 in
theorem mm_lk_34 : mm_lk 34 := ⟨mm_in 66 rfl rfl, mm_in 41 rfl rfl, ⟨by decide, by decide⟩, by decide +kernel, by decide, by decide +kernel, rfl⟩
set_option maxRecDepth 100000 in
theorem mm_lk_35 : mm_lk 35 := ⟨mm_in 95 rfl rfl, mm_in 41 rfl rfl, ⟨by decide, by decide⟩, by decide +kernel, by decide, by decide +kernel, rfl⟩
set_option maxRecDepth 100000 in
theorem mm_lk_36 : mm_lk 36 := ⟨mm_in 99 rfl rfl, mm_in 41 rfl rfl, ⟨by decide, by decide⟩, by decide +kernel, by decide, by decide +kernel, rfl⟩
set_option maxRecDepth 100000 in
theorem mm_lk_37 : mm_lk 37 := ⟨mm_in 107 rfl rfl, mm_in 41 rfl rfl, ⟨by decide, by decide⟩, by decide +kernel, by decide, by decide +kernel, rfl⟩
set_option maxRecDepth 100000 in
theorem mm_lk_38 : mm_lk 38 := ⟨mm_in 111 rfl rfl, mm_in 41 rfl rfl, ⟨by decide, by decide⟩, by decide +kernel, by decide, by decide +kernel, rfl⟩
set_option maxRecDepth 100000 in
theorem mm_lk_39 : mm_lk 39 := ⟨mm_in 115 rfl rfl, mm_in 41 rfl rfl, ⟨by decide, by decide⟩, by decide +kernel, by decide, by decide +kernel, rfl⟩
set_option maxRecDepth 100000 in
theorem mm_lk_40 : mm_lk 40 := ⟨mm_in 279 rfl rfl, mm_in 41 rfl rfl, ⟨by decide, by decide⟩, by decide +kernel, by decide, by decide +kernel, rfl⟩
set_option maxRecDepth 100000 in
theorem mm_lk_41 : mm_lk 41 := ⟨mm_in 299 rfl rfl, mm_in 41 rfl rfl, ⟨by decide, by decide⟩, by decide +kernel, by decide, by decide +kernel, rfl⟩
set_option maxRecDepth 100000 in
theorem mm_lk_42 : mm_lk 42 := ⟨mm_in 303 rfl rfl, mm_in 41 rfl rfl, ⟨by decide, by decide⟩, by decide +kernel, by decide, by decide +kernel, rfl⟩
set_option maxRecDepth 100000 in
theorem mm_lk_43 : mm_lk 43 := ⟨mm_in 307 rfl rfl, mm_in 41 rfl rfl, ⟨by decide, by decide⟩, by decide +kernel, by decide, by decide +kernel, rfl⟩
set_option maxRecDepth 100000 in
theorem mm_lk_44 : mm_lk 44 := ⟨mm_in 347 rfl rfl, mm_in 41 rfl rfl, ⟨by decide, by decide⟩, by decide +kernel, by decide, by decide +kernel, rfl⟩
set_option maxRecDepth 100000 in
theorem mm_lk_45 : mm_lk 45 := ⟨mm_in 72 rfl rfl, mm_in 42 rfl rfl, ⟨by decide, by decide⟩, by decide +kernel, by decide, by decide +kernel, rfl⟩
set_option maxRecDepth 100000 in
theorem mm_lk_46 : mm_lk 46 := ⟨mm_in 103 rfl rfl, mm_in 42 rfl rfl, ⟨by decide, by decide⟩, by decide +kernel, by decide, by decide +kernel, rfl⟩
set_option maxRecDepth 100000 in
theorem mm_lk_47 : mm_lk 47 := ⟨mm_in 323 rfl rfl, mm_in 42 rfl rfl, ⟨by decide, by decide⟩, by decide +kernel, by decide, by decide +kernel, rfl⟩
set_option maxRecDepth 100000 in
theorem mm_lk_48 : mm_lk 48 := ⟨mm_in 327 rfl rfl, mm_in 42 rfl rfl, ⟨by decide, by decide⟩, by decide +kernel, by decide, by decide +kernel, rfl⟩
set_option maxRecDepth 100000 in
theorem mm_lk_49 : mm_lk 49 := ⟨mm_in 149 rfl rfl, mm_in 43 rfl rfl, ⟨by decide, by decide⟩, by decide +kernel, by decide, by decide +kernel, rfl⟩
set_option maxRecDepth 100000 in
theorem mm_lk_50 : mm_lk 50 := ⟨mm_in 551 rfl rfl, mm_in 44 rfl rfl, ⟨by decide, by decide⟩, by decide +kernel, by decide, by decide +kernel, rfl⟩
set_option maxRecDepth 100000 in
theorem mm_lk_51 : mm_lk 51 := ⟨mm_in 602 rfl rfl, mm_in 44 rfl rfl, ⟨by decide, by decide⟩, by decide +kernel, by decide, by decide +kernel, rfl⟩
set_option maxRecDepth 100000 in
theorem mm_lk_52 : mm_lk 52 := ⟨mm_in 606 rfl rfl, mm_in 44 rfl rfl, ⟨by decide, by decide⟩, by decide +kernel, by decide, by decide +kernel, rfl⟩
set_option maxRecDepth 100000 in
theorem mm_lk_53 : mm_lk 53 := ⟨mm_in 610 rfl rfl, mm_in 44 rfl rfl, ⟨by decide, by decide⟩, by decide +kernel, by decide, by decide +kernel, rfl⟩
set_option maxRecDepth 100000 in
theorem mm_lk_54 : mm_lk 54 := ⟨mm_in 614 rfl rfl, mm_in 44 rfl rfl, ⟨by decide, by decide⟩, by decide +kernel, by decide, by decide +kernel, rfl⟩
set_option maxRecDepth 100000 in
theorem mm_lk_55 : mm_lk 55 := ⟨mm_in 618 rfl rfl, mm_in 44 rfl rfl, ⟨by decide, by decide⟩, by decide +kernel, by decide, by decide +kernel, rfl⟩
set_option maxRecDepth 100000 in
theorem mm_lk_56 : mm_lk 56 := ⟨mm_in 621 rfl rfl, mm_in 44 rfl rfl, ⟨by decide, by decide⟩, by decide +kernel, by decide, by decide +kernel, rfl⟩
set_option maxRecDepth 100000 in
theorem mm_lk_57 : mm_lk 57 := ⟨mm_in 624 rfl rfl, mm_in 44 rfl rfl, ⟨by decide, by decide⟩, by decide +kernel, by decide, by decide +kernel, rfl⟩
set_option maxRecDepth 100000 in
theorem mm_lk_58 : mm_lk 58 := ⟨mm_in 627 rfl rfl, mm_in 44 rfl rfl, ⟨by decide, by decide⟩, by decide +kernel, by decide, by decide +kernel, rfl⟩
set_option maxRecDepth 100000 in
theorem mm_lk_59 : mm_lk 59 := ⟨mm_in 631 rfl rfl, mm_in 44 rfl rfl, ⟨by decide, by decide⟩, by decide +kernel, by decide, by decide +kernel, rfl⟩
set_option maxRecDepth 100000 in
theorem mm_lk_60 : mm_lk 60 := ⟨mm_in 635 rfl rfl, mm_in 44 rfl rfl, ⟨by decide, by decide⟩, by decide +kernel, by decide, by decide +kernel, rfl⟩
set_option maxRecDepth 100000 in
theorem mm_lk_61 : mm_lk 61 := ⟨mm_in 639 rfl rfl, mm_in 44 rfl rfl, ⟨by decide, by decide⟩, by decide +kernel, by decide, by decide +kernel, rfl⟩
set_option maxRecDepth 100000 in
theorem mm_lk_62 : mm_lk 62 := ⟨mm_in 643 rfl rfl, mm_in 44 rfl rfl, ⟨by decide, by decide⟩, by decide +kernel, by decide, by decide +kernel, rfl⟩
set_option maxRecDepth 100000 in
theorem mm_lk_63 : mm_lk 63 := ⟨mm_in 647 rfl rfl, mm_in 44 rfl rfl, ⟨by decide, by decide⟩, by decide +kernel, by decide, by decide +kernel, rfl⟩
set_option maxRecDepth 100000 in
theorem mm_lk_64 : mm_lk 64 := ⟨mm_in 651 rfl rfl, mm_in 44 rfl rfl, ⟨by decide, by decide⟩, by decide +kernel, by decide, by decide +kernel, rfl⟩
set_option maxRecDepth 100000 in
theorem mm_lk_65 : mm_lk 65 := ⟨mm_in 655 rfl rfl, mm_in 44 rfl rfl, ⟨by decide, by decide⟩, by decide +kernel, by decide, by decide +kernel, rfl⟩
set_option maxRecDepth 100000 in
theorem mm_lk_66 : mm_lk 66 := ⟨mm_in 659 rfl rfl, mm_in 44 rfl rfl, ⟨by decide, by decide⟩, by decide +kernel, by decide, by decide +kernel, rfl⟩
set_option maxRecDepth 100000 in
theorem mm_lk_67 : mm_lk 67 := ⟨mm_in 662 rfl rfl, mm_in 44 rfl rfl, ⟨by decide, by decide⟩, by decide +kernel, by decide, by decide +kernel, rfl⟩
set_option maxRecDepth 100000 in
theorem mm_lk_68 : mm_lk 68 := ⟨mm_in 666 rfl rfl, mm_in 44 rfl rfl, ⟨by decide, by decide⟩, by decide +kernel, by decide, by decide +kernel, rfl⟩
set_option maxRecDepth 100000 in
theorem mm_lk_69 : mm_lk 69 := ⟨mm_in 670 rfl rfl, mm_in 44 rfl rfl, ⟨by decide, by decide⟩, by decide +kernel, by decide, by decide +kernel, rfl⟩
set_option maxRecDepth 100000 in
theorem mm_lk_70 : mm_lk 70 := ⟨mm_in 674 rfl rfl, mm_in 44 rfl rfl, ⟨by decide, by decide⟩, by decide +kernel, by decide, by decide +kernel, rfl⟩
set_option maxRecDepth 100000 in
theorem mm_lk_71 : mm_lk 71 := ⟨mm_in 678 rfl rfl, mm_in 44 rfl rfl, ⟨by decide, by decide⟩, by decide +kernel, by decide, by decide +kernel, rfl⟩
set_option maxRecDepth 100000 in
theorem mm_lk_72 : mm_lk 72 := ⟨mm_in 682 rfl rfl, mm_in 44 rfl rfl, ⟨by decide, by decide⟩, by decide +kernel, by decide, by decide +kernel, rfl⟩
set_option maxRecDepth 100000 in
theorem mm_lk_73 : mm_lk 73 := ⟨mm_in 686 rfl rfl, mm_in 44 rfl rfl, ⟨by decide, by decide⟩, by decide +kernel, by decide, by decide +kernel, rfl⟩
set_option maxRecDepth 100000 in
theorem mm_lk_74 : mm_lk 74 := ⟨mm_in 690 rfl rfl, mm_in 44 rfl rfl, ⟨by decide, by decide⟩, by decide +kernel, by decide, by decide +kernel, rfl⟩
set_option maxRecDepth 100000 in
theorem mm_lk_75 : mm_lk 75 := ⟨mm_in 694 rfl rfl, mm_in 44 rfl rfl, ⟨by decide, by decide⟩, by decide +kernel, by decide, by decide +kernel, rfl⟩
set_option maxRecDepth 100000 in
theorem mm_lk_76 : mm_lk 76 := ⟨mm_in 698 rfl rfl, mm_in 44 rfl rfl, ⟨by decide, by decide⟩, by decide +kernel, by decide, by decide +kernel, rfl⟩
set_option maxRecDepth 100000 in
theorem mm_lk_77 : mm_lk 77 := ⟨mm_in 702 rfl rfl, mm_in 44 rfl rfl, ⟨by decide, by decide⟩, by decide +kernel, by decide, by decide +kernel, rfl⟩
set_option maxRecDepth 100000 in
theorem mm_lk_78 : mm_lk 78 := ⟨mm_in 706 rfl rfl, mm_in 44 rfl rfl, ⟨by decide, by decide⟩, by decide +kernel, by decide, by decide +kernel, rfl⟩
set_option maxRecDepth 100000 in
theorem mm_lk_79 : mm_lk 79 := ⟨mm_in 710 rfl rfl, mm_in 44 rfl rfl, ⟨by decide, by decide⟩, by decide +kernel, by decide, by decide +kernel, rfl⟩
set_option maxRecDepth 100000 in
theorem mm_lk_80 : mm_lk 80 := ⟨mm_in 714 rfl rfl, mm_in 44 rfl rfl, ⟨by decide, by decide⟩, by decide +kernel, by decide, by decide +kernel, rfl⟩
set_option maxRecDepth 100000 in
theorem mm_lk_81 : mm_lk 81 := ⟨mm_in 718 rfl rfl, mm_in 44 rfl rfl, ⟨by decide, by decide⟩, by decide +kernel, by decide, by decide +kernel, rfl⟩
set_option maxRecDepth 100000 in
theorem mm_lk_82 : mm_lk 82 := ⟨mm_in 722 rfl rfl, mm_in 44 rfl rfl, ⟨by decide, by decide⟩, by decide +kernel, by decide, by decide +kernel, rfl⟩
set_option maxRecDepth 100000 in
theorem mm_lk_83 : mm_lk 83 := ⟨mm_in 726 rfl rfl, mm_in 44 rfl rfl, ⟨by decide, by decide⟩, by decide +kernel, by decide, by decide +kernel, rfl⟩
set_option maxRecDepth 100000 in
theorem mm_lk_84 : mm_lk 84 := ⟨mm_in 730 rfl rfl, mm_in 44 rfl rfl, ⟨by decide, by decide⟩, by decide +kernel, by decide, by decide +kernel, rfl⟩
set_option maxRecDepth 100000 in
theorem mm_lk_85 : mm_lk 85 := ⟨mm_in 186 rfl rfl, mm_in 39 rfl rfl, ⟨by decide, by decide⟩, by decide +kernel, by decide, by decide +kernel, rfl⟩
set_option maxRecDepth 100000 in
theorem mm_lk_86 : mm_lk 86 := ⟨mm_in 189 rfl rfl, mm_in 39 rfl rfl, ⟨by decide, by decide⟩, by decide +kernel, by decide, by decide +kernel, rfl⟩
set_option maxRecDepth 100000 in
theorem mm_lk_87 : mm_lk 87 := ⟨mm_in 284 rfl rfl, mm_in 39 rfl rfl, ⟨by decide, by decide⟩, by decide +kernel, by decide, by decide +kernel, rfl⟩
set_option maxRecDepth 100000 in
theorem mm_lk_88 : mm_lk 88 := ⟨mm_in 291 rfl rfl, mm_in 39 rfl rfl, ⟨by decide, by decide⟩, by decide +kernel, by decide, by decide +kernel, rfl⟩
set_option maxRecDepth 100000 in
theorem mm_lk_89 : mm_lk 89 := ⟨mm_in 331 rfl rfl, mm_in 39 rfl rfl, ⟨by decide, by decide⟩, by decide +kernel, by decide, by decide +kernel, rfl⟩
set_option maxRecDepth 100000 in
theorem mm_lk_90 : mm_lk 90 := ⟨mm_in 371 rfl rfl, mm_in 39 rfl rfl, ⟨by decide, by decide⟩, by decide +kernel, by decide, by decide +kernel, rfl⟩
set_option maxRecDepth 100000 in
theorem mm_lk_91 : mm_lk 91 := ⟨mm_in 389 rfl rfl, mm_in 39 rfl rfl, ⟨by decide, by decide⟩, by decide +kernel, by decide, by decide +kernel, rfl⟩
set_option maxRecDepth 100000 in
theorem mm_lk_92 : mm_lk 92 := ⟨mm_in 403 rfl rfl, mm_in 39 rfl rfl, ⟨by decide, by decide⟩, by decide +kernel, by decide, by decide +kernel, rfl⟩
set_option maxRecDepth 100000 in
theorem mm_lk_93 : mm_lk 93 := ⟨mm_in 411 rfl rfl, mm_in 39 rfl rfl, ⟨by decide, by decide⟩, by decide +kernel, by decide, by decide +kernel, rfl⟩
set_option maxRecDepth 100000 in
theorem mm_lk_94 : mm_lk 94 := ⟨mm_in 466 rfl rfl, mm_in 39 rfl rfl, ⟨by decide, by decide⟩, by decide +kernel, by decide, by decide +kernel, rfl⟩
set_option maxRecDepth 100000 in
theorem mm_lk_95 : mm_lk 95 := ⟨mm_in 474 rfl rfl, mm_in 39 rfl rfl, ⟨by decide, by decide⟩, by decide +kernel, by decide, by decide +kernel, rfl⟩
set_option maxRecDepth 100000 in
theorem mm_lk_96 : mm_lk 96 := ⟨mm_in 489 rfl rfl, mm_in 39 rfl rfl, ⟨by decide, by decide⟩, by decide +kernel, by decide, by decide +kernel, rfl⟩
set_option maxRecDepth 100000 in
theorem mm_lk_97 : mm_lk 97 := ⟨mm_in 496 rfl rfl, mm_in 39 rfl rfl, ⟨by decide, by decide⟩, by decide +kernel, by decide, by decide +kernel, rfl⟩
set_option maxRecDepth 100000 in
theorem mm_lk_98 : mm_lk 98 := ⟨mm_in 507 rfl rfl, mm_in 39 rfl rfl, ⟨by decide, by decide⟩, by decide +kernel, by decide, by decide +kernel, rfl⟩
set_option maxRecDepth 100000 in
theorem mm_lk_99 : mm_lk 99 := ⟨mm_in 514 rfl rfl, mm_in 39 rfl rfl, ⟨by decide, by decide⟩, by decide +kernel, by decide, by decide +kernel, rfl⟩
set_option maxRecDepth 100000 in
theorem mm_lk_100 : mm_lk 100 := ⟨mm_in 521 rfl rfl, mm_in 39 rfl rfl, ⟨by decide, by decide⟩, by decide +kernel, by decide, by decide +kernel, rfl⟩
set_option maxRecDepth 100000 in
theorem mm_lk_101 : mm_lk 101 := ⟨mm_in 528 rfl rfl, mm_in 39 rfl rfl, ⟨by decide, by decide⟩, by decide +kernel, by decide, by decide +kernel, rfl⟩
set_option maxRecDepth 100000 in
theorem mm_lk_102 : mm_lk 102 := ⟨mm_in 535 rfl rfl, mm_in 39 rfl rfl, ⟨by decide, by decide⟩, by decide +kernel, by decide, by decide +kernel, rfl⟩
set_option maxRecDepth 100000 in
theorem mm_lk_103 : mm_lk 103 := ⟨mm_in 542 rfl rfl, mm_in 39 rfl rfl, ⟨by decide, by decide⟩, by decide +kernel, by decide, by decide +kernel, rfl⟩
theorem mm_lk_ok : ∀ x, x < 104 → mm_lk x
  | 0, _ => mm_lk_0
  | 1, _ => mm_lk_1
  | 2, _ => mm_lk_2
  | 3, _ => mm_lk_3
  | 4, _ => mm_lk_4
  | 5, _ => mm_lk_5
  | 6, _ => mm_lk_6
  | 7, _ => mm_lk_7
  | 8, _ => mm_lk_8
  | 9, _ => mm_lk_9
  | 10, _ => mm_lk_10
  | 11, _ => mm_lk_11
  | 12, _ => mm_lk_12
  | 13, _ => mm_lk_13
  | 14, _ => mm_lk_14
  | 15, _ => mm_lk_15
  | 16, _ => mm_lk_16
  | 17, _ => mm_lk_17
  | 18, _ => mm_lk_18
  | 19, _ => mm_lk_19
  | 20, _ => mm_lk_20
  | 21, _ => mm_lk_21
  | 22, _ => mm_lk_22
  | 23, _ => mm_lk_23
  | 24, _ => mm_lk_24
  | 25, _ => mm_lk_25
  | 26, _ => mm_lk_26
  | 27, _ => mm_lk_27
  | 28, _ => mm_lk_28
  | 29, _ => mm_lk_29
  | 30, _ => mm_lk_30
  | 31, _ => mm_lk_31
  | 32, _ => mm_lk_32
  | 33, _ => mm_lk_33
  | 34, _ => mm_lk_34
  | 35, _ => mm_lk_35
  | 36, _ => mm_lk_36
  | 37, _ => mm_lk_37
  | 38, _ => mm_lk_38
  | 39, _ => mm_lk_39
  | 40, _ => mm_lk_40
  | 41, _ => mm_lk_41
  | 42, _ => mm_lk_42
  | 43, _ => mm_lk_43
  | 44, _ => mm_lk_44
  | 45, _ => mm_lk_45
  | 46, _ => mm_lk_46
  | 47, _ => mm_lk_47
  | 48, _ => mm_lk_48
  | 49, _ => mm_lk_49
  | 50, _ => mm_lk_50
  | 51, _ => mm_lk_51
  | 52, _ => mm_lk_52
  | 53, _ => mm_lk_53
  | 54, _ => mm_lk_54
  | 55, _ => mm_lk_55
  | 56, _ => mm_lk_56
  | 57, _ => mm_lk_57
  | 58, _ => mm_lk_58
  | 59, _ => mm_lk_59
  | 60, _ => mm_lk_60
  | 61, _ => mm_lk_61
  | 62, _ => mm_lk_62
  | 63, _ => mm_lk_63
  | 64, _ => mm_lk_64
  | 65, _ => mm_lk_65
  | 66, _ => mm_lk_66
  | 67, _ => mm_lk_67
  | 68, _ => mm_lk_68
  | 69, _ => mm_lk_69
  | 70, _ => mm_lk_70
  | 71, _ => mm_lk_71
  | 72, _ => mm_lk_72
  | 73, _ => mm_lk_73
  | 74, _ => mm_lk_74
  | 75, _ => mm_lk_75
  | 76, _ => mm_lk_76
  | 77, _ => mm_lk_77
  | 78, _ => mm_lk_78
  | 79, _ => mm_lk_79
  | 80, _ => mm_lk_80
  | 81, _ => mm_lk_81
  | 82, _ => mm_lk_82
  | 83, _ => mm_lk_83
  | 84, _ => mm_lk_84
  | 85, _ => mm_lk_85
  | 86, _ => mm_lk_86
  | 87, _ => mm_lk_87
  | 88, _ => mm_lk_88
  | 89, _ => mm_lk_89
  | 90, _ => mm_lk_90
  | 91, _ => mm_lk_91
  | 92, _ => mm_lk_92
  | 93, _ => mm_lk_93
  | 94, _ => mm_lk_94
  | 95, _ => mm_lk_95
  | 96, _ => mm_lk_96
  | 97, _ => mm_lk_97
  | 98, _ => mm_lk_98
  | 99, _ => mm_lk_99
  | 100, _ => mm_lk_100
  | 101, _ => mm_lk_101
  | 102, _ => mm_lk_102
  | 103, _ => mm_lk_103
  | n + 104, h => absurd h (by omega)
def mm_stT : List Nat := [21, 56, 57, 58, 67, 85, 86, 87, 88, 89, 90, 91, 92, 93, 94, 95, 96, 97, 98, 99, 100, 101, 102, 103]
set_option maxRecDepth 100000 in
theorem mm_stT_ok : ∀ x ∈ mm_stT, Cond.static (mm_nm x) ∈ mm_ws := by
  unfold mm_stT
  simp only [List.forall_mem_cons]
  exact ⟨mm_in 440 rfl rfl, mm_in 620 rfl rfl, mm_in 623 rfl rfl, mm_in 626 rfl rfl, mm_in 661 rfl rfl, mm_in 185 rfl rfl, mm_in 188 rfl rfl, mm_in 283 rfl rfl, mm_in 290 rfl rfl, mm_in 330 rfl rfl, mm_in 370 rfl rfl, mm_in 388 rfl rfl, mm_in 402 rfl rfl, mm_in 410 rfl rfl, mm_in 465 rfl rfl, mm_in 473 rfl rfl, mm_in 488 rfl rfl, mm_in 495 rfl rfl, mm_in 506 rfl rfl, mm_in 513 rfl rfl, mm_in 520 rfl rfl, mm_in 527 rfl rfl, mm_in 534 rfl rfl, mm_in 541 rfl rfl, fun _ h => absurd h List.not_mem_nil⟩
def mm_inT : List Nat := [0, 34, 45, 49, 50]
set_option maxRecDepth 100000 in
theorem mm_inT_ok : ∀ x ∈ mm_inT, (mm_nm x).name = "<init>" ∧ Cond.instanceMethod (mm_nm x) ∈ mm_ws ∧ Cond.code (mm_nm x) (mm_bs x) (mm_ml x) none ∈ mm_ws := by
  unfold mm_inT
  simp only [List.forall_mem_cons]
  exact ⟨⟨rfl, mm_in 56 rfl rfl, mm_in 57 rfl rfl⟩, ⟨rfl, mm_in 65 rfl rfl, mm_in 66 rfl rfl⟩, ⟨rfl, mm_in 71 rfl rfl, mm_in 72 rfl rfl⟩, ⟨rfl, mm_in 148 rfl rfl, mm_in 149 rfl rfl⟩, ⟨rfl, mm_in 550 rfl rfl, mm_in 551 rfl rfl⟩, fun _ h => absurd h List.not_mem_nil⟩
def mm_viT : List Nat := [1, 2, 3, 4, 5, 6, 7, 8, 9, 10, 11, 12, 13, 14, 15, 16, 17, 18, 19, 20, 22, 23, 24, 25, 26, 27, 28, 29, 30, 31, 32, 33, 35, 36, 37, 38, 39, 40, 41, 42, 43, 44, 46, 47, 48, 51, 52, 53, 54, 55, 59, 60, 61, 62, 63, 64, 65, 66, 68, 69, 70, 71, 72, 73, 74, 75, 76, 77, 78, 79, 80, 81, 82, 83, 84]
set_option maxRecDepth 100000 in
theorem mm_viT_ok : ∀ x ∈ mm_viT, Cond.instanceMethod (mm_nm x) ∈ mm_ws ∧ Cond.selects (mm_nm x).cls (mm_nm x) (mm_nm x) ∈ mm_ws := by
  unfold mm_viT
  simp only [List.forall_mem_cons]
  exact ⟨⟨mm_in 192 rfl rfl, mm_in 193 rfl rfl⟩, ⟨mm_in 197 rfl rfl, mm_in 6 rfl rfl⟩, ⟨mm_in 201 rfl rfl, mm_in 7 rfl rfl⟩, ⟨mm_in 205 rfl rfl, mm_in 8 rfl rfl⟩, ⟨mm_in 286 rfl rfl, mm_in 287 rfl rfl⟩, ⟨mm_in 293 rfl rfl, mm_in 294 rfl rfl⟩, ⟨mm_in 310 rfl rfl, mm_in 14 rfl rfl⟩, ⟨mm_in 314 rfl rfl, mm_in 15 rfl rfl⟩, ⟨mm_in 318 rfl rfl, mm_in 16 rfl rfl⟩, ⟨mm_in 334 rfl rfl, mm_in 335 rfl rfl⟩, ⟨mm_in 339 rfl rfl, mm_in 19 rfl rfl⟩, ⟨mm_in 350 rfl rfl, mm_in 21 rfl rfl⟩, ⟨mm_in 373 rfl rfl, mm_in 374 rfl rfl⟩, ⟨mm_in 378 rfl rfl, mm_in 22 rfl rfl⟩, ⟨mm_in 383 rfl rfl, mm_in 23 rfl rfl⟩, ⟨mm_in 391 rfl rfl, mm_in 392 rfl rfl⟩, ⟨mm_in 396 rfl rfl, mm_in 24 rfl rfl⟩, ⟨mm_in 405 rfl rfl, mm_in 406 rfl rfl⟩, ⟨mm_in 415 rfl rfl, mm_in 416 rfl rfl⟩, ⟨mm_in 421 rfl rfl, mm_in 25 rfl rfl⟩, ⟨mm_in 468 rfl rfl, mm_in 469 rfl rfl⟩, ⟨mm_in 476 rfl rfl, mm_in 477 rfl rfl⟩, ⟨mm_in 481 rfl rfl, mm_in 26 rfl rfl⟩, ⟨mm_in 485 rfl rfl, mm_in 27 rfl rfl⟩, ⟨mm_in 491 rfl rfl, mm_in 492 rfl rfl⟩, ⟨mm_in 498 rfl rfl, mm_in 499 rfl rfl⟩, ⟨mm_in 509 rfl rfl, mm_in 510 rfl rfl⟩, ⟨mm_in 516 rfl rfl, mm_in 517 rfl rfl⟩, ⟨mm_in 523 rfl rfl, mm_in 524 rfl rfl⟩, ⟨mm_in 530 rfl rfl, mm_in 531 rfl rfl⟩, ⟨mm_in 537 rfl rfl, mm_in 538 rfl rfl⟩, ⟨mm_in 544 rfl rfl, mm_in 545 rfl rfl⟩, ⟨mm_in 94 rfl rfl, mm_in 0 rfl rfl⟩, ⟨mm_in 98 rfl rfl, mm_in 1 rfl rfl⟩, ⟨mm_in 106 rfl rfl, mm_in 3 rfl rfl⟩, ⟨mm_in 110 rfl rfl, mm_in 4 rfl rfl⟩, ⟨mm_in 114 rfl rfl, mm_in 5 rfl rfl⟩, ⟨mm_in 278 rfl rfl, mm_in 10 rfl rfl⟩, ⟨mm_in 298 rfl rfl, mm_in 11 rfl rfl⟩, ⟨mm_in 302 rfl rfl, mm_in 12 rfl rfl⟩, ⟨mm_in 306 rfl rfl, mm_in 13 rfl rfl⟩, ⟨mm_in 346 rfl rfl, mm_in 20 rfl rfl⟩, ⟨mm_in 102 rfl rfl, mm_in 2 rfl rfl⟩, ⟨mm_in 322 rfl rfl, mm_in 17 rfl rfl⟩, ⟨mm_in 326 rfl rfl, mm_in 18 rfl rfl⟩, ⟨mm_in 600 rfl rfl, mm_in 601 rfl rfl⟩, ⟨mm_in 604 rfl rfl, mm_in 605 rfl rfl⟩, ⟨mm_in 609 rfl rfl, mm_in 28 rfl rfl⟩, ⟨mm_in 613 rfl rfl, mm_in 29 rfl rfl⟩, ⟨mm_in 617 rfl rfl, mm_in 30 rfl rfl⟩, ⟨mm_in 629 rfl rfl, mm_in 630 rfl rfl⟩, ⟨mm_in 633 rfl rfl, mm_in 634 rfl rfl⟩, ⟨mm_in 638 rfl rfl, mm_in 31 rfl rfl⟩, ⟨mm_in 642 rfl rfl, mm_in 32 rfl rfl⟩, ⟨mm_in 646 rfl rfl, mm_in 33 rfl rfl⟩, ⟨mm_in 650 rfl rfl, mm_in 34 rfl rfl⟩, ⟨mm_in 653 rfl rfl, mm_in 654 rfl rfl⟩, ⟨mm_in 658 rfl rfl, mm_in 35 rfl rfl⟩, ⟨mm_in 664 rfl rfl, mm_in 665 rfl rfl⟩, ⟨mm_in 668 rfl rfl, mm_in 669 rfl rfl⟩, ⟨mm_in 673 rfl rfl, mm_in 36 rfl rfl⟩, ⟨mm_in 677 rfl rfl, mm_in 37 rfl rfl⟩, ⟨mm_in 680 rfl rfl, mm_in 681 rfl rfl⟩, ⟨mm_in 684 rfl rfl, mm_in 685 rfl rfl⟩, ⟨mm_in 688 rfl rfl, mm_in 689 rfl rfl⟩, ⟨mm_in 692 rfl rfl, mm_in 693 rfl rfl⟩, ⟨mm_in 696 rfl rfl, mm_in 697 rfl rfl⟩, ⟨mm_in 700 rfl rfl, mm_in 701 rfl rfl⟩, ⟨mm_in 705 rfl rfl, mm_in 38 rfl rfl⟩, ⟨mm_in 708 rfl rfl, mm_in 709 rfl rfl⟩, ⟨mm_in 712 rfl rfl, mm_in 713 rfl rfl⟩, ⟨mm_in 716 rfl rfl, mm_in 717 rfl rfl⟩, ⟨mm_in 720 rfl rfl, mm_in 721 rfl rfl⟩, ⟨mm_in 724 rfl rfl, mm_in 725 rfl rfl⟩, ⟨mm_in 728 rfl rfl, mm_in 729 rfl rfl⟩, fun _ h => absurd h List.not_mem_nil⟩
/-- a class entry: a class of vwCl, or 20 and on: an exception -/
def mm_lcT : List (Nat × Nat) := [(17, 1), (26, 3), (82, 20), (100, 21), (142, 22), (151, 23), (100021, 2), (500008, 0), (500013, 20), (500027, 21), (500044, 22), (500046, 23), (500087, 4)]
def mm_cn (k : Nat) : String := if k < 20 then mm_on k else mm_xn (k - 20)
set_option maxRecDepth 100000 in
theorem mm_lcT_ok : ∀ e ∈ mm_lcT, Cond.classLink (mm_on (e.1 / 100000)) (e.1 % 100000) (mm_cn e.2) ∈ mm_ws := by
  unfold mm_lcT
  simp only [List.forall_mem_cons]
  exact ⟨mm_in 61 rfl rfl, mm_in 144 rfl rfl, mm_in 207 rfl rfl, mm_in 352 rfl rfl, mm_in 423 rfl rfl, mm_in 448 rfl rfl, mm_in 68 rfl rfl, mm_in 53 rfl rfl, mm_in 190 rfl rfl, mm_in 332 rfl rfl, mm_in 412 rfl rfl, mm_in 413 rfl rfl, mm_in 547 rfl rfl, fun _ h => absurd h List.not_mem_nil⟩
set_option maxRecDepth 100000 in
theorem mm_arr_ok : Cond.arrayClass .int ∈ mm_ws ∧ Cond.arrayClass .boolean ∈ mm_ws ∧ Cond.arrayClass .long ∈ mm_ws := ⟨mm_in 91 rfl rfl, mm_in 90 rfl rfl, mm_in 731 rfl rfl⟩
set_option maxRecDepth 100000 in
theorem mm_ao_ok : Cond.arrayOver (.object "TabletLine$Section") ∈ lw_tbl ∧ Cond.arrayOver (.object "TabletLine$Train") ∈ lw_tbl := ⟨List.mem_of_getElem? (i := 62) rfl, List.mem_of_getElem? (i := 145) rfl⟩
/-- the texts of the exceptions: entries of the class TabletLine -/
def mm_strs : List (Nat × String) := [(84, "another section's tablet"), (102, "the tablet is not here"), (121, "the train is known already"), (126, "the tablet is not in the hand of the train's box"), (128, "the train has a tablet aboard"), (130, "the train has no tablet, or stands at no box"), (132, "the train stands at no box"), (144, "no box that way"), (153, "no tablet of the section aboard"), (162, "the train is in no section"), (180, "n is odd, or below 2"), (182, "the section is not in phase"), (184, "the slide has fewer"), (192, "no such box"), (197, "no such section"), (202, "the box is no end of the section"), (204, "no such tablet"), (209, "no such train"), (211, "the train is not known")]
/-- an exception: the entry of its class, of its constructor -/
def mm_xks : List (Nat × Nat) := [(82, 86), (100, 104), (142, 146), (151, 155)]
def mm_len (i : Instr) : Nat := match i with
  | .iload _ => 2
  | .aload _ => 2
  | .istore _ => 2
  | .astore _ => 2
  | .bipush _ => 2
  | .newarray _ => 2
  | .sipush _ => 3
  | .iinc _ _ => 3
  | .ifCond _ _ => 3
  | .if_icmp _ _ => 3
  | .if_acmp _ _ => 3
  | .ifnull _ => 3
  | .ifnonnull _ => 3
  | .goto _ => 3
  | .getfield _ => 3
  | .putfield _ => 3
  | .new _ => 3
  | .anewarray _ => 3
  | .invokevirtual _ => 3
  | .invokespecial _ => 3
  | .invokestatic _ => 3
  | .tableswitch _ _ _ _ => 0
  | _ => 1
/-- a throw at pc of the method j: new, dup, ldc, invokespecial, athrow -/
def mm_thr (j pc k ik : Nat) : Bool := decide (mm_cls j = 0) && decide (decode (mm_bs j) (pc + 3) = .ok (.dup, 1)) && decide (decode (mm_bs j) (pc + 9) = .ok (.athrow, 1)) && decide (mm_ht j = []) &&
  match mm_xks[k]?, decode (mm_bs j) (pc + 4), decode (mm_bs j) (pc + 6) with
  | some e, .ok (.ldc is, 2), .ok (.invokespecial ic, 3) => decide (e = (ik, ic)) && (mm_strs.map (·.1)).contains is
  | _, _, _ => false
def mm_key (j k : Nat) : Nat := 100000 * mm_cls j + k
def mm_lchk (j pc : Nat) (i : Instr) (x y : Nat) : Bool := match i with
  | .ifCond _ o => decide ((pc : Int) + o = (x : Int))
  | .if_icmp _ o => decide ((pc : Int) + o = (x : Int))
  | .if_acmp _ o => decide ((pc : Int) + o = (x : Int))
  | .ifnull o => decide ((pc : Int) + o = (x : Int))
  | .ifnonnull o => decide ((pc : Int) + o = (x : Int))
  | .goto o => decide ((pc : Int) + o = (x : Int))
  | .getfield k => decide (k < 100000) && (mm_lfT.contains (mm_key j k, x, y))
  | .putfield k => decide (k < 100000) && (mm_lfT.contains (mm_key j k, x, y) && (match vwCl[x]? with | some r => !(r.2.1 y).2.2.2 | none => false) || (mm_lfT.contains (mm_key j k, x, y) && mm_finT.contains (mm_key j k, x, y) && decide ((mm_nm j).name = "<init>")))
  | .new k => decide (k < 100000) && (mm_lcT.contains (mm_key j k, x) && (decide (x < 5) || (decide (20 ≤ x) && decide (x < 24) && mm_thr j pc (x - 20) k)))
  | .newarray a => decide (mm_ty x = some (newarray.typeOf a)) && decide (10 ≤ x) && decide (x < 13)
  | .anewarray k => decide (k < 100000) && (mm_lcT.contains (mm_key j k, mm_comp x) && decide (13 ≤ x) && decide (x < 15))
  | .invokevirtual k => decide (k < 100000) && (mm_lmT.contains (mm_key j k, x) && mm_viT.contains x && decide (y = mm_np x + 1))
  | .invokespecial k => decide (k < 100000) && (if x = 1000 then mm_loT.contains (mm_key j k, 1000) else mm_lmT.contains (mm_key j k, x) && mm_inT.contains x && decide (y = mm_np x + 1))
  | .invokestatic k => decide (k < 100000) && (if x = 1001 then mm_loT.contains (mm_key j k, 1001) else if x = 1002 then mm_loT.contains (mm_key j k, 1002) else mm_lmT.contains (mm_key j k, x) && mm_stT.contains x && decide (y = mm_np x))
  | .ireturn => decide ((x = 1 ∧ mm_rt j = some .int) ∨ (x = 2 ∧ mm_rt j = some .boolean))
  | .areturn => match mm_rt j with | some (.object _) => true | _ => false
  | .return_ => decide (mm_rt j = none)
  | _ => true
def mm_dchk (j : Nat) (q : Nat × mm_I) : Bool := decide (decode (mm_bs j) q.1 = .ok (q.2.1, q.2.2.1 - q.1)) && decide (q.1 ≤ q.2.2.1) && (decide (mm_len q.2.1 = 0) || decide (q.2.2.1 = q.1 + mm_len q.2.1))
def mm_chk (j : Nat) (q : Nat × mm_I) : Bool := mm_dchk j q && mm_lchk j q.1 q.2.1 q.2.2.2.1 q.2.2.2.2
