/-! THE LAW's WRAPPERS: what a call answers, or which exception it threw -/
section L1
variable {z : mm_Z} {h h1 : mm_H} {d : Nat} {fs : List Value}
theorem w_plunge {x0 x1 x2 : Int32} (h0 : h[0]? = some (0, fs)) (hC : mm_cal z d 1 [.ref 0, .int x0, .int x1, .int x2] h (.returned none, h1)) : mm_cal z (d + 1) 86 [.ref 0, .int x0, .int x1, .int x2] h (.returned (some (.int (nI 0))), h1) := by
  refine mm_cal_of ?_
  refine ev_go at_86_0 rfl ?_
  refine ev_go at_86_1 rfl ?_
  refine ev_go at_86_2 rfl ?_
  refine ev_go at_86_3 rfl ?_
  refine ev_callV (as := [_, _, _]) at_86_4 rfl rfl (by simp [mm_wt, Value.category]) rfl h0 hC ?_
  refine ev_go at_86_7 rfl ?_
  refine ev_ic (nI 0) at_86_14 (by decide) ?_
  refine ev_iret at_86_15 (by first | exact Or.inl rfl | exact Or.inr (Or.inl rfl) | exact Or.inr (Or.inr rfl) | exact Or.inr (bI_01 _)) ?_
  rfl
theorem w_plunge_x0 {x0 x1 x2 : Int32}  (h0 : h[0]? = some (0, fs)) (hC : mm_cal z d 1 [.ref 0, .int x0, .int x1, .int x2] h (.threw 0, h1)) : mm_cal z (d + 1) 86 [.ref 0, .int x0, .int x1, .int x2] h (.returned (some (.int (nI 1))), h1) := by
  refine mm_cal_of ?_
  refine ev_go at_86_0 rfl ?_
  refine ev_go at_86_1 rfl ?_
  refine ev_go at_86_2 rfl ?_
  refine ev_go at_86_3 rfl ?_
  refine ev_catV (t := 10) (as := [_, _, _]) at_86_4 rfl rfl (by simp [mm_wt, Value.category]) rfl h0 hC (by decide +kernel) ?_
  refine ev_go at_86_10 rfl ?_
  refine ev_ic (nI 1) at_86_12 (by decide) ?_
  refine ev_iret at_86_13 (by first | exact Or.inl rfl | exact Or.inr (Or.inl rfl) | exact Or.inr (Or.inr rfl) | exact Or.inr (bI_01 _)) ?_
  rfl
theorem w_wire {x0 x1 : Int32} (h0 : h[0]? = some (0, fs)) (hC : mm_cal z d 5 [.ref 0, .int x0, .int x1] h (.returned none, h1)) : mm_cal z (d + 1) 87 [.ref 0, .int x0, .int x1] h (.returned (some (.int (nI 0))), h1) := by
  refine mm_cal_of ?_
  refine ev_go at_87_0 rfl ?_
  refine ev_go at_87_1 rfl ?_
  refine ev_go at_87_2 rfl ?_
  refine ev_callV (as := [_, _]) at_87_3 rfl rfl (by simp [mm_wt, Value.category]) rfl h0 hC ?_
  refine ev_go at_87_6 rfl ?_
  refine ev_ic (nI 0) at_87_12 (by decide) ?_
  refine ev_iret at_87_13 (by first | exact Or.inl rfl | exact Or.inr (Or.inl rfl) | exact Or.inr (Or.inr rfl) | exact Or.inr (bI_01 _)) ?_
  rfl
theorem w_wire_x0 {x0 x1 : Int32}  (h0 : h[0]? = some (0, fs)) (hC : mm_cal z d 5 [.ref 0, .int x0, .int x1] h (.threw 0, h1)) : mm_cal z (d + 1) 87 [.ref 0, .int x0, .int x1] h (.returned (some (.int (nI 1))), h1) := by
  refine mm_cal_of ?_
  refine ev_go at_87_0 rfl ?_
  refine ev_go at_87_1 rfl ?_
  refine ev_go at_87_2 rfl ?_
  refine ev_catV (t := 9) (as := [_, _]) at_87_3 rfl rfl (by simp [mm_wt, Value.category]) rfl h0 hC (by decide +kernel) ?_
  refine ev_go at_87_9 rfl ?_
  refine ev_ic (nI 1) at_87_10 (by decide) ?_
  refine ev_iret at_87_11 (by first | exact Or.inl rfl | exact Or.inr (Or.inl rfl) | exact Or.inr (Or.inr rfl) | exact Or.inr (bI_01 _)) ?_
  rfl
theorem w_take {x0 x1 : Int32} {ob : Nat} {v : Int32} {v0 : Int64} (h0 : h[0]? = some (0, fs)) (ho : h1[ob]? = some (12, [.long v0])) (hC : mm_cal z d 6 [.ref 0, .int x0, .int x1] h (.returned (some (.int v)), h1)) : mm_cal z (d + 1) 88 [.ref 0, .int x0, .int x1, .ref ob] h (.returned (some (.int (nI 0))), mm_upd h1 ob 0 (.long v.toInt64)) := by
  refine mm_cal_of ?_
  refine ev_go at_88_0 rfl ?_
  refine ev_ic (nI 0) at_88_1 (by decide) ?_
  refine ev_go at_88_2 rfl ?_
  refine ev_go at_88_3 rfl ?_
  refine ev_go at_88_4 rfl ?_
  refine ev_callV (as := [_, _]) at_88_5 rfl rfl (by simp [mm_wt, Value.category]) rfl h0 hC ?_
  refine ev_go at_88_8 rfl ?_
  refine ev_last at_88_9 ho (i := 0) (by omega) (by simp) ?_
  refine ev_go at_88_10 rfl ?_
  refine ev_ic (nI 0) at_88_17 (by decide) ?_
  refine ev_iret at_88_18 (by first | exact Or.inl rfl | exact Or.inr (Or.inl rfl) | exact Or.inr (Or.inr rfl) | exact Or.inr (bI_01 _)) ?_
  rfl
theorem w_take_x0 {x0 x1 : Int32} {ob : Nat} (h0 : h[0]? = some (0, fs)) (hC : mm_cal z d 6 [.ref 0, .int x0, .int x1] h (.threw 0, h1)) : mm_cal z (d + 1) 88 [.ref 0, .int x0, .int x1, .ref ob] h (.returned (some (.int (nI 1))), h1) := by
  refine mm_cal_of ?_
  refine ev_go at_88_0 rfl ?_
  refine ev_ic (nI 0) at_88_1 (by decide) ?_
  refine ev_go at_88_2 rfl ?_
  refine ev_go at_88_3 rfl ?_
  refine ev_go at_88_4 rfl ?_
  refine ev_catV (t := 13) (as := [_, _]) at_88_5 rfl rfl (by simp [mm_wt, Value.category]) rfl h0 hC (by decide +kernel) ?_
  refine ev_go at_88_13 rfl ?_
  refine ev_ic (nI 1) at_88_15 (by decide) ?_
  refine ev_iret at_88_16 (by first | exact Or.inl rfl | exact Or.inr (Or.inl rfl) | exact Or.inr (Or.inr rfl) | exact Or.inr (bI_01 _)) ?_
  rfl
theorem w_give {x0 x1 x2 : Int32} (h0 : h[0]? = some (0, fs)) (hC : mm_cal z d 10 [.ref 0, .int x0, .int x1, .int x2] h (.returned none, h1)) : mm_cal z (d + 1) 89 [.ref 0, .int x0, .int x1, .int x2] h (.returned (some (.int (nI 0))), h1) := by
  refine mm_cal_of ?_
  refine ev_go at_89_0 rfl ?_
  refine ev_go at_89_1 rfl ?_
  refine ev_go at_89_2 rfl ?_
  refine ev_go at_89_3 rfl ?_
  refine ev_callV (as := [_, _, _]) at_89_4 rfl rfl (by simp [mm_wt, Value.category]) rfl h0 hC ?_
  refine ev_go at_89_7 rfl ?_
  refine ev_ic (nI 0) at_89_18 (by decide) ?_
  refine ev_iret at_89_19 (by first | exact Or.inl rfl | exact Or.inr (Or.inl rfl) | exact Or.inr (Or.inr rfl) | exact Or.inr (bI_01 _)) ?_
  rfl
theorem w_give_x0 {x0 x1 x2 : Int32}  (h0 : h[0]? = some (0, fs)) (hC : mm_cal z d 10 [.ref 0, .int x0, .int x1, .int x2] h (.threw 0, h1)) : mm_cal z (d + 1) 89 [.ref 0, .int x0, .int x1, .int x2] h (.returned (some (.int (nI 1))), h1) := by
  refine mm_cal_of ?_
  refine ev_go at_89_0 rfl ?_
  refine ev_go at_89_1 rfl ?_
  refine ev_go at_89_2 rfl ?_
  refine ev_go at_89_3 rfl ?_
  refine ev_catV (t := 10) (as := [_, _, _]) at_89_4 rfl rfl (by simp [mm_wt, Value.category]) rfl h0 hC (by decide +kernel) ?_
  refine ev_go at_89_10 rfl ?_
  refine ev_ic (nI 1) at_89_12 (by decide) ?_
  refine ev_iret at_89_13 (by first | exact Or.inl rfl | exact Or.inr (Or.inl rfl) | exact Or.inr (Or.inr rfl) | exact Or.inr (bI_01 _)) ?_
  rfl
theorem w_give_x1 {x0 x1 x2 : Int32}  (h0 : h[0]? = some (0, fs)) (hC : mm_cal z d 10 [.ref 0, .int x0, .int x1, .int x2] h (.threw 1, h1)) : mm_cal z (d + 1) 89 [.ref 0, .int x0, .int x1, .int x2] h (.returned (some (.int (nI 2))), h1) := by
  refine mm_cal_of ?_
  refine ev_go at_89_0 rfl ?_
  refine ev_go at_89_1 rfl ?_
  refine ev_go at_89_2 rfl ?_
  refine ev_go at_89_3 rfl ?_
  refine ev_catV (t := 14) (as := [_, _, _]) at_89_4 rfl rfl (by simp [mm_wt, Value.category]) rfl h0 hC (by decide +kernel) ?_
  refine ev_go at_89_14 rfl ?_
  refine ev_ic (nI 2) at_89_16 (by decide) ?_
  refine ev_iret at_89_17 (by first | exact Or.inl rfl | exact Or.inr (Or.inl rfl) | exact Or.inr (Or.inr rfl) | exact Or.inr (bI_01 _)) ?_
  rfl
theorem w_train {x0 x1 : Int32} (h0 : h[0]? = some (0, fs)) (hC : mm_cal z d 13 [.ref 0, .int x0, .int x1] h (.returned none, h1)) : mm_cal z (d + 1) 90 [.ref 0, .int x0, .int x1] h (.returned (some (.int (nI 0))), h1) := by
  refine mm_cal_of ?_
  refine ev_go at_90_0 rfl ?_
  refine ev_go at_90_1 rfl ?_
  refine ev_go at_90_2 rfl ?_
  refine ev_callV (as := [_, _]) at_90_3 rfl rfl (by simp [mm_wt, Value.category]) rfl h0 hC ?_
  refine ev_go at_90_6 rfl ?_
  refine ev_ic (nI 0) at_90_15 (by decide) ?_
  refine ev_iret at_90_16 (by first | exact Or.inl rfl | exact Or.inr (Or.inl rfl) | exact Or.inr (Or.inr rfl) | exact Or.inr (bI_01 _)) ?_
  rfl
theorem w_train_x0 {x0 x1 : Int32}  (h0 : h[0]? = some (0, fs)) (hC : mm_cal z d 13 [.ref 0, .int x0, .int x1] h (.threw 0, h1)) : mm_cal z (d + 1) 90 [.ref 0, .int x0, .int x1] h (.returned (some (.int (nI 1))), h1) := by
  refine mm_cal_of ?_
  refine ev_go at_90_0 rfl ?_
  refine ev_go at_90_1 rfl ?_
  refine ev_go at_90_2 rfl ?_
  refine ev_catV (t := 9) (as := [_, _]) at_90_3 rfl rfl (by simp [mm_wt, Value.category]) rfl h0 hC (by decide +kernel) ?_
  refine ev_go at_90_9 rfl ?_
  refine ev_ic (nI 1) at_90_10 (by decide) ?_
  refine ev_iret at_90_11 (by first | exact Or.inl rfl | exact Or.inr (Or.inl rfl) | exact Or.inr (Or.inr rfl) | exact Or.inr (bI_01 _)) ?_
  rfl
theorem w_train_x1 {x0 x1 : Int32}  (h0 : h[0]? = some (0, fs)) (hC : mm_cal z d 13 [.ref 0, .int x0, .int x1] h (.threw 1, h1)) : mm_cal z (d + 1) 90 [.ref 0, .int x0, .int x1] h (.returned (some (.int (nI 2))), h1) := by
  refine mm_cal_of ?_
  refine ev_go at_90_0 rfl ?_
  refine ev_go at_90_1 rfl ?_
  refine ev_go at_90_2 rfl ?_
  refine ev_catV (t := 12) (as := [_, _]) at_90_3 rfl rfl (by simp [mm_wt, Value.category]) rfl h0 hC (by decide +kernel) ?_
  refine ev_go at_90_12 rfl ?_
  refine ev_ic (nI 2) at_90_13 (by decide) ?_
  refine ev_iret at_90_14 (by first | exact Or.inl rfl | exact Or.inr (Or.inl rfl) | exact Or.inr (Or.inr rfl) | exact Or.inr (bI_01 _)) ?_
  rfl
theorem w_hand {x0 x1 : Int32} (h0 : h[0]? = some (0, fs)) (hC : mm_cal z d 16 [.ref 0, .int x0, .int x1] h (.returned none, h1)) : mm_cal z (d + 1) 91 [.ref 0, .int x0, .int x1] h (.returned (some (.int (nI 0))), h1) := by
  refine mm_cal_of ?_
  refine ev_go at_91_0 rfl ?_
  refine ev_go at_91_1 rfl ?_
  refine ev_go at_91_2 rfl ?_
  refine ev_callV (as := [_, _]) at_91_3 rfl rfl (by simp [mm_wt, Value.category]) rfl h0 hC ?_
  refine ev_go at_91_6 rfl ?_
  refine ev_ic (nI 0) at_91_15 (by decide) ?_
  refine ev_iret at_91_16 (by first | exact Or.inl rfl | exact Or.inr (Or.inl rfl) | exact Or.inr (Or.inr rfl) | exact Or.inr (bI_01 _)) ?_
  rfl
theorem w_hand_x0 {x0 x1 : Int32}  (h0 : h[0]? = some (0, fs)) (hC : mm_cal z d 16 [.ref 0, .int x0, .int x1] h (.threw 0, h1)) : mm_cal z (d + 1) 91 [.ref 0, .int x0, .int x1] h (.returned (some (.int (nI 1))), h1) := by
  refine mm_cal_of ?_
  refine ev_go at_91_0 rfl ?_
  refine ev_go at_91_1 rfl ?_
  refine ev_go at_91_2 rfl ?_
  refine ev_catV (t := 9) (as := [_, _]) at_91_3 rfl rfl (by simp [mm_wt, Value.category]) rfl h0 hC (by decide +kernel) ?_
  refine ev_go at_91_9 rfl ?_
  refine ev_ic (nI 1) at_91_10 (by decide) ?_
  refine ev_iret at_91_11 (by first | exact Or.inl rfl | exact Or.inr (Or.inl rfl) | exact Or.inr (Or.inr rfl) | exact Or.inr (bI_01 _)) ?_
  rfl
theorem w_hand_x1 {x0 x1 : Int32}  (h0 : h[0]? = some (0, fs)) (hC : mm_cal z d 16 [.ref 0, .int x0, .int x1] h (.threw 1, h1)) : mm_cal z (d + 1) 91 [.ref 0, .int x0, .int x1] h (.returned (some (.int (nI 2))), h1) := by
  refine mm_cal_of ?_
  refine ev_go at_91_0 rfl ?_
  refine ev_go at_91_1 rfl ?_
  refine ev_go at_91_2 rfl ?_
  refine ev_catV (t := 12) (as := [_, _]) at_91_3 rfl rfl (by simp [mm_wt, Value.category]) rfl h0 hC (by decide +kernel) ?_
  refine ev_go at_91_12 rfl ?_
  refine ev_ic (nI 2) at_91_13 (by decide) ?_
  refine ev_iret at_91_14 (by first | exact Or.inl rfl | exact Or.inr (Or.inl rfl) | exact Or.inr (Or.inr rfl) | exact Or.inr (bI_01 _)) ?_
  rfl
theorem w_back {x0 : Int32} {ob : Nat} {v : Int32} {v0 : Int64} (h0 : h[0]? = some (0, fs)) (ho : h1[ob]? = some (12, [.long v0])) (hC : mm_cal z d 18 [.ref 0, .int x0] h (.returned (some (.int v)), h1)) : mm_cal z (d + 1) 92 [.ref 0, .int x0, .ref ob] h (.returned (some (.int (nI 0))), mm_upd h1 ob 0 (.long v.toInt64)) := by
  refine mm_cal_of ?_
  refine ev_go at_92_0 rfl ?_
  refine ev_ic (nI 0) at_92_1 (by decide) ?_
  refine ev_go at_92_2 rfl ?_
  refine ev_go at_92_3 rfl ?_
  refine ev_callV (as := [_]) at_92_4 rfl rfl (by simp [mm_wt, Value.category]) rfl h0 hC ?_
  refine ev_go at_92_7 rfl ?_
  refine ev_last at_92_8 ho (i := 0) (by omega) (by simp) ?_
  refine ev_go at_92_9 rfl ?_
  refine ev_ic (nI 0) at_92_18 (by decide) ?_
  refine ev_iret at_92_19 (by first | exact Or.inl rfl | exact Or.inr (Or.inl rfl) | exact Or.inr (Or.inr rfl) | exact Or.inr (bI_01 _)) ?_
  rfl
theorem w_back_x0 {x0 : Int32} {ob : Nat} (h0 : h[0]? = some (0, fs)) (hC : mm_cal z d 18 [.ref 0, .int x0] h (.threw 0, h1)) : mm_cal z (d + 1) 92 [.ref 0, .int x0, .ref ob] h (.returned (some (.int (nI 1))), h1) := by
  refine mm_cal_of ?_
  refine ev_go at_92_0 rfl ?_
  refine ev_ic (nI 0) at_92_1 (by decide) ?_
  refine ev_go at_92_2 rfl ?_
  refine ev_go at_92_3 rfl ?_
  refine ev_catV (t := 12) (as := [_]) at_92_4 rfl rfl (by simp [mm_wt, Value.category]) rfl h0 hC (by decide +kernel) ?_
  refine ev_go at_92_12 rfl ?_
  refine ev_ic (nI 1) at_92_13 (by decide) ?_
  refine ev_iret at_92_14 (by first | exact Or.inl rfl | exact Or.inr (Or.inl rfl) | exact Or.inr (Or.inr rfl) | exact Or.inr (bI_01 _)) ?_
  rfl
theorem w_back_x1 {x0 : Int32} {ob : Nat} (h0 : h[0]? = some (0, fs)) (hC : mm_cal z d 18 [.ref 0, .int x0] h (.threw 1, h1)) : mm_cal z (d + 1) 92 [.ref 0, .int x0, .ref ob] h (.returned (some (.int (nI 2))), h1) := by
  refine mm_cal_of ?_
  refine ev_go at_92_0 rfl ?_
  refine ev_ic (nI 0) at_92_1 (by decide) ?_
  refine ev_go at_92_2 rfl ?_
  refine ev_go at_92_3 rfl ?_
  refine ev_catV (t := 15) (as := [_]) at_92_4 rfl rfl (by simp [mm_wt, Value.category]) rfl h0 hC (by decide +kernel) ?_
  refine ev_go at_92_15 rfl ?_
  refine ev_ic (nI 2) at_92_16 (by decide) ?_
  refine ev_iret at_92_17 (by first | exact Or.inl rfl | exact Or.inr (Or.inl rfl) | exact Or.inr (Or.inr rfl) | exact Or.inr (bI_01 _)) ?_
  rfl
theorem w_enter {x0 x1 : Int32} {ob : Nat} {v : Int32} {v0 : Int64} (h0 : h[0]? = some (0, fs)) (ho : h1[ob]? = some (12, [.long v0])) (hC : mm_cal z d 19 [.ref 0, .int x0, .int x1] h (.returned (some (.int v)), h1)) : mm_cal z (d + 1) 93 [.ref 0, .int x0, .int x1, .ref ob] h (.returned (some (.int (nI 0))), mm_upd h1 ob 0 (.long v.toInt64)) := by
  refine mm_cal_of ?_
  refine ev_go at_93_0 rfl ?_
  refine ev_ic (nI 0) at_93_1 (by decide) ?_
  refine ev_go at_93_2 rfl ?_
  refine ev_go at_93_3 rfl ?_
  refine ev_go at_93_4 rfl ?_
  refine ev_callV (as := [_, _]) at_93_5 rfl rfl (by simp [mm_wt, Value.category]) rfl h0 hC ?_
  refine ev_go at_93_8 rfl ?_
  refine ev_last at_93_9 ho (i := 0) (by omega) (by simp) ?_
  refine ev_go at_93_10 rfl ?_
  refine ev_ic (nI 0) at_93_29 (by decide) ?_
  refine ev_iret at_93_30 (by first | exact Or.inl rfl | exact Or.inr (Or.inl rfl) | exact Or.inr (Or.inr rfl) | exact Or.inr (bI_01 _)) ?_
  rfl
theorem w_enter_x0 {x0 x1 : Int32} {ob : Nat} (h0 : h[0]? = some (0, fs)) (hC : mm_cal z d 19 [.ref 0, .int x0, .int x1] h (.threw 0, h1)) : mm_cal z (d + 1) 93 [.ref 0, .int x0, .int x1, .ref ob] h (.returned (some (.int (nI 1))), h1) := by
  refine mm_cal_of ?_
  refine ev_go at_93_0 rfl ?_
  refine ev_ic (nI 0) at_93_1 (by decide) ?_
  refine ev_go at_93_2 rfl ?_
  refine ev_go at_93_3 rfl ?_
  refine ev_go at_93_4 rfl ?_
  refine ev_catV (t := 13) (as := [_, _]) at_93_5 rfl rfl (by simp [mm_wt, Value.category]) rfl h0 hC (by decide +kernel) ?_
  refine ev_go at_93_13 rfl ?_
  refine ev_ic (nI 1) at_93_15 (by decide) ?_
  refine ev_iret at_93_16 (by first | exact Or.inl rfl | exact Or.inr (Or.inl rfl) | exact Or.inr (Or.inr rfl) | exact Or.inr (bI_01 _)) ?_
  rfl
theorem w_enter_x1 {x0 x1 : Int32} {ob : Nat} (h0 : h[0]? = some (0, fs)) (hC : mm_cal z d 19 [.ref 0, .int x0, .int x1] h (.threw 1, h1)) : mm_cal z (d + 1) 93 [.ref 0, .int x0, .int x1, .ref ob] h (.returned (some (.int (nI 2))), h1) := by
  refine mm_cal_of ?_
  refine ev_go at_93_0 rfl ?_
  refine ev_ic (nI 0) at_93_1 (by decide) ?_
  refine ev_go at_93_2 rfl ?_
  refine ev_go at_93_3 rfl ?_
  refine ev_go at_93_4 rfl ?_
  refine ev_catV (t := 17) (as := [_, _]) at_93_5 rfl rfl (by simp [mm_wt, Value.category]) rfl h0 hC (by decide +kernel) ?_
  refine ev_go at_93_17 rfl ?_
  refine ev_ic (nI 2) at_93_19 (by decide) ?_
  refine ev_iret at_93_20 (by first | exact Or.inl rfl | exact Or.inr (Or.inl rfl) | exact Or.inr (Or.inr rfl) | exact Or.inr (bI_01 _)) ?_
  rfl
theorem w_enter_x2 {x0 x1 : Int32} {ob : Nat} (h0 : h[0]? = some (0, fs)) (hC : mm_cal z d 19 [.ref 0, .int x0, .int x1] h (.threw 2, h1)) : mm_cal z (d + 1) 93 [.ref 0, .int x0, .int x1, .ref ob] h (.returned (some (.int (nI 3))), h1) := by
  refine mm_cal_of ?_
  refine ev_go at_93_0 rfl ?_
  refine ev_ic (nI 0) at_93_1 (by decide) ?_
  refine ev_go at_93_2 rfl ?_
  refine ev_go at_93_3 rfl ?_
  refine ev_go at_93_4 rfl ?_
  refine ev_catV (t := 21) (as := [_, _]) at_93_5 rfl rfl (by simp [mm_wt, Value.category]) rfl h0 hC (by decide +kernel) ?_
  refine ev_go at_93_21 rfl ?_
  refine ev_ic (nI 3) at_93_23 (by decide) ?_
  refine ev_iret at_93_24 (by first | exact Or.inl rfl | exact Or.inr (Or.inl rfl) | exact Or.inr (Or.inr rfl) | exact Or.inr (bI_01 _)) ?_
  rfl
theorem w_enter_x3 {x0 x1 : Int32} {ob : Nat} (h0 : h[0]? = some (0, fs)) (hC : mm_cal z d 19 [.ref 0, .int x0, .int x1] h (.threw 3, h1)) : mm_cal z (d + 1) 93 [.ref 0, .int x0, .int x1, .ref ob] h (.returned (some (.int (nI 4))), h1) := by
  refine mm_cal_of ?_
  refine ev_go at_93_0 rfl ?_
  refine ev_ic (nI 0) at_93_1 (by decide) ?_
  refine ev_go at_93_2 rfl ?_
  refine ev_go at_93_3 rfl ?_
  refine ev_go at_93_4 rfl ?_
  refine ev_catV (t := 25) (as := [_, _]) at_93_5 rfl rfl (by simp [mm_wt, Value.category]) rfl h0 hC (by decide +kernel) ?_
  refine ev_go at_93_25 rfl ?_
  refine ev_ic (nI 4) at_93_27 (by decide) ?_
  refine ev_iret at_93_28 (by first | exact Or.inl rfl | exact Or.inr (Or.inl rfl) | exact Or.inr (Or.inr rfl) | exact Or.inr (bI_01 _)) ?_
  rfl
theorem w_arrive {x0 : Int32} {ob : Nat} {v : Int32} {v0 : Int64} (h0 : h[0]? = some (0, fs)) (ho : h1[ob]? = some (12, [.long v0])) (hC : mm_cal z d 22 [.ref 0, .int x0] h (.returned (some (.int v)), h1)) : mm_cal z (d + 1) 94 [.ref 0, .int x0, .ref ob] h (.returned (some (.int (nI 0))), mm_upd h1 ob 0 (.long v.toInt64)) := by
  refine mm_cal_of ?_
  refine ev_go at_94_0 rfl ?_
  refine ev_ic (nI 0) at_94_1 (by decide) ?_
  refine ev_go at_94_2 rfl ?_
  refine ev_go at_94_3 rfl ?_
  refine ev_callV (as := [_]) at_94_4 rfl rfl (by simp [mm_wt, Value.category]) rfl h0 hC ?_
  refine ev_go at_94_7 rfl ?_
  refine ev_last at_94_8 ho (i := 0) (by omega) (by simp) ?_
  refine ev_go at_94_9 rfl ?_
  refine ev_ic (nI 0) at_94_18 (by decide) ?_
  refine ev_iret at_94_19 (by first | exact Or.inl rfl | exact Or.inr (Or.inl rfl) | exact Or.inr (Or.inr rfl) | exact Or.inr (bI_01 _)) ?_
  rfl
theorem w_arrive_x0 {x0 : Int32} {ob : Nat} (h0 : h[0]? = some (0, fs)) (hC : mm_cal z d 22 [.ref 0, .int x0] h (.threw 0, h1)) : mm_cal z (d + 1) 94 [.ref 0, .int x0, .ref ob] h (.returned (some (.int (nI 1))), h1) := by
  refine mm_cal_of ?_
  refine ev_go at_94_0 rfl ?_
  refine ev_ic (nI 0) at_94_1 (by decide) ?_
  refine ev_go at_94_2 rfl ?_
  refine ev_go at_94_3 rfl ?_
  refine ev_catV (t := 12) (as := [_]) at_94_4 rfl rfl (by simp [mm_wt, Value.category]) rfl h0 hC (by decide +kernel) ?_
  refine ev_go at_94_12 rfl ?_
  refine ev_ic (nI 1) at_94_13 (by decide) ?_
  refine ev_iret at_94_14 (by first | exact Or.inl rfl | exact Or.inr (Or.inl rfl) | exact Or.inr (Or.inr rfl) | exact Or.inr (bI_01 _)) ?_
  rfl
theorem w_arrive_x1 {x0 : Int32} {ob : Nat} (h0 : h[0]? = some (0, fs)) (hC : mm_cal z d 22 [.ref 0, .int x0] h (.threw 1, h1)) : mm_cal z (d + 1) 94 [.ref 0, .int x0, .ref ob] h (.returned (some (.int (nI 2))), h1) := by
  refine mm_cal_of ?_
  refine ev_go at_94_0 rfl ?_
  refine ev_ic (nI 0) at_94_1 (by decide) ?_
  refine ev_go at_94_2 rfl ?_
  refine ev_go at_94_3 rfl ?_
  refine ev_catV (t := 15) (as := [_]) at_94_4 rfl rfl (by simp [mm_wt, Value.category]) rfl h0 hC (by decide +kernel) ?_
  refine ev_go at_94_15 rfl ?_
  refine ev_ic (nI 2) at_94_16 (by decide) ?_
  refine ev_iret at_94_17 (by first | exact Or.inl rfl | exact Or.inr (Or.inl rfl) | exact Or.inr (Or.inr rfl) | exact Or.inr (bI_01 _)) ?_
  rfl
theorem w_switchOut {x0 : Int32} {ob : Nat} {v : Int32} {v0 : Int64} (h0 : h[0]? = some (0, fs)) (ho : h1[ob]? = some (12, [.long v0])) (hC : mm_cal z d 23 [.ref 0, .int x0] h (.returned (some (.int v)), h1)) : mm_cal z (d + 1) 95 [.ref 0, .int x0, .ref ob] h (.returned (some (.int (nI 0))), mm_upd h1 ob 0 (.long v.toInt64)) := by
  refine mm_cal_of ?_
  refine ev_go at_95_0 rfl ?_
  refine ev_ic (nI 0) at_95_1 (by decide) ?_
  refine ev_go at_95_2 rfl ?_
  refine ev_go at_95_3 rfl ?_
  refine ev_callV (as := [_]) at_95_4 rfl rfl (by simp [mm_wt, Value.category]) rfl h0 hC ?_
  refine ev_go at_95_7 rfl ?_
  refine ev_last at_95_8 ho (i := 0) (by omega) (by simp) ?_
  refine ev_go at_95_9 rfl ?_
  refine ev_ic (nI 0) at_95_15 (by decide) ?_
  refine ev_iret at_95_16 (by first | exact Or.inl rfl | exact Or.inr (Or.inl rfl) | exact Or.inr (Or.inr rfl) | exact Or.inr (bI_01 _)) ?_
  rfl
theorem w_switchOut_x0 {x0 : Int32} {ob : Nat} (h0 : h[0]? = some (0, fs)) (hC : mm_cal z d 23 [.ref 0, .int x0] h (.threw 0, h1)) : mm_cal z (d + 1) 95 [.ref 0, .int x0, .ref ob] h (.returned (some (.int (nI 1))), h1) := by
  refine mm_cal_of ?_
  refine ev_go at_95_0 rfl ?_
  refine ev_ic (nI 0) at_95_1 (by decide) ?_
  refine ev_go at_95_2 rfl ?_
  refine ev_go at_95_3 rfl ?_
  refine ev_catV (t := 12) (as := [_]) at_95_4 rfl rfl (by simp [mm_wt, Value.category]) rfl h0 hC (by decide +kernel) ?_
  refine ev_go at_95_12 rfl ?_
  refine ev_ic (nI 1) at_95_13 (by decide) ?_
  refine ev_iret at_95_14 (by first | exact Or.inl rfl | exact Or.inr (Or.inl rfl) | exact Or.inr (Or.inr rfl) | exact Or.inr (bI_01 _)) ?_
  rfl
theorem w_switchIn {x0 : Int32} {ob : Nat} {v : Int32} {v0 : Int64} (h0 : h[0]? = some (0, fs)) (ho : h1[ob]? = some (12, [.long v0])) (hC : mm_cal z d 26 [.ref 0, .int x0] h (.returned (some (.int v)), h1)) : mm_cal z (d + 1) 96 [.ref 0, .int x0, .ref ob] h (.returned (some (.int (nI 0))), mm_upd h1 ob 0 (.long v.toInt64)) := by
  refine mm_cal_of ?_
  refine ev_go at_96_0 rfl ?_
  refine ev_ic (nI 0) at_96_1 (by decide) ?_
  refine ev_go at_96_2 rfl ?_
  refine ev_go at_96_3 rfl ?_
  refine ev_callV (as := [_]) at_96_4 rfl rfl (by simp [mm_wt, Value.category]) rfl h0 hC ?_
  refine ev_go at_96_7 rfl ?_
  refine ev_last at_96_8 ho (i := 0) (by omega) (by simp) ?_
  refine ev_go at_96_9 rfl ?_
  refine ev_ic (nI 0) at_96_15 (by decide) ?_
  refine ev_iret at_96_16 (by first | exact Or.inl rfl | exact Or.inr (Or.inl rfl) | exact Or.inr (Or.inr rfl) | exact Or.inr (bI_01 _)) ?_
  rfl
theorem w_switchIn_x0 {x0 : Int32} {ob : Nat} (h0 : h[0]? = some (0, fs)) (hC : mm_cal z d 26 [.ref 0, .int x0] h (.threw 0, h1)) : mm_cal z (d + 1) 96 [.ref 0, .int x0, .ref ob] h (.returned (some (.int (nI 1))), h1) := by
  refine mm_cal_of ?_
  refine ev_go at_96_0 rfl ?_
  refine ev_ic (nI 0) at_96_1 (by decide) ?_
  refine ev_go at_96_2 rfl ?_
  refine ev_go at_96_3 rfl ?_
  refine ev_catV (t := 12) (as := [_]) at_96_4 rfl rfl (by simp [mm_wt, Value.category]) rfl h0 hC (by decide +kernel) ?_
  refine ev_go at_96_12 rfl ?_
  refine ev_ic (nI 1) at_96_13 (by decide) ?_
  refine ev_iret at_96_14 (by first | exact Or.inl rfl | exact Or.inr (Or.inl rfl) | exact Or.inr (Or.inr rfl) | exact Or.inr (bI_01 _)) ?_
  rfl
theorem w_carry {x0 x1 x2 : Int32} (h0 : h[0]? = some (0, fs)) (hC : mm_cal z d 27 [.ref 0, .int x0, .int x1, .int x2] h (.returned none, h1)) : mm_cal z (d + 1) 97 [.ref 0, .int x0, .int x1, .int x2] h (.returned (some (.int (nI 0))), h1) := by
  refine mm_cal_of ?_
  refine ev_go at_97_0 rfl ?_
  refine ev_go at_97_1 rfl ?_
  refine ev_go at_97_2 rfl ?_
  refine ev_go at_97_3 rfl ?_
  refine ev_callV (as := [_, _, _]) at_97_4 rfl rfl (by simp [mm_wt, Value.category]) rfl h0 hC ?_
  refine ev_go at_97_7 rfl ?_
  refine ev_ic (nI 0) at_97_22 (by decide) ?_
  refine ev_iret at_97_23 (by first | exact Or.inl rfl | exact Or.inr (Or.inl rfl) | exact Or.inr (Or.inr rfl) | exact Or.inr (bI_01 _)) ?_
  rfl
theorem w_carry_x0 {x0 x1 x2 : Int32}  (h0 : h[0]? = some (0, fs)) (hC : mm_cal z d 27 [.ref 0, .int x0, .int x1, .int x2] h (.threw 0, h1)) : mm_cal z (d + 1) 97 [.ref 0, .int x0, .int x1, .int x2] h (.returned (some (.int (nI 1))), h1) := by
  refine mm_cal_of ?_
  refine ev_go at_97_0 rfl ?_
  refine ev_go at_97_1 rfl ?_
  refine ev_go at_97_2 rfl ?_
  refine ev_go at_97_3 rfl ?_
  refine ev_catV (t := 10) (as := [_, _, _]) at_97_4 rfl rfl (by simp [mm_wt, Value.category]) rfl h0 hC (by decide +kernel) ?_
  refine ev_go at_97_10 rfl ?_
  refine ev_ic (nI 1) at_97_12 (by decide) ?_
  refine ev_iret at_97_13 (by first | exact Or.inl rfl | exact Or.inr (Or.inl rfl) | exact Or.inr (Or.inr rfl) | exact Or.inr (bI_01 _)) ?_
  rfl
theorem w_carry_x1 {x0 x1 x2 : Int32}  (h0 : h[0]? = some (0, fs)) (hC : mm_cal z d 27 [.ref 0, .int x0, .int x1, .int x2] h (.threw 1, h1)) : mm_cal z (d + 1) 97 [.ref 0, .int x0, .int x1, .int x2] h (.returned (some (.int (nI 2))), h1) := by
  refine mm_cal_of ?_
  refine ev_go at_97_0 rfl ?_
  refine ev_go at_97_1 rfl ?_
  refine ev_go at_97_2 rfl ?_
  refine ev_go at_97_3 rfl ?_
  refine ev_catV (t := 14) (as := [_, _, _]) at_97_4 rfl rfl (by simp [mm_wt, Value.category]) rfl h0 hC (by decide +kernel) ?_
  refine ev_go at_97_14 rfl ?_
  refine ev_ic (nI 2) at_97_16 (by decide) ?_
  refine ev_iret at_97_17 (by first | exact Or.inl rfl | exact Or.inr (Or.inl rfl) | exact Or.inr (Or.inr rfl) | exact Or.inr (bI_01 _)) ?_
  rfl
theorem w_carry_x3 {x0 x1 x2 : Int32}  (h0 : h[0]? = some (0, fs)) (hC : mm_cal z d 27 [.ref 0, .int x0, .int x1, .int x2] h (.threw 3, h1)) : mm_cal z (d + 1) 97 [.ref 0, .int x0, .int x1, .int x2] h (.returned (some (.int (nI 3))), h1) := by
  refine mm_cal_of ?_
  refine ev_go at_97_0 rfl ?_
  refine ev_go at_97_1 rfl ?_
  refine ev_go at_97_2 rfl ?_
  refine ev_go at_97_3 rfl ?_
  refine ev_catV (t := 18) (as := [_, _, _]) at_97_4 rfl rfl (by simp [mm_wt, Value.category]) rfl h0 hC (by decide +kernel) ?_
  refine ev_go at_97_18 rfl ?_
  refine ev_ic (nI 3) at_97_20 (by decide) ?_
  refine ev_iret at_97_21 (by first | exact Or.inl rfl | exact Or.inr (Or.inl rfl) | exact Or.inr (Or.inr rfl) | exact Or.inr (bI_01 _)) ?_
  rfl
theorem w_phase {x0 x1 : Int32} {ob : Nat} {v : Int32} {v0 : Int64} (h0 : h[0]? = some (0, fs)) (ho : h1[ob]? = some (12, [.long v0])) (hC : mm_cal z d 28 [.ref 0, .int x0, .int x1] h (.returned (some (.int v)), h1)) : mm_cal z (d + 1) 98 [.ref 0, .int x0, .int x1, .ref ob] h (.returned (some (.int (nI 0))), mm_upd h1 ob 0 (.long v.toInt64)) := by
  refine mm_cal_of ?_
  refine ev_go at_98_0 rfl ?_
  refine ev_ic (nI 0) at_98_1 (by decide) ?_
  refine ev_go at_98_2 rfl ?_
  refine ev_go at_98_3 rfl ?_
  refine ev_go at_98_4 rfl ?_
  refine ev_callV (as := [_, _]) at_98_5 rfl rfl (by simp [mm_wt, Value.category]) rfl h0 hC ?_
  refine ev_go at_98_8 rfl ?_
  refine ev_last at_98_9 ho (i := 0) (by omega) (by simp) ?_
  refine ev_go at_98_10 rfl ?_
  refine ev_ic (nI 0) at_98_17 (by decide) ?_
  refine ev_iret at_98_18 (by first | exact Or.inl rfl | exact Or.inr (Or.inl rfl) | exact Or.inr (Or.inr rfl) | exact Or.inr (bI_01 _)) ?_
  rfl
theorem w_phase_x0 {x0 x1 : Int32} {ob : Nat} (h0 : h[0]? = some (0, fs)) (hC : mm_cal z d 28 [.ref 0, .int x0, .int x1] h (.threw 0, h1)) : mm_cal z (d + 1) 98 [.ref 0, .int x0, .int x1, .ref ob] h (.returned (some (.int (nI 1))), h1) := by
  refine mm_cal_of ?_
  refine ev_go at_98_0 rfl ?_
  refine ev_ic (nI 0) at_98_1 (by decide) ?_
  refine ev_go at_98_2 rfl ?_
  refine ev_go at_98_3 rfl ?_
  refine ev_go at_98_4 rfl ?_
  refine ev_catV (t := 13) (as := [_, _]) at_98_5 rfl rfl (by simp [mm_wt, Value.category]) rfl h0 hC (by decide +kernel) ?_
  refine ev_go at_98_13 rfl ?_
  refine ev_ic (nI 1) at_98_15 (by decide) ?_
  refine ev_iret at_98_16 (by first | exact Or.inl rfl | exact Or.inr (Or.inl rfl) | exact Or.inr (Or.inr rfl) | exact Or.inr (bI_01 _)) ?_
  rfl
theorem w_slide {x0 x1 : Int32} {ob : Nat} {v : Int32} {v0 : Int64} (h0 : h[0]? = some (0, fs)) (ho : h1[ob]? = some (12, [.long v0])) (hC : mm_cal z d 29 [.ref 0, .int x0, .int x1] h (.returned (some (.int v)), h1)) : mm_cal z (d + 1) 99 [.ref 0, .int x0, .int x1, .ref ob] h (.returned (some (.int (nI 0))), mm_upd h1 ob 0 (.long v.toInt64)) := by
  refine mm_cal_of ?_
  refine ev_go at_99_0 rfl ?_
  refine ev_ic (nI 0) at_99_1 (by decide) ?_
  refine ev_go at_99_2 rfl ?_
  refine ev_go at_99_3 rfl ?_
  refine ev_go at_99_4 rfl ?_
  refine ev_callV (as := [_, _]) at_99_5 rfl rfl (by simp [mm_wt, Value.category]) rfl h0 hC ?_
  refine ev_go at_99_8 rfl ?_
  refine ev_last at_99_9 ho (i := 0) (by omega) (by simp) ?_
  refine ev_go at_99_10 rfl ?_
  refine ev_ic (nI 0) at_99_17 (by decide) ?_
  refine ev_iret at_99_18 (by first | exact Or.inl rfl | exact Or.inr (Or.inl rfl) | exact Or.inr (Or.inr rfl) | exact Or.inr (bI_01 _)) ?_
  rfl
theorem w_slide_x0 {x0 x1 : Int32} {ob : Nat} (h0 : h[0]? = some (0, fs)) (hC : mm_cal z d 29 [.ref 0, .int x0, .int x1] h (.threw 0, h1)) : mm_cal z (d + 1) 99 [.ref 0, .int x0, .int x1, .ref ob] h (.returned (some (.int (nI 1))), h1) := by
  refine mm_cal_of ?_
  refine ev_go at_99_0 rfl ?_
  refine ev_ic (nI 0) at_99_1 (by decide) ?_
  refine ev_go at_99_2 rfl ?_
  refine ev_go at_99_3 rfl ?_
  refine ev_go at_99_4 rfl ?_
  refine ev_catV (t := 13) (as := [_, _]) at_99_5 rfl rfl (by simp [mm_wt, Value.category]) rfl h0 hC (by decide +kernel) ?_
  refine ev_go at_99_13 rfl ?_
  refine ev_ic (nI 1) at_99_15 (by decide) ?_
  refine ev_iret at_99_16 (by first | exact Or.inl rfl | exact Or.inr (Or.inl rfl) | exact Or.inr (Or.inr rfl) | exact Or.inr (bI_01 _)) ?_
  rfl
theorem w_where {x0 : Int32} {ob : Nat} {v : Int32} {v0 : Int64} (h0 : h[0]? = some (0, fs)) (ho : h1[ob]? = some (12, [.long v0])) (hC : mm_cal z d 30 [.ref 0, .int x0] h (.returned (some (.int v)), h1)) : mm_cal z (d + 1) 100 [.ref 0, .int x0, .ref ob] h (.returned (some (.int (nI 0))), mm_upd h1 ob 0 (.long v.toInt64)) := by
  refine mm_cal_of ?_
  refine ev_go at_100_0 rfl ?_
  refine ev_ic (nI 0) at_100_1 (by decide) ?_
  refine ev_go at_100_2 rfl ?_
  refine ev_go at_100_3 rfl ?_
  refine ev_callV (as := [_]) at_100_4 rfl rfl (by simp [mm_wt, Value.category]) rfl h0 hC ?_
  refine ev_go at_100_7 rfl ?_
  refine ev_last at_100_8 ho (i := 0) (by omega) (by simp) ?_
  refine ev_go at_100_9 rfl ?_
  refine ev_ic (nI 0) at_100_15 (by decide) ?_
  refine ev_iret at_100_16 (by first | exact Or.inl rfl | exact Or.inr (Or.inl rfl) | exact Or.inr (Or.inr rfl) | exact Or.inr (bI_01 _)) ?_
  rfl
theorem w_where_x0 {x0 : Int32} {ob : Nat} (h0 : h[0]? = some (0, fs)) (hC : mm_cal z d 30 [.ref 0, .int x0] h (.threw 0, h1)) : mm_cal z (d + 1) 100 [.ref 0, .int x0, .ref ob] h (.returned (some (.int (nI 1))), h1) := by
  refine mm_cal_of ?_
  refine ev_go at_100_0 rfl ?_
  refine ev_ic (nI 0) at_100_1 (by decide) ?_
  refine ev_go at_100_2 rfl ?_
  refine ev_go at_100_3 rfl ?_
  refine ev_catV (t := 12) (as := [_]) at_100_4 rfl rfl (by simp [mm_wt, Value.category]) rfl h0 hC (by decide +kernel) ?_
  refine ev_go at_100_12 rfl ?_
  refine ev_ic (nI 1) at_100_13 (by decide) ?_
  refine ev_iret at_100_14 (by first | exact Or.inl rfl | exact Or.inr (Or.inl rfl) | exact Or.inr (Or.inr rfl) | exact Or.inr (bI_01 _)) ?_
  rfl
theorem w_place {x0 : Int32} {ob : Nat} {v : Int32} {v0 : Int64} (h0 : h[0]? = some (0, fs)) (ho : h1[ob]? = some (12, [.long v0])) (hC : mm_cal z d 31 [.ref 0, .int x0] h (.returned (some (.int v)), h1)) : mm_cal z (d + 1) 101 [.ref 0, .int x0, .ref ob] h (.returned (some (.int (nI 0))), mm_upd h1 ob 0 (.long v.toInt64)) := by
  refine mm_cal_of ?_
  refine ev_go at_101_0 rfl ?_
  refine ev_ic (nI 0) at_101_1 (by decide) ?_
  refine ev_go at_101_2 rfl ?_
  refine ev_go at_101_3 rfl ?_
  refine ev_callV (as := [_]) at_101_4 rfl rfl (by simp [mm_wt, Value.category]) rfl h0 hC ?_
  refine ev_go at_101_7 rfl ?_
  refine ev_last at_101_8 ho (i := 0) (by omega) (by simp) ?_
  refine ev_go at_101_9 rfl ?_
  refine ev_ic (nI 0) at_101_15 (by decide) ?_
  refine ev_iret at_101_16 (by first | exact Or.inl rfl | exact Or.inr (Or.inl rfl) | exact Or.inr (Or.inr rfl) | exact Or.inr (bI_01 _)) ?_
  rfl
theorem w_place_x0 {x0 : Int32} {ob : Nat} (h0 : h[0]? = some (0, fs)) (hC : mm_cal z d 31 [.ref 0, .int x0] h (.threw 0, h1)) : mm_cal z (d + 1) 101 [.ref 0, .int x0, .ref ob] h (.returned (some (.int (nI 1))), h1) := by
  refine mm_cal_of ?_
  refine ev_go at_101_0 rfl ?_
  refine ev_ic (nI 0) at_101_1 (by decide) ?_
  refine ev_go at_101_2 rfl ?_
  refine ev_go at_101_3 rfl ?_
  refine ev_catV (t := 12) (as := [_]) at_101_4 rfl rfl (by simp [mm_wt, Value.category]) rfl h0 hC (by decide +kernel) ?_
  refine ev_go at_101_12 rfl ?_
  refine ev_ic (nI 1) at_101_13 (by decide) ?_
  refine ev_iret at_101_14 (by first | exact Or.inl rfl | exact Or.inr (Or.inl rfl) | exact Or.inr (Or.inr rfl) | exact Or.inr (bI_01 _)) ?_
  rfl
theorem w_spend {x0 x1 : Int32} {ob : Nat} {v : Int32} {v0 : Int64} (h0 : h[0]? = some (0, fs)) (ho : h1[ob]? = some (12, [.long v0])) (hC : mm_cal z d 32 [.ref 0, .int x0, .int x1] h (.returned (some (.int v)), h1)) : mm_cal z (d + 1) 102 [.ref 0, .int x0, .int x1, .ref ob] h (.returned (some (.int (nI 0))), mm_upd h1 ob 0 (.long v.toInt64)) := by
  refine mm_cal_of ?_
  refine ev_go at_102_0 rfl ?_
  refine ev_ic (nI 0) at_102_1 (by decide) ?_
  refine ev_go at_102_2 rfl ?_
  refine ev_go at_102_3 rfl ?_
  refine ev_go at_102_4 rfl ?_
  refine ev_callV (as := [_, _]) at_102_5 rfl rfl (by simp [mm_wt, Value.category]) rfl h0 hC ?_
  refine ev_go at_102_8 rfl ?_
  refine ev_last at_102_9 ho (i := 0) (by omega) (by simp) ?_
  refine ev_go at_102_10 rfl ?_
  refine ev_ic (nI 0) at_102_17 (by decide) ?_
  refine ev_iret at_102_18 (by first | exact Or.inl rfl | exact Or.inr (Or.inl rfl) | exact Or.inr (Or.inr rfl) | exact Or.inr (bI_01 _)) ?_
  rfl
theorem w_spend_x0 {x0 x1 : Int32} {ob : Nat} (h0 : h[0]? = some (0, fs)) (hC : mm_cal z d 32 [.ref 0, .int x0, .int x1] h (.threw 0, h1)) : mm_cal z (d + 1) 102 [.ref 0, .int x0, .int x1, .ref ob] h (.returned (some (.int (nI 1))), h1) := by
  refine mm_cal_of ?_
  refine ev_go at_102_0 rfl ?_
  refine ev_ic (nI 0) at_102_1 (by decide) ?_
  refine ev_go at_102_2 rfl ?_
  refine ev_go at_102_3 rfl ?_
  refine ev_go at_102_4 rfl ?_
  refine ev_catV (t := 13) (as := [_, _]) at_102_5 rfl rfl (by simp [mm_wt, Value.category]) rfl h0 hC (by decide +kernel) ?_
  refine ev_go at_102_13 rfl ?_
  refine ev_ic (nI 1) at_102_15 (by decide) ?_
  refine ev_iret at_102_16 (by first | exact Or.inl rfl | exact Or.inr (Or.inl rfl) | exact Or.inr (Or.inr rfl) | exact Or.inr (bI_01 _)) ?_
  rfl
theorem w_out {x0 : Int32} {ob : Nat} {v : Bool} {v0 : Int64} (h0 : h[0]? = some (0, fs)) (ho : h1[ob]? = some (12, [.long v0])) (hC : mm_cal z d 33 [.ref 0, .int x0] h (.returned (some (.int (bI v))), h1)) : mm_cal z (d + 1) 103 [.ref 0, .int x0, .ref ob] h (.returned (some (.int (nI 0))), mm_upd h1 ob 0 (.long (if v then 1 else 0))) := by
  refine mm_cal_of ?_
  cases v
  · skip
    refine ev_go at_103_0 rfl ?_
    refine ev_ic (nI 0) at_103_1 (by decide) ?_
    refine ev_go at_103_2 rfl ?_
    refine ev_go at_103_3 rfl ?_
    refine ev_callV (as := [_]) at_103_4 rfl rfl (by simp [mm_wt, Value.category]) rfl h0 hC ?_
    refine ev_ifb_eq at_103_7 (fun _ => ?_) (fun hc => nomatch hc)
    refine ev_go at_103_14 rfl ?_
    refine ev_last at_103_15 ho (i := 0) (by omega) (by simp) ?_
    refine ev_go at_103_16 rfl ?_
    refine ev_ic (nI 0) at_103_22 (by decide) ?_
    refine ev_iret at_103_23 (by first | exact Or.inl rfl | exact Or.inr (Or.inl rfl) | exact Or.inr (Or.inr rfl) | exact Or.inr (bI_01 _)) ?_
    rfl
  · skip
    refine ev_go at_103_0 rfl ?_
    refine ev_ic (nI 0) at_103_1 (by decide) ?_
    refine ev_go at_103_2 rfl ?_
    refine ev_go at_103_3 rfl ?_
    refine ev_callV (as := [_]) at_103_4 rfl rfl (by simp [mm_wt, Value.category]) rfl h0 hC ?_
    refine ev_ifb_eq at_103_7 (fun hc => nomatch hc) (fun _ => ?_)
    refine ev_go at_103_10 rfl ?_
    refine ev_go at_103_11 rfl ?_
    refine ev_last at_103_15 ho (i := 0) (by omega) (by simp) ?_
    refine ev_go at_103_16 rfl ?_
    refine ev_ic (nI 0) at_103_22 (by decide) ?_
    refine ev_iret at_103_23 (by first | exact Or.inl rfl | exact Or.inr (Or.inl rfl) | exact Or.inr (Or.inr rfl) | exact Or.inr (bI_01 _)) ?_
    rfl
theorem w_out_x0 {x0 : Int32} {ob : Nat} (h0 : h[0]? = some (0, fs)) (hC : mm_cal z d 33 [.ref 0, .int x0] h (.threw 0, h1)) : mm_cal z (d + 1) 103 [.ref 0, .int x0, .ref ob] h (.returned (some (.int (nI 1))), h1) := by
  refine mm_cal_of ?_
  refine ev_go at_103_0 rfl ?_
  refine ev_ic (nI 0) at_103_1 (by decide) ?_
  refine ev_go at_103_2 rfl ?_
  refine ev_go at_103_3 rfl ?_
  refine ev_catV (t := 19) (as := [_]) at_103_4 rfl rfl (by simp [mm_wt, Value.category]) rfl h0 hC (by decide +kernel) ?_
  refine ev_go at_103_19 rfl ?_
  refine ev_ic (nI 1) at_103_20 (by decide) ?_
  refine ev_iret at_103_21 (by first | exact Or.inl rfl | exact Or.inr (Or.inl rfl) | exact Or.inr (Or.inr rfl) | exact Or.inr (bI_01 _)) ?_
  rfl
end L1
