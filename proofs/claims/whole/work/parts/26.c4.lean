/-! THE CLASS's PUBLIC METHODS (2) -/
section C4
variable {z : mm_Z} {h h' : mm_H} {K : Cf} {w : Cs}
theorem Cf.around (hK : K.ok) {b : Nat} (hb : K.ex (10 + b) = true) : K.ex (b - 1) = true ∧ K.ex b = true ∧ 1 ≤ b ∧ b + 1 < K.n := by
  obtain ⟨-, n2, n3, n4, n5, n6⟩ := Cf.no hK hb
  obtain ⟨m1, m2, m3⟩ := n6 (by omega)
  exact ⟨by unfold Cf.ex; rw [decide_eq_true (by omega)]; rfl, by unfold Cf.ex; rw [decide_eq_true (by omega)]; rfl, by omega, by omega⟩
/-- what switchOut answers -/
def soI (K : Cf) (w : Cs) (b : Nat) : Nat :=
  if !K.ex (10 + b) || w.1 b then 1
  else if w.1 (b - 1) || w.1 (b + 1) then 2
  else if !((w.2.1 (b - 1)).1.2.2 && (w.2.1 b).2.1.2.2) then 3
  else if wrB w b then 4
  else if !((w.2.1 (b - 1)).1.2.1 == (w.2.1 (b - 1)).2.1.2.1 && (w.2.1 b).1.2.1 == (w.2.1 b).2.1.2.1) then 5 else 0
theorem c_switchOut (d : Nat) (hW : CW K h w) {b : Nat} (hb : b < K.n) : ∃ h', mm_cal z (d + 4) 23 [.ref 0, .int (nI b)] h (.returned (some (.int (nI (soI K w b)))), h') ∧ CW K h' (if soI K w b = 0 then setO w b true else w) ∧ Off 0 (K.tb + 9) h h' := by
  have hn := hW.1.2.1
  have h0 := hW.2.1
  have h1 := hW.2.2.1
  have hA := c_checkBox (z := z) (d + 1) hW (b := nI b) (by rw [bxB_nI (by omega) (by omega)]; exact decide_eq_true hb)
  have hB := c_maySwitchOut (z := z) (d + 1) hW (show b < 100 by omega)
  have hC := c_isOut (z := z) (d + 1) hW (nI b)
  rw [otB_nI (by omega) (by omega), decide_eq_true hb, Bool.true_and] at hC
  by_cases g1 : (!K.ex (10 + b) || w.1 b) = true
  · have hs : soI K w b = 1 := if_pos g1
    refine ⟨h, ?_, by rw [hs]; exact hW, Off.rfl⟩
    rw [hs]
    refine mm_cal_of ?_
    cases hx : K.ex (10 + b) with
    | false =>
      rw [hx] at hB
      refine ev_go at_23_0 rfl ?_
      refine ev_go at_23_1 rfl ?_
      refine ev_callV (as := [_]) at_23_2 rfl rfl (by simp [mm_wt, Value.category]) rfl (by assumption) hA ?_
      refine ev_go at_23_5 rfl ?_
      refine ev_go at_23_6 rfl ?_
      refine ev_callV (as := [_]) at_23_7 rfl rfl (by simp [mm_wt, Value.category]) rfl (by assumption) hB ?_
      refine ev_ifb_eq at_23_10 (fun _ => ?_) (fun hc => nomatch hc)
      refine ev_ic (nI 1) at_23_21 (by decide) ?_
      refine ev_iret at_23_22 (by first | exact Or.inl rfl | exact Or.inr (Or.inl rfl) | exact Or.inr (Or.inr rfl) | exact Or.inr (bI_01 _)) ?_
      rfl
    | true =>
      rw [hx] at hB
      have hob : w.1 b = true := by rw [hx] at g1; exact g1
      rw [hob] at hC
      refine ev_go at_23_0 rfl ?_
      refine ev_go at_23_1 rfl ?_
      refine ev_callV (as := [_]) at_23_2 rfl rfl (by simp [mm_wt, Value.category]) rfl (by assumption) hA ?_
      refine ev_go at_23_5 rfl ?_
      refine ev_go at_23_6 rfl ?_
      refine ev_callV (as := [_]) at_23_7 rfl rfl (by simp [mm_wt, Value.category]) rfl (by assumption) hB ?_
      refine ev_ifb_eq at_23_10 (fun hc => nomatch hc) (fun _ => ?_)
      refine ev_go at_23_13 rfl ?_
      refine ev_go at_23_14 rfl ?_
      refine ev_callV (as := [_]) at_23_15 rfl rfl (by simp [mm_wt, Value.category]) rfl (by assumption) hC ?_
      refine ev_ifb_eq at_23_18 (fun hc => nomatch hc) (fun _ => ?_)
      refine ev_ic (nI 1) at_23_21 (by decide) ?_
      refine ev_iret at_23_22 (by first | exact Or.inl rfl | exact Or.inr (Or.inl rfl) | exact Or.inr (Or.inr rfl) | exact Or.inr (bI_01 _)) ?_
      rfl
  · have hx : K.ex (10 + b) = true := by cases hx : K.ex (10 + b); rw [hx] at g1; exact absurd rfl g1; rfl
    have hob : w.1 b = false := by cases hob : w.1 b; rfl; rw [hob, Bool.or_true] at g1; exact absurd rfl g1
    rw [hx] at hB
    rw [hob] at hC
    obtain ⟨e1, e2, b1, b2⟩ := Cf.around hW.1 hx
    have hD := c_isOut (z := z) (d + 1) hW (nI (b - 1))
    rw [otB_nI (by omega) (by omega), decide_eq_true (by omega), Bool.true_and] at hD
    have hE := c_isOut (z := z) (d + 1) hW (nI (b + 1))
    rw [otB_nI (by omega) (by omega), decide_eq_true (by omega), Bool.true_and] at hE
    have hF := c_sectionNumbered (z := z) (d + 1) hW e1
    have hG := c_sectionNumbered (z := z) (d + 1) hW e2
    have q1 := (hW.sec e1).1.1
    have q2 := (hW.sec e2).1.1
    have i1 := (hW.sec e1).1.2.1.1
    have i2 := (hW.sec e2).1.2.2.1.1
    have hH := c_wireBrokenAround (z := z) d hW hx
    have hI := c_inPhase (z := z) (d + 2) (hW.sec e1).1
    have hJ := c_inPhase (z := z) (d + 2) (hW.sec e2).1
    have hs1 : soI K w b = if w.1 (b - 1) || w.1 (b + 1) then 2 else if !((w.2.1 (b - 1)).1.2.2 && (w.2.1 b).2.1.2.2) then 3 else if wrB w b then 4 else if !((w.2.1 (b - 1)).1.2.1 == (w.2.1 (b - 1)).2.1.2.1 && (w.2.1 b).1.2.1 == (w.2.1 b).2.1.2.1) then 5 else 0 := if_neg g1
    have hv : b < (rng K.n fun b => Value.int (bI (w.1 b))).length := by rw [rng_len]; exact hb
    obtain ⟨rO, oO⟩ := hW.setO (b := b) true
    have pre : ∀ (h' : mm_H) (v : Nat), soI K w b = v → mm_Ev z (mm_cal z (d + 3)) 23 (23, mm_loc 23 [.ref 0, .int (nI b)], [], h) (.returned (some (.int (nI v))), h') → mm_cal z (d + 4) 23 [.ref 0, .int (nI b)] h (.returned (some (.int (nI (soI K w b)))), h') := by
      intro h' v hv0 k
      rw [hv0]
      refine mm_cal_of ?_
      refine ev_go at_23_0 rfl ?_
      refine ev_go at_23_1 rfl ?_
      refine ev_callV (as := [_]) at_23_2 rfl rfl (by simp [mm_wt, Value.category]) rfl (by assumption) hA ?_
      refine ev_go at_23_5 rfl ?_
      refine ev_go at_23_6 rfl ?_
      refine ev_callV (as := [_]) at_23_7 rfl rfl (by simp [mm_wt, Value.category]) rfl (by assumption) hB ?_
      refine ev_ifb_eq at_23_10 (fun hc => nomatch hc) (fun _ => ?_)
      refine ev_go at_23_13 rfl ?_
      refine ev_go at_23_14 rfl ?_
      refine ev_callV (as := [_]) at_23_15 rfl rfl (by simp [mm_wt, Value.category]) rfl (by assumption) hC ?_
      refine ev_ifb_eq at_23_18 (fun _ => ?_) (fun hc => nomatch hc)
      exact k
    cases c1 : w.1 (b - 1) with
    | true =>
      refine ⟨h, pre h 2 (by rw [hs1, c1]; rfl) ?_, by rw [hs1, c1]; exact hW, Off.rfl⟩
      rw [c1] at hD
      refine ev_go at_23_23 rfl ?_
      refine ev_go at_23_24 rfl ?_
      refine ev_ic (nI 1) at_23_25 (by decide) ?_
      refine ev_go at_23_26 rfl ?_
      refine ev_top (congrArg Value.int (pk_sub (by omega))) ?_
      refine ev_callV (as := [_]) at_23_27 rfl rfl (by simp [mm_wt, Value.category]) rfl (by assumption) hD ?_
      refine ev_ifb_ne at_23_30 (fun _ => ?_) (fun hc => nomatch hc)
      refine ev_ic (nI 2) at_23_43 (by decide) ?_
      refine ev_iret at_23_44 (by first | exact Or.inl rfl | exact Or.inr (Or.inl rfl) | exact Or.inr (Or.inr rfl) | exact Or.inr (bI_01 _)) ?_
      rfl
    | false =>
    rw [c1] at hD hs1
    cases c2 : w.1 (b + 1) with
    | true =>
      refine ⟨h, pre h 2 (by rw [hs1, c2]; rfl) ?_, by rw [hs1, c2]; exact hW, Off.rfl⟩
      rw [c2] at hE
      refine ev_go at_23_23 rfl ?_
      refine ev_go at_23_24 rfl ?_
      refine ev_ic (nI 1) at_23_25 (by decide) ?_
      refine ev_go at_23_26 rfl ?_
      refine ev_top (congrArg Value.int (pk_sub (by omega))) ?_
      refine ev_callV (as := [_]) at_23_27 rfl rfl (by simp [mm_wt, Value.category]) rfl (by assumption) hD ?_
      refine ev_ifb_ne at_23_30 (fun hc => nomatch hc) (fun _ => ?_)
      refine ev_go at_23_33 rfl ?_
      refine ev_go at_23_34 rfl ?_
      refine ev_ic (nI 1) at_23_35 (by decide) ?_
      refine ev_go at_23_36 rfl ?_
      first | refine ev_top (congrArg Value.int (nI_add _ _)) ?_ | skip
      refine ev_callV (as := [_]) at_23_37 rfl rfl (by simp [mm_wt, Value.category]) rfl (by assumption) hE ?_
      refine ev_ifb_eq at_23_40 (fun hc => nomatch hc) (fun _ => ?_)
      refine ev_ic (nI 2) at_23_43 (by decide) ?_
      refine ev_iret at_23_44 (by first | exact Or.inl rfl | exact Or.inr (Or.inl rfl) | exact Or.inr (Or.inr rfl) | exact Or.inr (bI_01 _)) ?_
      rfl
    | false =>
    rw [c2] at hE hs1
    cases c3 : (w.2.1 (b - 1)).1.2.2 with
    | false =>
      refine ⟨h, pre h 3 (by rw [hs1, c3]; rfl) ?_, by rw [hs1, c3]; exact hW, Off.rfl⟩
      rw [c3] at i1
      refine ev_go at_23_23 rfl ?_
      refine ev_go at_23_24 rfl ?_
      refine ev_ic (nI 1) at_23_25 (by decide) ?_
      refine ev_go at_23_26 rfl ?_
      refine ev_top (congrArg Value.int (pk_sub (by omega))) ?_
      refine ev_callV (as := [_]) at_23_27 rfl rfl (by simp [mm_wt, Value.category]) rfl (by assumption) hD ?_
      refine ev_ifb_ne at_23_30 (fun hc => nomatch hc) (fun _ => ?_)
      refine ev_go at_23_33 rfl ?_
      refine ev_go at_23_34 rfl ?_
      refine ev_ic (nI 1) at_23_35 (by decide) ?_
      refine ev_go at_23_36 rfl ?_
      first | refine ev_top (congrArg Value.int (nI_add _ _)) ?_ | skip
      refine ev_callV (as := [_]) at_23_37 rfl rfl (by simp [mm_wt, Value.category]) rfl (by assumption) hE ?_
      refine ev_ifb_eq at_23_40 (fun _ => ?_) (fun hc => nomatch hc)
      refine ev_go at_23_45 rfl ?_
      refine ev_go at_23_46 rfl ?_
      refine ev_ic (nI 1) at_23_47 (by decide) ?_
      refine ev_go at_23_48 rfl ?_
      refine ev_top (congrArg Value.int (pk_sub (by omega))) ?_
      refine ev_callV (as := [_]) at_23_49 rfl rfl (by simp [mm_wt, Value.category]) rfl (by assumption) hF ?_
      refine ev_go at_23_52 rfl ?_
      refine ev_go at_23_53 rfl ?_
      refine ev_go at_23_54 rfl ?_
      refine ev_callV (as := [_]) at_23_55 rfl rfl (by simp [mm_wt, Value.category]) rfl (by assumption) hG ?_
      refine ev_go at_23_58 rfl ?_
      refine ev_go at_23_59 rfl ?_
      refine ev_get at_23_60 q1 rfl ?_
      refine ev_get at_23_63 i1 rfl ?_
      refine ev_ifb_eq at_23_66 (fun _ => ?_) (fun hc => nomatch hc)
      refine ev_ic (nI 3) at_23_79 (by decide) ?_
      refine ev_iret at_23_80 (by first | exact Or.inl rfl | exact Or.inr (Or.inl rfl) | exact Or.inr (Or.inr rfl) | exact Or.inr (bI_01 _)) ?_
      rfl
    | true =>
    rw [c3] at i1 hs1
    cases c4 : (w.2.1 b).2.1.2.2 with
    | false =>
      refine ⟨h, pre h 3 (by rw [hs1, c4]; rfl) ?_, by rw [hs1, c4]; exact hW, Off.rfl⟩
      rw [c4] at i2
      refine ev_go at_23_23 rfl ?_
      refine ev_go at_23_24 rfl ?_
      refine ev_ic (nI 1) at_23_25 (by decide) ?_
      refine ev_go at_23_26 rfl ?_
      refine ev_top (congrArg Value.int (pk_sub (by omega))) ?_
      refine ev_callV (as := [_]) at_23_27 rfl rfl (by simp [mm_wt, Value.category]) rfl (by assumption) hD ?_
      refine ev_ifb_ne at_23_30 (fun hc => nomatch hc) (fun _ => ?_)
      refine ev_go at_23_33 rfl ?_
      refine ev_go at_23_34 rfl ?_
      refine ev_ic (nI 1) at_23_35 (by decide) ?_
      refine ev_go at_23_36 rfl ?_
      first | refine ev_top (congrArg Value.int (nI_add _ _)) ?_ | skip
      refine ev_callV (as := [_]) at_23_37 rfl rfl (by simp [mm_wt, Value.category]) rfl (by assumption) hE ?_
      refine ev_ifb_eq at_23_40 (fun _ => ?_) (fun hc => nomatch hc)
      refine ev_go at_23_45 rfl ?_
      refine ev_go at_23_46 rfl ?_
      refine ev_ic (nI 1) at_23_47 (by decide) ?_
      refine ev_go at_23_48 rfl ?_
      refine ev_top (congrArg Value.int (pk_sub (by omega))) ?_
      refine ev_callV (as := [_]) at_23_49 rfl rfl (by simp [mm_wt, Value.category]) rfl (by assumption) hF ?_
      refine ev_go at_23_52 rfl ?_
      refine ev_go at_23_53 rfl ?_
      refine ev_go at_23_54 rfl ?_
      refine ev_callV (as := [_]) at_23_55 rfl rfl (by simp [mm_wt, Value.category]) rfl (by assumption) hG ?_
      refine ev_go at_23_58 rfl ?_
      refine ev_go at_23_59 rfl ?_
      refine ev_get at_23_60 q1 rfl ?_
      refine ev_get at_23_63 i1 rfl ?_
      refine ev_ifb_eq at_23_66 (fun hc => nomatch hc) (fun _ => ?_)
      refine ev_go at_23_69 rfl ?_
      refine ev_get at_23_70 q2 rfl ?_
      refine ev_get at_23_73 i2 rfl ?_
      refine ev_ifb_ne at_23_76 (fun hc => nomatch hc) (fun _ => ?_)
      refine ev_ic (nI 3) at_23_79 (by decide) ?_
      refine ev_iret at_23_80 (by first | exact Or.inl rfl | exact Or.inr (Or.inl rfl) | exact Or.inr (Or.inr rfl) | exact Or.inr (bI_01 _)) ?_
      rfl
    | true =>
    rw [c4] at i2 hs1
    cases c5 : wrB w b with
    | true =>
      refine ⟨h, pre h 4 (by rw [hs1, c5]; rfl) ?_, by rw [hs1, c5]; exact hW, Off.rfl⟩
      rw [c5] at hH
      refine ev_go at_23_23 rfl ?_
      refine ev_go at_23_24 rfl ?_
      refine ev_ic (nI 1) at_23_25 (by decide) ?_
      refine ev_go at_23_26 rfl ?_
      refine ev_top (congrArg Value.int (pk_sub (by omega))) ?_
      refine ev_callV (as := [_]) at_23_27 rfl rfl (by simp [mm_wt, Value.category]) rfl (by assumption) hD ?_
      refine ev_ifb_ne at_23_30 (fun hc => nomatch hc) (fun _ => ?_)
      refine ev_go at_23_33 rfl ?_
      refine ev_go at_23_34 rfl ?_
      refine ev_ic (nI 1) at_23_35 (by decide) ?_
      refine ev_go at_23_36 rfl ?_
      first | refine ev_top (congrArg Value.int (nI_add _ _)) ?_ | skip
      refine ev_callV (as := [_]) at_23_37 rfl rfl (by simp [mm_wt, Value.category]) rfl (by assumption) hE ?_
      refine ev_ifb_eq at_23_40 (fun _ => ?_) (fun hc => nomatch hc)
      refine ev_go at_23_45 rfl ?_
      refine ev_go at_23_46 rfl ?_
      refine ev_ic (nI 1) at_23_47 (by decide) ?_
      refine ev_go at_23_48 rfl ?_
      refine ev_top (congrArg Value.int (pk_sub (by omega))) ?_
      refine ev_callV (as := [_]) at_23_49 rfl rfl (by simp [mm_wt, Value.category]) rfl (by assumption) hF ?_
      refine ev_go at_23_52 rfl ?_
      refine ev_go at_23_53 rfl ?_
      refine ev_go at_23_54 rfl ?_
      refine ev_callV (as := [_]) at_23_55 rfl rfl (by simp [mm_wt, Value.category]) rfl (by assumption) hG ?_
      refine ev_go at_23_58 rfl ?_
      refine ev_go at_23_59 rfl ?_
      refine ev_get at_23_60 q1 rfl ?_
      refine ev_get at_23_63 i1 rfl ?_
      refine ev_ifb_eq at_23_66 (fun hc => nomatch hc) (fun _ => ?_)
      refine ev_go at_23_69 rfl ?_
      refine ev_get at_23_70 q2 rfl ?_
      refine ev_get at_23_73 i2 rfl ?_
      refine ev_ifb_ne at_23_76 (fun _ => ?_) (fun hc => nomatch hc)
      refine ev_go at_23_81 rfl ?_
      refine ev_go at_23_82 rfl ?_
      refine ev_callV (as := [_]) at_23_83 rfl rfl (by simp [mm_wt, Value.category]) rfl (by assumption) hH ?_
      refine ev_ifb_eq at_23_86 (fun hc => nomatch hc) (fun _ => ?_)
      refine ev_ic (nI 4) at_23_89 (by decide) ?_
      refine ev_iret at_23_90 (by first | exact Or.inl rfl | exact Or.inr (Or.inl rfl) | exact Or.inr (Or.inr rfl) | exact Or.inr (bI_01 _)) ?_
      rfl
    | false =>
    rw [c5] at hH hs1
    cases c6 : (w.2.1 (b - 1)).1.2.1 == (w.2.1 (b - 1)).2.1.2.1 with
    | false =>
      refine ⟨h, pre h 5 (by rw [hs1, c6]; rfl) ?_, by rw [hs1, c6]; exact hW, Off.rfl⟩
      rw [c6] at hI
      refine ev_go at_23_23 rfl ?_
      refine ev_go at_23_24 rfl ?_
      refine ev_ic (nI 1) at_23_25 (by decide) ?_
      refine ev_go at_23_26 rfl ?_
      refine ev_top (congrArg Value.int (pk_sub (by omega))) ?_
      refine ev_callV (as := [_]) at_23_27 rfl rfl (by simp [mm_wt, Value.category]) rfl (by assumption) hD ?_
      refine ev_ifb_ne at_23_30 (fun hc => nomatch hc) (fun _ => ?_)
      refine ev_go at_23_33 rfl ?_
      refine ev_go at_23_34 rfl ?_
      refine ev_ic (nI 1) at_23_35 (by decide) ?_
      refine ev_go at_23_36 rfl ?_
      first | refine ev_top (congrArg Value.int (nI_add _ _)) ?_ | skip
      refine ev_callV (as := [_]) at_23_37 rfl rfl (by simp [mm_wt, Value.category]) rfl (by assumption) hE ?_
      refine ev_ifb_eq at_23_40 (fun _ => ?_) (fun hc => nomatch hc)
      refine ev_go at_23_45 rfl ?_
      refine ev_go at_23_46 rfl ?_
      refine ev_ic (nI 1) at_23_47 (by decide) ?_
      refine ev_go at_23_48 rfl ?_
      refine ev_top (congrArg Value.int (pk_sub (by omega))) ?_
      refine ev_callV (as := [_]) at_23_49 rfl rfl (by simp [mm_wt, Value.category]) rfl (by assumption) hF ?_
      refine ev_go at_23_52 rfl ?_
      refine ev_go at_23_53 rfl ?_
      refine ev_go at_23_54 rfl ?_
      refine ev_callV (as := [_]) at_23_55 rfl rfl (by simp [mm_wt, Value.category]) rfl (by assumption) hG ?_
      refine ev_go at_23_58 rfl ?_
      refine ev_go at_23_59 rfl ?_
      refine ev_get at_23_60 q1 rfl ?_
      refine ev_get at_23_63 i1 rfl ?_
      refine ev_ifb_eq at_23_66 (fun hc => nomatch hc) (fun _ => ?_)
      refine ev_go at_23_69 rfl ?_
      refine ev_get at_23_70 q2 rfl ?_
      refine ev_get at_23_73 i2 rfl ?_
      refine ev_ifb_ne at_23_76 (fun _ => ?_) (fun hc => nomatch hc)
      refine ev_go at_23_81 rfl ?_
      refine ev_go at_23_82 rfl ?_
      refine ev_callV (as := [_]) at_23_83 rfl rfl (by simp [mm_wt, Value.category]) rfl (by assumption) hH ?_
      refine ev_ifb_eq at_23_86 (fun _ => ?_) (fun hc => nomatch hc)
      refine ev_go at_23_91 rfl ?_
      refine ev_callV (as := []) at_23_92 rfl rfl (by simp [mm_wt, Value.category]) rfl q1 hI ?_
      refine ev_ifb_eq at_23_95 (fun _ => ?_) (fun hc => nomatch hc)
      refine ev_ic (nI 5) at_23_105 (by decide) ?_
      refine ev_iret at_23_106 (by first | exact Or.inl rfl | exact Or.inr (Or.inl rfl) | exact Or.inr (Or.inr rfl) | exact Or.inr (bI_01 _)) ?_
      rfl
    | true =>
    rw [c6] at hI hs1
    cases c7 : (w.2.1 b).1.2.1 == (w.2.1 b).2.1.2.1 with
    | false =>
      refine ⟨h, pre h 5 (by rw [hs1, c7]; rfl) ?_, by rw [hs1, c7]; exact hW, Off.rfl⟩
      rw [c7] at hJ
      refine ev_go at_23_23 rfl ?_
      refine ev_go at_23_24 rfl ?_
      refine ev_ic (nI 1) at_23_25 (by decide) ?_
      refine ev_go at_23_26 rfl ?_
      refine ev_top (congrArg Value.int (pk_sub (by omega))) ?_
      refine ev_callV (as := [_]) at_23_27 rfl rfl (by simp [mm_wt, Value.category]) rfl (by assumption) hD ?_
      refine ev_ifb_ne at_23_30 (fun hc => nomatch hc) (fun _ => ?_)
      refine ev_go at_23_33 rfl ?_
      refine ev_go at_23_34 rfl ?_
      refine ev_ic (nI 1) at_23_35 (by decide) ?_
      refine ev_go at_23_36 rfl ?_
      first | refine ev_top (congrArg Value.int (nI_add _ _)) ?_ | skip
      refine ev_callV (as := [_]) at_23_37 rfl rfl (by simp [mm_wt, Value.category]) rfl (by assumption) hE ?_
      refine ev_ifb_eq at_23_40 (fun _ => ?_) (fun hc => nomatch hc)
      refine ev_go at_23_45 rfl ?_
      refine ev_go at_23_46 rfl ?_
      refine ev_ic (nI 1) at_23_47 (by decide) ?_
      refine ev_go at_23_48 rfl ?_
      refine ev_top (congrArg Value.int (pk_sub (by omega))) ?_
      refine ev_callV (as := [_]) at_23_49 rfl rfl (by simp [mm_wt, Value.category]) rfl (by assumption) hF ?_
      refine ev_go at_23_52 rfl ?_
      refine ev_go at_23_53 rfl ?_
      refine ev_go at_23_54 rfl ?_
      refine ev_callV (as := [_]) at_23_55 rfl rfl (by simp [mm_wt, Value.category]) rfl (by assumption) hG ?_
      refine ev_go at_23_58 rfl ?_
      refine ev_go at_23_59 rfl ?_
      refine ev_get at_23_60 q1 rfl ?_
      refine ev_get at_23_63 i1 rfl ?_
      refine ev_ifb_eq at_23_66 (fun hc => nomatch hc) (fun _ => ?_)
      refine ev_go at_23_69 rfl ?_
      refine ev_get at_23_70 q2 rfl ?_
      refine ev_get at_23_73 i2 rfl ?_
      refine ev_ifb_ne at_23_76 (fun _ => ?_) (fun hc => nomatch hc)
      refine ev_go at_23_81 rfl ?_
      refine ev_go at_23_82 rfl ?_
      refine ev_callV (as := [_]) at_23_83 rfl rfl (by simp [mm_wt, Value.category]) rfl (by assumption) hH ?_
      refine ev_ifb_eq at_23_86 (fun _ => ?_) (fun hc => nomatch hc)
      refine ev_go at_23_91 rfl ?_
      refine ev_callV (as := []) at_23_92 rfl rfl (by simp [mm_wt, Value.category]) rfl q1 hI ?_
      refine ev_ifb_eq at_23_95 (fun hc => nomatch hc) (fun _ => ?_)
      refine ev_go at_23_98 rfl ?_
      refine ev_callV (as := []) at_23_99 rfl rfl (by simp [mm_wt, Value.category]) rfl q2 hJ ?_
      refine ev_ifb_ne at_23_102 (fun hc => nomatch hc) (fun _ => ?_)
      refine ev_ic (nI 5) at_23_105 (by decide) ?_
      refine ev_iret at_23_106 (by first | exact Or.inl rfl | exact Or.inr (Or.inl rfl) | exact Or.inr (Or.inr rfl) | exact Or.inr (bI_01 _)) ?_
      rfl
    | true =>
      rw [c7] at hJ hs1
      have hs0 : soI K w b = 0 := hs1
      refine ⟨mm_upd h 1 b (.int (bI true)), pre _ 0 hs0 ?_, by rw [hs0]; exact rO, oO⟩
      refine ev_go at_23_23 rfl ?_
      refine ev_go at_23_24 rfl ?_
      refine ev_ic (nI 1) at_23_25 (by decide) ?_
      refine ev_go at_23_26 rfl ?_
      refine ev_top (congrArg Value.int (pk_sub (by omega))) ?_
      refine ev_callV (as := [_]) at_23_27 rfl rfl (by simp [mm_wt, Value.category]) rfl (by assumption) hD ?_
      refine ev_ifb_ne at_23_30 (fun hc => nomatch hc) (fun _ => ?_)
      refine ev_go at_23_33 rfl ?_
      refine ev_go at_23_34 rfl ?_
      refine ev_ic (nI 1) at_23_35 (by decide) ?_
      refine ev_go at_23_36 rfl ?_
      first | refine ev_top (congrArg Value.int (nI_add _ _)) ?_ | skip
      refine ev_callV (as := [_]) at_23_37 rfl rfl (by simp [mm_wt, Value.category]) rfl (by assumption) hE ?_
      refine ev_ifb_eq at_23_40 (fun _ => ?_) (fun hc => nomatch hc)
      refine ev_go at_23_45 rfl ?_
      refine ev_go at_23_46 rfl ?_
      refine ev_ic (nI 1) at_23_47 (by decide) ?_
      refine ev_go at_23_48 rfl ?_
      refine ev_top (congrArg Value.int (pk_sub (by omega))) ?_
      refine ev_callV (as := [_]) at_23_49 rfl rfl (by simp [mm_wt, Value.category]) rfl (by assumption) hF ?_
      refine ev_go at_23_52 rfl ?_
      refine ev_go at_23_53 rfl ?_
      refine ev_go at_23_54 rfl ?_
      refine ev_callV (as := [_]) at_23_55 rfl rfl (by simp [mm_wt, Value.category]) rfl (by assumption) hG ?_
      refine ev_go at_23_58 rfl ?_
      refine ev_go at_23_59 rfl ?_
      refine ev_get at_23_60 q1 rfl ?_
      refine ev_get at_23_63 i1 rfl ?_
      refine ev_ifb_eq at_23_66 (fun hc => nomatch hc) (fun _ => ?_)
      refine ev_go at_23_69 rfl ?_
      refine ev_get at_23_70 q2 rfl ?_
      refine ev_get at_23_73 i2 rfl ?_
      refine ev_ifb_ne at_23_76 (fun _ => ?_) (fun hc => nomatch hc)
      refine ev_go at_23_81 rfl ?_
      refine ev_go at_23_82 rfl ?_
      refine ev_callV (as := [_]) at_23_83 rfl rfl (by simp [mm_wt, Value.category]) rfl (by assumption) hH ?_
      refine ev_ifb_eq at_23_86 (fun _ => ?_) (fun hc => nomatch hc)
      refine ev_go at_23_91 rfl ?_
      refine ev_callV (as := []) at_23_92 rfl rfl (by simp [mm_wt, Value.category]) rfl q1 hI ?_
      refine ev_ifb_eq at_23_95 (fun hc => nomatch hc) (fun _ => ?_)
      refine ev_go at_23_98 rfl ?_
      refine ev_callV (as := []) at_23_99 rfl rfl (by simp [mm_wt, Value.category]) rfl q2 hJ ?_
      refine ev_ifb_ne at_23_102 (fun _ => ?_) (fun hc => nomatch hc)
      refine ev_go at_23_107 rfl ?_
      refine ev_get at_23_108 (by assumption) rfl ?_
      refine ev_go at_23_111 rfl ?_
      refine ev_ic (nI 1) at_23_112 (by decide) ?_
      refine ev_zast at_23_113 (by assumption) (by omega) hv (by first | exact bI_01 _ | decide) ?_
      refine ev_ic (nI 0) at_23_114 (by decide) ?_
      refine ev_iret at_23_115 (by first | exact Or.inl rfl | exact Or.inr (Or.inl rfl) | exact Or.inr (Or.inr rfl) | exact Or.inr (bI_01 _)) ?_
      rfl
theorem x_switchOut (d : Nat) (hW : CW K h w) {b : Int32} (hb : bxB K.n b = false) : mm_cal z (d + 4) 23 [.ref 0, .int b] h (.threw 0, xh h 0) := by
  have hX := x_checkBox (z := z) (d + 1) hW hb
  have h0 := hW.2.1
  refine mm_cal_of ?_
  refine ev_go at_23_0 rfl ?_
  refine ev_go at_23_1 rfl ?_
  exact ev_thrV (as := [_]) at_23_2 rfl rfl (by simp [mm_wt, Value.category]) rfl h0 hX (by decide +kernel) (by decide +kernel) rfl
/-- what switchIn answers -/
def siI (w : Cs) (b : Nat) : Nat :=
  if !w.1 b then 1
  else if !((w.2.1 (10 + b)).1.2.2 && (w.2.1 (10 + b)).2.1.2.2) then 3
  else if wrB w b then 4
  else if !((w.2.1 (10 + b)).1.2.1 == (w.2.1 (10 + b)).2.1.2.1) then 5 else 0
theorem c_switchIn (d : Nat) (hW : CW K h w) {b : Nat} (hb : b < K.n) (hox : w.1 b = true → K.ex (10 + b) = true) : ∃ h', mm_cal z (d + 4) 26 [.ref 0, .int (nI b)] h (.returned (some (.int (nI (siI w b)))), h') ∧ CW K h' (if siI w b = 0 then setO w b false else w) ∧ Off 0 (K.tb + 9) h h' := by
  have hn := hW.1.2.1
  have h0 := hW.2.1
  have h1 := hW.2.2.1
  have hA := c_checkBox (z := z) (d + 1) hW (b := nI b) (by rw [bxB_nI (by omega) (by omega)]; exact decide_eq_true hb)
  have hC := c_isOut (z := z) (d + 1) hW (nI b)
  rw [otB_nI (by omega) (by omega), decide_eq_true hb, Bool.true_and] at hC
  cases hob : w.1 b with
  | false =>
    rw [hob] at hC
    have hs : siI w b = 1 := by unfold siI; rw [hob]; rfl
    refine ⟨h, ?_, by rw [hs]; exact hW, Off.rfl⟩
    rw [hs]
    refine mm_cal_of ?_
    refine ev_go at_26_0 rfl ?_
    refine ev_go at_26_1 rfl ?_
    refine ev_callV (as := [_]) at_26_2 rfl rfl (by simp [mm_wt, Value.category]) rfl (by assumption) hA ?_
    refine ev_go at_26_5 rfl ?_
    refine ev_go at_26_6 rfl ?_
    refine ev_callV (as := [_]) at_26_7 rfl rfl (by simp [mm_wt, Value.category]) rfl (by assumption) hC ?_
    refine ev_ifb_ne at_26_10 (fun hc => nomatch hc) (fun _ => ?_)
    refine ev_ic (nI 1) at_26_13 (by decide) ?_
    refine ev_iret at_26_14 (by first | exact Or.inl rfl | exact Or.inr (Or.inl rfl) | exact Or.inr (Or.inr rfl) | exact Or.inr (bI_01 _)) ?_
    rfl
  | true =>
    have hx := hox hob
    rw [hob] at hC
    have hF := c_sectionNumbered (z := z) (d + 1) hW hx
    have q1 := (hW.sec hx).1.1
    have i1 := (hW.sec hx).1.2.1.1
    have i2 := (hW.sec hx).1.2.2.1.1
    have hH := c_wireBrokenAround (z := z) d hW hx
    have hI := c_inPhase (z := z) (d + 2) (hW.sec hx).1
    have hs1 : siI w b = if !((w.2.1 (10 + b)).1.2.2 && (w.2.1 (10 + b)).2.1.2.2) then 3 else if wrB w b then 4 else if !((w.2.1 (10 + b)).1.2.1 == (w.2.1 (10 + b)).2.1.2.1) then 5 else 0 := by unfold siI; rw [hob]; rfl
    have hv : b < (rng K.n fun b => Value.int (bI (w.1 b))).length := by rw [rng_len]; exact hb
    obtain ⟨rO, oO⟩ := hW.setO (b := b) false
    cases c3 : (w.2.1 (10 + b)).1.2.2 with
    | false =>
      have hs : siI w b = 3 := by rw [hs1, c3]; rfl
      refine ⟨h, ?_, by rw [hs]; exact hW, Off.rfl⟩
      rw [hs]
      rw [c3] at i1
      refine mm_cal_of ?_
      refine ev_go at_26_0 rfl ?_
      refine ev_go at_26_1 rfl ?_
      refine ev_callV (as := [_]) at_26_2 rfl rfl (by simp [mm_wt, Value.category]) rfl (by assumption) hA ?_
      refine ev_go at_26_5 rfl ?_
      refine ev_go at_26_6 rfl ?_
      refine ev_callV (as := [_]) at_26_7 rfl rfl (by simp [mm_wt, Value.category]) rfl (by assumption) hC ?_
      refine ev_ifb_ne at_26_10 (fun _ => ?_) (fun hc => nomatch hc)
      refine ev_go at_26_15 rfl ?_
      refine ev_bi (nI 10) at_26_16 (by decide) ?_
      refine ev_go at_26_18 rfl ?_
      refine ev_go at_26_19 rfl ?_
      first | refine ev_top (congrArg Value.int (nI_add _ _)) ?_ | skip
      refine ev_callV (as := [_]) at_26_20 rfl rfl (by simp [mm_wt, Value.category]) rfl (by assumption) hF ?_
      refine ev_go at_26_23 rfl ?_
      refine ev_go at_26_24 rfl ?_
      refine ev_get at_26_25 q1 rfl ?_
      refine ev_get at_26_28 i1 rfl ?_
      refine ev_ifb_eq at_26_31 (fun _ => ?_) (fun hc => nomatch hc)
      refine ev_ic (nI 3) at_26_44 (by decide) ?_
      refine ev_iret at_26_45 (by first | exact Or.inl rfl | exact Or.inr (Or.inl rfl) | exact Or.inr (Or.inr rfl) | exact Or.inr (bI_01 _)) ?_
      rfl
    | true =>
    rw [c3] at i1 hs1
    cases c4 : (w.2.1 (10 + b)).2.1.2.2 with
    | false =>
      have hs : siI w b = 3 := by rw [hs1, c4]; rfl
      refine ⟨h, ?_, by rw [hs]; exact hW, Off.rfl⟩
      rw [hs]
      rw [c4] at i2
      refine mm_cal_of ?_
      refine ev_go at_26_0 rfl ?_
      refine ev_go at_26_1 rfl ?_
      refine ev_callV (as := [_]) at_26_2 rfl rfl (by simp [mm_wt, Value.category]) rfl (by assumption) hA ?_
      refine ev_go at_26_5 rfl ?_
      refine ev_go at_26_6 rfl ?_
      refine ev_callV (as := [_]) at_26_7 rfl rfl (by simp [mm_wt, Value.category]) rfl (by assumption) hC ?_
      refine ev_ifb_ne at_26_10 (fun _ => ?_) (fun hc => nomatch hc)
      refine ev_go at_26_15 rfl ?_
      refine ev_bi (nI 10) at_26_16 (by decide) ?_
      refine ev_go at_26_18 rfl ?_
      refine ev_go at_26_19 rfl ?_
      first | refine ev_top (congrArg Value.int (nI_add _ _)) ?_ | skip
      refine ev_callV (as := [_]) at_26_20 rfl rfl (by simp [mm_wt, Value.category]) rfl (by assumption) hF ?_
      refine ev_go at_26_23 rfl ?_
      refine ev_go at_26_24 rfl ?_
      refine ev_get at_26_25 q1 rfl ?_
      refine ev_get at_26_28 i1 rfl ?_
      refine ev_ifb_eq at_26_31 (fun hc => nomatch hc) (fun _ => ?_)
      refine ev_go at_26_34 rfl ?_
      refine ev_get at_26_35 q1 rfl ?_
      refine ev_get at_26_38 i2 rfl ?_
      refine ev_ifb_ne at_26_41 (fun hc => nomatch hc) (fun _ => ?_)
      refine ev_ic (nI 3) at_26_44 (by decide) ?_
      refine ev_iret at_26_45 (by first | exact Or.inl rfl | exact Or.inr (Or.inl rfl) | exact Or.inr (Or.inr rfl) | exact Or.inr (bI_01 _)) ?_
      rfl
    | true =>
    rw [c4] at i2 hs1
    cases c5 : wrB w b with
    | true =>
      have hs : siI w b = 4 := by rw [hs1, c5]; rfl
      refine ⟨h, ?_, by rw [hs]; exact hW, Off.rfl⟩
      rw [hs]
      rw [c5] at hH
      refine mm_cal_of ?_
      refine ev_go at_26_0 rfl ?_
      refine ev_go at_26_1 rfl ?_
      refine ev_callV (as := [_]) at_26_2 rfl rfl (by simp [mm_wt, Value.category]) rfl (by assumption) hA ?_
      refine ev_go at_26_5 rfl ?_
      refine ev_go at_26_6 rfl ?_
      refine ev_callV (as := [_]) at_26_7 rfl rfl (by simp [mm_wt, Value.category]) rfl (by assumption) hC ?_
      refine ev_ifb_ne at_26_10 (fun _ => ?_) (fun hc => nomatch hc)
      refine ev_go at_26_15 rfl ?_
      refine ev_bi (nI 10) at_26_16 (by decide) ?_
      refine ev_go at_26_18 rfl ?_
      refine ev_go at_26_19 rfl ?_
      first | refine ev_top (congrArg Value.int (nI_add _ _)) ?_ | skip
      refine ev_callV (as := [_]) at_26_20 rfl rfl (by simp [mm_wt, Value.category]) rfl (by assumption) hF ?_
      refine ev_go at_26_23 rfl ?_
      refine ev_go at_26_24 rfl ?_
      refine ev_get at_26_25 q1 rfl ?_
      refine ev_get at_26_28 i1 rfl ?_
      refine ev_ifb_eq at_26_31 (fun hc => nomatch hc) (fun _ => ?_)
      refine ev_go at_26_34 rfl ?_
      refine ev_get at_26_35 q1 rfl ?_
      refine ev_get at_26_38 i2 rfl ?_
      refine ev_ifb_ne at_26_41 (fun _ => ?_) (fun hc => nomatch hc)
      refine ev_go at_26_46 rfl ?_
      refine ev_go at_26_47 rfl ?_
      refine ev_callV (as := [_]) at_26_48 rfl rfl (by simp [mm_wt, Value.category]) rfl (by assumption) hH ?_
      refine ev_ifb_eq at_26_51 (fun hc => nomatch hc) (fun _ => ?_)
      refine ev_ic (nI 4) at_26_54 (by decide) ?_
      refine ev_iret at_26_55 (by first | exact Or.inl rfl | exact Or.inr (Or.inl rfl) | exact Or.inr (Or.inr rfl) | exact Or.inr (bI_01 _)) ?_
      rfl
    | false =>
    rw [c5] at hH hs1
    cases c6 : (w.2.1 (10 + b)).1.2.1 == (w.2.1 (10 + b)).2.1.2.1 with
    | false =>
      have hs : siI w b = 5 := by rw [hs1, c6]; rfl
      refine ⟨h, ?_, by rw [hs]; exact hW, Off.rfl⟩
      rw [hs]
      rw [c6] at hI
      refine mm_cal_of ?_
      refine ev_go at_26_0 rfl ?_
      refine ev_go at_26_1 rfl ?_
      refine ev_callV (as := [_]) at_26_2 rfl rfl (by simp [mm_wt, Value.category]) rfl (by assumption) hA ?_
      refine ev_go at_26_5 rfl ?_
      refine ev_go at_26_6 rfl ?_
      refine ev_callV (as := [_]) at_26_7 rfl rfl (by simp [mm_wt, Value.category]) rfl (by assumption) hC ?_
      refine ev_ifb_ne at_26_10 (fun _ => ?_) (fun hc => nomatch hc)
      refine ev_go at_26_15 rfl ?_
      refine ev_bi (nI 10) at_26_16 (by decide) ?_
      refine ev_go at_26_18 rfl ?_
      refine ev_go at_26_19 rfl ?_
      first | refine ev_top (congrArg Value.int (nI_add _ _)) ?_ | skip
      refine ev_callV (as := [_]) at_26_20 rfl rfl (by simp [mm_wt, Value.category]) rfl (by assumption) hF ?_
      refine ev_go at_26_23 rfl ?_
      refine ev_go at_26_24 rfl ?_
      refine ev_get at_26_25 q1 rfl ?_
      refine ev_get at_26_28 i1 rfl ?_
      refine ev_ifb_eq at_26_31 (fun hc => nomatch hc) (fun _ => ?_)
      refine ev_go at_26_34 rfl ?_
      refine ev_get at_26_35 q1 rfl ?_
      refine ev_get at_26_38 i2 rfl ?_
      refine ev_ifb_ne at_26_41 (fun _ => ?_) (fun hc => nomatch hc)
      refine ev_go at_26_46 rfl ?_
      refine ev_go at_26_47 rfl ?_
      refine ev_callV (as := [_]) at_26_48 rfl rfl (by simp [mm_wt, Value.category]) rfl (by assumption) hH ?_
      refine ev_ifb_eq at_26_51 (fun _ => ?_) (fun hc => nomatch hc)
      refine ev_go at_26_56 rfl ?_
      refine ev_callV (as := []) at_26_57 rfl rfl (by simp [mm_wt, Value.category]) rfl q1 hI ?_
      refine ev_ifb_ne at_26_60 (fun hc => nomatch hc) (fun _ => ?_)
      refine ev_ic (nI 5) at_26_63 (by decide) ?_
      refine ev_iret at_26_64 (by first | exact Or.inl rfl | exact Or.inr (Or.inl rfl) | exact Or.inr (Or.inr rfl) | exact Or.inr (bI_01 _)) ?_
      rfl
    | true =>
      rw [c6] at hI hs1
      have hs : siI w b = 0 := hs1
      refine ⟨mm_upd h 1 b (.int (bI false)), ?_, by rw [hs]; exact rO, oO⟩
      rw [hs]
      refine mm_cal_of ?_
      refine ev_go at_26_0 rfl ?_
      refine ev_go at_26_1 rfl ?_
      refine ev_callV (as := [_]) at_26_2 rfl rfl (by simp [mm_wt, Value.category]) rfl (by assumption) hA ?_
      refine ev_go at_26_5 rfl ?_
      refine ev_go at_26_6 rfl ?_
      refine ev_callV (as := [_]) at_26_7 rfl rfl (by simp [mm_wt, Value.category]) rfl (by assumption) hC ?_
      refine ev_ifb_ne at_26_10 (fun _ => ?_) (fun hc => nomatch hc)
      refine ev_go at_26_15 rfl ?_
      refine ev_bi (nI 10) at_26_16 (by decide) ?_
      refine ev_go at_26_18 rfl ?_
      refine ev_go at_26_19 rfl ?_
      first | refine ev_top (congrArg Value.int (nI_add _ _)) ?_ | skip
      refine ev_callV (as := [_]) at_26_20 rfl rfl (by simp [mm_wt, Value.category]) rfl (by assumption) hF ?_
      refine ev_go at_26_23 rfl ?_
      refine ev_go at_26_24 rfl ?_
      refine ev_get at_26_25 q1 rfl ?_
      refine ev_get at_26_28 i1 rfl ?_
      refine ev_ifb_eq at_26_31 (fun hc => nomatch hc) (fun _ => ?_)
      refine ev_go at_26_34 rfl ?_
      refine ev_get at_26_35 q1 rfl ?_
      refine ev_get at_26_38 i2 rfl ?_
      refine ev_ifb_ne at_26_41 (fun _ => ?_) (fun hc => nomatch hc)
      refine ev_go at_26_46 rfl ?_
      refine ev_go at_26_47 rfl ?_
      refine ev_callV (as := [_]) at_26_48 rfl rfl (by simp [mm_wt, Value.category]) rfl (by assumption) hH ?_
      refine ev_ifb_eq at_26_51 (fun _ => ?_) (fun hc => nomatch hc)
      refine ev_go at_26_56 rfl ?_
      refine ev_callV (as := []) at_26_57 rfl rfl (by simp [mm_wt, Value.category]) rfl q1 hI ?_
      refine ev_ifb_ne at_26_60 (fun _ => ?_) (fun hc => nomatch hc)
      refine ev_go at_26_65 rfl ?_
      refine ev_get at_26_66 (by assumption) rfl ?_
      refine ev_go at_26_69 rfl ?_
      refine ev_ic (nI 0) at_26_70 (by decide) ?_
      refine ev_zast at_26_71 (by assumption) (by omega) hv (by first | exact bI_01 _ | decide) ?_
      refine ev_ic (nI 0) at_26_72 (by decide) ?_
      refine ev_iret at_26_73 (by first | exact Or.inl rfl | exact Or.inr (Or.inl rfl) | exact Or.inr (Or.inr rfl) | exact Or.inr (bI_01 _)) ?_
      rfl
theorem x_switchIn (d : Nat) (hW : CW K h w) {b : Int32} (hb : bxB K.n b = false) : mm_cal z (d + 4) 26 [.ref 0, .int b] h (.threw 0, xh h 0) := by
  have hX := x_checkBox (z := z) (d + 1) hW hb
  have h0 := hW.2.1
  refine mm_cal_of ?_
  refine ev_go at_26_0 rfl ?_
  refine ev_go at_26_1 rfl ?_
  exact ev_thrV (as := [_]) at_26_2 rfl rfl (by simp [mm_wt, Value.category]) rfl h0 hX (by decide +kernel) (by decide +kernel) rfl
end C4
