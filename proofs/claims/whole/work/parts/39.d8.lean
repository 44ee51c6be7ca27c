/-! THE REFERENCE's PUBLIC METHODS (4) -/
theorem upf_self {α : Type} {f : Nat → α} {k : Nat} {v : α} (h : f k = v) : upf f k v = f := by
  funext j
  unfold upf
  split
  · next q => rw [q, h]
  · rfl
section D8
variable {z : mm_Z} {h h' : mm_H} {K : Cf} {a : Nat} {c : Int32} {m : Md}
theorem y_phase (d : Nat) (hM : MAt K a h c m) {s b : Int32} (hs : edB K s b = false) : ∃ h', mm_cal z (d + 3) 79 [.ref a, .int b, .int s] h (.returned (some (.int (nI 0))), h') ∧ MAt K a h' (nI 1) m ∧ Off a (a + 12) h h' := by
  have hA := d_isEnd (z := z) d hM b s
  rw [hs] at hA
  have h0 := hM.2.1
  obtain ⟨m1, o1⟩ := hM.setC (nI 1)
  have h01 := m1.2.1
  refine ⟨_, ?_, m1, o1⟩
  refine mm_cal_of ?_
  refine ev_go at_79_0 rfl ?_
  refine ev_go at_79_1 rfl ?_
  refine ev_go at_79_2 rfl ?_
  refine ev_go at_79_3 rfl ?_
  refine ev_callV (as := [_, _]) at_79_4 rfl rfl (by simp [mm_wt, Value.category]) rfl h0 hA ?_
  refine ev_ifb_eq at_79_7 (fun _ => ?_) (fun hc => nomatch hc)
  refine ev_ic (nI 1) at_79_14 (by decide) ?_
  refine ev_put at_79_15 h0 (by first | (simp; done) | (simp [Mo]; done)) (by first | rfl | exact fits_b _) ?_
  refine ev_go at_79_18 rfl ?_
  refine ev_get at_79_19 h01 rfl ?_
  refine ev_if_le at_79_22 (fun hc => absurd hc (by decide)) (fun _ => ?_)
  refine ev_ic (nI 0) at_79_25 (by decide) ?_
  refine ev_go at_79_26 rfl ?_
  refine ev_iret at_79_45 (by first | exact Or.inl rfl | exact Or.inr (Or.inl rfl) | exact Or.inr (Or.inr rfl) | exact Or.inr (bI_01 _)) ?_
  rfl
theorem y_slide (d : Nat) (hM : MAt K a h c m) {s b : Int32} (hs : edB K s b = false) : ∃ h', mm_cal z (d + 3) 80 [.ref a, .int b, .int s] h (.returned (some (.int (nI 0))), h') ∧ MAt K a h' (nI 1) m ∧ Off a (a + 12) h h' := by
  have hA := d_isEnd (z := z) d hM b s
  rw [hs] at hA
  have h0 := hM.2.1
  obtain ⟨m1, o1⟩ := hM.setC (nI 1)
  have h01 := m1.2.1
  refine ⟨_, ?_, m1, o1⟩
  refine mm_cal_of ?_
  refine ev_go at_80_0 rfl ?_
  refine ev_go at_80_1 rfl ?_
  refine ev_go at_80_2 rfl ?_
  refine ev_go at_80_3 rfl ?_
  refine ev_callV (as := [_, _]) at_80_4 rfl rfl (by simp [mm_wt, Value.category]) rfl h0 hA ?_
  refine ev_ifb_eq at_80_7 (fun _ => ?_) (fun hc => nomatch hc)
  refine ev_ic (nI 1) at_80_14 (by decide) ?_
  refine ev_put at_80_15 h0 (by first | (simp; done) | (simp [Mo]; done)) (by first | rfl | exact fits_b _) ?_
  refine ev_go at_80_18 rfl ?_
  refine ev_get at_80_19 h01 rfl ?_
  refine ev_if_le at_80_22 (fun hc => absurd hc (by decide)) (fun _ => ?_)
  refine ev_ic (nI 0) at_80_25 (by decide) ?_
  refine ev_go at_80_26 rfl ?_
  refine ev_iret at_80_39 (by first | exact Or.inl rfl | exact Or.inr (Or.inl rfl) | exact Or.inr (Or.inr rfl) | exact Or.inr (bI_01 _)) ?_
  rfl
theorem y_spend (d : Nat) (hM : MAt K a h c m) {s b : Int32} (hs : edB K s b = false) : ∃ h', mm_cal z (d + 3) 83 [.ref a, .int s, .int b] h (.returned (some (.int (nI 0))), h') ∧ MAt K a h' (nI 1) m ∧ Off a (a + 12) h h' := by
  have hA := d_isEnd (z := z) d hM b s
  rw [hs] at hA
  have h0 := hM.2.1
  obtain ⟨m1, o1⟩ := hM.setC (nI 1)
  have h01 := m1.2.1
  refine ⟨_, ?_, m1, o1⟩
  refine mm_cal_of ?_
  refine ev_go at_83_0 rfl ?_
  refine ev_go at_83_1 rfl ?_
  refine ev_go at_83_2 rfl ?_
  refine ev_go at_83_3 rfl ?_
  refine ev_callV (as := [_, _]) at_83_4 rfl rfl (by simp [mm_wt, Value.category]) rfl h0 hA ?_
  refine ev_ifb_eq at_83_7 (fun _ => ?_) (fun hc => nomatch hc)
  refine ev_ic (nI 1) at_83_14 (by decide) ?_
  refine ev_put at_83_15 h0 (by first | (simp; done) | (simp [Mo]; done)) (by first | rfl | exact fits_b _) ?_
  refine ev_go at_83_18 rfl ?_
  refine ev_get at_83_19 h01 rfl ?_
  refine ev_if_gt at_83_22 (fun _ => ?_) (fun hc => absurd hc (by decide))
  refine ev_ic (nI 0) at_83_33 (by decide) ?_
  refine ev_go at_83_34 rfl ?_
  refine ev_iret at_83_47 (by first | exact Or.inl rfl | exact Or.inr (Or.inl rfl) | exact Or.inr (Or.inr rfl) | exact Or.inr (bI_01 _)) ?_
  rfl
theorem e_phase (d : Nat) (hM : MAt K a h c m) (hB : MB m) {k : Nat} (hk : K.ex k = true) (e : Bool) : ∃ h', mm_cal z (d + 3) 79 [.ref a, .int (nI (eb k e)), .int (nI k)] h (.returned (some (.int (nI (m.tu (2 * k + eN e) % 2)))), h') ∧ MAt K a h' (nI 0) m ∧ Off a (a + 12) h h' := by
  have hK := hM.1
  have h15 := (Cf.no hK hk).1.1
  have hA := d_isEnd (z := z) d hM (nI (eb k e)) (nI k)
  rw [edB_nI hK hk e] at hA
  have h0 := hM.2.1
  obtain ⟨m1, o1⟩ := hM.setC (nI 0)
  generalize hh1 : mm_upd h a 2 (.int (nI 0)) = h1 at m1 o1
  have h01 := m1.2.1
  have hE := d_end (z := z) (h := h1) d hK hk e
  have h6 := m1.a6
  have hix := eN_ix h15 e
  have hv6 := rng_at (n := 30) (fun s => Value.int (nI (m.tu s))) hix
  have htu := hB.2.2.1 (2 * k + eN e)
  have htm := hB.2.2.2
  have hand : nI (m.tu (2 * k + eN e)) &&& nI 1 = nI (m.tu (2 * k + eN e) % 2) := pk_andN (by omega) 1 (by decide)
  refine ⟨_, ?_, m1, o1⟩
  refine mm_cal_of ?_
  refine ev_go at_79_0 rfl ?_
  refine ev_go at_79_1 rfl ?_
  refine ev_go at_79_2 rfl ?_
  refine ev_go at_79_3 rfl ?_
  refine ev_callV (as := [_, _]) at_79_4 rfl rfl (by simp [mm_wt, Value.category]) rfl h0 hA ?_
  refine ev_ifb_eq at_79_7 (fun hc => nomatch hc) (fun _ => ?_)
  refine ev_ic (nI 0) at_79_10 (by decide) ?_
  refine ev_go at_79_11 rfl ?_
  refine ev_put at_79_15 h0 (by simp [Mo]) rfl ?_
  rw [hh1]
  refine ev_go at_79_18 rfl ?_
  refine ev_get at_79_19 h01 rfl ?_
  refine ev_if_le at_79_22 (fun _ => ?_) (fun hc => absurd hc (by decide))
  refine ev_go at_79_29 rfl ?_
  refine ev_get at_79_30 h01 rfl ?_
  refine ev_ic (nI 2) at_79_33 (by decide) ?_
  refine ev_go at_79_34 rfl ?_
  refine ev_go at_79_35 rfl ?_
  first | refine ev_top (congrArg Value.int (pk_mul _ _)) ?_ | skip
  refine ev_go at_79_36 rfl ?_
  refine ev_go at_79_37 rfl ?_
  refine ev_callS (as := [_, _]) at_79_38 (by decide) rfl rfl (by simp [mm_wt, Value.category]) rfl hE ?_
  refine ev_go at_79_41 rfl ?_
  first | refine ev_top (congrArg Value.int (nI_add _ _)) ?_ | skip
  refine ev_iald at_79_42 h6 (by omega) hv6 ?_
  refine ev_ic (nI 1) at_79_43 (by decide) ?_
  refine ev_go at_79_44 rfl ?_
  refine ev_top (congrArg Value.int hand) ?_
  refine ev_iret at_79_45 (by first | exact Or.inl rfl | exact Or.inr (Or.inl rfl) | exact Or.inr (Or.inr rfl) | exact Or.inr (bI_01 _)) ?_
  rfl
theorem e_slide (d : Nat) (hM : MAt K a h c m) (hB : MB m) {k : Nat} (hk : K.ex k = true) (e : Bool) {q : List Nat} (hq : Ly K m k e q) (hnd : q.Nodup) : ∃ h', mm_cal z (d + 3) 80 [.ref a, .int (nI (eb k e)), .int (nI k)] h (.returned (some (.int (nI q.length))), h') ∧ MAt K a h' (nI 0) m ∧ Off a (a + 12) h h' := by
  have hK := hM.1
  have h15 := (Cf.no hK hk).1.1
  have hA := d_isEnd (z := z) d hM (nI (eb k e)) (nI k)
  rw [edB_nI hK hk e] at hA
  have h0 := hM.2.1
  obtain ⟨m1, o1⟩ := hM.setC (nI 0)
  generalize hh1 : mm_upd h a 2 (.int (nI 0)) = h1 at m1 o1
  have h01 := m1.2.1
  have hE := d_end (z := z) (h := h1) d hK hk e
  have hL := d_lying (z := z) (d + 1) m1 hB h15 hq hnd
  refine ⟨_, ?_, m1, o1⟩
  refine mm_cal_of ?_
  refine ev_go at_80_0 rfl ?_
  refine ev_go at_80_1 rfl ?_
  refine ev_go at_80_2 rfl ?_
  refine ev_go at_80_3 rfl ?_
  refine ev_callV (as := [_, _]) at_80_4 rfl rfl (by simp [mm_wt, Value.category]) rfl h0 hA ?_
  refine ev_ifb_eq at_80_7 (fun hc => nomatch hc) (fun _ => ?_)
  refine ev_ic (nI 0) at_80_10 (by decide) ?_
  refine ev_go at_80_11 rfl ?_
  refine ev_put at_80_15 h0 (by simp [Mo]) rfl ?_
  rw [hh1]
  refine ev_go at_80_18 rfl ?_
  refine ev_get at_80_19 h01 rfl ?_
  refine ev_if_le at_80_22 (fun _ => ?_) (fun hc => absurd hc (by decide))
  refine ev_go at_80_29 rfl ?_
  refine ev_go at_80_30 rfl ?_
  refine ev_go at_80_31 rfl ?_
  refine ev_go at_80_32 rfl ?_
  refine ev_callS (as := [_, _]) at_80_33 (by decide) rfl rfl (by simp [mm_wt, Value.category]) rfl hE ?_
  refine ev_callV (as := [_, _]) at_80_36 rfl rfl (by simp [mm_wt, Value.category]) rfl h01 hL ?_
  refine ev_iret at_80_39 (by first | exact Or.inl rfl | exact Or.inr (Or.inl rfl) | exact Or.inr (Or.inr rfl) | exact Or.inr (bI_01 _)) ?_
  rfl
theorem e_spend (d : Nat) (hM : MAt K a h c m) (hB : MB m) {k : Nat} (hk : K.ex k = true) (e : Bool) {q : List Nat} (hq : Ly K m k e q) (hnd : q.Nodup) {ph : Bool} (hph : ph = true ↔ ∀ j, j < K.t → m.pl (8 * k + j) < 2) : ∃ h', mm_cal z (d + 3) 83 [.ref a, .int (nI k), .int (nI (eb k e))] h (.returned (some (.int (if ph then nI q.length else nI 0))), h') ∧ MAt K a h' (nI 0) m ∧ Off a (a + 12) h h' := by
  have hK := hM.1
  have h15 := (Cf.no hK hk).1.1
  have hA := d_isEnd (z := z) d hM (nI (eb k e)) (nI k)
  rw [edB_nI hK hk e] at hA
  have h0 := hM.2.1
  obtain ⟨m1, o1⟩ := hM.setC (nI 0)
  generalize hh1 : mm_upd h a 2 (.int (nI 0)) = h1 at m1 o1
  have h01 := m1.2.1
  have hE := d_end (z := z) (h := h1) d hK hk e
  have hL := d_lying (z := z) (d + 1) m1 hB h15 hq hnd
  have hP := d_isInPhase (z := z) (d + 1) m1 hB h15 hph
  refine ⟨_, ?_, m1, o1⟩
  refine mm_cal_of ?_
  cases ph
  · skip
    refine ev_go at_83_0 rfl ?_
    refine ev_go at_83_1 rfl ?_
    refine ev_go at_83_2 rfl ?_
    refine ev_go at_83_3 rfl ?_
    refine ev_callV (as := [_, _]) at_83_4 rfl rfl (by simp [mm_wt, Value.category]) rfl h0 hA ?_
    refine ev_ifb_eq at_83_7 (fun hc => nomatch hc) (fun _ => ?_)
    refine ev_ic (nI 0) at_83_10 (by decide) ?_
    refine ev_go at_83_11 rfl ?_
    refine ev_put at_83_15 h0 (by simp [Mo]) rfl ?_
    rw [hh1]
    refine ev_go at_83_18 rfl ?_
    refine ev_get at_83_19 h01 rfl ?_
    refine ev_if_gt at_83_22 (fun hc => absurd hc (by decide)) (fun _ => ?_)
    refine ev_go at_83_25 rfl ?_
    refine ev_go at_83_26 rfl ?_
    refine ev_callV (as := [_]) at_83_27 rfl rfl (by simp [mm_wt, Value.category]) rfl h01 hP ?_
    refine ev_ifb_ne at_83_30 (fun hc => nomatch hc) (fun _ => ?_)
    refine ev_ic (nI 0) at_83_33 (by decide) ?_
    refine ev_go at_83_34 rfl ?_
    refine ev_iret at_83_47 (by first | exact Or.inl rfl | exact Or.inr (Or.inl rfl) | exact Or.inr (Or.inr rfl) | exact Or.inr (bI_01 _)) ?_
    rfl
  · skip
    refine ev_go at_83_0 rfl ?_
    refine ev_go at_83_1 rfl ?_
    refine ev_go at_83_2 rfl ?_
    refine ev_go at_83_3 rfl ?_
    refine ev_callV (as := [_, _]) at_83_4 rfl rfl (by simp [mm_wt, Value.category]) rfl h0 hA ?_
    refine ev_ifb_eq at_83_7 (fun hc => nomatch hc) (fun _ => ?_)
    refine ev_ic (nI 0) at_83_10 (by decide) ?_
    refine ev_go at_83_11 rfl ?_
    refine ev_put at_83_15 h0 (by simp [Mo]) rfl ?_
    rw [hh1]
    refine ev_go at_83_18 rfl ?_
    refine ev_get at_83_19 h01 rfl ?_
    refine ev_if_gt at_83_22 (fun hc => absurd hc (by decide)) (fun _ => ?_)
    refine ev_go at_83_25 rfl ?_
    refine ev_go at_83_26 rfl ?_
    refine ev_callV (as := [_]) at_83_27 rfl rfl (by simp [mm_wt, Value.category]) rfl h01 hP ?_
    refine ev_ifb_ne at_83_30 (fun _ => ?_) (fun hc => nomatch hc)
    refine ev_go at_83_37 rfl ?_
    refine ev_go at_83_38 rfl ?_
    refine ev_go at_83_39 rfl ?_
    refine ev_go at_83_40 rfl ?_
    refine ev_callS (as := [_, _]) at_83_41 (by decide) rfl rfl (by simp [mm_wt, Value.category]) rfl hE ?_
    refine ev_callV (as := [_, _]) at_83_44 rfl rfl (by simp [mm_wt, Value.category]) rfl h01 hL ?_
    refine ev_iret at_83_47 (by first | exact Or.inl rfl | exact Or.inr (Or.inl rfl) | exact Or.inr (Or.inr rfl) | exact Or.inr (bI_01 _)) ?_
    rfl
theorem y_where (d : Nat) (hM : MAt K a h c m) {x : Int32} (hs : tbB K x = false) : ∃ h', mm_cal z (d + 3) 81 [.ref a, .int x] h (.returned (some (.int (nI 0))), h') ∧ MAt K a h' (nI 1) m ∧ Off a (a + 12) h h' := by
  have hA := d_isTablet (z := z) d hM x
  rw [hs] at hA
  have h0 := hM.2.1
  obtain ⟨m1, o1⟩ := hM.setC (nI 1)
  have h01 := m1.2.1
  refine ⟨_, ?_, m1, o1⟩
  refine mm_cal_of ?_
  refine ev_go at_81_0 rfl ?_
  refine ev_go at_81_1 rfl ?_
  refine ev_go at_81_2 rfl ?_
  refine ev_callV (as := [_]) at_81_3 rfl rfl (by simp [mm_wt, Value.category]) rfl h0 hA ?_
  refine ev_ifb_eq at_81_6 (fun _ => ?_) (fun hc => nomatch hc)
  refine ev_ic (nI 1) at_81_13 (by decide) ?_
  refine ev_put at_81_14 h0 (by first | (simp; done) | (simp [Mo]; done)) (by first | rfl | exact fits_b _) ?_
  refine ev_go at_81_17 rfl ?_
  refine ev_get at_81_18 h01 rfl ?_
  refine ev_if_le at_81_21 (fun hc => absurd hc (by decide)) (fun _ => ?_)
  refine ev_ic (nI 0) at_81_24 (by decide) ?_
  refine ev_go at_81_25 rfl ?_
  refine ev_iret at_81_37 (by first | exact Or.inl rfl | exact Or.inr (Or.inl rfl) | exact Or.inr (Or.inr rfl) | exact Or.inr (bI_01 _)) ?_
  rfl
theorem e_where (d : Nat) (hM : MAt K a h c m) {k j : Nat} (hk : K.ex k = true) (hj : j < K.t) : ∃ h', mm_cal z (d + 3) 81 [.ref a, .int (nI (k * 100 + j))] h (.returned (some (.int (nI (m.pl (8 * k + j))))), h') ∧ MAt K a h' (nI 0) m ∧ Off a (a + 12) h h' := by
  have hK := hM.1
  have h15 := (Cf.no hK hk).1.1
  have ht := hK.2.2.2.1
  have hT := d_isTablet (z := z) d hM (nI (k * 100 + j))
  have e1 : (k * 100 + j) / 100 = k := by omega
  have e2 : (k * 100 + j) % 100 = j := by omega
  rw [tbB_nI hK (by omega), e1, e2, hk, decide_eq_true hj] at hT
  have h0 := hM.2.1
  obtain ⟨m1, o1⟩ := hM.setC (nI 0)
  generalize hh1 : mm_upd h a 2 (.int (nI 0)) = h1 at m1 o1
  have h01 := m1.2.1
  have h7 := m1.a7
  have hv7 := rng_at (n := 120) (fun s => Value.int (nI (m.pl s))) (show 8 * k + j < 120 by omega)
  have hI := d_index (z := z) (h := h1) (d + 1) (i := j) h15 (by omega)
  refine ⟨_, ?_, m1, o1⟩
  refine mm_cal_of ?_
  refine ev_go at_81_0 rfl ?_
  refine ev_go at_81_1 rfl ?_
  refine ev_go at_81_2 rfl ?_
  refine ev_callV (as := [_]) at_81_3 rfl rfl (by simp [mm_wt, Value.category]) rfl h0 hT ?_
  refine ev_ifb_eq at_81_6 (fun hc => nomatch hc) (fun _ => ?_)
  refine ev_ic (nI 0) at_81_9 (by decide) ?_
  refine ev_go at_81_10 rfl ?_
  refine ev_put at_81_14 h0 (by simp [Mo]) rfl ?_
  rw [hh1]
  refine ev_go at_81_17 rfl ?_
  refine ev_get at_81_18 h01 rfl ?_
  refine ev_if_le at_81_21 (fun _ => ?_) (fun hc => absurd hc (by decide))
  refine ev_go at_81_28 rfl ?_
  refine ev_get at_81_29 h01 rfl ?_
  refine ev_go at_81_32 rfl ?_
  refine ev_callS (as := [_]) at_81_33 (by decide) rfl rfl (by simp [mm_wt, Value.category]) rfl hI ?_
  refine ev_iald at_81_36 h7 (by omega) hv7 ?_
  refine ev_iret at_81_37 (by first | exact Or.inl rfl | exact Or.inr (Or.inl rfl) | exact Or.inr (Or.inr rfl) | exact Or.inr (bI_01 _)) ?_
  rfl
theorem y_place (d : Nat) (hM : MAt K a h c m) {i : Int32} (hx : tnB i = false) : ∃ h', mm_cal z (d + 1) 82 [.ref a, .int i] h (.returned (some (.int (nI 0))), h') ∧ MAt K a h' (nI 1) m ∧ Off a (a + 12) h h' := by
  have h0 := hM.2.1
  obtain ⟨m1, o1⟩ := hM.setC (nI 1)
  have h01 := m1.2.1
  refine ⟨_, ?_, m1, o1⟩
  refine mm_cal_of ?_
  by_cases hneg : i < 0
  · skip
    refine ev_go at_82_0 rfl ?_
    refine ev_go at_82_1 rfl ?_
    refine ev_if_lt at_82_2 (fun _ => ?_) (fun hc => absurd hneg hc)
    refine ev_ic (nI 1) at_82_11 (by decide) ?_
    refine ev_go at_82_12 rfl ?_
    refine ev_put at_82_16 h0 (by first | (simp; done) | (simp [Mo]; done)) (by first | rfl | exact fits_b _) ?_
    refine ev_go at_82_19 rfl ?_
    refine ev_get at_82_20 h01 rfl ?_
    refine ev_if_le at_82_23 (fun hc => absurd hc (by decide)) (fun _ => ?_)
    refine ev_ic (nI 0) at_82_26 (by decide) ?_
    refine ev_iret at_82_27 (by first | exact Or.inl rfl | exact Or.inr (Or.inl rfl) | exact Or.inr (Or.inr rfl) | exact Or.inr (bI_01 _)) ?_
    rfl
  · obtain ⟨k, hk, rfl⟩ := nI_of hneg
    have hk8 : 8 ≤ k := Nat.not_lt.mp fun q => by rw [tnB_nI q] at hx; cases hx
    refine ev_go at_82_0 rfl ?_
    refine ev_go at_82_1 rfl ?_
    refine ev_if_lt at_82_2 (fun hc => absurd hc hneg) (fun _ => ?_)
    refine ev_go at_82_5 rfl ?_
    refine ev_bi (nI 7) at_82_6 (by decide) ?_
    refine ev_icmp_le at_82_8 (fun hc => absurd hc (nI_ge (by omega) (by omega))) (fun _ => ?_)
    refine ev_ic (nI 1) at_82_11 (by decide) ?_
    refine ev_go at_82_12 rfl ?_
    refine ev_put at_82_16 h0 (by first | (simp; done) | (simp [Mo]; done)) (by first | rfl | exact fits_b _) ?_
    refine ev_go at_82_19 rfl ?_
    refine ev_get at_82_20 h01 rfl ?_
    refine ev_if_le at_82_23 (fun hc => absurd hc (by decide)) (fun _ => ?_)
    refine ev_ic (nI 0) at_82_26 (by decide) ?_
    refine ev_iret at_82_27 (by first | exact Or.inl rfl | exact Or.inr (Or.inl rfl) | exact Or.inr (Or.inr rfl) | exact Or.inr (bI_01 _)) ?_
    rfl
def plM (m : Md) (i : Nat) : Int32 := if m.kn i then (match m.ins i with | none => nI (m.bx i) | some s => nI (10 + s)) else -1
theorem e_place (d : Nat) (hM : MAt K a h c m) {i : Nat} (hi : i < 8) (his : ∀ s, m.ins i = some s → s < 100) : ∃ h', mm_cal z (d + 1) 82 [.ref a, .int (nI i)] h (.returned (some (.int (plM m i))), h') ∧ MAt K a h' (nI 0) m ∧ Off a (a + 12) h h' := by
  have h0 := hM.2.1
  obtain ⟨m1, o1⟩ := hM.setC (nI 0)
  generalize hh1 : mm_upd h a 2 (.int (nI 0)) = h1 at m1 o1
  have h01 := m1.2.1
  have h9 := m1.a9
  have h10 := m1.a10
  have h11 := m1.a11
  have hv9 := rng_at (n := 8) (fun s => Value.int (bI (m.kn s))) hi
  have hv10 := rng_at (n := 8) (fun s => Value.int (nI (m.bx s))) hi
  have hv11 := rng_at (n := 8) (fun s => Value.int (oI (m.ins s))) hi
  refine ⟨_, ?_, m1, o1⟩
  refine mm_cal_of ?_
  unfold plM
  cases hkn : m.kn i with
  | false =>
    rw [hkn] at hv9
    refine ev_go at_82_0 rfl ?_
    refine ev_go at_82_1 rfl ?_
    refine ev_if_lt at_82_2 (fun hc => absurd hc (nI_pos (by omega))) (fun _ => ?_)
    refine ev_go at_82_5 rfl ?_
    refine ev_bi (nI 7) at_82_6 (by decide) ?_
    refine ev_icmp_le at_82_8 (fun _ => ?_) (fun hc => absurd (nI_le (by omega) (by omega)) hc)
    refine ev_ic (nI 0) at_82_15 (by decide) ?_
    refine ev_put at_82_16 h0 (by simp [Mo]) rfl ?_
    rw [hh1]
    refine ev_go at_82_19 rfl ?_
    refine ev_get at_82_20 h01 rfl ?_
    refine ev_if_le at_82_23 (fun _ => ?_) (fun hc => absurd hc (by decide))
    refine ev_go at_82_28 rfl ?_
    refine ev_get at_82_29 h01 rfl ?_
    refine ev_go at_82_32 rfl ?_
    refine ev_zald at_82_33 h9 (by omega) hv9 ?_
    refine ev_ifb_ne at_82_34 (fun hc => nomatch hc) (fun _ => ?_)
    refine ev_ic (-1) at_82_37 (by decide) ?_
    refine ev_go at_82_38 rfl ?_
    refine ev_iret at_82_68 (by first | exact Or.inl rfl | exact Or.inr (Or.inl rfl) | exact Or.inr (Or.inr rfl) | exact Or.inr (bI_01 _)) ?_
    rfl
  | true =>
    rw [hkn] at hv9
    cases hin : m.ins i with
    | none =>
      rw [hin] at hv11
      refine ev_go at_82_0 rfl ?_
      refine ev_go at_82_1 rfl ?_
      refine ev_if_lt at_82_2 (fun hc => absurd hc (nI_pos (by omega))) (fun _ => ?_)
      refine ev_go at_82_5 rfl ?_
      refine ev_bi (nI 7) at_82_6 (by decide) ?_
      refine ev_icmp_le at_82_8 (fun _ => ?_) (fun hc => absurd (nI_le (by omega) (by omega)) hc)
      refine ev_ic (nI 0) at_82_15 (by decide) ?_
      refine ev_put at_82_16 h0 (by simp [Mo]) rfl ?_
      rw [hh1]
      refine ev_go at_82_19 rfl ?_
      refine ev_get at_82_20 h01 rfl ?_
      refine ev_if_le at_82_23 (fun _ => ?_) (fun hc => absurd hc (by decide))
      refine ev_go at_82_28 rfl ?_
      refine ev_get at_82_29 h01 rfl ?_
      refine ev_go at_82_32 rfl ?_
      refine ev_zald at_82_33 h9 (by omega) hv9 ?_
      refine ev_ifb_ne at_82_34 (fun _ => ?_) (fun hc => nomatch hc)
      refine ev_go at_82_41 rfl ?_
      refine ev_get at_82_42 h01 rfl ?_
      refine ev_go at_82_45 rfl ?_
      refine ev_iald at_82_46 h11 (by omega) hv11 ?_
      refine ev_if_lt at_82_47 (fun _ => ?_) (fun hc => absurd (show (-1 : Int32) < 0 by decide) hc)
      refine ev_go at_82_62 rfl ?_
      refine ev_get at_82_63 h01 rfl ?_
      refine ev_go at_82_66 rfl ?_
      refine ev_iald at_82_67 h10 (by omega) hv10 ?_
      refine ev_iret at_82_68 (by first | exact Or.inl rfl | exact Or.inr (Or.inl rfl) | exact Or.inr (Or.inr rfl) | exact Or.inr (bI_01 _)) ?_
      rfl
    | some s =>
      rw [hin] at hv11
      have hs := his s hin
      refine ev_go at_82_0 rfl ?_
      refine ev_go at_82_1 rfl ?_
      refine ev_if_lt at_82_2 (fun hc => absurd hc (nI_pos (by omega))) (fun _ => ?_)
      refine ev_go at_82_5 rfl ?_
      refine ev_bi (nI 7) at_82_6 (by decide) ?_
      refine ev_icmp_le at_82_8 (fun _ => ?_) (fun hc => absurd (nI_le (by omega) (by omega)) hc)
      refine ev_ic (nI 0) at_82_15 (by decide) ?_
      refine ev_put at_82_16 h0 (by simp [Mo]) rfl ?_
      rw [hh1]
      refine ev_go at_82_19 rfl ?_
      refine ev_get at_82_20 h01 rfl ?_
      refine ev_if_le at_82_23 (fun _ => ?_) (fun hc => absurd hc (by decide))
      refine ev_go at_82_28 rfl ?_
      refine ev_get at_82_29 h01 rfl ?_
      refine ev_go at_82_32 rfl ?_
      refine ev_zald at_82_33 h9 (by omega) hv9 ?_
      refine ev_ifb_ne at_82_34 (fun _ => ?_) (fun hc => nomatch hc)
      refine ev_go at_82_41 rfl ?_
      refine ev_get at_82_42 h01 rfl ?_
      refine ev_go at_82_45 rfl ?_
      refine ev_iald at_82_46 h11 (by omega) hv11 ?_
      refine ev_if_lt at_82_47 (fun hc => absurd hc (nI_pos (by omega))) (fun _ => ?_)
      refine ev_bi (nI 10) at_82_50 (by decide) ?_
      refine ev_go at_82_52 rfl ?_
      refine ev_get at_82_53 h01 rfl ?_
      refine ev_go at_82_56 rfl ?_
      refine ev_iald at_82_57 h11 (by omega) hv11 ?_
      refine ev_go at_82_58 rfl ?_
      refine ev_top (congrArg Value.int (nI_add 10 s)) ?_
      refine ev_go at_82_59 rfl ?_
      refine ev_iret at_82_68 (by first | exact Or.inl rfl | exact Or.inr (Or.inl rfl) | exact Or.inr (Or.inr rfl) | exact Or.inr (bI_01 _)) ?_
      rfl
theorem y_out (d : Nat) (hM : MAt K a h c m) {b : Int32} (hx : bxB K.n b = false) : ∃ h', mm_cal z (d + 2) 84 [.ref a, .int b] h (.returned (some (.int (nI 0))), h') ∧ MAt K a h' (nI 1) m ∧ Off a (a + 12) h h' := by
  have hA := d_isBox (z := z) d hM b
  rw [hx] at hA
  have h0 := hM.2.1
  obtain ⟨m1, o1⟩ := hM.setC (nI 1)
  have h01 := m1.2.1
  refine ⟨_, ?_, m1, o1⟩
  refine mm_cal_of ?_
  refine ev_go at_84_0 rfl ?_
  refine ev_go at_84_1 rfl ?_
  refine ev_go at_84_2 rfl ?_
  refine ev_callV (as := [_]) at_84_3 rfl rfl (by simp [mm_wt, Value.category]) rfl h0 hA ?_
  refine ev_ifb_eq at_84_6 (fun _ => ?_) (fun hc => nomatch hc)
  refine ev_ic (nI 1) at_84_13 (by decide) ?_
  refine ev_put at_84_14 h0 (by first | (simp; done) | (simp [Mo]; done)) (by first | rfl | exact fits_b _) ?_
  refine ev_go at_84_17 rfl ?_
  refine ev_get at_84_18 h01 rfl ?_
  refine ev_if_ne at_84_21 (fun _ => ?_) (fun hc => absurd hc (by decide))
  refine ev_ic (nI 0) at_84_37 (by decide) ?_
  refine ev_iret at_84_38 (by first | exact Or.inl rfl | exact Or.inr (Or.inl rfl) | exact Or.inr (Or.inr rfl) | exact Or.inr (bI_01 _)) ?_
  rfl
theorem y_switchOut (d : Nat) (hM : MAt K a h c m) {b : Int32} (hx : bxB K.n b = false) : ∃ h', mm_cal z (d + 2) 75 [.ref a, .int b] h (.returned (some (.int (nI 0))), h') ∧ MAt K a h' (nI 1) m ∧ Off a (a + 12) h h' := by
  have hA := d_isBox (z := z) d hM b
  rw [hx] at hA
  have h0 := hM.2.1
  obtain ⟨m1, o1⟩ := hM.setC (nI 1)
  have h01 := m1.2.1
  refine ⟨_, ?_, m1, o1⟩
  refine mm_cal_of ?_
  refine ev_go at_75_0 rfl ?_
  refine ev_go at_75_1 rfl ?_
  refine ev_go at_75_2 rfl ?_
  refine ev_callV (as := [_]) at_75_3 rfl rfl (by simp [mm_wt, Value.category]) rfl h0 hA ?_
  refine ev_ifb_eq at_75_6 (fun _ => ?_) (fun hc => nomatch hc)
  refine ev_ic (nI 1) at_75_13 (by decide) ?_
  refine ev_put at_75_14 h0 (by first | (simp; done) | (simp [Mo]; done)) (by first | rfl | exact fits_b _) ?_
  refine ev_go at_75_17 rfl ?_
  refine ev_get at_75_18 h01 rfl ?_
  refine ev_if_gt at_75_21 (fun _ => ?_) (fun hc => absurd hc (by decide))
  refine ev_go at_75_42 rfl ?_
  refine ev_get at_75_43 h01 rfl ?_
  refine ev_if_le at_75_46 (fun hc => absurd hc (by decide)) (fun _ => ?_)
  refine ev_ic (nI 0) at_75_49 (by decide) ?_
  refine ev_go at_75_50 rfl ?_
  refine ev_iret at_75_54 (by first | exact Or.inl rfl | exact Or.inr (Or.inl rfl) | exact Or.inr (Or.inr rfl) | exact Or.inr (bI_01 _)) ?_
  rfl
theorem y_switchIn (d : Nat) (hM : MAt K a h c m) {b : Int32} (hx : bxB K.n b = false) : ∃ h', mm_cal z (d + 2) 76 [.ref a, .int b] h (.returned (some (.int (nI 0))), h') ∧ MAt K a h' (nI 1) m ∧ Off a (a + 12) h h' := by
  have hA := d_isBox (z := z) d hM b
  rw [hx] at hA
  have h0 := hM.2.1
  obtain ⟨m1, o1⟩ := hM.setC (nI 1)
  have h01 := m1.2.1
  refine ⟨_, ?_, m1, o1⟩
  refine mm_cal_of ?_
  refine ev_go at_76_0 rfl ?_
  refine ev_go at_76_1 rfl ?_
  refine ev_go at_76_2 rfl ?_
  refine ev_callV (as := [_]) at_76_3 rfl rfl (by simp [mm_wt, Value.category]) rfl h0 hA ?_
  refine ev_ifb_eq at_76_6 (fun _ => ?_) (fun hc => nomatch hc)
  refine ev_ic (nI 1) at_76_13 (by decide) ?_
  refine ev_put at_76_14 h0 (by first | (simp; done) | (simp [Mo]; done)) (by first | rfl | exact fits_b _) ?_
  refine ev_go at_76_17 rfl ?_
  refine ev_get at_76_18 h01 rfl ?_
  refine ev_if_gt at_76_21 (fun _ => ?_) (fun hc => absurd hc (by decide))
  refine ev_go at_76_33 rfl ?_
  refine ev_get at_76_34 h01 rfl ?_
  refine ev_if_le at_76_37 (fun hc => absurd hc (by decide)) (fun _ => ?_)
  refine ev_ic (nI 0) at_76_40 (by decide) ?_
  refine ev_go at_76_41 rfl ?_
  refine ev_iret at_76_45 (by first | exact Or.inl rfl | exact Or.inr (Or.inl rfl) | exact Or.inr (Or.inr rfl) | exact Or.inr (bI_01 _)) ?_
  rfl
theorem e_out (d : Nat) (hM : MAt K a h c m) {b : Nat} (hb : b < K.n) : ∃ h', mm_cal z (d + 2) 84 [.ref a, .int (nI b)] h (.returned (some (.int (bI (m.io b)))), h') ∧ MAt K a h' (nI 0) m ∧ Off a (a + 12) h h' := by
  have hK := hM.1
  have hn6 := hK.2.1
  have ht := hK.2.2.2.1
  have hA := d_isBox (z := z) d hM (nI b)
  rw [bxB_nI (by omega) (by omega), decide_eq_true hb] at hA
  have h0 := hM.2.1
  obtain ⟨m1, o1⟩ := hM.setC (nI 0)
  generalize hh1 : mm_upd h a 2 (.int (nI 0)) = h1 at m1 o1
  have h01 := m1.2.1
  have h2 := m1.a2
  have hvo := rng_at (n := 6) (fun s => Value.int (bI (m.io s))) (show b < 6 by omega)
  refine ⟨_, ?_, m1, o1⟩
  refine mm_cal_of ?_
  refine ev_go at_84_0 rfl ?_
  refine ev_go at_84_1 rfl ?_
  refine ev_go at_84_2 rfl ?_
  refine ev_callV (as := [_]) at_84_3 rfl rfl (by simp [mm_wt, Value.category]) rfl h0 hA ?_
  refine ev_ifb_eq at_84_6 (fun hc => nomatch hc) (fun _ => ?_)
  refine ev_ic (nI 0) at_84_9 (by decide) ?_
  refine ev_go at_84_10 rfl ?_
  refine ev_put at_84_14 h0 (by simp [Mo]) rfl ?_
  rw [hh1]
  refine ev_go at_84_17 rfl ?_
  refine ev_get at_84_18 h01 rfl ?_
  refine ev_if_ne at_84_21 (fun hc => absurd hc (by decide)) (fun _ => ?_)
  refine ev_go at_84_24 rfl ?_
  refine ev_get at_84_25 h01 rfl ?_
  refine ev_go at_84_28 rfl ?_
  refine ev_zald at_84_29 h2 (by omega) hvo ?_
  first | refine ev_ifb_eq at_84_30 (fun hc30 => ?_) (fun hc30 => ?_) | refine ev_if_eq at_84_30 (fun hc30 => ?_) (fun hc30 => ?_)
  · skip
    refine ev_ic (nI 0) at_84_37 (by decide) ?_
    refine ev_iret at_84_38 (by first | exact Or.inl rfl | exact Or.inr (Or.inl rfl) | exact Or.inr (Or.inr rfl) | exact Or.inr (bI_01 _)) ?_
    first | exact b01 hc30 | exact b00 hc30
  · skip
    refine ev_ic (nI 1) at_84_33 (by decide) ?_
    refine ev_go at_84_34 rfl ?_
    refine ev_iret at_84_38 (by first | exact Or.inl rfl | exact Or.inr (Or.inl rfl) | exact Or.inr (Or.inr rfl) | exact Or.inr (bI_01 _)) ?_
    first | exact b01 hc30 | exact b00 hc30
def soM (K : Cf) (m : Md) (b : Nat) (p1 p2 : Bool) : Nat :=
  if !K.ex (10 + b) || m.io b then 1
  else if m.io (b - 1) || m.io (b + 1) then 2
  else if !(m.hd (2 * b - 2) && m.hd (2 * b + 1)) then 3
  else if m.bk (b - 1) || (m.bk b || m.bk (10 + b)) then 4
  else if !(p1 && p2) then 5 else 0
theorem e_switchOut (d : Nat) (hM : MAt K a h c m) (hB : MB m) {b : Nat} (hb : b < K.n) {p1 p2 : Bool} (hp1 : K.ex (10 + b) = true → (p1 = true ↔ ∀ j, j < K.t → m.pl (8 * (b - 1) + j) < 2)) (hp2 : K.ex (10 + b) = true → (p2 = true ↔ ∀ j, j < K.t → m.pl (8 * b + j) < 2)) : ∃ h', mm_cal z (d + 2) 75 [.ref a, .int (nI b)] h (.returned (some (.int (nI (soM K m b p1 p2)))), h') ∧ MAt K a h' (nI 0) (if soM K m b p1 p2 = 0 then m.sIo b true else m) ∧ Off a (a + 12) h h' := by
  have hK := hM.1
  have hn6 := hK.2.1
  have ht := hK.2.2.2.1
  have hA := d_isBox (z := z) d hM (nI b)
  rw [bxB_nI (by omega) (by omega), decide_eq_true hb] at hA
  have h0 := hM.2.1
  obtain ⟨m1, o1⟩ := hM.setC (nI 0)
  generalize hh1 : mm_upd h a 2 (.int (nI 0)) = h1 at m1 o1
  have h01 := m1.2.1
  have h2 := m1.a2
  have hvo := rng_at (n := 6) (fun s => Value.int (bI (m.io s))) (show b < 6 by omega)
  have h1m := m1.a1
  have hvm := rng_at (n := 6) (fun b => Value.int (bI (K.ex (10 + b)))) (show b < 6 by omega)
  unfold soM
  cases hmo : K.ex (10 + b) with
  | false =>
    rw [hmo] at hvm
    refine ⟨h1, ?_, m1, o1⟩
    refine mm_cal_of ?_
    refine ev_go at_75_0 rfl ?_
    refine ev_go at_75_1 rfl ?_
    refine ev_go at_75_2 rfl ?_
    refine ev_callV (as := [_]) at_75_3 rfl rfl (by simp [mm_wt, Value.category]) rfl h0 hA ?_
    refine ev_ifb_eq at_75_6 (fun hc => nomatch hc) (fun _ => ?_)
    refine ev_ic (nI 0) at_75_9 (by decide) ?_
    refine ev_go at_75_10 rfl ?_
    refine ev_put at_75_14 h0 (by simp [Mo]) rfl ?_
    rw [hh1]
    refine ev_go at_75_17 rfl ?_
    refine ev_get at_75_18 h01 rfl ?_
    refine ev_if_gt at_75_21 (fun hc => absurd hc (by decide)) (fun _ => ?_)
    refine ev_go at_75_24 rfl ?_
    refine ev_get at_75_25 h01 rfl ?_
    refine ev_go at_75_28 rfl ?_
    refine ev_zald at_75_29 h1m (by omega) hvm ?_
    refine ev_ifb_eq at_75_30 (fun _ => ?_) (fun hc => nomatch hc)
    refine ev_go at_75_42 rfl ?_
    refine ev_get at_75_43 h01 rfl ?_
    refine ev_if_le at_75_46 (fun _ => ?_) (fun hc => absurd hc (by decide))
    refine ev_ic (nI 1) at_75_53 (by decide) ?_
    refine ev_iret at_75_54 (by first | exact Or.inl rfl | exact Or.inr (Or.inl rfl) | exact Or.inr (Or.inr rfl) | exact Or.inr (bI_01 _)) ?_
    rfl
  | true =>
    rw [hmo] at hvm
    obtain ⟨x1, x2, x3, x4⟩ := Cf.around hK hmo
    have h5 := m1.a5
    have h4 := m1.a4
    have hP1 := d_isInPhase (z := z) d m1 hB (show b - 1 < 15 by omega) (hp1 hmo)
    have hP2 := d_isInPhase (z := z) d m1 hB (show b < 15 by omega) (hp2 hmo)
    have hvl := rng_at (n := 6) (fun s => Value.int (bI (m.io s))) (show b - 1 < 6 by omega)
    have hvr := rng_at (n := 6) (fun s => Value.int (bI (m.io s))) (show b + 1 < 6 by omega)
    have hvh1 := rng_at (n := 30) (fun s => Value.int (bI (m.hd s))) (show 2 * b - 2 < 30 by omega)
    have hvh2 := rng_at (n := 30) (fun s => Value.int (bI (m.hd s))) (show 2 * b + 1 < 30 by omega)
    have hvb1 := rng_at (n := 15) (fun s => Value.int (bI (m.bk s))) (show b - 1 < 15 by omega)
    have hvb2 := rng_at (n := 15) (fun s => Value.int (bI (m.bk s))) (show b < 15 by omega)
    have hvb3 := rng_at (n := 15) (fun s => Value.int (bI (m.bk s))) (show 10 + b < 15 by omega)
    obtain ⟨mt, ot⟩ := m1.sIo b true
    obtain ⟨mf, of⟩ := m1.sIo b false
    generalize m.io (b - 1) = ol at hvl
    generalize m.io (b + 1) = or at hvr
    generalize m.hd (2 * b - 2) = d1 at hvh1
    generalize m.hd (2 * b + 1) = d2 at hvh2
    generalize m.bk (b - 1) = k1 at hvb1
    generalize m.bk b = k2 at hvb2
    generalize m.bk (10 + b) = k3 at hvb3
    cases hio : m.io b with
    | true =>
      rw [hio] at hvo
      refine ⟨h1, ?_, m1, o1⟩
      refine mm_cal_of ?_
      refine ev_go at_75_0 rfl ?_
      refine ev_go at_75_1 rfl ?_
      refine ev_go at_75_2 rfl ?_
      refine ev_callV (as := [_]) at_75_3 rfl rfl (by simp [mm_wt, Value.category]) rfl h0 hA ?_
      refine ev_ifb_eq at_75_6 (fun hc => nomatch hc) (fun _ => ?_)
      refine ev_ic (nI 0) at_75_9 (by decide) ?_
      refine ev_go at_75_10 rfl ?_
      refine ev_put at_75_14 h0 (by simp [Mo]) rfl ?_
      rw [hh1]
      refine ev_go at_75_17 rfl ?_
      refine ev_get at_75_18 h01 rfl ?_
      refine ev_if_gt at_75_21 (fun hc => absurd hc (by decide)) (fun _ => ?_)
      refine ev_go at_75_24 rfl ?_
      refine ev_get at_75_25 h01 rfl ?_
      refine ev_go at_75_28 rfl ?_
      refine ev_zald at_75_29 h1m (by omega) hvm ?_
      refine ev_ifb_eq at_75_30 (fun hc => nomatch hc) (fun _ => ?_)
      refine ev_go at_75_33 rfl ?_
      refine ev_get at_75_34 h01 rfl ?_
      refine ev_go at_75_37 rfl ?_
      refine ev_zald at_75_38 h2 (by omega) hvo ?_
      refine ev_ifb_eq at_75_39 (fun hc => nomatch hc) (fun _ => ?_)
      refine ev_go at_75_42 rfl ?_
      refine ev_get at_75_43 h01 rfl ?_
      refine ev_if_le at_75_46 (fun _ => ?_) (fun hc => absurd hc (by decide))
      refine ev_ic (nI 1) at_75_53 (by decide) ?_
      refine ev_iret at_75_54 (by first | exact Or.inl rfl | exact Or.inr (Or.inl rfl) | exact Or.inr (Or.inr rfl) | exact Or.inr (bI_01 _)) ?_
      rfl
    | false =>
      rw [hio] at hvo
      have ems : m.sIo b false = m := by
        show (m.tm, upf m.io b false, m.bk, m.hd, m.tu, m.pl, m.si, m.kn, m.bx, m.ins) = m
        rw [upf_self hio]
      rw [ems] at mf
      cases ol with
      | true =>
        refine ⟨h1, ?_, m1, o1⟩
        refine mm_cal_of ?_
        refine ev_go at_75_0 rfl ?_
        refine ev_go at_75_1 rfl ?_
        refine ev_go at_75_2 rfl ?_
        refine ev_callV (as := [_]) at_75_3 rfl rfl (by simp [mm_wt, Value.category]) rfl h0 hA ?_
        refine ev_ifb_eq at_75_6 (fun hc => nomatch hc) (fun _ => ?_)
        refine ev_ic (nI 0) at_75_9 (by decide) ?_
        refine ev_go at_75_10 rfl ?_
        refine ev_put at_75_14 h0 (by simp [Mo]) rfl ?_
        rw [hh1]
        refine ev_go at_75_17 rfl ?_
        refine ev_get at_75_18 h01 rfl ?_
        refine ev_if_gt at_75_21 (fun hc => absurd hc (by decide)) (fun _ => ?_)
        refine ev_go at_75_24 rfl ?_
        refine ev_get at_75_25 h01 rfl ?_
        refine ev_go at_75_28 rfl ?_
        refine ev_zald at_75_29 h1m (by omega) hvm ?_
        refine ev_ifb_eq at_75_30 (fun hc => nomatch hc) (fun _ => ?_)
        refine ev_go at_75_33 rfl ?_
        refine ev_get at_75_34 h01 rfl ?_
        refine ev_go at_75_37 rfl ?_
        refine ev_zald at_75_38 h2 (by omega) hvo ?_
        refine ev_ifb_eq at_75_39 (fun _ => ?_) (fun hc => nomatch hc)
        refine ev_go at_75_55 rfl ?_
        refine ev_get at_75_56 h01 rfl ?_
        refine ev_go at_75_59 rfl ?_
        refine ev_ic (nI 1) at_75_60 (by decide) ?_
        refine ev_go at_75_61 rfl ?_
        refine ev_top (congrArg Value.int (pk_sub (show 1 ≤ b by omega))) ?_
        refine ev_zald at_75_62 h2 (by omega) hvl ?_
        refine ev_ifb_ne at_75_63 (fun _ => ?_) (fun hc => nomatch hc)
        refine ev_ic (nI 2) at_75_77 (by decide) ?_
        refine ev_iret at_75_78 (by first | exact Or.inl rfl | exact Or.inr (Or.inl rfl) | exact Or.inr (Or.inr rfl) | exact Or.inr (bI_01 _)) ?_
        rfl
      | false =>
        cases or with
        | true =>
          refine ⟨h1, ?_, m1, o1⟩
          refine mm_cal_of ?_
          refine ev_go at_75_0 rfl ?_
          refine ev_go at_75_1 rfl ?_
          refine ev_go at_75_2 rfl ?_
          refine ev_callV (as := [_]) at_75_3 rfl rfl (by simp [mm_wt, Value.category]) rfl h0 hA ?_
          refine ev_ifb_eq at_75_6 (fun hc => nomatch hc) (fun _ => ?_)
          refine ev_ic (nI 0) at_75_9 (by decide) ?_
          refine ev_go at_75_10 rfl ?_
          refine ev_put at_75_14 h0 (by simp [Mo]) rfl ?_
          rw [hh1]
          refine ev_go at_75_17 rfl ?_
          refine ev_get at_75_18 h01 rfl ?_
          refine ev_if_gt at_75_21 (fun hc => absurd hc (by decide)) (fun _ => ?_)
          refine ev_go at_75_24 rfl ?_
          refine ev_get at_75_25 h01 rfl ?_
          refine ev_go at_75_28 rfl ?_
          refine ev_zald at_75_29 h1m (by omega) hvm ?_
          refine ev_ifb_eq at_75_30 (fun hc => nomatch hc) (fun _ => ?_)
          refine ev_go at_75_33 rfl ?_
          refine ev_get at_75_34 h01 rfl ?_
          refine ev_go at_75_37 rfl ?_
          refine ev_zald at_75_38 h2 (by omega) hvo ?_
          refine ev_ifb_eq at_75_39 (fun _ => ?_) (fun hc => nomatch hc)
          refine ev_go at_75_55 rfl ?_
          refine ev_get at_75_56 h01 rfl ?_
          refine ev_go at_75_59 rfl ?_
          refine ev_ic (nI 1) at_75_60 (by decide) ?_
          refine ev_go at_75_61 rfl ?_
          refine ev_top (congrArg Value.int (pk_sub (show 1 ≤ b by omega))) ?_
          refine ev_zald at_75_62 h2 (by omega) hvl ?_
          refine ev_ifb_ne at_75_63 (fun hc => nomatch hc) (fun _ => ?_)
          refine ev_go at_75_66 rfl ?_
          refine ev_get at_75_67 h01 rfl ?_
          refine ev_go at_75_70 rfl ?_
          refine ev_ic (nI 1) at_75_71 (by decide) ?_
          refine ev_go at_75_72 rfl ?_
          first | refine ev_top (congrArg Value.int (nI_add _ _)) ?_ | skip
          refine ev_zald at_75_73 h2 (by omega) hvr ?_
          refine ev_ifb_eq at_75_74 (fun hc => nomatch hc) (fun _ => ?_)
          refine ev_ic (nI 2) at_75_77 (by decide) ?_
          refine ev_iret at_75_78 (by first | exact Or.inl rfl | exact Or.inr (Or.inl rfl) | exact Or.inr (Or.inr rfl) | exact Or.inr (bI_01 _)) ?_
          rfl
        | false =>
          cases d1 with
          | false =>
            refine ⟨h1, ?_, m1, o1⟩
            refine mm_cal_of ?_
            refine ev_go at_75_0 rfl ?_
            refine ev_go at_75_1 rfl ?_
            refine ev_go at_75_2 rfl ?_
            refine ev_callV (as := [_]) at_75_3 rfl rfl (by simp [mm_wt, Value.category]) rfl h0 hA ?_
            refine ev_ifb_eq at_75_6 (fun hc => nomatch hc) (fun _ => ?_)
            refine ev_ic (nI 0) at_75_9 (by decide) ?_
            refine ev_go at_75_10 rfl ?_
            refine ev_put at_75_14 h0 (by simp [Mo]) rfl ?_
            rw [hh1]
            refine ev_go at_75_17 rfl ?_
            refine ev_get at_75_18 h01 rfl ?_
            refine ev_if_gt at_75_21 (fun hc => absurd hc (by decide)) (fun _ => ?_)
            refine ev_go at_75_24 rfl ?_
            refine ev_get at_75_25 h01 rfl ?_
            refine ev_go at_75_28 rfl ?_
            refine ev_zald at_75_29 h1m (by omega) hvm ?_
            refine ev_ifb_eq at_75_30 (fun hc => nomatch hc) (fun _ => ?_)
            refine ev_go at_75_33 rfl ?_
            refine ev_get at_75_34 h01 rfl ?_
            refine ev_go at_75_37 rfl ?_
            refine ev_zald at_75_38 h2 (by omega) hvo ?_
            refine ev_ifb_eq at_75_39 (fun _ => ?_) (fun hc => nomatch hc)
            refine ev_go at_75_55 rfl ?_
            refine ev_get at_75_56 h01 rfl ?_
            refine ev_go at_75_59 rfl ?_
            refine ev_ic (nI 1) at_75_60 (by decide) ?_
            refine ev_go at_75_61 rfl ?_
            refine ev_top (congrArg Value.int (pk_sub (show 1 ≤ b by omega))) ?_
            refine ev_zald at_75_62 h2 (by omega) hvl ?_
            refine ev_ifb_ne at_75_63 (fun hc => nomatch hc) (fun _ => ?_)
            refine ev_go at_75_66 rfl ?_
            refine ev_get at_75_67 h01 rfl ?_
            refine ev_go at_75_70 rfl ?_
            refine ev_ic (nI 1) at_75_71 (by decide) ?_
            refine ev_go at_75_72 rfl ?_
            first | refine ev_top (congrArg Value.int (nI_add _ _)) ?_ | skip
            refine ev_zald at_75_73 h2 (by omega) hvr ?_
            refine ev_ifb_eq at_75_74 (fun _ => ?_) (fun hc => nomatch hc)
            refine ev_go at_75_79 rfl ?_
            refine ev_get at_75_80 h01 rfl ?_
            refine ev_ic (nI 2) at_75_83 (by decide) ?_
            refine ev_go at_75_84 rfl ?_
            refine ev_go at_75_85 rfl ?_
            first | refine ev_top (congrArg Value.int (pk_mul _ _)) ?_ | skip
            refine ev_ic (nI 2) at_75_86 (by decide) ?_
            refine ev_go at_75_87 rfl ?_
            refine ev_top (congrArg Value.int (pk_sub (show 2 ≤ 2 * b by omega))) ?_
            refine ev_zald at_75_88 h5 (by omega) hvh1 ?_
            refine ev_ifb_eq at_75_89 (fun _ => ?_) (fun hc => nomatch hc)
            refine ev_ic (nI 3) at_75_105 (by decide) ?_
            refine ev_iret at_75_106 (by first | exact Or.inl rfl | exact Or.inr (Or.inl rfl) | exact Or.inr (Or.inr rfl) | exact Or.inr (bI_01 _)) ?_
            rfl
          | true =>
            cases d2 with
            | false =>
              refine ⟨h1, ?_, m1, o1⟩
              refine mm_cal_of ?_
              refine ev_go at_75_0 rfl ?_
              refine ev_go at_75_1 rfl ?_
              refine ev_go at_75_2 rfl ?_
              refine ev_callV (as := [_]) at_75_3 rfl rfl (by simp [mm_wt, Value.category]) rfl h0 hA ?_
              refine ev_ifb_eq at_75_6 (fun hc => nomatch hc) (fun _ => ?_)
              refine ev_ic (nI 0) at_75_9 (by decide) ?_
              refine ev_go at_75_10 rfl ?_
              refine ev_put at_75_14 h0 (by simp [Mo]) rfl ?_
              rw [hh1]
              refine ev_go at_75_17 rfl ?_
              refine ev_get at_75_18 h01 rfl ?_
              refine ev_if_gt at_75_21 (fun hc => absurd hc (by decide)) (fun _ => ?_)
              refine ev_go at_75_24 rfl ?_
              refine ev_get at_75_25 h01 rfl ?_
              refine ev_go at_75_28 rfl ?_
              refine ev_zald at_75_29 h1m (by omega) hvm ?_
              refine ev_ifb_eq at_75_30 (fun hc => nomatch hc) (fun _ => ?_)
              refine ev_go at_75_33 rfl ?_
              refine ev_get at_75_34 h01 rfl ?_
              refine ev_go at_75_37 rfl ?_
              refine ev_zald at_75_38 h2 (by omega) hvo ?_
              refine ev_ifb_eq at_75_39 (fun _ => ?_) (fun hc => nomatch hc)
              refine ev_go at_75_55 rfl ?_
              refine ev_get at_75_56 h01 rfl ?_
              refine ev_go at_75_59 rfl ?_
              refine ev_ic (nI 1) at_75_60 (by decide) ?_
              refine ev_go at_75_61 rfl ?_
              refine ev_top (congrArg Value.int (pk_sub (show 1 ≤ b by omega))) ?_
              refine ev_zald at_75_62 h2 (by omega) hvl ?_
              refine ev_ifb_ne at_75_63 (fun hc => nomatch hc) (fun _ => ?_)
              refine ev_go at_75_66 rfl ?_
              refine ev_get at_75_67 h01 rfl ?_
              refine ev_go at_75_70 rfl ?_
              refine ev_ic (nI 1) at_75_71 (by decide) ?_
              refine ev_go at_75_72 rfl ?_
              first | refine ev_top (congrArg Value.int (nI_add _ _)) ?_ | skip
              refine ev_zald at_75_73 h2 (by omega) hvr ?_
              refine ev_ifb_eq at_75_74 (fun _ => ?_) (fun hc => nomatch hc)
              refine ev_go at_75_79 rfl ?_
              refine ev_get at_75_80 h01 rfl ?_
              refine ev_ic (nI 2) at_75_83 (by decide) ?_
              refine ev_go at_75_84 rfl ?_
              refine ev_go at_75_85 rfl ?_
              first | refine ev_top (congrArg Value.int (pk_mul _ _)) ?_ | skip
              refine ev_ic (nI 2) at_75_86 (by decide) ?_
              refine ev_go at_75_87 rfl ?_
              refine ev_top (congrArg Value.int (pk_sub (show 2 ≤ 2 * b by omega))) ?_
              refine ev_zald at_75_88 h5 (by omega) hvh1 ?_
              refine ev_ifb_eq at_75_89 (fun hc => nomatch hc) (fun _ => ?_)
              refine ev_go at_75_92 rfl ?_
              refine ev_get at_75_93 h01 rfl ?_
              refine ev_ic (nI 2) at_75_96 (by decide) ?_
              refine ev_go at_75_97 rfl ?_
              refine ev_go at_75_98 rfl ?_
              first | refine ev_top (congrArg Value.int (pk_mul _ _)) ?_ | skip
              refine ev_ic (nI 1) at_75_99 (by decide) ?_
              refine ev_go at_75_100 rfl ?_
              first | refine ev_top (congrArg Value.int (nI_add _ _)) ?_ | skip
              refine ev_zald at_75_101 h5 (by omega) hvh2 ?_
              refine ev_ifb_ne at_75_102 (fun hc => nomatch hc) (fun _ => ?_)
              refine ev_ic (nI 3) at_75_105 (by decide) ?_
              refine ev_iret at_75_106 (by first | exact Or.inl rfl | exact Or.inr (Or.inl rfl) | exact Or.inr (Or.inr rfl) | exact Or.inr (bI_01 _)) ?_
              rfl
            | true =>
              cases k1 with
              | true =>
                refine ⟨_, ?_, mf, o1.trans of⟩
                refine mm_cal_of ?_
                refine ev_go at_75_0 rfl ?_
                refine ev_go at_75_1 rfl ?_
                refine ev_go at_75_2 rfl ?_
                refine ev_callV (as := [_]) at_75_3 rfl rfl (by simp [mm_wt, Value.category]) rfl h0 hA ?_
                refine ev_ifb_eq at_75_6 (fun hc => nomatch hc) (fun _ => ?_)
                refine ev_ic (nI 0) at_75_9 (by decide) ?_
                refine ev_go at_75_10 rfl ?_
                refine ev_put at_75_14 h0 (by simp [Mo]) rfl ?_
                rw [hh1]
                refine ev_go at_75_17 rfl ?_
                refine ev_get at_75_18 h01 rfl ?_
                refine ev_if_gt at_75_21 (fun hc => absurd hc (by decide)) (fun _ => ?_)
                refine ev_go at_75_24 rfl ?_
                refine ev_get at_75_25 h01 rfl ?_
                refine ev_go at_75_28 rfl ?_
                refine ev_zald at_75_29 h1m (by omega) hvm ?_
                refine ev_ifb_eq at_75_30 (fun hc => nomatch hc) (fun _ => ?_)
                refine ev_go at_75_33 rfl ?_
                refine ev_get at_75_34 h01 rfl ?_
                refine ev_go at_75_37 rfl ?_
                refine ev_zald at_75_38 h2 (by omega) hvo ?_
                refine ev_ifb_eq at_75_39 (fun _ => ?_) (fun hc => nomatch hc)
                refine ev_go at_75_55 rfl ?_
                refine ev_get at_75_56 h01 rfl ?_
                refine ev_go at_75_59 rfl ?_
                refine ev_ic (nI 1) at_75_60 (by decide) ?_
                refine ev_go at_75_61 rfl ?_
                refine ev_top (congrArg Value.int (pk_sub (show 1 ≤ b by omega))) ?_
                refine ev_zald at_75_62 h2 (by omega) hvl ?_
                refine ev_ifb_ne at_75_63 (fun hc => nomatch hc) (fun _ => ?_)
                refine ev_go at_75_66 rfl ?_
                refine ev_get at_75_67 h01 rfl ?_
                refine ev_go at_75_70 rfl ?_
                refine ev_ic (nI 1) at_75_71 (by decide) ?_
                refine ev_go at_75_72 rfl ?_
                first | refine ev_top (congrArg Value.int (nI_add _ _)) ?_ | skip
                refine ev_zald at_75_73 h2 (by omega) hvr ?_
                refine ev_ifb_eq at_75_74 (fun _ => ?_) (fun hc => nomatch hc)
                refine ev_go at_75_79 rfl ?_
                refine ev_get at_75_80 h01 rfl ?_
                refine ev_ic (nI 2) at_75_83 (by decide) ?_
                refine ev_go at_75_84 rfl ?_
                refine ev_go at_75_85 rfl ?_
                first | refine ev_top (congrArg Value.int (pk_mul _ _)) ?_ | skip
                refine ev_ic (nI 2) at_75_86 (by decide) ?_
                refine ev_go at_75_87 rfl ?_
                refine ev_top (congrArg Value.int (pk_sub (show 2 ≤ 2 * b by omega))) ?_
                refine ev_zald at_75_88 h5 (by omega) hvh1 ?_
                refine ev_ifb_eq at_75_89 (fun hc => nomatch hc) (fun _ => ?_)
                refine ev_go at_75_92 rfl ?_
                refine ev_get at_75_93 h01 rfl ?_
                refine ev_ic (nI 2) at_75_96 (by decide) ?_
                refine ev_go at_75_97 rfl ?_
                refine ev_go at_75_98 rfl ?_
                first | refine ev_top (congrArg Value.int (pk_mul _ _)) ?_ | skip
                refine ev_ic (nI 1) at_75_99 (by decide) ?_
                refine ev_go at_75_100 rfl ?_
                first | refine ev_top (congrArg Value.int (nI_add _ _)) ?_ | skip
                refine ev_zald at_75_101 h5 (by omega) hvh2 ?_
                refine ev_ifb_ne at_75_102 (fun _ => ?_) (fun hc => nomatch hc)
                refine ev_go at_75_107 rfl ?_
                refine ev_get at_75_108 h01 rfl ?_
                refine ev_go at_75_111 rfl ?_
                refine ev_ic (nI 1) at_75_112 (by decide) ?_
                refine ev_go at_75_113 rfl ?_
                refine ev_top (congrArg Value.int (pk_sub (show 1 ≤ b by omega))) ?_
                refine ev_zald at_75_114 h4 (by omega) hvb1 ?_
                refine ev_ifb_ne at_75_115 (fun _ => ?_) (fun hc => nomatch hc)
                refine ev_ic (nI 4) at_75_139 (by decide) ?_
                refine ev_go at_75_140 rfl ?_
                refine ev_go at_75_166 rfl ?_
                refine ev_go at_75_167 rfl ?_
                refine ev_get at_75_168 h01 rfl ?_
                refine ev_go at_75_171 rfl ?_
                refine ev_go at_75_172 rfl ?_
                refine ev_if_ne at_75_173 (fun _ => ?_) (fun hc => absurd hc (by decide))
                refine ev_ic (bI false) at_75_180 (by decide) ?_
                refine ev_zast at_75_181 h2 (by omega) (by rw [rng_len]; show b < 6; omega) (by first | exact bI_01 _ | decide) ?_
                refine ev_go at_75_182 rfl ?_
                refine ev_iret at_75_183 (by first | exact Or.inl rfl | exact Or.inr (Or.inl rfl) | exact Or.inr (Or.inr rfl) | exact Or.inr (bI_01 _)) ?_
                rfl
              | false =>
                cases k2 with
                | true =>
                  refine ⟨_, ?_, mf, o1.trans of⟩
                  refine mm_cal_of ?_
                  refine ev_go at_75_0 rfl ?_
                  refine ev_go at_75_1 rfl ?_
                  refine ev_go at_75_2 rfl ?_
                  refine ev_callV (as := [_]) at_75_3 rfl rfl (by simp [mm_wt, Value.category]) rfl h0 hA ?_
                  refine ev_ifb_eq at_75_6 (fun hc => nomatch hc) (fun _ => ?_)
                  refine ev_ic (nI 0) at_75_9 (by decide) ?_
                  refine ev_go at_75_10 rfl ?_
                  refine ev_put at_75_14 h0 (by simp [Mo]) rfl ?_
                  rw [hh1]
                  refine ev_go at_75_17 rfl ?_
                  refine ev_get at_75_18 h01 rfl ?_
                  refine ev_if_gt at_75_21 (fun hc => absurd hc (by decide)) (fun _ => ?_)
                  refine ev_go at_75_24 rfl ?_
                  refine ev_get at_75_25 h01 rfl ?_
                  refine ev_go at_75_28 rfl ?_
                  refine ev_zald at_75_29 h1m (by omega) hvm ?_
                  refine ev_ifb_eq at_75_30 (fun hc => nomatch hc) (fun _ => ?_)
                  refine ev_go at_75_33 rfl ?_
                  refine ev_get at_75_34 h01 rfl ?_
                  refine ev_go at_75_37 rfl ?_
                  refine ev_zald at_75_38 h2 (by omega) hvo ?_
                  refine ev_ifb_eq at_75_39 (fun _ => ?_) (fun hc => nomatch hc)
                  refine ev_go at_75_55 rfl ?_
                  refine ev_get at_75_56 h01 rfl ?_
                  refine ev_go at_75_59 rfl ?_
                  refine ev_ic (nI 1) at_75_60 (by decide) ?_
                  refine ev_go at_75_61 rfl ?_
                  refine ev_top (congrArg Value.int (pk_sub (show 1 ≤ b by omega))) ?_
                  refine ev_zald at_75_62 h2 (by omega) hvl ?_
                  refine ev_ifb_ne at_75_63 (fun hc => nomatch hc) (fun _ => ?_)
                  refine ev_go at_75_66 rfl ?_
                  refine ev_get at_75_67 h01 rfl ?_
                  refine ev_go at_75_70 rfl ?_
                  refine ev_ic (nI 1) at_75_71 (by decide) ?_
                  refine ev_go at_75_72 rfl ?_
                  first | refine ev_top (congrArg Value.int (nI_add _ _)) ?_ | skip
                  refine ev_zald at_75_73 h2 (by omega) hvr ?_
                  refine ev_ifb_eq at_75_74 (fun _ => ?_) (fun hc => nomatch hc)
                  refine ev_go at_75_79 rfl ?_
                  refine ev_get at_75_80 h01 rfl ?_
                  refine ev_ic (nI 2) at_75_83 (by decide) ?_
                  refine ev_go at_75_84 rfl ?_
                  refine ev_go at_75_85 rfl ?_
                  first | refine ev_top (congrArg Value.int (pk_mul _ _)) ?_ | skip
                  refine ev_ic (nI 2) at_75_86 (by decide) ?_
                  refine ev_go at_75_87 rfl ?_
                  refine ev_top (congrArg Value.int (pk_sub (show 2 ≤ 2 * b by omega))) ?_
                  refine ev_zald at_75_88 h5 (by omega) hvh1 ?_
                  refine ev_ifb_eq at_75_89 (fun hc => nomatch hc) (fun _ => ?_)
                  refine ev_go at_75_92 rfl ?_
                  refine ev_get at_75_93 h01 rfl ?_
                  refine ev_ic (nI 2) at_75_96 (by decide) ?_
                  refine ev_go at_75_97 rfl ?_
                  refine ev_go at_75_98 rfl ?_
                  first | refine ev_top (congrArg Value.int (pk_mul _ _)) ?_ | skip
                  refine ev_ic (nI 1) at_75_99 (by decide) ?_
                  refine ev_go at_75_100 rfl ?_
                  first | refine ev_top (congrArg Value.int (nI_add _ _)) ?_ | skip
                  refine ev_zald at_75_101 h5 (by omega) hvh2 ?_
                  refine ev_ifb_ne at_75_102 (fun _ => ?_) (fun hc => nomatch hc)
                  refine ev_go at_75_107 rfl ?_
                  refine ev_get at_75_108 h01 rfl ?_
                  refine ev_go at_75_111 rfl ?_
                  refine ev_ic (nI 1) at_75_112 (by decide) ?_
                  refine ev_go at_75_113 rfl ?_
                  refine ev_top (congrArg Value.int (pk_sub (show 1 ≤ b by omega))) ?_
                  refine ev_zald at_75_114 h4 (by omega) hvb1 ?_
                  refine ev_ifb_ne at_75_115 (fun hc => nomatch hc) (fun _ => ?_)
                  refine ev_go at_75_118 rfl ?_
                  refine ev_get at_75_119 h01 rfl ?_
                  refine ev_go at_75_122 rfl ?_
                  refine ev_zald at_75_123 h4 (by omega) hvb2 ?_
                  refine ev_ifb_ne at_75_124 (fun _ => ?_) (fun hc => nomatch hc)
                  refine ev_ic (nI 4) at_75_139 (by decide) ?_
                  refine ev_go at_75_140 rfl ?_
                  refine ev_go at_75_166 rfl ?_
                  refine ev_go at_75_167 rfl ?_
                  refine ev_get at_75_168 h01 rfl ?_
                  refine ev_go at_75_171 rfl ?_
                  refine ev_go at_75_172 rfl ?_
                  refine ev_if_ne at_75_173 (fun _ => ?_) (fun hc => absurd hc (by decide))
                  refine ev_ic (bI false) at_75_180 (by decide) ?_
                  refine ev_zast at_75_181 h2 (by omega) (by rw [rng_len]; show b < 6; omega) (by first | exact bI_01 _ | decide) ?_
                  refine ev_go at_75_182 rfl ?_
                  refine ev_iret at_75_183 (by first | exact Or.inl rfl | exact Or.inr (Or.inl rfl) | exact Or.inr (Or.inr rfl) | exact Or.inr (bI_01 _)) ?_
                  rfl
                | false =>
                  cases k3 with
                  | true =>
                    refine ⟨_, ?_, mf, o1.trans of⟩
                    refine mm_cal_of ?_
                    refine ev_go at_75_0 rfl ?_
                    refine ev_go at_75_1 rfl ?_
                    refine ev_go at_75_2 rfl ?_
                    refine ev_callV (as := [_]) at_75_3 rfl rfl (by simp [mm_wt, Value.category]) rfl h0 hA ?_
                    refine ev_ifb_eq at_75_6 (fun hc => nomatch hc) (fun _ => ?_)
                    refine ev_ic (nI 0) at_75_9 (by decide) ?_
                    refine ev_go at_75_10 rfl ?_
                    refine ev_put at_75_14 h0 (by simp [Mo]) rfl ?_
                    rw [hh1]
                    refine ev_go at_75_17 rfl ?_
                    refine ev_get at_75_18 h01 rfl ?_
                    refine ev_if_gt at_75_21 (fun hc => absurd hc (by decide)) (fun _ => ?_)
                    refine ev_go at_75_24 rfl ?_
                    refine ev_get at_75_25 h01 rfl ?_
                    refine ev_go at_75_28 rfl ?_
                    refine ev_zald at_75_29 h1m (by omega) hvm ?_
                    refine ev_ifb_eq at_75_30 (fun hc => nomatch hc) (fun _ => ?_)
                    refine ev_go at_75_33 rfl ?_
                    refine ev_get at_75_34 h01 rfl ?_
                    refine ev_go at_75_37 rfl ?_
                    refine ev_zald at_75_38 h2 (by omega) hvo ?_
                    refine ev_ifb_eq at_75_39 (fun _ => ?_) (fun hc => nomatch hc)
                    refine ev_go at_75_55 rfl ?_
                    refine ev_get at_75_56 h01 rfl ?_
                    refine ev_go at_75_59 rfl ?_
                    refine ev_ic (nI 1) at_75_60 (by decide) ?_
                    refine ev_go at_75_61 rfl ?_
                    refine ev_top (congrArg Value.int (pk_sub (show 1 ≤ b by omega))) ?_
                    refine ev_zald at_75_62 h2 (by omega) hvl ?_
                    refine ev_ifb_ne at_75_63 (fun hc => nomatch hc) (fun _ => ?_)
                    refine ev_go at_75_66 rfl ?_
                    refine ev_get at_75_67 h01 rfl ?_
                    refine ev_go at_75_70 rfl ?_
                    refine ev_ic (nI 1) at_75_71 (by decide) ?_
                    refine ev_go at_75_72 rfl ?_
                    first | refine ev_top (congrArg Value.int (nI_add _ _)) ?_ | skip
                    refine ev_zald at_75_73 h2 (by omega) hvr ?_
                    refine ev_ifb_eq at_75_74 (fun _ => ?_) (fun hc => nomatch hc)
                    refine ev_go at_75_79 rfl ?_
                    refine ev_get at_75_80 h01 rfl ?_
                    refine ev_ic (nI 2) at_75_83 (by decide) ?_
                    refine ev_go at_75_84 rfl ?_
                    refine ev_go at_75_85 rfl ?_
                    first | refine ev_top (congrArg Value.int (pk_mul _ _)) ?_ | skip
                    refine ev_ic (nI 2) at_75_86 (by decide) ?_
                    refine ev_go at_75_87 rfl ?_
                    refine ev_top (congrArg Value.int (pk_sub (show 2 ≤ 2 * b by omega))) ?_
                    refine ev_zald at_75_88 h5 (by omega) hvh1 ?_
                    refine ev_ifb_eq at_75_89 (fun hc => nomatch hc) (fun _ => ?_)
                    refine ev_go at_75_92 rfl ?_
                    refine ev_get at_75_93 h01 rfl ?_
                    refine ev_ic (nI 2) at_75_96 (by decide) ?_
                    refine ev_go at_75_97 rfl ?_
                    refine ev_go at_75_98 rfl ?_
                    first | refine ev_top (congrArg Value.int (pk_mul _ _)) ?_ | skip
                    refine ev_ic (nI 1) at_75_99 (by decide) ?_
                    refine ev_go at_75_100 rfl ?_
                    first | refine ev_top (congrArg Value.int (nI_add _ _)) ?_ | skip
                    refine ev_zald at_75_101 h5 (by omega) hvh2 ?_
                    refine ev_ifb_ne at_75_102 (fun _ => ?_) (fun hc => nomatch hc)
                    refine ev_go at_75_107 rfl ?_
                    refine ev_get at_75_108 h01 rfl ?_
                    refine ev_go at_75_111 rfl ?_
                    refine ev_ic (nI 1) at_75_112 (by decide) ?_
                    refine ev_go at_75_113 rfl ?_
                    refine ev_top (congrArg Value.int (pk_sub (show 1 ≤ b by omega))) ?_
                    refine ev_zald at_75_114 h4 (by omega) hvb1 ?_
                    refine ev_ifb_ne at_75_115 (fun hc => nomatch hc) (fun _ => ?_)
                    refine ev_go at_75_118 rfl ?_
                    refine ev_get at_75_119 h01 rfl ?_
                    refine ev_go at_75_122 rfl ?_
                    refine ev_zald at_75_123 h4 (by omega) hvb2 ?_
                    refine ev_ifb_ne at_75_124 (fun hc => nomatch hc) (fun _ => ?_)
                    refine ev_go at_75_127 rfl ?_
                    refine ev_get at_75_128 h01 rfl ?_
                    refine ev_bi (nI 10) at_75_131 (by decide) ?_
                    refine ev_go at_75_133 rfl ?_
                    refine ev_go at_75_134 rfl ?_
                    first | refine ev_top (congrArg Value.int (nI_add _ _)) ?_ | skip
                    refine ev_zald at_75_135 h4 (by omega) hvb3 ?_
                    refine ev_ifb_eq at_75_136 (fun hc => nomatch hc) (fun _ => ?_)
                    refine ev_ic (nI 4) at_75_139 (by decide) ?_
                    refine ev_go at_75_140 rfl ?_
                    refine ev_go at_75_166 rfl ?_
                    refine ev_go at_75_167 rfl ?_
                    refine ev_get at_75_168 h01 rfl ?_
                    refine ev_go at_75_171 rfl ?_
                    refine ev_go at_75_172 rfl ?_
                    refine ev_if_ne at_75_173 (fun _ => ?_) (fun hc => absurd hc (by decide))
                    refine ev_ic (bI false) at_75_180 (by decide) ?_
                    refine ev_zast at_75_181 h2 (by omega) (by rw [rng_len]; show b < 6; omega) (by first | exact bI_01 _ | decide) ?_
                    refine ev_go at_75_182 rfl ?_
                    refine ev_iret at_75_183 (by first | exact Or.inl rfl | exact Or.inr (Or.inl rfl) | exact Or.inr (Or.inr rfl) | exact Or.inr (bI_01 _)) ?_
                    rfl
                  | false =>
                    cases p1 with
                    | false =>
                      refine ⟨_, ?_, mf, o1.trans of⟩
                      refine mm_cal_of ?_
                      refine ev_go at_75_0 rfl ?_
                      refine ev_go at_75_1 rfl ?_
                      refine ev_go at_75_2 rfl ?_
                      refine ev_callV (as := [_]) at_75_3 rfl rfl (by simp [mm_wt, Value.category]) rfl h0 hA ?_
                      refine ev_ifb_eq at_75_6 (fun hc => nomatch hc) (fun _ => ?_)
                      refine ev_ic (nI 0) at_75_9 (by decide) ?_
                      refine ev_go at_75_10 rfl ?_
                      refine ev_put at_75_14 h0 (by simp [Mo]) rfl ?_
                      rw [hh1]
                      refine ev_go at_75_17 rfl ?_
                      refine ev_get at_75_18 h01 rfl ?_
                      refine ev_if_gt at_75_21 (fun hc => absurd hc (by decide)) (fun _ => ?_)
                      refine ev_go at_75_24 rfl ?_
                      refine ev_get at_75_25 h01 rfl ?_
                      refine ev_go at_75_28 rfl ?_
                      refine ev_zald at_75_29 h1m (by omega) hvm ?_
                      refine ev_ifb_eq at_75_30 (fun hc => nomatch hc) (fun _ => ?_)
                      refine ev_go at_75_33 rfl ?_
                      refine ev_get at_75_34 h01 rfl ?_
                      refine ev_go at_75_37 rfl ?_
                      refine ev_zald at_75_38 h2 (by omega) hvo ?_
                      refine ev_ifb_eq at_75_39 (fun _ => ?_) (fun hc => nomatch hc)
                      refine ev_go at_75_55 rfl ?_
                      refine ev_get at_75_56 h01 rfl ?_
                      refine ev_go at_75_59 rfl ?_
                      refine ev_ic (nI 1) at_75_60 (by decide) ?_
                      refine ev_go at_75_61 rfl ?_
                      refine ev_top (congrArg Value.int (pk_sub (show 1 ≤ b by omega))) ?_
                      refine ev_zald at_75_62 h2 (by omega) hvl ?_
                      refine ev_ifb_ne at_75_63 (fun hc => nomatch hc) (fun _ => ?_)
                      refine ev_go at_75_66 rfl ?_
                      refine ev_get at_75_67 h01 rfl ?_
                      refine ev_go at_75_70 rfl ?_
                      refine ev_ic (nI 1) at_75_71 (by decide) ?_
                      refine ev_go at_75_72 rfl ?_
                      first | refine ev_top (congrArg Value.int (nI_add _ _)) ?_ | skip
                      refine ev_zald at_75_73 h2 (by omega) hvr ?_
                      refine ev_ifb_eq at_75_74 (fun _ => ?_) (fun hc => nomatch hc)
                      refine ev_go at_75_79 rfl ?_
                      refine ev_get at_75_80 h01 rfl ?_
                      refine ev_ic (nI 2) at_75_83 (by decide) ?_
                      refine ev_go at_75_84 rfl ?_
                      refine ev_go at_75_85 rfl ?_
                      first | refine ev_top (congrArg Value.int (pk_mul _ _)) ?_ | skip
                      refine ev_ic (nI 2) at_75_86 (by decide) ?_
                      refine ev_go at_75_87 rfl ?_
                      refine ev_top (congrArg Value.int (pk_sub (show 2 ≤ 2 * b by omega))) ?_
                      refine ev_zald at_75_88 h5 (by omega) hvh1 ?_
                      refine ev_ifb_eq at_75_89 (fun hc => nomatch hc) (fun _ => ?_)
                      refine ev_go at_75_92 rfl ?_
                      refine ev_get at_75_93 h01 rfl ?_
                      refine ev_ic (nI 2) at_75_96 (by decide) ?_
                      refine ev_go at_75_97 rfl ?_
                      refine ev_go at_75_98 rfl ?_
                      first | refine ev_top (congrArg Value.int (pk_mul _ _)) ?_ | skip
                      refine ev_ic (nI 1) at_75_99 (by decide) ?_
                      refine ev_go at_75_100 rfl ?_
                      first | refine ev_top (congrArg Value.int (nI_add _ _)) ?_ | skip
                      refine ev_zald at_75_101 h5 (by omega) hvh2 ?_
                      refine ev_ifb_ne at_75_102 (fun _ => ?_) (fun hc => nomatch hc)
                      refine ev_go at_75_107 rfl ?_
                      refine ev_get at_75_108 h01 rfl ?_
                      refine ev_go at_75_111 rfl ?_
                      refine ev_ic (nI 1) at_75_112 (by decide) ?_
                      refine ev_go at_75_113 rfl ?_
                      refine ev_top (congrArg Value.int (pk_sub (show 1 ≤ b by omega))) ?_
                      refine ev_zald at_75_114 h4 (by omega) hvb1 ?_
                      refine ev_ifb_ne at_75_115 (fun hc => nomatch hc) (fun _ => ?_)
                      refine ev_go at_75_118 rfl ?_
                      refine ev_get at_75_119 h01 rfl ?_
                      refine ev_go at_75_122 rfl ?_
                      refine ev_zald at_75_123 h4 (by omega) hvb2 ?_
                      refine ev_ifb_ne at_75_124 (fun hc => nomatch hc) (fun _ => ?_)
                      refine ev_go at_75_127 rfl ?_
                      refine ev_get at_75_128 h01 rfl ?_
                      refine ev_bi (nI 10) at_75_131 (by decide) ?_
                      refine ev_go at_75_133 rfl ?_
                      refine ev_go at_75_134 rfl ?_
                      first | refine ev_top (congrArg Value.int (nI_add _ _)) ?_ | skip
                      refine ev_zald at_75_135 h4 (by omega) hvb3 ?_
                      refine ev_ifb_eq at_75_136 (fun _ => ?_) (fun hc => nomatch hc)
                      refine ev_go at_75_143 rfl ?_
                      refine ev_go at_75_144 rfl ?_
                      refine ev_ic (nI 1) at_75_145 (by decide) ?_
                      refine ev_go at_75_146 rfl ?_
                      refine ev_top (congrArg Value.int (pk_sub (show 1 ≤ b by omega))) ?_
                      refine ev_callV (as := [_]) at_75_147 rfl rfl (by simp [mm_wt, Value.category]) rfl h01 hP1 ?_
                      refine ev_ifb_eq at_75_150 (fun _ => ?_) (fun hc => nomatch hc)
                      refine ev_ic (nI 5) at_75_165 (by decide) ?_
                      refine ev_go at_75_166 rfl ?_
                      refine ev_go at_75_167 rfl ?_
                      refine ev_get at_75_168 h01 rfl ?_
                      refine ev_go at_75_171 rfl ?_
                      refine ev_go at_75_172 rfl ?_
                      refine ev_if_ne at_75_173 (fun _ => ?_) (fun hc => absurd hc (by decide))
                      refine ev_ic (bI false) at_75_180 (by decide) ?_
                      refine ev_zast at_75_181 h2 (by omega) (by rw [rng_len]; show b < 6; omega) (by first | exact bI_01 _ | decide) ?_
                      refine ev_go at_75_182 rfl ?_
                      refine ev_iret at_75_183 (by first | exact Or.inl rfl | exact Or.inr (Or.inl rfl) | exact Or.inr (Or.inr rfl) | exact Or.inr (bI_01 _)) ?_
                      rfl
                    | true =>
                      cases p2 with
                      | false =>
                        refine ⟨_, ?_, mf, o1.trans of⟩
                        refine mm_cal_of ?_
                        refine ev_go at_75_0 rfl ?_
                        refine ev_go at_75_1 rfl ?_
                        refine ev_go at_75_2 rfl ?_
                        refine ev_callV (as := [_]) at_75_3 rfl rfl (by simp [mm_wt, Value.category]) rfl h0 hA ?_
                        refine ev_ifb_eq at_75_6 (fun hc => nomatch hc) (fun _ => ?_)
                        refine ev_ic (nI 0) at_75_9 (by decide) ?_
                        refine ev_go at_75_10 rfl ?_
                        refine ev_put at_75_14 h0 (by simp [Mo]) rfl ?_
                        rw [hh1]
                        refine ev_go at_75_17 rfl ?_
                        refine ev_get at_75_18 h01 rfl ?_
                        refine ev_if_gt at_75_21 (fun hc => absurd hc (by decide)) (fun _ => ?_)
                        refine ev_go at_75_24 rfl ?_
                        refine ev_get at_75_25 h01 rfl ?_
                        refine ev_go at_75_28 rfl ?_
                        refine ev_zald at_75_29 h1m (by omega) hvm ?_
                        refine ev_ifb_eq at_75_30 (fun hc => nomatch hc) (fun _ => ?_)
                        refine ev_go at_75_33 rfl ?_
                        refine ev_get at_75_34 h01 rfl ?_
                        refine ev_go at_75_37 rfl ?_
                        refine ev_zald at_75_38 h2 (by omega) hvo ?_
                        refine ev_ifb_eq at_75_39 (fun _ => ?_) (fun hc => nomatch hc)
                        refine ev_go at_75_55 rfl ?_
                        refine ev_get at_75_56 h01 rfl ?_
                        refine ev_go at_75_59 rfl ?_
                        refine ev_ic (nI 1) at_75_60 (by decide) ?_
                        refine ev_go at_75_61 rfl ?_
                        refine ev_top (congrArg Value.int (pk_sub (show 1 ≤ b by omega))) ?_
                        refine ev_zald at_75_62 h2 (by omega) hvl ?_
                        refine ev_ifb_ne at_75_63 (fun hc => nomatch hc) (fun _ => ?_)
                        refine ev_go at_75_66 rfl ?_
                        refine ev_get at_75_67 h01 rfl ?_
                        refine ev_go at_75_70 rfl ?_
                        refine ev_ic (nI 1) at_75_71 (by decide) ?_
                        refine ev_go at_75_72 rfl ?_
                        first | refine ev_top (congrArg Value.int (nI_add _ _)) ?_ | skip
                        refine ev_zald at_75_73 h2 (by omega) hvr ?_
                        refine ev_ifb_eq at_75_74 (fun _ => ?_) (fun hc => nomatch hc)
                        refine ev_go at_75_79 rfl ?_
                        refine ev_get at_75_80 h01 rfl ?_
                        refine ev_ic (nI 2) at_75_83 (by decide) ?_
                        refine ev_go at_75_84 rfl ?_
                        refine ev_go at_75_85 rfl ?_
                        first | refine ev_top (congrArg Value.int (pk_mul _ _)) ?_ | skip
                        refine ev_ic (nI 2) at_75_86 (by decide) ?_
                        refine ev_go at_75_87 rfl ?_
                        refine ev_top (congrArg Value.int (pk_sub (show 2 ≤ 2 * b by omega))) ?_
                        refine ev_zald at_75_88 h5 (by omega) hvh1 ?_
                        refine ev_ifb_eq at_75_89 (fun hc => nomatch hc) (fun _ => ?_)
                        refine ev_go at_75_92 rfl ?_
                        refine ev_get at_75_93 h01 rfl ?_
                        refine ev_ic (nI 2) at_75_96 (by decide) ?_
                        refine ev_go at_75_97 rfl ?_
                        refine ev_go at_75_98 rfl ?_
                        first | refine ev_top (congrArg Value.int (pk_mul _ _)) ?_ | skip
                        refine ev_ic (nI 1) at_75_99 (by decide) ?_
                        refine ev_go at_75_100 rfl ?_
                        first | refine ev_top (congrArg Value.int (nI_add _ _)) ?_ | skip
                        refine ev_zald at_75_101 h5 (by omega) hvh2 ?_
                        refine ev_ifb_ne at_75_102 (fun _ => ?_) (fun hc => nomatch hc)
                        refine ev_go at_75_107 rfl ?_
                        refine ev_get at_75_108 h01 rfl ?_
                        refine ev_go at_75_111 rfl ?_
                        refine ev_ic (nI 1) at_75_112 (by decide) ?_
                        refine ev_go at_75_113 rfl ?_
                        refine ev_top (congrArg Value.int (pk_sub (show 1 ≤ b by omega))) ?_
                        refine ev_zald at_75_114 h4 (by omega) hvb1 ?_
                        refine ev_ifb_ne at_75_115 (fun hc => nomatch hc) (fun _ => ?_)
                        refine ev_go at_75_118 rfl ?_
                        refine ev_get at_75_119 h01 rfl ?_
                        refine ev_go at_75_122 rfl ?_
                        refine ev_zald at_75_123 h4 (by omega) hvb2 ?_
                        refine ev_ifb_ne at_75_124 (fun hc => nomatch hc) (fun _ => ?_)
                        refine ev_go at_75_127 rfl ?_
                        refine ev_get at_75_128 h01 rfl ?_
                        refine ev_bi (nI 10) at_75_131 (by decide) ?_
                        refine ev_go at_75_133 rfl ?_
                        refine ev_go at_75_134 rfl ?_
                        first | refine ev_top (congrArg Value.int (nI_add _ _)) ?_ | skip
                        refine ev_zald at_75_135 h4 (by omega) hvb3 ?_
                        refine ev_ifb_eq at_75_136 (fun _ => ?_) (fun hc => nomatch hc)
                        refine ev_go at_75_143 rfl ?_
                        refine ev_go at_75_144 rfl ?_
                        refine ev_ic (nI 1) at_75_145 (by decide) ?_
                        refine ev_go at_75_146 rfl ?_
                        refine ev_top (congrArg Value.int (pk_sub (show 1 ≤ b by omega))) ?_
                        refine ev_callV (as := [_]) at_75_147 rfl rfl (by simp [mm_wt, Value.category]) rfl h01 hP1 ?_
                        refine ev_ifb_eq at_75_150 (fun hc => nomatch hc) (fun _ => ?_)
                        refine ev_go at_75_153 rfl ?_
                        refine ev_go at_75_154 rfl ?_
                        refine ev_callV (as := [_]) at_75_155 rfl rfl (by simp [mm_wt, Value.category]) rfl h01 hP2 ?_
                        refine ev_ifb_eq at_75_158 (fun _ => ?_) (fun hc => nomatch hc)
                        refine ev_ic (nI 5) at_75_165 (by decide) ?_
                        refine ev_go at_75_166 rfl ?_
                        refine ev_go at_75_167 rfl ?_
                        refine ev_get at_75_168 h01 rfl ?_
                        refine ev_go at_75_171 rfl ?_
                        refine ev_go at_75_172 rfl ?_
                        refine ev_if_ne at_75_173 (fun _ => ?_) (fun hc => absurd hc (by decide))
                        refine ev_ic (bI false) at_75_180 (by decide) ?_
                        refine ev_zast at_75_181 h2 (by omega) (by rw [rng_len]; show b < 6; omega) (by first | exact bI_01 _ | decide) ?_
                        refine ev_go at_75_182 rfl ?_
                        refine ev_iret at_75_183 (by first | exact Or.inl rfl | exact Or.inr (Or.inl rfl) | exact Or.inr (Or.inr rfl) | exact Or.inr (bI_01 _)) ?_
                        rfl
                      | true =>
                        refine ⟨_, ?_, mt, o1.trans ot⟩
                        refine mm_cal_of ?_
                        refine ev_go at_75_0 rfl ?_
                        refine ev_go at_75_1 rfl ?_
                        refine ev_go at_75_2 rfl ?_
                        refine ev_callV (as := [_]) at_75_3 rfl rfl (by simp [mm_wt, Value.category]) rfl h0 hA ?_
                        refine ev_ifb_eq at_75_6 (fun hc => nomatch hc) (fun _ => ?_)
                        refine ev_ic (nI 0) at_75_9 (by decide) ?_
                        refine ev_go at_75_10 rfl ?_
                        refine ev_put at_75_14 h0 (by simp [Mo]) rfl ?_
                        rw [hh1]
                        refine ev_go at_75_17 rfl ?_
                        refine ev_get at_75_18 h01 rfl ?_
                        refine ev_if_gt at_75_21 (fun hc => absurd hc (by decide)) (fun _ => ?_)
                        refine ev_go at_75_24 rfl ?_
                        refine ev_get at_75_25 h01 rfl ?_
                        refine ev_go at_75_28 rfl ?_
                        refine ev_zald at_75_29 h1m (by omega) hvm ?_
                        refine ev_ifb_eq at_75_30 (fun hc => nomatch hc) (fun _ => ?_)
                        refine ev_go at_75_33 rfl ?_
                        refine ev_get at_75_34 h01 rfl ?_
                        refine ev_go at_75_37 rfl ?_
                        refine ev_zald at_75_38 h2 (by omega) hvo ?_
                        refine ev_ifb_eq at_75_39 (fun _ => ?_) (fun hc => nomatch hc)
                        refine ev_go at_75_55 rfl ?_
                        refine ev_get at_75_56 h01 rfl ?_
                        refine ev_go at_75_59 rfl ?_
                        refine ev_ic (nI 1) at_75_60 (by decide) ?_
                        refine ev_go at_75_61 rfl ?_
                        refine ev_top (congrArg Value.int (pk_sub (show 1 ≤ b by omega))) ?_
                        refine ev_zald at_75_62 h2 (by omega) hvl ?_
                        refine ev_ifb_ne at_75_63 (fun hc => nomatch hc) (fun _ => ?_)
                        refine ev_go at_75_66 rfl ?_
                        refine ev_get at_75_67 h01 rfl ?_
                        refine ev_go at_75_70 rfl ?_
                        refine ev_ic (nI 1) at_75_71 (by decide) ?_
                        refine ev_go at_75_72 rfl ?_
                        first | refine ev_top (congrArg Value.int (nI_add _ _)) ?_ | skip
                        refine ev_zald at_75_73 h2 (by omega) hvr ?_
                        refine ev_ifb_eq at_75_74 (fun _ => ?_) (fun hc => nomatch hc)
                        refine ev_go at_75_79 rfl ?_
                        refine ev_get at_75_80 h01 rfl ?_
                        refine ev_ic (nI 2) at_75_83 (by decide) ?_
                        refine ev_go at_75_84 rfl ?_
                        refine ev_go at_75_85 rfl ?_
                        first | refine ev_top (congrArg Value.int (pk_mul _ _)) ?_ | skip
                        refine ev_ic (nI 2) at_75_86 (by decide) ?_
                        refine ev_go at_75_87 rfl ?_
                        refine ev_top (congrArg Value.int (pk_sub (show 2 ≤ 2 * b by omega))) ?_
                        refine ev_zald at_75_88 h5 (by omega) hvh1 ?_
                        refine ev_ifb_eq at_75_89 (fun hc => nomatch hc) (fun _ => ?_)
                        refine ev_go at_75_92 rfl ?_
                        refine ev_get at_75_93 h01 rfl ?_
                        refine ev_ic (nI 2) at_75_96 (by decide) ?_
                        refine ev_go at_75_97 rfl ?_
                        refine ev_go at_75_98 rfl ?_
                        first | refine ev_top (congrArg Value.int (pk_mul _ _)) ?_ | skip
                        refine ev_ic (nI 1) at_75_99 (by decide) ?_
                        refine ev_go at_75_100 rfl ?_
                        first | refine ev_top (congrArg Value.int (nI_add _ _)) ?_ | skip
                        refine ev_zald at_75_101 h5 (by omega) hvh2 ?_
                        refine ev_ifb_ne at_75_102 (fun _ => ?_) (fun hc => nomatch hc)
                        refine ev_go at_75_107 rfl ?_
                        refine ev_get at_75_108 h01 rfl ?_
                        refine ev_go at_75_111 rfl ?_
                        refine ev_ic (nI 1) at_75_112 (by decide) ?_
                        refine ev_go at_75_113 rfl ?_
                        refine ev_top (congrArg Value.int (pk_sub (show 1 ≤ b by omega))) ?_
                        refine ev_zald at_75_114 h4 (by omega) hvb1 ?_
                        refine ev_ifb_ne at_75_115 (fun hc => nomatch hc) (fun _ => ?_)
                        refine ev_go at_75_118 rfl ?_
                        refine ev_get at_75_119 h01 rfl ?_
                        refine ev_go at_75_122 rfl ?_
                        refine ev_zald at_75_123 h4 (by omega) hvb2 ?_
                        refine ev_ifb_ne at_75_124 (fun hc => nomatch hc) (fun _ => ?_)
                        refine ev_go at_75_127 rfl ?_
                        refine ev_get at_75_128 h01 rfl ?_
                        refine ev_bi (nI 10) at_75_131 (by decide) ?_
                        refine ev_go at_75_133 rfl ?_
                        refine ev_go at_75_134 rfl ?_
                        first | refine ev_top (congrArg Value.int (nI_add _ _)) ?_ | skip
                        refine ev_zald at_75_135 h4 (by omega) hvb3 ?_
                        refine ev_ifb_eq at_75_136 (fun _ => ?_) (fun hc => nomatch hc)
                        refine ev_go at_75_143 rfl ?_
                        refine ev_go at_75_144 rfl ?_
                        refine ev_ic (nI 1) at_75_145 (by decide) ?_
                        refine ev_go at_75_146 rfl ?_
                        refine ev_top (congrArg Value.int (pk_sub (show 1 ≤ b by omega))) ?_
                        refine ev_callV (as := [_]) at_75_147 rfl rfl (by simp [mm_wt, Value.category]) rfl h01 hP1 ?_
                        refine ev_ifb_eq at_75_150 (fun hc => nomatch hc) (fun _ => ?_)
                        refine ev_go at_75_153 rfl ?_
                        refine ev_go at_75_154 rfl ?_
                        refine ev_callV (as := [_]) at_75_155 rfl rfl (by simp [mm_wt, Value.category]) rfl h01 hP2 ?_
                        refine ev_ifb_eq at_75_158 (fun hc => nomatch hc) (fun _ => ?_)
                        refine ev_ic (nI 0) at_75_161 (by decide) ?_
                        refine ev_go at_75_162 rfl ?_
                        refine ev_go at_75_166 rfl ?_
                        refine ev_go at_75_167 rfl ?_
                        refine ev_get at_75_168 h01 rfl ?_
                        refine ev_go at_75_171 rfl ?_
                        refine ev_go at_75_172 rfl ?_
                        refine ev_if_ne at_75_173 (fun hc => absurd hc (by decide)) (fun _ => ?_)
                        refine ev_ic (bI true) at_75_176 (by decide) ?_
                        refine ev_go at_75_177 rfl ?_
                        refine ev_zast at_75_181 h2 (by omega) (by rw [rng_len]; show b < 6; omega) (by first | exact bI_01 _ | decide) ?_
                        refine ev_go at_75_182 rfl ?_
                        refine ev_iret at_75_183 (by first | exact Or.inl rfl | exact Or.inr (Or.inl rfl) | exact Or.inr (Or.inr rfl) | exact Or.inr (bI_01 _)) ?_
                        rfl
def siM (m : Md) (b : Nat) (p : Bool) : Nat :=
  if !m.io b then 1
  else if !(m.hd (2 * (10 + b)) && m.hd (2 * (10 + b) + 1)) then 3
  else if m.bk (b - 1) || (m.bk b || m.bk (10 + b)) then 4
  else if !p then 5 else 0
theorem e_switchIn (d : Nat) (hM : MAt K a h c m) (hB : MB m) {b : Nat} (hb : b < K.n) (hex : m.io b = true → K.ex (10 + b) = true) {p : Bool} (hp : m.io b = true → (p = true ↔ ∀ j, j < K.t → m.pl (8 * (10 + b) + j) < 2)) : ∃ h', mm_cal z (d + 2) 76 [.ref a, .int (nI b)] h (.returned (some (.int (nI (siM m b p)))), h') ∧ MAt K a h' (nI 0) (if siM m b p = 0 then m.sIo b false else m) ∧ Off a (a + 12) h h' := by
  have hK := hM.1
  have hn6 := hK.2.1
  have ht := hK.2.2.2.1
  have hA := d_isBox (z := z) d hM (nI b)
  rw [bxB_nI (by omega) (by omega), decide_eq_true hb] at hA
  have h0 := hM.2.1
  obtain ⟨m1, o1⟩ := hM.setC (nI 0)
  generalize hh1 : mm_upd h a 2 (.int (nI 0)) = h1 at m1 o1
  have h01 := m1.2.1
  have h2 := m1.a2
  have hvo := rng_at (n := 6) (fun s => Value.int (bI (m.io s))) (show b < 6 by omega)
  unfold siM
  cases hio : m.io b with
  | false =>
    rw [hio] at hvo
    refine ⟨h1, ?_, m1, o1⟩
    refine mm_cal_of ?_
    refine ev_go at_76_0 rfl ?_
    refine ev_go at_76_1 rfl ?_
    refine ev_go at_76_2 rfl ?_
    refine ev_callV (as := [_]) at_76_3 rfl rfl (by simp [mm_wt, Value.category]) rfl h0 hA ?_
    refine ev_ifb_eq at_76_6 (fun hc => nomatch hc) (fun _ => ?_)
    refine ev_ic (nI 0) at_76_9 (by decide) ?_
    refine ev_go at_76_10 rfl ?_
    refine ev_put at_76_14 h0 (by simp [Mo]) rfl ?_
    rw [hh1]
    refine ev_go at_76_17 rfl ?_
    refine ev_get at_76_18 h01 rfl ?_
    refine ev_if_gt at_76_21 (fun hc => absurd hc (by decide)) (fun _ => ?_)
    refine ev_go at_76_24 rfl ?_
    refine ev_get at_76_25 h01 rfl ?_
    refine ev_go at_76_28 rfl ?_
    refine ev_zald at_76_29 h2 (by omega) hvo ?_
    refine ev_ifb_ne at_76_30 (fun hc => nomatch hc) (fun _ => ?_)
    refine ev_go at_76_33 rfl ?_
    refine ev_get at_76_34 h01 rfl ?_
    refine ev_if_le at_76_37 (fun _ => ?_) (fun hc => absurd hc (by decide))
    refine ev_ic (nI 1) at_76_44 (by decide) ?_
    refine ev_iret at_76_45 (by first | exact Or.inl rfl | exact Or.inr (Or.inl rfl) | exact Or.inr (Or.inr rfl) | exact Or.inr (bI_01 _)) ?_
    rfl
  | true =>
    rw [hio] at hvo
    have hmo := hex hio
    obtain ⟨x1, x2, x3, x4⟩ := Cf.around hK hmo
    have h5 := m1.a5
    have h4 := m1.a4
    have hP := d_isInPhase (z := z) d m1 hB (show 10 + b < 15 by omega) (hp hio)
    have hvh1 := rng_at (n := 30) (fun s => Value.int (bI (m.hd s))) (show 2 * (10 + b) < 30 by omega)
    have hvh2 := rng_at (n := 30) (fun s => Value.int (bI (m.hd s))) (show 2 * (10 + b) + 1 < 30 by omega)
    have hvb1 := rng_at (n := 15) (fun s => Value.int (bI (m.bk s))) (show b - 1 < 15 by omega)
    have hvb2 := rng_at (n := 15) (fun s => Value.int (bI (m.bk s))) (show b < 15 by omega)
    have hvb3 := rng_at (n := 15) (fun s => Value.int (bI (m.bk s))) (show 10 + b < 15 by omega)
    obtain ⟨mt, ot⟩ := m1.sIo b true
    obtain ⟨mf, of⟩ := m1.sIo b false
    generalize m.hd (2 * (10 + b)) = d1 at hvh1
    generalize m.hd (2 * (10 + b) + 1) = d2 at hvh2
    generalize m.bk (b - 1) = k1 at hvb1
    generalize m.bk b = k2 at hvb2
    generalize m.bk (10 + b) = k3 at hvb3
    have ems : m.sIo b true = m := by
      show (m.tm, upf m.io b true, m.bk, m.hd, m.tu, m.pl, m.si, m.kn, m.bx, m.ins) = m
      rw [upf_self hio]
    rw [ems] at mt
    cases d1 with
    | false =>
      refine ⟨_, ?_, mt, o1.trans ot⟩
      refine mm_cal_of ?_
      refine ev_go at_76_0 rfl ?_
      refine ev_go at_76_1 rfl ?_
      refine ev_go at_76_2 rfl ?_
      refine ev_callV (as := [_]) at_76_3 rfl rfl (by simp [mm_wt, Value.category]) rfl h0 hA ?_
      refine ev_ifb_eq at_76_6 (fun hc => nomatch hc) (fun _ => ?_)
      refine ev_ic (nI 0) at_76_9 (by decide) ?_
      refine ev_go at_76_10 rfl ?_
      refine ev_put at_76_14 h0 (by simp [Mo]) rfl ?_
      rw [hh1]
      refine ev_go at_76_17 rfl ?_
      refine ev_get at_76_18 h01 rfl ?_
      refine ev_if_gt at_76_21 (fun hc => absurd hc (by decide)) (fun _ => ?_)
      refine ev_go at_76_24 rfl ?_
      refine ev_get at_76_25 h01 rfl ?_
      refine ev_go at_76_28 rfl ?_
      refine ev_zald at_76_29 h2 (by omega) hvo ?_
      refine ev_ifb_ne at_76_30 (fun _ => ?_) (fun hc => nomatch hc)
      refine ev_go at_76_46 rfl ?_
      refine ev_get at_76_47 h01 rfl ?_
      refine ev_ic (nI 2) at_76_50 (by decide) ?_
      refine ev_bi (nI 10) at_76_51 (by decide) ?_
      refine ev_go at_76_53 rfl ?_
      refine ev_go at_76_54 rfl ?_
      first | refine ev_top (congrArg Value.int (nI_add _ _)) ?_ | skip
      refine ev_go at_76_55 rfl ?_
      first | refine ev_top (congrArg Value.int (pk_mul _ _)) ?_ | skip
      refine ev_zald at_76_56 h5 (by omega) hvh1 ?_
      refine ev_ifb_eq at_76_57 (fun _ => ?_) (fun hc => nomatch hc)
      refine ev_ic (nI 0) at_76_80 (by decide) ?_
      refine ev_go at_76_81 rfl ?_
      refine ev_go at_76_82 rfl ?_
      refine ev_if_ne at_76_83 (fun hc => absurd hc (by decide)) (fun _ => ?_)
      refine ev_ic (nI 3) at_76_86 (by decide) ?_
      refine ev_go at_76_87 rfl ?_
      refine ev_go at_76_142 rfl ?_
      refine ev_go at_76_143 rfl ?_
      refine ev_get at_76_144 h01 rfl ?_
      refine ev_go at_76_147 rfl ?_
      refine ev_go at_76_148 rfl ?_
      refine ev_if_eq at_76_149 (fun hc => absurd hc (by decide)) (fun _ => ?_)
      refine ev_ic (bI true) at_76_152 (by decide) ?_
      refine ev_go at_76_153 rfl ?_
      refine ev_zast at_76_157 h2 (by omega) (by rw [rng_len]; show b < 6; omega) (by first | exact bI_01 _ | decide) ?_
      refine ev_go at_76_158 rfl ?_
      refine ev_iret at_76_159 (by first | exact Or.inl rfl | exact Or.inr (Or.inl rfl) | exact Or.inr (Or.inr rfl) | exact Or.inr (bI_01 _)) ?_
      rfl
    | true =>
      cases d2 with
      | false =>
        refine ⟨_, ?_, mt, o1.trans ot⟩
        refine mm_cal_of ?_
        refine ev_go at_76_0 rfl ?_
        refine ev_go at_76_1 rfl ?_
        refine ev_go at_76_2 rfl ?_
        refine ev_callV (as := [_]) at_76_3 rfl rfl (by simp [mm_wt, Value.category]) rfl h0 hA ?_
        refine ev_ifb_eq at_76_6 (fun hc => nomatch hc) (fun _ => ?_)
        refine ev_ic (nI 0) at_76_9 (by decide) ?_
        refine ev_go at_76_10 rfl ?_
        refine ev_put at_76_14 h0 (by simp [Mo]) rfl ?_
        rw [hh1]
        refine ev_go at_76_17 rfl ?_
        refine ev_get at_76_18 h01 rfl ?_
        refine ev_if_gt at_76_21 (fun hc => absurd hc (by decide)) (fun _ => ?_)
        refine ev_go at_76_24 rfl ?_
        refine ev_get at_76_25 h01 rfl ?_
        refine ev_go at_76_28 rfl ?_
        refine ev_zald at_76_29 h2 (by omega) hvo ?_
        refine ev_ifb_ne at_76_30 (fun _ => ?_) (fun hc => nomatch hc)
        refine ev_go at_76_46 rfl ?_
        refine ev_get at_76_47 h01 rfl ?_
        refine ev_ic (nI 2) at_76_50 (by decide) ?_
        refine ev_bi (nI 10) at_76_51 (by decide) ?_
        refine ev_go at_76_53 rfl ?_
        refine ev_go at_76_54 rfl ?_
        first | refine ev_top (congrArg Value.int (nI_add _ _)) ?_ | skip
        refine ev_go at_76_55 rfl ?_
        first | refine ev_top (congrArg Value.int (pk_mul _ _)) ?_ | skip
        refine ev_zald at_76_56 h5 (by omega) hvh1 ?_
        refine ev_ifb_eq at_76_57 (fun hc => nomatch hc) (fun _ => ?_)
        refine ev_go at_76_60 rfl ?_
        refine ev_get at_76_61 h01 rfl ?_
        refine ev_ic (nI 2) at_76_64 (by decide) ?_
        refine ev_bi (nI 10) at_76_65 (by decide) ?_
        refine ev_go at_76_67 rfl ?_
        refine ev_go at_76_68 rfl ?_
        first | refine ev_top (congrArg Value.int (nI_add _ _)) ?_ | skip
        refine ev_go at_76_69 rfl ?_
        first | refine ev_top (congrArg Value.int (pk_mul _ _)) ?_ | skip
        refine ev_ic (nI 1) at_76_70 (by decide) ?_
        refine ev_go at_76_71 rfl ?_
        first | refine ev_top (congrArg Value.int (nI_add _ _)) ?_ | skip
        refine ev_zald at_76_72 h5 (by omega) hvh2 ?_
        refine ev_ifb_eq at_76_73 (fun _ => ?_) (fun hc => nomatch hc)
        refine ev_ic (nI 0) at_76_80 (by decide) ?_
        refine ev_go at_76_81 rfl ?_
        refine ev_go at_76_82 rfl ?_
        refine ev_if_ne at_76_83 (fun hc => absurd hc (by decide)) (fun _ => ?_)
        refine ev_ic (nI 3) at_76_86 (by decide) ?_
        refine ev_go at_76_87 rfl ?_
        refine ev_go at_76_142 rfl ?_
        refine ev_go at_76_143 rfl ?_
        refine ev_get at_76_144 h01 rfl ?_
        refine ev_go at_76_147 rfl ?_
        refine ev_go at_76_148 rfl ?_
        refine ev_if_eq at_76_149 (fun hc => absurd hc (by decide)) (fun _ => ?_)
        refine ev_ic (bI true) at_76_152 (by decide) ?_
        refine ev_go at_76_153 rfl ?_
        refine ev_zast at_76_157 h2 (by omega) (by rw [rng_len]; show b < 6; omega) (by first | exact bI_01 _ | decide) ?_
        refine ev_go at_76_158 rfl ?_
        refine ev_iret at_76_159 (by first | exact Or.inl rfl | exact Or.inr (Or.inl rfl) | exact Or.inr (Or.inr rfl) | exact Or.inr (bI_01 _)) ?_
        rfl
      | true =>
        cases k1 with
        | true =>
          refine ⟨_, ?_, mt, o1.trans ot⟩
          refine mm_cal_of ?_
          refine ev_go at_76_0 rfl ?_
          refine ev_go at_76_1 rfl ?_
          refine ev_go at_76_2 rfl ?_
          refine ev_callV (as := [_]) at_76_3 rfl rfl (by simp [mm_wt, Value.category]) rfl h0 hA ?_
          refine ev_ifb_eq at_76_6 (fun hc => nomatch hc) (fun _ => ?_)
          refine ev_ic (nI 0) at_76_9 (by decide) ?_
          refine ev_go at_76_10 rfl ?_
          refine ev_put at_76_14 h0 (by simp [Mo]) rfl ?_
          rw [hh1]
          refine ev_go at_76_17 rfl ?_
          refine ev_get at_76_18 h01 rfl ?_
          refine ev_if_gt at_76_21 (fun hc => absurd hc (by decide)) (fun _ => ?_)
          refine ev_go at_76_24 rfl ?_
          refine ev_get at_76_25 h01 rfl ?_
          refine ev_go at_76_28 rfl ?_
          refine ev_zald at_76_29 h2 (by omega) hvo ?_
          refine ev_ifb_ne at_76_30 (fun _ => ?_) (fun hc => nomatch hc)
          refine ev_go at_76_46 rfl ?_
          refine ev_get at_76_47 h01 rfl ?_
          refine ev_ic (nI 2) at_76_50 (by decide) ?_
          refine ev_bi (nI 10) at_76_51 (by decide) ?_
          refine ev_go at_76_53 rfl ?_
          refine ev_go at_76_54 rfl ?_
          first | refine ev_top (congrArg Value.int (nI_add _ _)) ?_ | skip
          refine ev_go at_76_55 rfl ?_
          first | refine ev_top (congrArg Value.int (pk_mul _ _)) ?_ | skip
          refine ev_zald at_76_56 h5 (by omega) hvh1 ?_
          refine ev_ifb_eq at_76_57 (fun hc => nomatch hc) (fun _ => ?_)
          refine ev_go at_76_60 rfl ?_
          refine ev_get at_76_61 h01 rfl ?_
          refine ev_ic (nI 2) at_76_64 (by decide) ?_
          refine ev_bi (nI 10) at_76_65 (by decide) ?_
          refine ev_go at_76_67 rfl ?_
          refine ev_go at_76_68 rfl ?_
          first | refine ev_top (congrArg Value.int (nI_add _ _)) ?_ | skip
          refine ev_go at_76_69 rfl ?_
          first | refine ev_top (congrArg Value.int (pk_mul _ _)) ?_ | skip
          refine ev_ic (nI 1) at_76_70 (by decide) ?_
          refine ev_go at_76_71 rfl ?_
          first | refine ev_top (congrArg Value.int (nI_add _ _)) ?_ | skip
          refine ev_zald at_76_72 h5 (by omega) hvh2 ?_
          refine ev_ifb_eq at_76_73 (fun hc => nomatch hc) (fun _ => ?_)
          refine ev_ic (nI 1) at_76_76 (by decide) ?_
          refine ev_go at_76_77 rfl ?_
          refine ev_go at_76_81 rfl ?_
          refine ev_go at_76_82 rfl ?_
          refine ev_if_ne at_76_83 (fun _ => ?_) (fun hc => absurd hc (by decide))
          refine ev_go at_76_90 rfl ?_
          refine ev_get at_76_91 h01 rfl ?_
          refine ev_go at_76_94 rfl ?_
          refine ev_ic (nI 1) at_76_95 (by decide) ?_
          refine ev_go at_76_96 rfl ?_
          refine ev_top (congrArg Value.int (pk_sub (show 1 ≤ b by omega))) ?_
          refine ev_zald at_76_97 h4 (by omega) hvb1 ?_
          refine ev_ifb_ne at_76_98 (fun _ => ?_) (fun hc => nomatch hc)
          refine ev_ic (nI 4) at_76_122 (by decide) ?_
          refine ev_go at_76_123 rfl ?_
          refine ev_go at_76_142 rfl ?_
          refine ev_go at_76_143 rfl ?_
          refine ev_get at_76_144 h01 rfl ?_
          refine ev_go at_76_147 rfl ?_
          refine ev_go at_76_148 rfl ?_
          refine ev_if_eq at_76_149 (fun hc => absurd hc (by decide)) (fun _ => ?_)
          refine ev_ic (bI true) at_76_152 (by decide) ?_
          refine ev_go at_76_153 rfl ?_
          refine ev_zast at_76_157 h2 (by omega) (by rw [rng_len]; show b < 6; omega) (by first | exact bI_01 _ | decide) ?_
          refine ev_go at_76_158 rfl ?_
          refine ev_iret at_76_159 (by first | exact Or.inl rfl | exact Or.inr (Or.inl rfl) | exact Or.inr (Or.inr rfl) | exact Or.inr (bI_01 _)) ?_
          rfl
        | false =>
          cases k2 with
          | true =>
            refine ⟨_, ?_, mt, o1.trans ot⟩
            refine mm_cal_of ?_
            refine ev_go at_76_0 rfl ?_
            refine ev_go at_76_1 rfl ?_
            refine ev_go at_76_2 rfl ?_
            refine ev_callV (as := [_]) at_76_3 rfl rfl (by simp [mm_wt, Value.category]) rfl h0 hA ?_
            refine ev_ifb_eq at_76_6 (fun hc => nomatch hc) (fun _ => ?_)
            refine ev_ic (nI 0) at_76_9 (by decide) ?_
            refine ev_go at_76_10 rfl ?_
            refine ev_put at_76_14 h0 (by simp [Mo]) rfl ?_
            rw [hh1]
            refine ev_go at_76_17 rfl ?_
            refine ev_get at_76_18 h01 rfl ?_
            refine ev_if_gt at_76_21 (fun hc => absurd hc (by decide)) (fun _ => ?_)
            refine ev_go at_76_24 rfl ?_
            refine ev_get at_76_25 h01 rfl ?_
            refine ev_go at_76_28 rfl ?_
            refine ev_zald at_76_29 h2 (by omega) hvo ?_
            refine ev_ifb_ne at_76_30 (fun _ => ?_) (fun hc => nomatch hc)
            refine ev_go at_76_46 rfl ?_
            refine ev_get at_76_47 h01 rfl ?_
            refine ev_ic (nI 2) at_76_50 (by decide) ?_
            refine ev_bi (nI 10) at_76_51 (by decide) ?_
            refine ev_go at_76_53 rfl ?_
            refine ev_go at_76_54 rfl ?_
            first | refine ev_top (congrArg Value.int (nI_add _ _)) ?_ | skip
            refine ev_go at_76_55 rfl ?_
            first | refine ev_top (congrArg Value.int (pk_mul _ _)) ?_ | skip
            refine ev_zald at_76_56 h5 (by omega) hvh1 ?_
            refine ev_ifb_eq at_76_57 (fun hc => nomatch hc) (fun _ => ?_)
            refine ev_go at_76_60 rfl ?_
            refine ev_get at_76_61 h01 rfl ?_
            refine ev_ic (nI 2) at_76_64 (by decide) ?_
            refine ev_bi (nI 10) at_76_65 (by decide) ?_
            refine ev_go at_76_67 rfl ?_
            refine ev_go at_76_68 rfl ?_
            first | refine ev_top (congrArg Value.int (nI_add _ _)) ?_ | skip
            refine ev_go at_76_69 rfl ?_
            first | refine ev_top (congrArg Value.int (pk_mul _ _)) ?_ | skip
            refine ev_ic (nI 1) at_76_70 (by decide) ?_
            refine ev_go at_76_71 rfl ?_
            first | refine ev_top (congrArg Value.int (nI_add _ _)) ?_ | skip
            refine ev_zald at_76_72 h5 (by omega) hvh2 ?_
            refine ev_ifb_eq at_76_73 (fun hc => nomatch hc) (fun _ => ?_)
            refine ev_ic (nI 1) at_76_76 (by decide) ?_
            refine ev_go at_76_77 rfl ?_
            refine ev_go at_76_81 rfl ?_
            refine ev_go at_76_82 rfl ?_
            refine ev_if_ne at_76_83 (fun _ => ?_) (fun hc => absurd hc (by decide))
            refine ev_go at_76_90 rfl ?_
            refine ev_get at_76_91 h01 rfl ?_
            refine ev_go at_76_94 rfl ?_
            refine ev_ic (nI 1) at_76_95 (by decide) ?_
            refine ev_go at_76_96 rfl ?_
            refine ev_top (congrArg Value.int (pk_sub (show 1 ≤ b by omega))) ?_
            refine ev_zald at_76_97 h4 (by omega) hvb1 ?_
            refine ev_ifb_ne at_76_98 (fun hc => nomatch hc) (fun _ => ?_)
            refine ev_go at_76_101 rfl ?_
            refine ev_get at_76_102 h01 rfl ?_
            refine ev_go at_76_105 rfl ?_
            refine ev_zald at_76_106 h4 (by omega) hvb2 ?_
            refine ev_ifb_ne at_76_107 (fun _ => ?_) (fun hc => nomatch hc)
            refine ev_ic (nI 4) at_76_122 (by decide) ?_
            refine ev_go at_76_123 rfl ?_
            refine ev_go at_76_142 rfl ?_
            refine ev_go at_76_143 rfl ?_
            refine ev_get at_76_144 h01 rfl ?_
            refine ev_go at_76_147 rfl ?_
            refine ev_go at_76_148 rfl ?_
            refine ev_if_eq at_76_149 (fun hc => absurd hc (by decide)) (fun _ => ?_)
            refine ev_ic (bI true) at_76_152 (by decide) ?_
            refine ev_go at_76_153 rfl ?_
            refine ev_zast at_76_157 h2 (by omega) (by rw [rng_len]; show b < 6; omega) (by first | exact bI_01 _ | decide) ?_
            refine ev_go at_76_158 rfl ?_
            refine ev_iret at_76_159 (by first | exact Or.inl rfl | exact Or.inr (Or.inl rfl) | exact Or.inr (Or.inr rfl) | exact Or.inr (bI_01 _)) ?_
            rfl
          | false =>
            cases k3 with
            | true =>
              refine ⟨_, ?_, mt, o1.trans ot⟩
              refine mm_cal_of ?_
              refine ev_go at_76_0 rfl ?_
              refine ev_go at_76_1 rfl ?_
              refine ev_go at_76_2 rfl ?_
              refine ev_callV (as := [_]) at_76_3 rfl rfl (by simp [mm_wt, Value.category]) rfl h0 hA ?_
              refine ev_ifb_eq at_76_6 (fun hc => nomatch hc) (fun _ => ?_)
              refine ev_ic (nI 0) at_76_9 (by decide) ?_
              refine ev_go at_76_10 rfl ?_
              refine ev_put at_76_14 h0 (by simp [Mo]) rfl ?_
              rw [hh1]
              refine ev_go at_76_17 rfl ?_
              refine ev_get at_76_18 h01 rfl ?_
              refine ev_if_gt at_76_21 (fun hc => absurd hc (by decide)) (fun _ => ?_)
              refine ev_go at_76_24 rfl ?_
              refine ev_get at_76_25 h01 rfl ?_
              refine ev_go at_76_28 rfl ?_
              refine ev_zald at_76_29 h2 (by omega) hvo ?_
              refine ev_ifb_ne at_76_30 (fun _ => ?_) (fun hc => nomatch hc)
              refine ev_go at_76_46 rfl ?_
              refine ev_get at_76_47 h01 rfl ?_
              refine ev_ic (nI 2) at_76_50 (by decide) ?_
              refine ev_bi (nI 10) at_76_51 (by decide) ?_
              refine ev_go at_76_53 rfl ?_
              refine ev_go at_76_54 rfl ?_
              first | refine ev_top (congrArg Value.int (nI_add _ _)) ?_ | skip
              refine ev_go at_76_55 rfl ?_
              first | refine ev_top (congrArg Value.int (pk_mul _ _)) ?_ | skip
              refine ev_zald at_76_56 h5 (by omega) hvh1 ?_
              refine ev_ifb_eq at_76_57 (fun hc => nomatch hc) (fun _ => ?_)
              refine ev_go at_76_60 rfl ?_
              refine ev_get at_76_61 h01 rfl ?_
              refine ev_ic (nI 2) at_76_64 (by decide) ?_
              refine ev_bi (nI 10) at_76_65 (by decide) ?_
              refine ev_go at_76_67 rfl ?_
              refine ev_go at_76_68 rfl ?_
              first | refine ev_top (congrArg Value.int (nI_add _ _)) ?_ | skip
              refine ev_go at_76_69 rfl ?_
              first | refine ev_top (congrArg Value.int (pk_mul _ _)) ?_ | skip
              refine ev_ic (nI 1) at_76_70 (by decide) ?_
              refine ev_go at_76_71 rfl ?_
              first | refine ev_top (congrArg Value.int (nI_add _ _)) ?_ | skip
              refine ev_zald at_76_72 h5 (by omega) hvh2 ?_
              refine ev_ifb_eq at_76_73 (fun hc => nomatch hc) (fun _ => ?_)
              refine ev_ic (nI 1) at_76_76 (by decide) ?_
              refine ev_go at_76_77 rfl ?_
              refine ev_go at_76_81 rfl ?_
              refine ev_go at_76_82 rfl ?_
              refine ev_if_ne at_76_83 (fun _ => ?_) (fun hc => absurd hc (by decide))
              refine ev_go at_76_90 rfl ?_
              refine ev_get at_76_91 h01 rfl ?_
              refine ev_go at_76_94 rfl ?_
              refine ev_ic (nI 1) at_76_95 (by decide) ?_
              refine ev_go at_76_96 rfl ?_
              refine ev_top (congrArg Value.int (pk_sub (show 1 ≤ b by omega))) ?_
              refine ev_zald at_76_97 h4 (by omega) hvb1 ?_
              refine ev_ifb_ne at_76_98 (fun hc => nomatch hc) (fun _ => ?_)
              refine ev_go at_76_101 rfl ?_
              refine ev_get at_76_102 h01 rfl ?_
              refine ev_go at_76_105 rfl ?_
              refine ev_zald at_76_106 h4 (by omega) hvb2 ?_
              refine ev_ifb_ne at_76_107 (fun hc => nomatch hc) (fun _ => ?_)
              refine ev_go at_76_110 rfl ?_
              refine ev_get at_76_111 h01 rfl ?_
              refine ev_bi (nI 10) at_76_114 (by decide) ?_
              refine ev_go at_76_116 rfl ?_
              refine ev_go at_76_117 rfl ?_
              first | refine ev_top (congrArg Value.int (nI_add _ _)) ?_ | skip
              refine ev_zald at_76_118 h4 (by omega) hvb3 ?_
              refine ev_ifb_eq at_76_119 (fun hc => nomatch hc) (fun _ => ?_)
              refine ev_ic (nI 4) at_76_122 (by decide) ?_
              refine ev_go at_76_123 rfl ?_
              refine ev_go at_76_142 rfl ?_
              refine ev_go at_76_143 rfl ?_
              refine ev_get at_76_144 h01 rfl ?_
              refine ev_go at_76_147 rfl ?_
              refine ev_go at_76_148 rfl ?_
              refine ev_if_eq at_76_149 (fun hc => absurd hc (by decide)) (fun _ => ?_)
              refine ev_ic (bI true) at_76_152 (by decide) ?_
              refine ev_go at_76_153 rfl ?_
              refine ev_zast at_76_157 h2 (by omega) (by rw [rng_len]; show b < 6; omega) (by first | exact bI_01 _ | decide) ?_
              refine ev_go at_76_158 rfl ?_
              refine ev_iret at_76_159 (by first | exact Or.inl rfl | exact Or.inr (Or.inl rfl) | exact Or.inr (Or.inr rfl) | exact Or.inr (bI_01 _)) ?_
              rfl
            | false =>
              cases p with
              | false =>
                refine ⟨_, ?_, mt, o1.trans ot⟩
                refine mm_cal_of ?_
                refine ev_go at_76_0 rfl ?_
                refine ev_go at_76_1 rfl ?_
                refine ev_go at_76_2 rfl ?_
                refine ev_callV (as := [_]) at_76_3 rfl rfl (by simp [mm_wt, Value.category]) rfl h0 hA ?_
                refine ev_ifb_eq at_76_6 (fun hc => nomatch hc) (fun _ => ?_)
                refine ev_ic (nI 0) at_76_9 (by decide) ?_
                refine ev_go at_76_10 rfl ?_
                refine ev_put at_76_14 h0 (by simp [Mo]) rfl ?_
                rw [hh1]
                refine ev_go at_76_17 rfl ?_
                refine ev_get at_76_18 h01 rfl ?_
                refine ev_if_gt at_76_21 (fun hc => absurd hc (by decide)) (fun _ => ?_)
                refine ev_go at_76_24 rfl ?_
                refine ev_get at_76_25 h01 rfl ?_
                refine ev_go at_76_28 rfl ?_
                refine ev_zald at_76_29 h2 (by omega) hvo ?_
                refine ev_ifb_ne at_76_30 (fun _ => ?_) (fun hc => nomatch hc)
                refine ev_go at_76_46 rfl ?_
                refine ev_get at_76_47 h01 rfl ?_
                refine ev_ic (nI 2) at_76_50 (by decide) ?_
                refine ev_bi (nI 10) at_76_51 (by decide) ?_
                refine ev_go at_76_53 rfl ?_
                refine ev_go at_76_54 rfl ?_
                first | refine ev_top (congrArg Value.int (nI_add _ _)) ?_ | skip
                refine ev_go at_76_55 rfl ?_
                first | refine ev_top (congrArg Value.int (pk_mul _ _)) ?_ | skip
                refine ev_zald at_76_56 h5 (by omega) hvh1 ?_
                refine ev_ifb_eq at_76_57 (fun hc => nomatch hc) (fun _ => ?_)
                refine ev_go at_76_60 rfl ?_
                refine ev_get at_76_61 h01 rfl ?_
                refine ev_ic (nI 2) at_76_64 (by decide) ?_
                refine ev_bi (nI 10) at_76_65 (by decide) ?_
                refine ev_go at_76_67 rfl ?_
                refine ev_go at_76_68 rfl ?_
                first | refine ev_top (congrArg Value.int (nI_add _ _)) ?_ | skip
                refine ev_go at_76_69 rfl ?_
                first | refine ev_top (congrArg Value.int (pk_mul _ _)) ?_ | skip
                refine ev_ic (nI 1) at_76_70 (by decide) ?_
                refine ev_go at_76_71 rfl ?_
                first | refine ev_top (congrArg Value.int (nI_add _ _)) ?_ | skip
                refine ev_zald at_76_72 h5 (by omega) hvh2 ?_
                refine ev_ifb_eq at_76_73 (fun hc => nomatch hc) (fun _ => ?_)
                refine ev_ic (nI 1) at_76_76 (by decide) ?_
                refine ev_go at_76_77 rfl ?_
                refine ev_go at_76_81 rfl ?_
                refine ev_go at_76_82 rfl ?_
                refine ev_if_ne at_76_83 (fun _ => ?_) (fun hc => absurd hc (by decide))
                refine ev_go at_76_90 rfl ?_
                refine ev_get at_76_91 h01 rfl ?_
                refine ev_go at_76_94 rfl ?_
                refine ev_ic (nI 1) at_76_95 (by decide) ?_
                refine ev_go at_76_96 rfl ?_
                refine ev_top (congrArg Value.int (pk_sub (show 1 ≤ b by omega))) ?_
                refine ev_zald at_76_97 h4 (by omega) hvb1 ?_
                refine ev_ifb_ne at_76_98 (fun hc => nomatch hc) (fun _ => ?_)
                refine ev_go at_76_101 rfl ?_
                refine ev_get at_76_102 h01 rfl ?_
                refine ev_go at_76_105 rfl ?_
                refine ev_zald at_76_106 h4 (by omega) hvb2 ?_
                refine ev_ifb_ne at_76_107 (fun hc => nomatch hc) (fun _ => ?_)
                refine ev_go at_76_110 rfl ?_
                refine ev_get at_76_111 h01 rfl ?_
                refine ev_bi (nI 10) at_76_114 (by decide) ?_
                refine ev_go at_76_116 rfl ?_
                refine ev_go at_76_117 rfl ?_
                first | refine ev_top (congrArg Value.int (nI_add _ _)) ?_ | skip
                refine ev_zald at_76_118 h4 (by omega) hvb3 ?_
                refine ev_ifb_eq at_76_119 (fun _ => ?_) (fun hc => nomatch hc)
                refine ev_go at_76_126 rfl ?_
                refine ev_bi (nI 10) at_76_127 (by decide) ?_
                refine ev_go at_76_129 rfl ?_
                refine ev_go at_76_130 rfl ?_
                first | refine ev_top (congrArg Value.int (nI_add _ _)) ?_ | skip
                refine ev_callV (as := [_]) at_76_131 rfl rfl (by simp [mm_wt, Value.category]) rfl h01 hP ?_
                refine ev_ifb_eq at_76_134 (fun _ => ?_) (fun hc => nomatch hc)
                refine ev_ic (nI 5) at_76_141 (by decide) ?_
                refine ev_go at_76_142 rfl ?_
                refine ev_go at_76_143 rfl ?_
                refine ev_get at_76_144 h01 rfl ?_
                refine ev_go at_76_147 rfl ?_
                refine ev_go at_76_148 rfl ?_
                refine ev_if_eq at_76_149 (fun hc => absurd hc (by decide)) (fun _ => ?_)
                refine ev_ic (bI true) at_76_152 (by decide) ?_
                refine ev_go at_76_153 rfl ?_
                refine ev_zast at_76_157 h2 (by omega) (by rw [rng_len]; show b < 6; omega) (by first | exact bI_01 _ | decide) ?_
                refine ev_go at_76_158 rfl ?_
                refine ev_iret at_76_159 (by first | exact Or.inl rfl | exact Or.inr (Or.inl rfl) | exact Or.inr (Or.inr rfl) | exact Or.inr (bI_01 _)) ?_
                rfl
              | true =>
                refine ⟨_, ?_, mf, o1.trans of⟩
                refine mm_cal_of ?_
                refine ev_go at_76_0 rfl ?_
                refine ev_go at_76_1 rfl ?_
                refine ev_go at_76_2 rfl ?_
                refine ev_callV (as := [_]) at_76_3 rfl rfl (by simp [mm_wt, Value.category]) rfl h0 hA ?_
                refine ev_ifb_eq at_76_6 (fun hc => nomatch hc) (fun _ => ?_)
                refine ev_ic (nI 0) at_76_9 (by decide) ?_
                refine ev_go at_76_10 rfl ?_
                refine ev_put at_76_14 h0 (by simp [Mo]) rfl ?_
                rw [hh1]
                refine ev_go at_76_17 rfl ?_
                refine ev_get at_76_18 h01 rfl ?_
                refine ev_if_gt at_76_21 (fun hc => absurd hc (by decide)) (fun _ => ?_)
                refine ev_go at_76_24 rfl ?_
                refine ev_get at_76_25 h01 rfl ?_
                refine ev_go at_76_28 rfl ?_
                refine ev_zald at_76_29 h2 (by omega) hvo ?_
                refine ev_ifb_ne at_76_30 (fun _ => ?_) (fun hc => nomatch hc)
                refine ev_go at_76_46 rfl ?_
                refine ev_get at_76_47 h01 rfl ?_
                refine ev_ic (nI 2) at_76_50 (by decide) ?_
                refine ev_bi (nI 10) at_76_51 (by decide) ?_
                refine ev_go at_76_53 rfl ?_
                refine ev_go at_76_54 rfl ?_
                first | refine ev_top (congrArg Value.int (nI_add _ _)) ?_ | skip
                refine ev_go at_76_55 rfl ?_
                first | refine ev_top (congrArg Value.int (pk_mul _ _)) ?_ | skip
                refine ev_zald at_76_56 h5 (by omega) hvh1 ?_
                refine ev_ifb_eq at_76_57 (fun hc => nomatch hc) (fun _ => ?_)
                refine ev_go at_76_60 rfl ?_
                refine ev_get at_76_61 h01 rfl ?_
                refine ev_ic (nI 2) at_76_64 (by decide) ?_
                refine ev_bi (nI 10) at_76_65 (by decide) ?_
                refine ev_go at_76_67 rfl ?_
                refine ev_go at_76_68 rfl ?_
                first | refine ev_top (congrArg Value.int (nI_add _ _)) ?_ | skip
                refine ev_go at_76_69 rfl ?_
                first | refine ev_top (congrArg Value.int (pk_mul _ _)) ?_ | skip
                refine ev_ic (nI 1) at_76_70 (by decide) ?_
                refine ev_go at_76_71 rfl ?_
                first | refine ev_top (congrArg Value.int (nI_add _ _)) ?_ | skip
                refine ev_zald at_76_72 h5 (by omega) hvh2 ?_
                refine ev_ifb_eq at_76_73 (fun hc => nomatch hc) (fun _ => ?_)
                refine ev_ic (nI 1) at_76_76 (by decide) ?_
                refine ev_go at_76_77 rfl ?_
                refine ev_go at_76_81 rfl ?_
                refine ev_go at_76_82 rfl ?_
                refine ev_if_ne at_76_83 (fun _ => ?_) (fun hc => absurd hc (by decide))
                refine ev_go at_76_90 rfl ?_
                refine ev_get at_76_91 h01 rfl ?_
                refine ev_go at_76_94 rfl ?_
                refine ev_ic (nI 1) at_76_95 (by decide) ?_
                refine ev_go at_76_96 rfl ?_
                refine ev_top (congrArg Value.int (pk_sub (show 1 ≤ b by omega))) ?_
                refine ev_zald at_76_97 h4 (by omega) hvb1 ?_
                refine ev_ifb_ne at_76_98 (fun hc => nomatch hc) (fun _ => ?_)
                refine ev_go at_76_101 rfl ?_
                refine ev_get at_76_102 h01 rfl ?_
                refine ev_go at_76_105 rfl ?_
                refine ev_zald at_76_106 h4 (by omega) hvb2 ?_
                refine ev_ifb_ne at_76_107 (fun hc => nomatch hc) (fun _ => ?_)
                refine ev_go at_76_110 rfl ?_
                refine ev_get at_76_111 h01 rfl ?_
                refine ev_bi (nI 10) at_76_114 (by decide) ?_
                refine ev_go at_76_116 rfl ?_
                refine ev_go at_76_117 rfl ?_
                first | refine ev_top (congrArg Value.int (nI_add _ _)) ?_ | skip
                refine ev_zald at_76_118 h4 (by omega) hvb3 ?_
                refine ev_ifb_eq at_76_119 (fun _ => ?_) (fun hc => nomatch hc)
                refine ev_go at_76_126 rfl ?_
                refine ev_bi (nI 10) at_76_127 (by decide) ?_
                refine ev_go at_76_129 rfl ?_
                refine ev_go at_76_130 rfl ?_
                first | refine ev_top (congrArg Value.int (nI_add _ _)) ?_ | skip
                refine ev_callV (as := [_]) at_76_131 rfl rfl (by simp [mm_wt, Value.category]) rfl h01 hP ?_
                refine ev_ifb_eq at_76_134 (fun hc => nomatch hc) (fun _ => ?_)
                refine ev_ic (nI 0) at_76_137 (by decide) ?_
                refine ev_go at_76_138 rfl ?_
                refine ev_go at_76_142 rfl ?_
                refine ev_go at_76_143 rfl ?_
                refine ev_get at_76_144 h01 rfl ?_
                refine ev_go at_76_147 rfl ?_
                refine ev_go at_76_148 rfl ?_
                refine ev_if_eq at_76_149 (fun _ => ?_) (fun hc => absurd hc (by decide))
                refine ev_ic (bI false) at_76_156 (by decide) ?_
                refine ev_zast at_76_157 h2 (by omega) (by rw [rng_len]; show b < 6; omega) (by first | exact bI_01 _ | decide) ?_
                refine ev_go at_76_158 rfl ?_
                refine ev_iret at_76_159 (by first | exact Or.inl rfl | exact Or.inr (Or.inl rfl) | exact Or.inr (Or.inr rfl) | exact Or.inr (bI_01 _)) ?_
                rfl
end D8
