/-! THE REFERENCE's PUBLIC METHODS (3) -/
section D7
variable {z : mm_Z} {h h' : mm_H} {K : Cf} {a : Nat} {c : Int32} {m : Md}
theorem y_enter0 (d : Nat) (hM : MAt K a h c m) {i u : Int32} (hx : kmB m i = false) : ∃ h', mm_cal z (d + 3) 73 [.ref a, .int i, .int u] h (.returned (some (.int (nI 0))), h') ∧ MAt K a h' (nI 1) m ∧ Off a (a + 12) h h' := by
  have hA := d_isKnown (z := z) (d + 1) hM i
  rw [hx] at hA
  have h0 := hM.2.1
  obtain ⟨m1, o1⟩ := hM.setC (nI 1)
  have h01 := m1.2.1
  refine ⟨_, ?_, m1, o1⟩
  refine mm_cal_of ?_
  refine ev_go at_73_0 rfl ?_
  refine ev_go at_73_1 rfl ?_
  refine ev_go at_73_2 rfl ?_
  refine ev_callV (as := [_]) at_73_3 rfl rfl (by simp [mm_wt, Value.category]) rfl h0 hA ?_
  refine ev_ifb_ne at_73_6 (fun hc => nomatch hc) (fun _ => ?_)
  refine ev_ic (nI 1) at_73_9 (by decide) ?_
  refine ev_go at_73_10 rfl ?_
  refine ev_put at_73_27 h0 (by first | (simp; done) | (simp [Mo]; done)) (by first | rfl | exact fits_b _) ?_
  refine ev_go at_73_30 rfl ?_
  refine ev_get at_73_31 h01 rfl ?_
  refine ev_if_le at_73_34 (fun hc => absurd hc (by decide)) (fun _ => ?_)
  refine ev_ic (nI 0) at_73_37 (by decide) ?_
  refine ev_iret at_73_38 (by first | exact Or.inl rfl | exact Or.inr (Or.inl rfl) | exact Or.inr (Or.inr rfl) | exact Or.inr (bI_01 _)) ?_
  rfl
theorem y_arrive0 (d : Nat) (hM : MAt K a h c m) {i : Int32} (hx : kmB m i = false) : ∃ h', mm_cal z (d + 3) 74 [.ref a, .int i] h (.returned (some (.int (nI 0))), h') ∧ MAt K a h' (nI 1) m ∧ Off a (a + 12) h h' := by
  have hA := d_isKnown (z := z) (d + 1) hM i
  rw [hx] at hA
  have h0 := hM.2.1
  obtain ⟨m1, o1⟩ := hM.setC (nI 1)
  have h01 := m1.2.1
  refine ⟨_, ?_, m1, o1⟩
  refine mm_cal_of ?_
  refine ev_go at_74_0 rfl ?_
  refine ev_go at_74_1 rfl ?_
  refine ev_go at_74_2 rfl ?_
  refine ev_callV (as := [_]) at_74_3 rfl rfl (by simp [mm_wt, Value.category]) rfl h0 hA ?_
  refine ev_ifb_ne at_74_6 (fun hc => nomatch hc) (fun _ => ?_)
  refine ev_ic (nI 1) at_74_9 (by decide) ?_
  refine ev_go at_74_10 rfl ?_
  refine ev_put at_74_27 h0 (by first | (simp; done) | (simp [Mo]; done)) (by first | rfl | exact fits_b _) ?_
  refine ev_go at_74_30 rfl ?_
  refine ev_get at_74_31 h01 rfl ?_
  refine ev_if_le at_74_34 (fun hc => absurd hc (by decide)) (fun _ => ?_)
  refine ev_ic (nI 0) at_74_37 (by decide) ?_
  refine ev_iret at_74_38 (by first | exact Or.inl rfl | exact Or.inr (Or.inl rfl) | exact Or.inr (Or.inr rfl) | exact Or.inr (bI_01 _)) ?_
  rfl
theorem y_enter1 (d : Nat) (hM : MAt K a h c m) {i s : Nat} {u : Int32} (hi : i < 8) (hkn : m.kn i = true) (hin : m.ins i = some s) (hs : s < 100) : ∃ h', mm_cal z (d + 3) 73 [.ref a, .int (nI i), .int u] h (.returned (some (.int (nI 0))), h') ∧ MAt K a h' (nI 2) m ∧ Off a (a + 12) h h' := by
  have hA := d_isKnown (z := z) (d + 1) hM (nI i)
  have hkm : kmB m (nI i) = true := by unfold kmB; rw [tnB_nI hi, nI_clamp (by omega), hkn]; rfl
  rw [hkm] at hA
  have h0 := hM.2.1
  have h11 := hM.a11
  have hv11 := rng_at (n := 8) (fun s => Value.int (oI (m.ins s))) hi
  rw [hin] at hv11
  obtain ⟨m1, o1⟩ := hM.setC (nI 2)
  have h01 := m1.2.1
  refine ⟨_, ?_, m1, o1⟩
  refine mm_cal_of ?_
  refine ev_go at_73_0 rfl ?_
  refine ev_go at_73_1 rfl ?_
  refine ev_go at_73_2 rfl ?_
  refine ev_callV (as := [_]) at_73_3 rfl rfl (by simp [mm_wt, Value.category]) rfl h0 hA ?_
  refine ev_ifb_ne at_73_6 (fun _ => ?_) (fun hc => nomatch hc)
  refine ev_go at_73_13 rfl ?_
  refine ev_get at_73_14 h0 rfl ?_
  refine ev_go at_73_17 rfl ?_
  refine ev_iald at_73_18 h11 (by omega) hv11 ?_
  refine ev_if_lt at_73_19 (fun hc => absurd hc (nI_pos (by omega))) (fun _ => ?_)
  refine ev_ic (nI 2) at_73_22 (by decide) ?_
  refine ev_go at_73_23 rfl ?_
  refine ev_put at_73_27 h0 (by first | (simp; done) | (simp [Mo]; done)) (by first | rfl | exact fits_b _) ?_
  refine ev_go at_73_30 rfl ?_
  refine ev_get at_73_31 h01 rfl ?_
  refine ev_if_le at_73_34 (fun hc => absurd hc (by decide)) (fun _ => ?_)
  refine ev_ic (nI 0) at_73_37 (by decide) ?_
  refine ev_iret at_73_38 (by first | exact Or.inl rfl | exact Or.inr (Or.inl rfl) | exact Or.inr (Or.inr rfl) | exact Or.inr (bI_01 _)) ?_
  rfl
theorem y_arrive1 (d : Nat) (hM : MAt K a h c m) {i : Nat} (hi : i < 8) (hkn : m.kn i = true) (hin : m.ins i = none) : ∃ h', mm_cal z (d + 3) 74 [.ref a, .int (nI i)] h (.returned (some (.int (nI 0))), h') ∧ MAt K a h' (nI 2) m ∧ Off a (a + 12) h h' := by
  have hA := d_isKnown (z := z) (d + 1) hM (nI i)
  have hkm : kmB m (nI i) = true := by unfold kmB; rw [tnB_nI hi, nI_clamp (by omega), hkn]; rfl
  rw [hkm] at hA
  have h0 := hM.2.1
  have h11 := hM.a11
  have hv11 := rng_at (n := 8) (fun s => Value.int (oI (m.ins s))) hi
  rw [hin] at hv11
  obtain ⟨m1, o1⟩ := hM.setC (nI 2)
  have h01 := m1.2.1
  refine ⟨_, ?_, m1, o1⟩
  refine mm_cal_of ?_
  refine ev_go at_74_0 rfl ?_
  refine ev_go at_74_1 rfl ?_
  refine ev_go at_74_2 rfl ?_
  refine ev_callV (as := [_]) at_74_3 rfl rfl (by simp [mm_wt, Value.category]) rfl h0 hA ?_
  refine ev_ifb_ne at_74_6 (fun _ => ?_) (fun hc => nomatch hc)
  refine ev_go at_74_13 rfl ?_
  refine ev_get at_74_14 h0 rfl ?_
  refine ev_go at_74_17 rfl ?_
  refine ev_iald at_74_18 h11 (by omega) hv11 ?_
  refine ev_if_ge at_74_19 (fun hc => absurd hc (show ¬ (0 : Int32) ≤ -1 by decide)) (fun _ => ?_)
  refine ev_ic (nI 2) at_74_22 (by decide) ?_
  refine ev_go at_74_23 rfl ?_
  refine ev_put at_74_27 h0 (by first | (simp; done) | (simp [Mo]; done)) (by first | rfl | exact fits_b _) ?_
  refine ev_go at_74_30 rfl ?_
  refine ev_get at_74_31 h01 rfl ?_
  refine ev_if_le at_74_34 (fun hc => absurd hc (by decide)) (fun _ => ?_)
  refine ev_ic (nI 0) at_74_37 (by decide) ?_
  refine ev_iret at_74_38 (by first | exact Or.inl rfl | exact Or.inr (Or.inl rfl) | exact Or.inr (Or.inr rfl) | exact Or.inr (bI_01 _)) ?_
  rfl
theorem e_arrive (d : Nat) (hM : MAt K a h c m) {i s : Nat} (hi : i < 8) (hkn : m.kn i = true) (hin : m.ins i = some s) (hs : K.ex s = true) (e : Bool) (hbx : m.bx i = eb s e) : ∃ h', mm_cal z (d + 3) 74 [.ref a, .int (nI i)] h (.returned (some (.int (nI (eb s (!e))))), h') ∧ MAt K a h' (nI 0) ((m.sBx i (eb s (!e))).sIn i none) ∧ Off a (a + 12) h h' := by
  have hA := d_isKnown (z := z) (d + 1) hM (nI i)
  have hkm : kmB m (nI i) = true := by unfold kmB; rw [tnB_nI hi, nI_clamp (by omega), hkn]; rfl
  rw [hkm] at hA
  have h0 := hM.2.1
  have h11 := hM.a11
  have hv11 := rng_at (n := 8) (fun s => Value.int (oI (m.ins s))) hi
  have hK := hM.1
  obtain ⟨n1, n2, n3, n4, -⟩ := Cf.no hK hs
  have h15 := n1.1
  have hn6 := hK.2.1
  rw [hin] at hv11
  obtain ⟨m1, o1⟩ := hM.setC (nI 0)
  generalize hh1 : mm_upd h a 2 (.int (nI 0)) = h1 at m1 o1
  have h01 := m1.2.1
  have h11' := m1.a11
  have h10 := m1.a10
  have hv10 := rng_at (n := 8) (fun s => Value.int (nI (m.bx s))) hi
  rw [hbx] at hv10
  have hL := d_lower (z := z) (h := h1) (d + 1) hK hs
  have hU := d_upper (z := z) (h := h1) (d + 1) hK hs
  obtain ⟨m2, o2⟩ := m1.sBx i (eb s (!e))
  have h02 := m2.2.1
  have h11'' := m2.a11
  obtain ⟨m3, o3⟩ := m2.sIn i none
  have h03 := m3.2.1
  have h10' := m3.a10
  have hv10' := rng_at (n := 8) (fun j => Value.int (nI (upf m.bx i (eb s (!e)) j))) hi
  rw [upf_at] at hv10'
  refine ⟨_, ?_, m3, (o1.trans o2).trans o3⟩
  refine mm_cal_of ?_
  cases e
  · skip
    refine ev_go at_74_0 rfl ?_
    refine ev_go at_74_1 rfl ?_
    refine ev_go at_74_2 rfl ?_
    refine ev_callV (as := [_]) at_74_3 rfl rfl (by simp [mm_wt, Value.category]) rfl h0 hA ?_
    refine ev_ifb_ne at_74_6 (fun _ => ?_) (fun hc => nomatch hc)
    refine ev_go at_74_13 rfl ?_
    refine ev_get at_74_14 h0 rfl ?_
    refine ev_go at_74_17 rfl ?_
    refine ev_iald at_74_18 h11 (by omega) hv11 ?_
    refine ev_if_ge at_74_19 (fun _ => ?_) (fun hc => absurd (nI_pos' (by omega)) hc)
    refine ev_ic (nI 0) at_74_26 (by decide) ?_
    refine ev_put at_74_27 h0 (by simp [Mo]) rfl ?_
    rw [hh1]
    refine ev_go at_74_30 rfl ?_
    refine ev_get at_74_31 h01 rfl ?_
    refine ev_if_le at_74_34 (fun _ => ?_) (fun hc => absurd hc (by decide))
    refine ev_go at_74_39 rfl ?_
    refine ev_get at_74_40 h01 rfl ?_
    refine ev_go at_74_43 rfl ?_
    refine ev_iald at_74_44 h11' (by omega) hv11 ?_
    refine ev_go at_74_45 rfl ?_
    refine ev_go at_74_46 rfl ?_
    refine ev_get at_74_47 h01 rfl ?_
    refine ev_go at_74_50 rfl ?_
    refine ev_go at_74_51 rfl ?_
    refine ev_get at_74_52 h01 rfl ?_
    refine ev_go at_74_55 rfl ?_
    refine ev_iald at_74_56 h10 (by omega) hv10 ?_
    refine ev_go at_74_57 rfl ?_
    refine ev_top (show Value.int (oI (some s)) = Value.int (nI s) from rfl) ?_
    refine ev_callS (as := [_]) at_74_58 (by decide) rfl rfl (by simp [mm_wt, Value.category]) rfl hL ?_
    refine ev_icmp_ne at_74_61 (fun hc => absurd rfl hc) (fun _ => ?_)
    refine ev_go at_74_64 rfl ?_
    refine ev_top (show Value.int (oI (some s)) = Value.int (nI s) from rfl) ?_
    refine ev_callS (as := [_]) at_74_65 (by decide) rfl rfl (by simp [mm_wt, Value.category]) rfl hU ?_
    refine ev_go at_74_68 rfl ?_
    refine ev_iast at_74_75 h10 (by omega) (by rw [rng_len]; exact hi) ?_
    refine ev_go at_74_76 rfl ?_
    refine ev_get at_74_77 h02 rfl ?_
    refine ev_go at_74_80 rfl ?_
    refine ev_ic (-1) at_74_81 (by decide) ?_
    refine ev_iast at_74_82 h11'' (by omega) (by rw [rng_len]; exact hi) ?_
    refine ev_go at_74_83 rfl ?_
    refine ev_get at_74_84 h03 rfl ?_
    refine ev_go at_74_87 rfl ?_
    refine ev_iald at_74_88 h10' (by omega) hv10' ?_
    refine ev_iret at_74_89 (by first | exact Or.inl rfl | exact Or.inr (Or.inl rfl) | exact Or.inr (Or.inr rfl) | exact Or.inr (bI_01 _)) ?_
    rfl
  · skip
    refine ev_go at_74_0 rfl ?_
    refine ev_go at_74_1 rfl ?_
    refine ev_go at_74_2 rfl ?_
    refine ev_callV (as := [_]) at_74_3 rfl rfl (by simp [mm_wt, Value.category]) rfl h0 hA ?_
    refine ev_ifb_ne at_74_6 (fun _ => ?_) (fun hc => nomatch hc)
    refine ev_go at_74_13 rfl ?_
    refine ev_get at_74_14 h0 rfl ?_
    refine ev_go at_74_17 rfl ?_
    refine ev_iald at_74_18 h11 (by omega) hv11 ?_
    refine ev_if_ge at_74_19 (fun _ => ?_) (fun hc => absurd (nI_pos' (by omega)) hc)
    refine ev_ic (nI 0) at_74_26 (by decide) ?_
    refine ev_put at_74_27 h0 (by simp [Mo]) rfl ?_
    rw [hh1]
    refine ev_go at_74_30 rfl ?_
    refine ev_get at_74_31 h01 rfl ?_
    refine ev_if_le at_74_34 (fun _ => ?_) (fun hc => absurd hc (by decide))
    refine ev_go at_74_39 rfl ?_
    refine ev_get at_74_40 h01 rfl ?_
    refine ev_go at_74_43 rfl ?_
    refine ev_iald at_74_44 h11' (by omega) hv11 ?_
    refine ev_go at_74_45 rfl ?_
    refine ev_go at_74_46 rfl ?_
    refine ev_get at_74_47 h01 rfl ?_
    refine ev_go at_74_50 rfl ?_
    refine ev_go at_74_51 rfl ?_
    refine ev_get at_74_52 h01 rfl ?_
    refine ev_go at_74_55 rfl ?_
    refine ev_iald at_74_56 h10 (by omega) hv10 ?_
    refine ev_go at_74_57 rfl ?_
    refine ev_top (show Value.int (oI (some s)) = Value.int (nI s) from rfl) ?_
    refine ev_callS (as := [_]) at_74_58 (by decide) rfl rfl (by simp [mm_wt, Value.category]) rfl hL ?_
    refine ev_icmp_ne at_74_61 (fun _ => ?_) (fun hc => absurd hc (fun q => by have q2 : up s = lo s := (nI_eq (by omega) (by omega)).mp q; omega))
    refine ev_go at_74_71 rfl ?_
    refine ev_top (show Value.int (oI (some s)) = Value.int (nI s) from rfl) ?_
    refine ev_callS (as := [_]) at_74_72 (by decide) rfl rfl (by simp [mm_wt, Value.category]) rfl hL ?_
    refine ev_iast at_74_75 h10 (by omega) (by rw [rng_len]; exact hi) ?_
    refine ev_go at_74_76 rfl ?_
    refine ev_get at_74_77 h02 rfl ?_
    refine ev_go at_74_80 rfl ?_
    refine ev_ic (-1) at_74_81 (by decide) ?_
    refine ev_iast at_74_82 h11'' (by omega) (by rw [rng_len]; exact hi) ?_
    refine ev_go at_74_83 rfl ?_
    refine ev_get at_74_84 h03 rfl ?_
    refine ev_go at_74_87 rfl ?_
    refine ev_iald at_74_88 h10' (by omega) hv10' ?_
    refine ev_iret at_74_89 (by first | exact Or.inl rfl | exact Or.inr (Or.inl rfl) | exact Or.inr (Or.inr rfl) | exact Or.inr (bI_01 _)) ?_
    rfl
theorem y_enter2 (d : Nat) (hM : MAt K a h c m) {i b : Nat} {u : Bool} (hi : i < 8) (hkn : m.kn i = true) (hin : m.ins i = none) (hb : m.bx i = b) (hbn : b < K.n) (hu : if u then K.n ≤ b + 1 else b = 0) : ∃ h', mm_cal z (d + 3) 73 [.ref a, .int (nI i), .int (bI u)] h (.returned (some (.int (nI 0))), h') ∧ MAt K a h' (nI 3) m ∧ Off a (a + 12) h h' := by
  have hA := d_isKnown (z := z) (d + 1) hM (nI i)
  have hkm : kmB m (nI i) = true := by unfold kmB; rw [tnB_nI hi, nI_clamp (by omega), hkn]; rfl
  rw [hkm] at hA
  have h0 := hM.2.1
  have h11 := hM.a11
  have hv11 := rng_at (n := 8) (fun s => Value.int (oI (m.ins s))) hi
  have hn6 := hM.1.2.1
  rw [hin] at hv11
  obtain ⟨m1, o1⟩ := hM.setC (nI 0)
  generalize hh1 : mm_upd h a 2 (.int (nI 0)) = h1 at m1 o1
  have h01 := m1.2.1
  have h10 := m1.a10
  have hv10 := rng_at (n := 8) (fun s => Value.int (nI (m.bx s))) hi
  rw [hb] at hv10
  obtain ⟨m2, o2⟩ := m1.setC (nI 3)
  have h02 := m2.2.1
  refine ⟨_, ?_, m2, o1.trans o2⟩
  refine mm_cal_of ?_
  cases u
  · change b = 0 at hu
    subst hu
    have hX := d_isBox (z := z) (d + 1) m1 (-1)
    have hf : bxB K.n (-1) = false := by unfold bxB; rw [decide_eq_false (by decide : ¬ ¬ (-1 : Int32) < 0)]; rfl
    rw [hf] at hX
    refine ev_go at_73_0 rfl ?_
    refine ev_go at_73_1 rfl ?_
    refine ev_go at_73_2 rfl ?_
    refine ev_callV (as := [_]) at_73_3 rfl rfl (by simp [mm_wt, Value.category]) rfl h0 hA ?_
    refine ev_ifb_ne at_73_6 (fun _ => ?_) (fun hc => nomatch hc)
    refine ev_go at_73_13 rfl ?_
    refine ev_get at_73_14 h0 rfl ?_
    refine ev_go at_73_17 rfl ?_
    refine ev_iald at_73_18 h11 (by omega) hv11 ?_
    refine ev_if_lt at_73_19 (fun _ => ?_) (fun hc => absurd (show (-1 : Int32) < 0 by decide) hc)
    refine ev_ic (nI 0) at_73_26 (by decide) ?_
    refine ev_put at_73_27 h0 (by simp [Mo]) rfl ?_
    rw [hh1]
    refine ev_go at_73_30 rfl ?_
    refine ev_get at_73_31 h01 rfl ?_
    refine ev_if_le at_73_34 (fun _ => ?_) (fun hc => absurd hc (by decide))
    refine ev_go at_73_39 rfl ?_
    refine ev_get at_73_40 h01 rfl ?_
    refine ev_go at_73_43 rfl ?_
    refine ev_iald at_73_44 h10 (by omega) hv10 ?_
    refine ev_go at_73_45 rfl ?_
    refine ev_go at_73_46 rfl ?_
    refine ev_ifb_eq at_73_47 (fun _ => ?_) (fun hc => nomatch hc)
    refine ev_go at_73_56 rfl ?_
    refine ev_ic (nI 1) at_73_57 (by decide) ?_
    refine ev_go at_73_58 rfl ?_
    refine ev_top (congrArg Value.int (show nI 0 - nI 1 = -1 by decide)) ?_
    refine ev_go at_73_59 rfl ?_
    refine ev_go at_73_61 rfl ?_
    refine ev_go at_73_62 rfl ?_
    refine ev_go at_73_63 rfl ?_
    refine ev_callV (as := [_]) at_73_65 rfl rfl (by simp [mm_wt, Value.category]) rfl h01 hX ?_
    refine ev_ifb_eq at_73_68 (fun _ => ?_) (fun hc => nomatch hc)
    refine ev_ic (nI 3) at_73_75 (by decide) ?_
    refine ev_put at_73_76 h01 (by first | (simp; done) | (simp [Mo]; done)) (by first | rfl | exact fits_b _) ?_
    refine ev_go at_73_79 rfl ?_
    refine ev_get at_73_80 h02 rfl ?_
    refine ev_if_le at_73_83 (fun hc => absurd hc (by decide)) (fun _ => ?_)
    refine ev_ic (nI 0) at_73_86 (by decide) ?_
    refine ev_iret at_73_87 (by first | exact Or.inl rfl | exact Or.inr (Or.inl rfl) | exact Or.inr (Or.inr rfl) | exact Or.inr (bI_01 _)) ?_
    rfl
  · change K.n ≤ b + 1 at hu
    have hX := d_isBox (z := z) (d + 1) m1 (nI (b + 1))
    rw [bxB_nI (by omega) (by omega), decide_eq_false (by omega)] at hX
    refine ev_go at_73_0 rfl ?_
    refine ev_go at_73_1 rfl ?_
    refine ev_go at_73_2 rfl ?_
    refine ev_callV (as := [_]) at_73_3 rfl rfl (by simp [mm_wt, Value.category]) rfl h0 hA ?_
    refine ev_ifb_ne at_73_6 (fun _ => ?_) (fun hc => nomatch hc)
    refine ev_go at_73_13 rfl ?_
    refine ev_get at_73_14 h0 rfl ?_
    refine ev_go at_73_17 rfl ?_
    refine ev_iald at_73_18 h11 (by omega) hv11 ?_
    refine ev_if_lt at_73_19 (fun _ => ?_) (fun hc => absurd (show (-1 : Int32) < 0 by decide) hc)
    refine ev_ic (nI 0) at_73_26 (by decide) ?_
    refine ev_put at_73_27 h0 (by simp [Mo]) rfl ?_
    rw [hh1]
    refine ev_go at_73_30 rfl ?_
    refine ev_get at_73_31 h01 rfl ?_
    refine ev_if_le at_73_34 (fun _ => ?_) (fun hc => absurd hc (by decide))
    refine ev_go at_73_39 rfl ?_
    refine ev_get at_73_40 h01 rfl ?_
    refine ev_go at_73_43 rfl ?_
    refine ev_iald at_73_44 h10 (by omega) hv10 ?_
    refine ev_go at_73_45 rfl ?_
    refine ev_go at_73_46 rfl ?_
    refine ev_ifb_eq at_73_47 (fun hc => nomatch hc) (fun _ => ?_)
    refine ev_go at_73_50 rfl ?_
    refine ev_ic (nI 1) at_73_51 (by decide) ?_
    refine ev_go at_73_52 rfl ?_
    first | refine ev_top (congrArg Value.int (nI_add _ _)) ?_ | skip
    refine ev_go at_73_53 rfl ?_
    refine ev_go at_73_59 rfl ?_
    refine ev_go at_73_61 rfl ?_
    refine ev_go at_73_62 rfl ?_
    refine ev_go at_73_63 rfl ?_
    refine ev_callV (as := [_]) at_73_65 rfl rfl (by simp [mm_wt, Value.category]) rfl h01 hX ?_
    refine ev_ifb_eq at_73_68 (fun _ => ?_) (fun hc => nomatch hc)
    refine ev_ic (nI 3) at_73_75 (by decide) ?_
    refine ev_put at_73_76 h01 (by first | (simp; done) | (simp [Mo]; done)) (by first | rfl | exact fits_b _) ?_
    refine ev_go at_73_79 rfl ?_
    refine ev_get at_73_80 h02 rfl ?_
    refine ev_if_le at_73_83 (fun hc => absurd hc (by decide)) (fun _ => ?_)
    refine ev_ic (nI 0) at_73_86 (by decide) ?_
    refine ev_iret at_73_87 (by first | exact Or.inl rfl | exact Or.inr (Or.inl rfl) | exact Or.inr (Or.inr rfl) | exact Or.inr (bI_01 _)) ?_
    rfl
theorem y_enter3 (d : Nat) (hM : MAt K a h c m) (hB : MB m) {i b nb s : Nat} {u : Bool} (hi : i < 8) (hkn : m.kn i = true) (hin : m.ins i = none) (hb : m.bx i = b) (hbn : b < K.n) (hu : if u then nb = b + 1 else b = nb + 1) (hnb : nb < K.n) (hs : s = if m.io nb then 10 + nb else if u then b else nb) {tab : Option Nat} (hab : Ab m i tab) (hab2 : ∀ k, tab = some k → k < 120) (hx : ∀ k, tab = some k → k / 8 ≠ s) : ∃ h', mm_cal z (d + 3) 73 [.ref a, .int (nI i), .int (bI u)] h (.returned (some (.int (nI 0))), h') ∧ MAt K a h' (nI 4) m ∧ Off a (a + 12) h h' := by
  have hA := d_isKnown (z := z) (d + 1) hM (nI i)
  have hkm : kmB m (nI i) = true := by unfold kmB; rw [tnB_nI hi, nI_clamp (by omega), hkn]; rfl
  rw [hkm] at hA
  have h0 := hM.2.1
  have h11 := hM.a11
  have hv11 := rng_at (n := 8) (fun s => Value.int (oI (m.ins s))) hi
  have hn6 := hM.1.2.1
  rw [hin] at hv11
  obtain ⟨m1, o1⟩ := hM.setC (nI 0)
  generalize hh1 : mm_upd h a 2 (.int (nI 0)) = h1 at m1 o1
  have h01 := m1.2.1
  have h10 := m1.a10
  have hv10 := rng_at (n := 8) (fun s => Value.int (nI (m.bx s))) hi
  rw [hb] at hv10
  have hX := d_isBox (z := z) (d + 1) m1 (nI nb)
  rw [bxB_nI (by omega) (by omega), decide_eq_true hnb] at hX
  obtain ⟨m2, o2⟩ := m1.setC (nI 0)
  generalize hh2 : mm_upd h1 a 2 (.int (nI 0)) = h2 at m2 o2
  have h02 := m2.2.1
  have h2' := m2.a2
  have hv2 := rng_at (n := 6) (fun s => Value.int (bI (m.io s))) (show nb < 6 by omega)
  have hC := d_aboard (z := z) (d + 1) m2 hB hi hab hab2
  obtain ⟨m3, o3⟩ := m2.setC (nI 4)
  have h03 := m3.2.1
  refine ⟨_, ?_, m3, (o1.trans o2).trans o3⟩
  refine mm_cal_of ?_
  cases u
  · change b = nb + 1 at hu
    subst hu
    cases hio : m.io nb
    · rw [hio] at hv2 hs
      change s = nb at hs
      subst hs
      cases htab : tab with
      | none =>
        rw [htab] at hC
        refine ev_go at_73_0 rfl ?_
        refine ev_go at_73_1 rfl ?_
        refine ev_go at_73_2 rfl ?_
        refine ev_callV (as := [_]) at_73_3 rfl rfl (by simp [mm_wt, Value.category]) rfl h0 hA ?_
        refine ev_ifb_ne at_73_6 (fun _ => ?_) (fun hc => nomatch hc)
        refine ev_go at_73_13 rfl ?_
        refine ev_get at_73_14 h0 rfl ?_
        refine ev_go at_73_17 rfl ?_
        refine ev_iald at_73_18 h11 (by omega) hv11 ?_
        refine ev_if_lt at_73_19 (fun _ => ?_) (fun hc => absurd (show (-1 : Int32) < 0 by decide) hc)
        refine ev_ic (nI 0) at_73_26 (by decide) ?_
        refine ev_put at_73_27 h0 (by simp [Mo]) rfl ?_
        rw [hh1]
        refine ev_go at_73_30 rfl ?_
        refine ev_get at_73_31 h01 rfl ?_
        refine ev_if_le at_73_34 (fun _ => ?_) (fun hc => absurd hc (by decide))
        refine ev_go at_73_39 rfl ?_
        refine ev_get at_73_40 h01 rfl ?_
        refine ev_go at_73_43 rfl ?_
        refine ev_iald at_73_44 h10 (by omega) hv10 ?_
        refine ev_go at_73_45 rfl ?_
        refine ev_go at_73_46 rfl ?_
        refine ev_ifb_eq at_73_47 (fun _ => ?_) (fun hc => nomatch hc)
        refine ev_go at_73_56 rfl ?_
        refine ev_ic (nI 1) at_73_57 (by decide) ?_
        refine ev_go at_73_58 rfl ?_
        refine ev_top (congrArg Value.int (show nI (s + 1) - nI 1 = nI s by rw [pk_sub (by omega)]; rfl)) ?_
        refine ev_go at_73_59 rfl ?_
        refine ev_go at_73_61 rfl ?_
        refine ev_go at_73_62 rfl ?_
        refine ev_go at_73_63 rfl ?_
        refine ev_callV (as := [_]) at_73_65 rfl rfl (by simp [mm_wt, Value.category]) rfl h01 hX ?_
        refine ev_ifb_eq at_73_68 (fun hc => nomatch hc) (fun _ => ?_)
        refine ev_ic (nI 0) at_73_71 (by decide) ?_
        refine ev_go at_73_72 rfl ?_
        refine ev_put at_73_76 h01 (by simp [Mo]) rfl ?_
        rw [hh2]
        refine ev_go at_73_79 rfl ?_
        refine ev_get at_73_80 h02 rfl ?_
        refine ev_if_le at_73_83 (fun _ => ?_) (fun hc => absurd hc (by decide))
        refine ev_go at_73_88 rfl ?_
        refine ev_get at_73_89 h02 rfl ?_
        refine ev_go at_73_92 rfl ?_
        refine ev_zald at_73_94 h2' (by omega) hv2 ?_
        refine ev_ifb_eq at_73_95 (fun _ => ?_) (fun hc => nomatch hc)
        refine ev_go at_73_106 rfl ?_
        refine ev_ifb_eq at_73_107 (fun _ => ?_) (fun hc => nomatch hc)
        refine ev_go at_73_114 rfl ?_
        refine ev_go at_73_116 rfl ?_
        refine ev_go at_73_118 rfl ?_
        refine ev_go at_73_119 rfl ?_
        refine ev_callV (as := [_]) at_73_120 rfl rfl (by simp [mm_wt, Value.category]) rfl h02 hC ?_
        refine ev_go at_73_123 rfl ?_
        refine ev_go at_73_125 rfl ?_
        refine ev_go at_73_126 rfl ?_
        refine ev_if_lt at_73_128 (fun _ => ?_) (fun hc => absurd (show (-1 : Int32) < 0 by decide) hc)
        refine ev_ic (nI 4) at_73_141 (by decide) ?_
        refine ev_go at_73_142 rfl ?_
        refine ev_put at_73_146 h02 (by first | (simp; done) | (simp [Mo]; done)) (by first | rfl | exact fits_b _) ?_
        refine ev_go at_73_149 rfl ?_
        refine ev_get at_73_150 h03 rfl ?_
        refine ev_if_le at_73_153 (fun hc => absurd hc (by decide)) (fun _ => ?_)
        refine ev_ic (nI 0) at_73_156 (by decide) ?_
        refine ev_iret at_73_157 (by first | exact Or.inl rfl | exact Or.inr (Or.inl rfl) | exact Or.inr (Or.inr rfl) | exact Or.inr (bI_01 _)) ?_
        rfl
      | some y =>
        rw [htab] at hC
        have hy := hab2 y htab
        have hy2 := hx y htab
        refine ev_go at_73_0 rfl ?_
        refine ev_go at_73_1 rfl ?_
        refine ev_go at_73_2 rfl ?_
        refine ev_callV (as := [_]) at_73_3 rfl rfl (by simp [mm_wt, Value.category]) rfl h0 hA ?_
        refine ev_ifb_ne at_73_6 (fun _ => ?_) (fun hc => nomatch hc)
        refine ev_go at_73_13 rfl ?_
        refine ev_get at_73_14 h0 rfl ?_
        refine ev_go at_73_17 rfl ?_
        refine ev_iald at_73_18 h11 (by omega) hv11 ?_
        refine ev_if_lt at_73_19 (fun _ => ?_) (fun hc => absurd (show (-1 : Int32) < 0 by decide) hc)
        refine ev_ic (nI 0) at_73_26 (by decide) ?_
        refine ev_put at_73_27 h0 (by simp [Mo]) rfl ?_
        rw [hh1]
        refine ev_go at_73_30 rfl ?_
        refine ev_get at_73_31 h01 rfl ?_
        refine ev_if_le at_73_34 (fun _ => ?_) (fun hc => absurd hc (by decide))
        refine ev_go at_73_39 rfl ?_
        refine ev_get at_73_40 h01 rfl ?_
        refine ev_go at_73_43 rfl ?_
        refine ev_iald at_73_44 h10 (by omega) hv10 ?_
        refine ev_go at_73_45 rfl ?_
        refine ev_go at_73_46 rfl ?_
        refine ev_ifb_eq at_73_47 (fun _ => ?_) (fun hc => nomatch hc)
        refine ev_go at_73_56 rfl ?_
        refine ev_ic (nI 1) at_73_57 (by decide) ?_
        refine ev_go at_73_58 rfl ?_
        refine ev_top (congrArg Value.int (show nI (s + 1) - nI 1 = nI s by rw [pk_sub (by omega)]; rfl)) ?_
        refine ev_go at_73_59 rfl ?_
        refine ev_go at_73_61 rfl ?_
        refine ev_go at_73_62 rfl ?_
        refine ev_go at_73_63 rfl ?_
        refine ev_callV (as := [_]) at_73_65 rfl rfl (by simp [mm_wt, Value.category]) rfl h01 hX ?_
        refine ev_ifb_eq at_73_68 (fun hc => nomatch hc) (fun _ => ?_)
        refine ev_ic (nI 0) at_73_71 (by decide) ?_
        refine ev_go at_73_72 rfl ?_
        refine ev_put at_73_76 h01 (by simp [Mo]) rfl ?_
        rw [hh2]
        refine ev_go at_73_79 rfl ?_
        refine ev_get at_73_80 h02 rfl ?_
        refine ev_if_le at_73_83 (fun _ => ?_) (fun hc => absurd hc (by decide))
        refine ev_go at_73_88 rfl ?_
        refine ev_get at_73_89 h02 rfl ?_
        refine ev_go at_73_92 rfl ?_
        refine ev_zald at_73_94 h2' (by omega) hv2 ?_
        refine ev_ifb_eq at_73_95 (fun _ => ?_) (fun hc => nomatch hc)
        refine ev_go at_73_106 rfl ?_
        refine ev_ifb_eq at_73_107 (fun _ => ?_) (fun hc => nomatch hc)
        refine ev_go at_73_114 rfl ?_
        refine ev_go at_73_116 rfl ?_
        refine ev_go at_73_118 rfl ?_
        refine ev_go at_73_119 rfl ?_
        refine ev_callV (as := [_]) at_73_120 rfl rfl (by simp [mm_wt, Value.category]) rfl h02 hC ?_
        refine ev_go at_73_123 rfl ?_
        refine ev_go at_73_125 rfl ?_
        refine ev_go at_73_126 rfl ?_
        refine ev_if_lt at_73_128 (fun hc => absurd hc (nI_pos (by omega))) (fun _ => ?_)
        refine ev_go at_73_131 rfl ?_
        refine ev_top (show Value.int (oI (some y)) = Value.int (nI y) from rfl) ?_
        refine ev_bi (nI 8) at_73_133 (by decide) ?_
        refine ev_idiv at_73_135 (by decide) ?_
        first | refine ev_top (congrArg Value.int (pk_div (by omega) (by omega) (by omega))) ?_ | skip
        refine ev_go at_73_136 rfl ?_
        refine ev_icmp_eq at_73_138 (fun hc => absurd hc (ni_ne (by omega) (by omega) hy2)) (fun _ => ?_)
        refine ev_ic (nI 4) at_73_141 (by decide) ?_
        refine ev_go at_73_142 rfl ?_
        refine ev_put at_73_146 h02 (by first | (simp; done) | (simp [Mo]; done)) (by first | rfl | exact fits_b _) ?_
        refine ev_go at_73_149 rfl ?_
        refine ev_get at_73_150 h03 rfl ?_
        refine ev_if_le at_73_153 (fun hc => absurd hc (by decide)) (fun _ => ?_)
        refine ev_ic (nI 0) at_73_156 (by decide) ?_
        refine ev_iret at_73_157 (by first | exact Or.inl rfl | exact Or.inr (Or.inl rfl) | exact Or.inr (Or.inr rfl) | exact Or.inr (bI_01 _)) ?_
        rfl
    · rw [hio] at hv2 hs
      change s = 10 + nb at hs
      subst hs
      cases htab : tab with
      | none =>
        rw [htab] at hC
        refine ev_go at_73_0 rfl ?_
        refine ev_go at_73_1 rfl ?_
        refine ev_go at_73_2 rfl ?_
        refine ev_callV (as := [_]) at_73_3 rfl rfl (by simp [mm_wt, Value.category]) rfl h0 hA ?_
        refine ev_ifb_ne at_73_6 (fun _ => ?_) (fun hc => nomatch hc)
        refine ev_go at_73_13 rfl ?_
        refine ev_get at_73_14 h0 rfl ?_
        refine ev_go at_73_17 rfl ?_
        refine ev_iald at_73_18 h11 (by omega) hv11 ?_
        refine ev_if_lt at_73_19 (fun _ => ?_) (fun hc => absurd (show (-1 : Int32) < 0 by decide) hc)
        refine ev_ic (nI 0) at_73_26 (by decide) ?_
        refine ev_put at_73_27 h0 (by simp [Mo]) rfl ?_
        rw [hh1]
        refine ev_go at_73_30 rfl ?_
        refine ev_get at_73_31 h01 rfl ?_
        refine ev_if_le at_73_34 (fun _ => ?_) (fun hc => absurd hc (by decide))
        refine ev_go at_73_39 rfl ?_
        refine ev_get at_73_40 h01 rfl ?_
        refine ev_go at_73_43 rfl ?_
        refine ev_iald at_73_44 h10 (by omega) hv10 ?_
        refine ev_go at_73_45 rfl ?_
        refine ev_go at_73_46 rfl ?_
        refine ev_ifb_eq at_73_47 (fun _ => ?_) (fun hc => nomatch hc)
        refine ev_go at_73_56 rfl ?_
        refine ev_ic (nI 1) at_73_57 (by decide) ?_
        refine ev_go at_73_58 rfl ?_
        refine ev_top (congrArg Value.int (show nI (nb + 1) - nI 1 = nI nb by rw [pk_sub (by omega)]; rfl)) ?_
        refine ev_go at_73_59 rfl ?_
        refine ev_go at_73_61 rfl ?_
        refine ev_go at_73_62 rfl ?_
        refine ev_go at_73_63 rfl ?_
        refine ev_callV (as := [_]) at_73_65 rfl rfl (by simp [mm_wt, Value.category]) rfl h01 hX ?_
        refine ev_ifb_eq at_73_68 (fun hc => nomatch hc) (fun _ => ?_)
        refine ev_ic (nI 0) at_73_71 (by decide) ?_
        refine ev_go at_73_72 rfl ?_
        refine ev_put at_73_76 h01 (by simp [Mo]) rfl ?_
        rw [hh2]
        refine ev_go at_73_79 rfl ?_
        refine ev_get at_73_80 h02 rfl ?_
        refine ev_if_le at_73_83 (fun _ => ?_) (fun hc => absurd hc (by decide))
        refine ev_go at_73_88 rfl ?_
        refine ev_get at_73_89 h02 rfl ?_
        refine ev_go at_73_92 rfl ?_
        refine ev_zald at_73_94 h2' (by omega) hv2 ?_
        refine ev_ifb_eq at_73_95 (fun hc => nomatch hc) (fun _ => ?_)
        refine ev_bi (nI 10) at_73_98 (by decide) ?_
        refine ev_go at_73_100 rfl ?_
        refine ev_go at_73_102 rfl ?_
        first | refine ev_top (congrArg Value.int (nI_add _ _)) ?_ | skip
        refine ev_go at_73_103 rfl ?_
        refine ev_go at_73_116 rfl ?_
        refine ev_go at_73_118 rfl ?_
        refine ev_go at_73_119 rfl ?_
        refine ev_callV (as := [_]) at_73_120 rfl rfl (by simp [mm_wt, Value.category]) rfl h02 hC ?_
        refine ev_go at_73_123 rfl ?_
        refine ev_go at_73_125 rfl ?_
        refine ev_go at_73_126 rfl ?_
        refine ev_if_lt at_73_128 (fun _ => ?_) (fun hc => absurd (show (-1 : Int32) < 0 by decide) hc)
        refine ev_ic (nI 4) at_73_141 (by decide) ?_
        refine ev_go at_73_142 rfl ?_
        refine ev_put at_73_146 h02 (by first | (simp; done) | (simp [Mo]; done)) (by first | rfl | exact fits_b _) ?_
        refine ev_go at_73_149 rfl ?_
        refine ev_get at_73_150 h03 rfl ?_
        refine ev_if_le at_73_153 (fun hc => absurd hc (by decide)) (fun _ => ?_)
        refine ev_ic (nI 0) at_73_156 (by decide) ?_
        refine ev_iret at_73_157 (by first | exact Or.inl rfl | exact Or.inr (Or.inl rfl) | exact Or.inr (Or.inr rfl) | exact Or.inr (bI_01 _)) ?_
        rfl
      | some y =>
        rw [htab] at hC
        have hy := hab2 y htab
        have hy2 := hx y htab
        refine ev_go at_73_0 rfl ?_
        refine ev_go at_73_1 rfl ?_
        refine ev_go at_73_2 rfl ?_
        refine ev_callV (as := [_]) at_73_3 rfl rfl (by simp [mm_wt, Value.category]) rfl h0 hA ?_
        refine ev_ifb_ne at_73_6 (fun _ => ?_) (fun hc => nomatch hc)
        refine ev_go at_73_13 rfl ?_
        refine ev_get at_73_14 h0 rfl ?_
        refine ev_go at_73_17 rfl ?_
        refine ev_iald at_73_18 h11 (by omega) hv11 ?_
        refine ev_if_lt at_73_19 (fun _ => ?_) (fun hc => absurd (show (-1 : Int32) < 0 by decide) hc)
        refine ev_ic (nI 0) at_73_26 (by decide) ?_
        refine ev_put at_73_27 h0 (by simp [Mo]) rfl ?_
        rw [hh1]
        refine ev_go at_73_30 rfl ?_
        refine ev_get at_73_31 h01 rfl ?_
        refine ev_if_le at_73_34 (fun _ => ?_) (fun hc => absurd hc (by decide))
        refine ev_go at_73_39 rfl ?_
        refine ev_get at_73_40 h01 rfl ?_
        refine ev_go at_73_43 rfl ?_
        refine ev_iald at_73_44 h10 (by omega) hv10 ?_
        refine ev_go at_73_45 rfl ?_
        refine ev_go at_73_46 rfl ?_
        refine ev_ifb_eq at_73_47 (fun _ => ?_) (fun hc => nomatch hc)
        refine ev_go at_73_56 rfl ?_
        refine ev_ic (nI 1) at_73_57 (by decide) ?_
        refine ev_go at_73_58 rfl ?_
        refine ev_top (congrArg Value.int (show nI (nb + 1) - nI 1 = nI nb by rw [pk_sub (by omega)]; rfl)) ?_
        refine ev_go at_73_59 rfl ?_
        refine ev_go at_73_61 rfl ?_
        refine ev_go at_73_62 rfl ?_
        refine ev_go at_73_63 rfl ?_
        refine ev_callV (as := [_]) at_73_65 rfl rfl (by simp [mm_wt, Value.category]) rfl h01 hX ?_
        refine ev_ifb_eq at_73_68 (fun hc => nomatch hc) (fun _ => ?_)
        refine ev_ic (nI 0) at_73_71 (by decide) ?_
        refine ev_go at_73_72 rfl ?_
        refine ev_put at_73_76 h01 (by simp [Mo]) rfl ?_
        rw [hh2]
        refine ev_go at_73_79 rfl ?_
        refine ev_get at_73_80 h02 rfl ?_
        refine ev_if_le at_73_83 (fun _ => ?_) (fun hc => absurd hc (by decide))
        refine ev_go at_73_88 rfl ?_
        refine ev_get at_73_89 h02 rfl ?_
        refine ev_go at_73_92 rfl ?_
        refine ev_zald at_73_94 h2' (by omega) hv2 ?_
        refine ev_ifb_eq at_73_95 (fun hc => nomatch hc) (fun _ => ?_)
        refine ev_bi (nI 10) at_73_98 (by decide) ?_
        refine ev_go at_73_100 rfl ?_
        refine ev_go at_73_102 rfl ?_
        first | refine ev_top (congrArg Value.int (nI_add _ _)) ?_ | skip
        refine ev_go at_73_103 rfl ?_
        refine ev_go at_73_116 rfl ?_
        refine ev_go at_73_118 rfl ?_
        refine ev_go at_73_119 rfl ?_
        refine ev_callV (as := [_]) at_73_120 rfl rfl (by simp [mm_wt, Value.category]) rfl h02 hC ?_
        refine ev_go at_73_123 rfl ?_
        refine ev_go at_73_125 rfl ?_
        refine ev_go at_73_126 rfl ?_
        refine ev_if_lt at_73_128 (fun hc => absurd hc (nI_pos (by omega))) (fun _ => ?_)
        refine ev_go at_73_131 rfl ?_
        refine ev_top (show Value.int (oI (some y)) = Value.int (nI y) from rfl) ?_
        refine ev_bi (nI 8) at_73_133 (by decide) ?_
        refine ev_idiv at_73_135 (by decide) ?_
        first | refine ev_top (congrArg Value.int (pk_div (by omega) (by omega) (by omega))) ?_ | skip
        refine ev_go at_73_136 rfl ?_
        refine ev_icmp_eq at_73_138 (fun hc => absurd hc (ni_ne (by omega) (by omega) hy2)) (fun _ => ?_)
        refine ev_ic (nI 4) at_73_141 (by decide) ?_
        refine ev_go at_73_142 rfl ?_
        refine ev_put at_73_146 h02 (by first | (simp; done) | (simp [Mo]; done)) (by first | rfl | exact fits_b _) ?_
        refine ev_go at_73_149 rfl ?_
        refine ev_get at_73_150 h03 rfl ?_
        refine ev_if_le at_73_153 (fun hc => absurd hc (by decide)) (fun _ => ?_)
        refine ev_ic (nI 0) at_73_156 (by decide) ?_
        refine ev_iret at_73_157 (by first | exact Or.inl rfl | exact Or.inr (Or.inl rfl) | exact Or.inr (Or.inr rfl) | exact Or.inr (bI_01 _)) ?_
        rfl
  · change nb = b + 1 at hu
    subst hu
    cases hio : m.io (b + 1)
    · rw [hio] at hv2 hs
      change s = b at hs
      subst hs
      cases htab : tab with
      | none =>
        rw [htab] at hC
        refine ev_go at_73_0 rfl ?_
        refine ev_go at_73_1 rfl ?_
        refine ev_go at_73_2 rfl ?_
        refine ev_callV (as := [_]) at_73_3 rfl rfl (by simp [mm_wt, Value.category]) rfl h0 hA ?_
        refine ev_ifb_ne at_73_6 (fun _ => ?_) (fun hc => nomatch hc)
        refine ev_go at_73_13 rfl ?_
        refine ev_get at_73_14 h0 rfl ?_
        refine ev_go at_73_17 rfl ?_
        refine ev_iald at_73_18 h11 (by omega) hv11 ?_
        refine ev_if_lt at_73_19 (fun _ => ?_) (fun hc => absurd (show (-1 : Int32) < 0 by decide) hc)
        refine ev_ic (nI 0) at_73_26 (by decide) ?_
        refine ev_put at_73_27 h0 (by simp [Mo]) rfl ?_
        rw [hh1]
        refine ev_go at_73_30 rfl ?_
        refine ev_get at_73_31 h01 rfl ?_
        refine ev_if_le at_73_34 (fun _ => ?_) (fun hc => absurd hc (by decide))
        refine ev_go at_73_39 rfl ?_
        refine ev_get at_73_40 h01 rfl ?_
        refine ev_go at_73_43 rfl ?_
        refine ev_iald at_73_44 h10 (by omega) hv10 ?_
        refine ev_go at_73_45 rfl ?_
        refine ev_go at_73_46 rfl ?_
        refine ev_ifb_eq at_73_47 (fun hc => nomatch hc) (fun _ => ?_)
        refine ev_go at_73_50 rfl ?_
        refine ev_ic (nI 1) at_73_51 (by decide) ?_
        refine ev_go at_73_52 rfl ?_
        first | refine ev_top (congrArg Value.int (nI_add _ _)) ?_ | skip
        refine ev_go at_73_53 rfl ?_
        refine ev_go at_73_59 rfl ?_
        refine ev_go at_73_61 rfl ?_
        refine ev_go at_73_62 rfl ?_
        refine ev_go at_73_63 rfl ?_
        refine ev_callV (as := [_]) at_73_65 rfl rfl (by simp [mm_wt, Value.category]) rfl h01 hX ?_
        refine ev_ifb_eq at_73_68 (fun hc => nomatch hc) (fun _ => ?_)
        refine ev_ic (nI 0) at_73_71 (by decide) ?_
        refine ev_go at_73_72 rfl ?_
        refine ev_put at_73_76 h01 (by simp [Mo]) rfl ?_
        rw [hh2]
        refine ev_go at_73_79 rfl ?_
        refine ev_get at_73_80 h02 rfl ?_
        refine ev_if_le at_73_83 (fun _ => ?_) (fun hc => absurd hc (by decide))
        refine ev_go at_73_88 rfl ?_
        refine ev_get at_73_89 h02 rfl ?_
        refine ev_go at_73_92 rfl ?_
        refine ev_zald at_73_94 h2' (by omega) hv2 ?_
        refine ev_ifb_eq at_73_95 (fun _ => ?_) (fun hc => nomatch hc)
        refine ev_go at_73_106 rfl ?_
        refine ev_ifb_eq at_73_107 (fun hc => nomatch hc) (fun _ => ?_)
        refine ev_go at_73_110 rfl ?_
        refine ev_go at_73_111 rfl ?_
        refine ev_go at_73_116 rfl ?_
        refine ev_go at_73_118 rfl ?_
        refine ev_go at_73_119 rfl ?_
        refine ev_callV (as := [_]) at_73_120 rfl rfl (by simp [mm_wt, Value.category]) rfl h02 hC ?_
        refine ev_go at_73_123 rfl ?_
        refine ev_go at_73_125 rfl ?_
        refine ev_go at_73_126 rfl ?_
        refine ev_if_lt at_73_128 (fun _ => ?_) (fun hc => absurd (show (-1 : Int32) < 0 by decide) hc)
        refine ev_ic (nI 4) at_73_141 (by decide) ?_
        refine ev_go at_73_142 rfl ?_
        refine ev_put at_73_146 h02 (by first | (simp; done) | (simp [Mo]; done)) (by first | rfl | exact fits_b _) ?_
        refine ev_go at_73_149 rfl ?_
        refine ev_get at_73_150 h03 rfl ?_
        refine ev_if_le at_73_153 (fun hc => absurd hc (by decide)) (fun _ => ?_)
        refine ev_ic (nI 0) at_73_156 (by decide) ?_
        refine ev_iret at_73_157 (by first | exact Or.inl rfl | exact Or.inr (Or.inl rfl) | exact Or.inr (Or.inr rfl) | exact Or.inr (bI_01 _)) ?_
        rfl
      | some y =>
        rw [htab] at hC
        have hy := hab2 y htab
        have hy2 := hx y htab
        refine ev_go at_73_0 rfl ?_
        refine ev_go at_73_1 rfl ?_
        refine ev_go at_73_2 rfl ?_
        refine ev_callV (as := [_]) at_73_3 rfl rfl (by simp [mm_wt, Value.category]) rfl h0 hA ?_
        refine ev_ifb_ne at_73_6 (fun _ => ?_) (fun hc => nomatch hc)
        refine ev_go at_73_13 rfl ?_
        refine ev_get at_73_14 h0 rfl ?_
        refine ev_go at_73_17 rfl ?_
        refine ev_iald at_73_18 h11 (by omega) hv11 ?_
        refine ev_if_lt at_73_19 (fun _ => ?_) (fun hc => absurd (show (-1 : Int32) < 0 by decide) hc)
        refine ev_ic (nI 0) at_73_26 (by decide) ?_
        refine ev_put at_73_27 h0 (by simp [Mo]) rfl ?_
        rw [hh1]
        refine ev_go at_73_30 rfl ?_
        refine ev_get at_73_31 h01 rfl ?_
        refine ev_if_le at_73_34 (fun _ => ?_) (fun hc => absurd hc (by decide))
        refine ev_go at_73_39 rfl ?_
        refine ev_get at_73_40 h01 rfl ?_
        refine ev_go at_73_43 rfl ?_
        refine ev_iald at_73_44 h10 (by omega) hv10 ?_
        refine ev_go at_73_45 rfl ?_
        refine ev_go at_73_46 rfl ?_
        refine ev_ifb_eq at_73_47 (fun hc => nomatch hc) (fun _ => ?_)
        refine ev_go at_73_50 rfl ?_
        refine ev_ic (nI 1) at_73_51 (by decide) ?_
        refine ev_go at_73_52 rfl ?_
        first | refine ev_top (congrArg Value.int (nI_add _ _)) ?_ | skip
        refine ev_go at_73_53 rfl ?_
        refine ev_go at_73_59 rfl ?_
        refine ev_go at_73_61 rfl ?_
        refine ev_go at_73_62 rfl ?_
        refine ev_go at_73_63 rfl ?_
        refine ev_callV (as := [_]) at_73_65 rfl rfl (by simp [mm_wt, Value.category]) rfl h01 hX ?_
        refine ev_ifb_eq at_73_68 (fun hc => nomatch hc) (fun _ => ?_)
        refine ev_ic (nI 0) at_73_71 (by decide) ?_
        refine ev_go at_73_72 rfl ?_
        refine ev_put at_73_76 h01 (by simp [Mo]) rfl ?_
        rw [hh2]
        refine ev_go at_73_79 rfl ?_
        refine ev_get at_73_80 h02 rfl ?_
        refine ev_if_le at_73_83 (fun _ => ?_) (fun hc => absurd hc (by decide))
        refine ev_go at_73_88 rfl ?_
        refine ev_get at_73_89 h02 rfl ?_
        refine ev_go at_73_92 rfl ?_
        refine ev_zald at_73_94 h2' (by omega) hv2 ?_
        refine ev_ifb_eq at_73_95 (fun _ => ?_) (fun hc => nomatch hc)
        refine ev_go at_73_106 rfl ?_
        refine ev_ifb_eq at_73_107 (fun hc => nomatch hc) (fun _ => ?_)
        refine ev_go at_73_110 rfl ?_
        refine ev_go at_73_111 rfl ?_
        refine ev_go at_73_116 rfl ?_
        refine ev_go at_73_118 rfl ?_
        refine ev_go at_73_119 rfl ?_
        refine ev_callV (as := [_]) at_73_120 rfl rfl (by simp [mm_wt, Value.category]) rfl h02 hC ?_
        refine ev_go at_73_123 rfl ?_
        refine ev_go at_73_125 rfl ?_
        refine ev_go at_73_126 rfl ?_
        refine ev_if_lt at_73_128 (fun hc => absurd hc (nI_pos (by omega))) (fun _ => ?_)
        refine ev_go at_73_131 rfl ?_
        refine ev_top (show Value.int (oI (some y)) = Value.int (nI y) from rfl) ?_
        refine ev_bi (nI 8) at_73_133 (by decide) ?_
        refine ev_idiv at_73_135 (by decide) ?_
        first | refine ev_top (congrArg Value.int (pk_div (by omega) (by omega) (by omega))) ?_ | skip
        refine ev_go at_73_136 rfl ?_
        refine ev_icmp_eq at_73_138 (fun hc => absurd hc (ni_ne (by omega) (by omega) hy2)) (fun _ => ?_)
        refine ev_ic (nI 4) at_73_141 (by decide) ?_
        refine ev_go at_73_142 rfl ?_
        refine ev_put at_73_146 h02 (by first | (simp; done) | (simp [Mo]; done)) (by first | rfl | exact fits_b _) ?_
        refine ev_go at_73_149 rfl ?_
        refine ev_get at_73_150 h03 rfl ?_
        refine ev_if_le at_73_153 (fun hc => absurd hc (by decide)) (fun _ => ?_)
        refine ev_ic (nI 0) at_73_156 (by decide) ?_
        refine ev_iret at_73_157 (by first | exact Or.inl rfl | exact Or.inr (Or.inl rfl) | exact Or.inr (Or.inr rfl) | exact Or.inr (bI_01 _)) ?_
        rfl
    · rw [hio] at hv2 hs
      change s = 10 + (b + 1) at hs
      subst hs
      cases htab : tab with
      | none =>
        rw [htab] at hC
        refine ev_go at_73_0 rfl ?_
        refine ev_go at_73_1 rfl ?_
        refine ev_go at_73_2 rfl ?_
        refine ev_callV (as := [_]) at_73_3 rfl rfl (by simp [mm_wt, Value.category]) rfl h0 hA ?_
        refine ev_ifb_ne at_73_6 (fun _ => ?_) (fun hc => nomatch hc)
        refine ev_go at_73_13 rfl ?_
        refine ev_get at_73_14 h0 rfl ?_
        refine ev_go at_73_17 rfl ?_
        refine ev_iald at_73_18 h11 (by omega) hv11 ?_
        refine ev_if_lt at_73_19 (fun _ => ?_) (fun hc => absurd (show (-1 : Int32) < 0 by decide) hc)
        refine ev_ic (nI 0) at_73_26 (by decide) ?_
        refine ev_put at_73_27 h0 (by simp [Mo]) rfl ?_
        rw [hh1]
        refine ev_go at_73_30 rfl ?_
        refine ev_get at_73_31 h01 rfl ?_
        refine ev_if_le at_73_34 (fun _ => ?_) (fun hc => absurd hc (by decide))
        refine ev_go at_73_39 rfl ?_
        refine ev_get at_73_40 h01 rfl ?_
        refine ev_go at_73_43 rfl ?_
        refine ev_iald at_73_44 h10 (by omega) hv10 ?_
        refine ev_go at_73_45 rfl ?_
        refine ev_go at_73_46 rfl ?_
        refine ev_ifb_eq at_73_47 (fun hc => nomatch hc) (fun _ => ?_)
        refine ev_go at_73_50 rfl ?_
        refine ev_ic (nI 1) at_73_51 (by decide) ?_
        refine ev_go at_73_52 rfl ?_
        first | refine ev_top (congrArg Value.int (nI_add _ _)) ?_ | skip
        refine ev_go at_73_53 rfl ?_
        refine ev_go at_73_59 rfl ?_
        refine ev_go at_73_61 rfl ?_
        refine ev_go at_73_62 rfl ?_
        refine ev_go at_73_63 rfl ?_
        refine ev_callV (as := [_]) at_73_65 rfl rfl (by simp [mm_wt, Value.category]) rfl h01 hX ?_
        refine ev_ifb_eq at_73_68 (fun hc => nomatch hc) (fun _ => ?_)
        refine ev_ic (nI 0) at_73_71 (by decide) ?_
        refine ev_go at_73_72 rfl ?_
        refine ev_put at_73_76 h01 (by simp [Mo]) rfl ?_
        rw [hh2]
        refine ev_go at_73_79 rfl ?_
        refine ev_get at_73_80 h02 rfl ?_
        refine ev_if_le at_73_83 (fun _ => ?_) (fun hc => absurd hc (by decide))
        refine ev_go at_73_88 rfl ?_
        refine ev_get at_73_89 h02 rfl ?_
        refine ev_go at_73_92 rfl ?_
        refine ev_zald at_73_94 h2' (by omega) hv2 ?_
        refine ev_ifb_eq at_73_95 (fun hc => nomatch hc) (fun _ => ?_)
        refine ev_bi (nI 10) at_73_98 (by decide) ?_
        refine ev_go at_73_100 rfl ?_
        refine ev_go at_73_102 rfl ?_
        first | refine ev_top (congrArg Value.int (nI_add _ _)) ?_ | skip
        refine ev_go at_73_103 rfl ?_
        refine ev_go at_73_116 rfl ?_
        refine ev_go at_73_118 rfl ?_
        refine ev_go at_73_119 rfl ?_
        refine ev_callV (as := [_]) at_73_120 rfl rfl (by simp [mm_wt, Value.category]) rfl h02 hC ?_
        refine ev_go at_73_123 rfl ?_
        refine ev_go at_73_125 rfl ?_
        refine ev_go at_73_126 rfl ?_
        refine ev_if_lt at_73_128 (fun _ => ?_) (fun hc => absurd (show (-1 : Int32) < 0 by decide) hc)
        refine ev_ic (nI 4) at_73_141 (by decide) ?_
        refine ev_go at_73_142 rfl ?_
        refine ev_put at_73_146 h02 (by first | (simp; done) | (simp [Mo]; done)) (by first | rfl | exact fits_b _) ?_
        refine ev_go at_73_149 rfl ?_
        refine ev_get at_73_150 h03 rfl ?_
        refine ev_if_le at_73_153 (fun hc => absurd hc (by decide)) (fun _ => ?_)
        refine ev_ic (nI 0) at_73_156 (by decide) ?_
        refine ev_iret at_73_157 (by first | exact Or.inl rfl | exact Or.inr (Or.inl rfl) | exact Or.inr (Or.inr rfl) | exact Or.inr (bI_01 _)) ?_
        rfl
      | some y =>
        rw [htab] at hC
        have hy := hab2 y htab
        have hy2 := hx y htab
        refine ev_go at_73_0 rfl ?_
        refine ev_go at_73_1 rfl ?_
        refine ev_go at_73_2 rfl ?_
        refine ev_callV (as := [_]) at_73_3 rfl rfl (by simp [mm_wt, Value.category]) rfl h0 hA ?_
        refine ev_ifb_ne at_73_6 (fun _ => ?_) (fun hc => nomatch hc)
        refine ev_go at_73_13 rfl ?_
        refine ev_get at_73_14 h0 rfl ?_
        refine ev_go at_73_17 rfl ?_
        refine ev_iald at_73_18 h11 (by omega) hv11 ?_
        refine ev_if_lt at_73_19 (fun _ => ?_) (fun hc => absurd (show (-1 : Int32) < 0 by decide) hc)
        refine ev_ic (nI 0) at_73_26 (by decide) ?_
        refine ev_put at_73_27 h0 (by simp [Mo]) rfl ?_
        rw [hh1]
        refine ev_go at_73_30 rfl ?_
        refine ev_get at_73_31 h01 rfl ?_
        refine ev_if_le at_73_34 (fun _ => ?_) (fun hc => absurd hc (by decide))
        refine ev_go at_73_39 rfl ?_
        refine ev_get at_73_40 h01 rfl ?_
        refine ev_go at_73_43 rfl ?_
        refine ev_iald at_73_44 h10 (by omega) hv10 ?_
        refine ev_go at_73_45 rfl ?_
        refine ev_go at_73_46 rfl ?_
        refine ev_ifb_eq at_73_47 (fun hc => nomatch hc) (fun _ => ?_)
        refine ev_go at_73_50 rfl ?_
        refine ev_ic (nI 1) at_73_51 (by decide) ?_
        refine ev_go at_73_52 rfl ?_
        first | refine ev_top (congrArg Value.int (nI_add _ _)) ?_ | skip
        refine ev_go at_73_53 rfl ?_
        refine ev_go at_73_59 rfl ?_
        refine ev_go at_73_61 rfl ?_
        refine ev_go at_73_62 rfl ?_
        refine ev_go at_73_63 rfl ?_
        refine ev_callV (as := [_]) at_73_65 rfl rfl (by simp [mm_wt, Value.category]) rfl h01 hX ?_
        refine ev_ifb_eq at_73_68 (fun hc => nomatch hc) (fun _ => ?_)
        refine ev_ic (nI 0) at_73_71 (by decide) ?_
        refine ev_go at_73_72 rfl ?_
        refine ev_put at_73_76 h01 (by simp [Mo]) rfl ?_
        rw [hh2]
        refine ev_go at_73_79 rfl ?_
        refine ev_get at_73_80 h02 rfl ?_
        refine ev_if_le at_73_83 (fun _ => ?_) (fun hc => absurd hc (by decide))
        refine ev_go at_73_88 rfl ?_
        refine ev_get at_73_89 h02 rfl ?_
        refine ev_go at_73_92 rfl ?_
        refine ev_zald at_73_94 h2' (by omega) hv2 ?_
        refine ev_ifb_eq at_73_95 (fun hc => nomatch hc) (fun _ => ?_)
        refine ev_bi (nI 10) at_73_98 (by decide) ?_
        refine ev_go at_73_100 rfl ?_
        refine ev_go at_73_102 rfl ?_
        first | refine ev_top (congrArg Value.int (nI_add _ _)) ?_ | skip
        refine ev_go at_73_103 rfl ?_
        refine ev_go at_73_116 rfl ?_
        refine ev_go at_73_118 rfl ?_
        refine ev_go at_73_119 rfl ?_
        refine ev_callV (as := [_]) at_73_120 rfl rfl (by simp [mm_wt, Value.category]) rfl h02 hC ?_
        refine ev_go at_73_123 rfl ?_
        refine ev_go at_73_125 rfl ?_
        refine ev_go at_73_126 rfl ?_
        refine ev_if_lt at_73_128 (fun hc => absurd hc (nI_pos (by omega))) (fun _ => ?_)
        refine ev_go at_73_131 rfl ?_
        refine ev_top (show Value.int (oI (some y)) = Value.int (nI y) from rfl) ?_
        refine ev_bi (nI 8) at_73_133 (by decide) ?_
        refine ev_idiv at_73_135 (by decide) ?_
        first | refine ev_top (congrArg Value.int (pk_div (by omega) (by omega) (by omega))) ?_ | skip
        refine ev_go at_73_136 rfl ?_
        refine ev_icmp_eq at_73_138 (fun hc => absurd hc (ni_ne (by omega) (by omega) hy2)) (fun _ => ?_)
        refine ev_ic (nI 4) at_73_141 (by decide) ?_
        refine ev_go at_73_142 rfl ?_
        refine ev_put at_73_146 h02 (by first | (simp; done) | (simp [Mo]; done)) (by first | rfl | exact fits_b _) ?_
        refine ev_go at_73_149 rfl ?_
        refine ev_get at_73_150 h03 rfl ?_
        refine ev_if_le at_73_153 (fun hc => absurd hc (by decide)) (fun _ => ?_)
        refine ev_ic (nI 0) at_73_156 (by decide) ?_
        refine ev_iret at_73_157 (by first | exact Or.inl rfl | exact Or.inr (Or.inl rfl) | exact Or.inr (Or.inr rfl) | exact Or.inr (bI_01 _)) ?_
        rfl
theorem e_enter (d : Nat) (hM : MAt K a h c m) (hB : MB m) {i b nb s : Nat} {u : Bool} (hi : i < 8) (hkn : m.kn i = true) (hin : m.ins i = none) (hb : m.bx i = b) (hbn : b < K.n) (hu : if u then nb = b + 1 else b = nb + 1) (hnb : nb < K.n) (hs : s = if m.io nb then 10 + nb else if u then b else nb) {y : Nat} (hab : Ab m i (some y)) (hy : y < 120) (hy2 : y / 8 = s) : ∃ h', mm_cal z (d + 3) 73 [.ref a, .int (nI i), .int (bI u)] h (.returned (some (.int (nI s))), h') ∧ MAt K a h' (nI 0) (m.sIn i (some s)) ∧ Off a (a + 12) h h' := by
  have hab2 : ∀ k, some y = some k → k < 120 := fun k q => by cases q; exact hy
  have hA := d_isKnown (z := z) (d + 1) hM (nI i)
  have hkm : kmB m (nI i) = true := by unfold kmB; rw [tnB_nI hi, nI_clamp (by omega), hkn]; rfl
  rw [hkm] at hA
  have h0 := hM.2.1
  have h11 := hM.a11
  have hv11 := rng_at (n := 8) (fun s => Value.int (oI (m.ins s))) hi
  have hn6 := hM.1.2.1
  rw [hin] at hv11
  obtain ⟨m1, o1⟩ := hM.setC (nI 0)
  generalize hh1 : mm_upd h a 2 (.int (nI 0)) = h1 at m1 o1
  have h01 := m1.2.1
  have h10 := m1.a10
  have hv10 := rng_at (n := 8) (fun s => Value.int (nI (m.bx s))) hi
  rw [hb] at hv10
  have hX := d_isBox (z := z) (d + 1) m1 (nI nb)
  rw [bxB_nI (by omega) (by omega), decide_eq_true hnb] at hX
  obtain ⟨m2, o2⟩ := m1.setC (nI 0)
  generalize hh2 : mm_upd h1 a 2 (.int (nI 0)) = h2 at m2 o2
  have h02 := m2.2.1
  have h2' := m2.a2
  have hv2 := rng_at (n := 6) (fun s => Value.int (bI (m.io s))) (show nb < 6 by omega)
  have hC := d_aboard (z := z) (d + 1) m2 hB hi hab hab2
  obtain ⟨m3, o3⟩ := m2.setC (nI 0)
  generalize hh3 : mm_upd h2 a 2 (.int (nI 0)) = h3 at m3 o3
  have h03 := m3.2.1
  have h113 := m3.a11
  obtain ⟨m4, o4⟩ := m3.sIn i (some s)
  refine ⟨_, ?_, m4, ((o1.trans o2).trans o3).trans o4⟩
  refine mm_cal_of ?_
  cases u
  · change b = nb + 1 at hu
    subst hu
    cases hio : m.io nb
    · rw [hio] at hv2 hs
      change s = nb at hs
      subst hs
      refine ev_go at_73_0 rfl ?_
      refine ev_go at_73_1 rfl ?_
      refine ev_go at_73_2 rfl ?_
      refine ev_callV (as := [_]) at_73_3 rfl rfl (by simp [mm_wt, Value.category]) rfl h0 hA ?_
      refine ev_ifb_ne at_73_6 (fun _ => ?_) (fun hc => nomatch hc)
      refine ev_go at_73_13 rfl ?_
      refine ev_get at_73_14 h0 rfl ?_
      refine ev_go at_73_17 rfl ?_
      refine ev_iald at_73_18 h11 (by omega) hv11 ?_
      refine ev_if_lt at_73_19 (fun _ => ?_) (fun hc => absurd (show (-1 : Int32) < 0 by decide) hc)
      refine ev_ic (nI 0) at_73_26 (by decide) ?_
      refine ev_put at_73_27 h0 (by simp [Mo]) rfl ?_
      rw [hh1]
      refine ev_go at_73_30 rfl ?_
      refine ev_get at_73_31 h01 rfl ?_
      refine ev_if_le at_73_34 (fun _ => ?_) (fun hc => absurd hc (by decide))
      refine ev_go at_73_39 rfl ?_
      refine ev_get at_73_40 h01 rfl ?_
      refine ev_go at_73_43 rfl ?_
      refine ev_iald at_73_44 h10 (by omega) hv10 ?_
      refine ev_go at_73_45 rfl ?_
      refine ev_go at_73_46 rfl ?_
      refine ev_ifb_eq at_73_47 (fun _ => ?_) (fun hc => nomatch hc)
      refine ev_go at_73_56 rfl ?_
      refine ev_ic (nI 1) at_73_57 (by decide) ?_
      refine ev_go at_73_58 rfl ?_
      refine ev_top (congrArg Value.int (show nI (s + 1) - nI 1 = nI s by rw [pk_sub (by omega)]; rfl)) ?_
      refine ev_go at_73_59 rfl ?_
      refine ev_go at_73_61 rfl ?_
      refine ev_go at_73_62 rfl ?_
      refine ev_go at_73_63 rfl ?_
      refine ev_callV (as := [_]) at_73_65 rfl rfl (by simp [mm_wt, Value.category]) rfl h01 hX ?_
      refine ev_ifb_eq at_73_68 (fun hc => nomatch hc) (fun _ => ?_)
      refine ev_ic (nI 0) at_73_71 (by decide) ?_
      refine ev_go at_73_72 rfl ?_
      refine ev_put at_73_76 h01 (by simp [Mo]) rfl ?_
      rw [hh2]
      refine ev_go at_73_79 rfl ?_
      refine ev_get at_73_80 h02 rfl ?_
      refine ev_if_le at_73_83 (fun _ => ?_) (fun hc => absurd hc (by decide))
      refine ev_go at_73_88 rfl ?_
      refine ev_get at_73_89 h02 rfl ?_
      refine ev_go at_73_92 rfl ?_
      refine ev_zald at_73_94 h2' (by omega) hv2 ?_
      refine ev_ifb_eq at_73_95 (fun _ => ?_) (fun hc => nomatch hc)
      refine ev_go at_73_106 rfl ?_
      refine ev_ifb_eq at_73_107 (fun _ => ?_) (fun hc => nomatch hc)
      refine ev_go at_73_114 rfl ?_
      refine ev_go at_73_116 rfl ?_
      refine ev_go at_73_118 rfl ?_
      refine ev_go at_73_119 rfl ?_
      refine ev_callV (as := [_]) at_73_120 rfl rfl (by simp [mm_wt, Value.category]) rfl h02 hC ?_
      refine ev_go at_73_123 rfl ?_
      refine ev_go at_73_125 rfl ?_
      refine ev_go at_73_126 rfl ?_
      refine ev_if_lt at_73_128 (fun hc => absurd hc (nI_pos (by omega))) (fun _ => ?_)
      refine ev_go at_73_131 rfl ?_
      refine ev_top (show Value.int (oI (some y)) = Value.int (nI y) from rfl) ?_
      refine ev_bi (nI 8) at_73_133 (by decide) ?_
      refine ev_idiv at_73_135 (by decide) ?_
      first | refine ev_top (congrArg Value.int (pk_div (by omega) (by omega) (by omega))) ?_ | skip
      refine ev_go at_73_136 rfl ?_
      refine ev_icmp_eq at_73_138 (fun _ => ?_) (fun hc => absurd (by rw [hy2]) hc)
      refine ev_ic (nI 0) at_73_145 (by decide) ?_
      refine ev_put at_73_146 h02 (by simp [Mo]) rfl ?_
      rw [hh3]
      refine ev_go at_73_149 rfl ?_
      refine ev_get at_73_150 h03 rfl ?_
      refine ev_if_le at_73_153 (fun _ => ?_) (fun hc => absurd hc (by decide))
      refine ev_go at_73_158 rfl ?_
      refine ev_get at_73_159 h03 rfl ?_
      refine ev_go at_73_162 rfl ?_
      refine ev_go at_73_163 rfl ?_
      refine ev_iast at_73_165 h113 (by omega) (by rw [rng_len]; exact hi) ?_
      refine ev_go at_73_166 rfl ?_
      refine ev_iret at_73_168 (by first | exact Or.inl rfl | exact Or.inr (Or.inl rfl) | exact Or.inr (Or.inr rfl) | exact Or.inr (bI_01 _)) ?_
      rfl
    · rw [hio] at hv2 hs
      change s = 10 + nb at hs
      subst hs
      refine ev_go at_73_0 rfl ?_
      refine ev_go at_73_1 rfl ?_
      refine ev_go at_73_2 rfl ?_
      refine ev_callV (as := [_]) at_73_3 rfl rfl (by simp [mm_wt, Value.category]) rfl h0 hA ?_
      refine ev_ifb_ne at_73_6 (fun _ => ?_) (fun hc => nomatch hc)
      refine ev_go at_73_13 rfl ?_
      refine ev_get at_73_14 h0 rfl ?_
      refine ev_go at_73_17 rfl ?_
      refine ev_iald at_73_18 h11 (by omega) hv11 ?_
      refine ev_if_lt at_73_19 (fun _ => ?_) (fun hc => absurd (show (-1 : Int32) < 0 by decide) hc)
      refine ev_ic (nI 0) at_73_26 (by decide) ?_
      refine ev_put at_73_27 h0 (by simp [Mo]) rfl ?_
      rw [hh1]
      refine ev_go at_73_30 rfl ?_
      refine ev_get at_73_31 h01 rfl ?_
      refine ev_if_le at_73_34 (fun _ => ?_) (fun hc => absurd hc (by decide))
      refine ev_go at_73_39 rfl ?_
      refine ev_get at_73_40 h01 rfl ?_
      refine ev_go at_73_43 rfl ?_
      refine ev_iald at_73_44 h10 (by omega) hv10 ?_
      refine ev_go at_73_45 rfl ?_
      refine ev_go at_73_46 rfl ?_
      refine ev_ifb_eq at_73_47 (fun _ => ?_) (fun hc => nomatch hc)
      refine ev_go at_73_56 rfl ?_
      refine ev_ic (nI 1) at_73_57 (by decide) ?_
      refine ev_go at_73_58 rfl ?_
      refine ev_top (congrArg Value.int (show nI (nb + 1) - nI 1 = nI nb by rw [pk_sub (by omega)]; rfl)) ?_
      refine ev_go at_73_59 rfl ?_
      refine ev_go at_73_61 rfl ?_
      refine ev_go at_73_62 rfl ?_
      refine ev_go at_73_63 rfl ?_
      refine ev_callV (as := [_]) at_73_65 rfl rfl (by simp [mm_wt, Value.category]) rfl h01 hX ?_
      refine ev_ifb_eq at_73_68 (fun hc => nomatch hc) (fun _ => ?_)
      refine ev_ic (nI 0) at_73_71 (by decide) ?_
      refine ev_go at_73_72 rfl ?_
      refine ev_put at_73_76 h01 (by simp [Mo]) rfl ?_
      rw [hh2]
      refine ev_go at_73_79 rfl ?_
      refine ev_get at_73_80 h02 rfl ?_
      refine ev_if_le at_73_83 (fun _ => ?_) (fun hc => absurd hc (by decide))
      refine ev_go at_73_88 rfl ?_
      refine ev_get at_73_89 h02 rfl ?_
      refine ev_go at_73_92 rfl ?_
      refine ev_zald at_73_94 h2' (by omega) hv2 ?_
      refine ev_ifb_eq at_73_95 (fun hc => nomatch hc) (fun _ => ?_)
      refine ev_bi (nI 10) at_73_98 (by decide) ?_
      refine ev_go at_73_100 rfl ?_
      refine ev_go at_73_102 rfl ?_
      first | refine ev_top (congrArg Value.int (nI_add _ _)) ?_ | skip
      refine ev_go at_73_103 rfl ?_
      refine ev_go at_73_116 rfl ?_
      refine ev_go at_73_118 rfl ?_
      refine ev_go at_73_119 rfl ?_
      refine ev_callV (as := [_]) at_73_120 rfl rfl (by simp [mm_wt, Value.category]) rfl h02 hC ?_
      refine ev_go at_73_123 rfl ?_
      refine ev_go at_73_125 rfl ?_
      refine ev_go at_73_126 rfl ?_
      refine ev_if_lt at_73_128 (fun hc => absurd hc (nI_pos (by omega))) (fun _ => ?_)
      refine ev_go at_73_131 rfl ?_
      refine ev_top (show Value.int (oI (some y)) = Value.int (nI y) from rfl) ?_
      refine ev_bi (nI 8) at_73_133 (by decide) ?_
      refine ev_idiv at_73_135 (by decide) ?_
      first | refine ev_top (congrArg Value.int (pk_div (by omega) (by omega) (by omega))) ?_ | skip
      refine ev_go at_73_136 rfl ?_
      refine ev_icmp_eq at_73_138 (fun _ => ?_) (fun hc => absurd (by rw [hy2]) hc)
      refine ev_ic (nI 0) at_73_145 (by decide) ?_
      refine ev_put at_73_146 h02 (by simp [Mo]) rfl ?_
      rw [hh3]
      refine ev_go at_73_149 rfl ?_
      refine ev_get at_73_150 h03 rfl ?_
      refine ev_if_le at_73_153 (fun _ => ?_) (fun hc => absurd hc (by decide))
      refine ev_go at_73_158 rfl ?_
      refine ev_get at_73_159 h03 rfl ?_
      refine ev_go at_73_162 rfl ?_
      refine ev_go at_73_163 rfl ?_
      refine ev_iast at_73_165 h113 (by omega) (by rw [rng_len]; exact hi) ?_
      refine ev_go at_73_166 rfl ?_
      refine ev_iret at_73_168 (by first | exact Or.inl rfl | exact Or.inr (Or.inl rfl) | exact Or.inr (Or.inr rfl) | exact Or.inr (bI_01 _)) ?_
      rfl
  · change nb = b + 1 at hu
    subst hu
    cases hio : m.io (b + 1)
    · rw [hio] at hv2 hs
      change s = b at hs
      subst hs
      refine ev_go at_73_0 rfl ?_
      refine ev_go at_73_1 rfl ?_
      refine ev_go at_73_2 rfl ?_
      refine ev_callV (as := [_]) at_73_3 rfl rfl (by simp [mm_wt, Value.category]) rfl h0 hA ?_
      refine ev_ifb_ne at_73_6 (fun _ => ?_) (fun hc => nomatch hc)
      refine ev_go at_73_13 rfl ?_
      refine ev_get at_73_14 h0 rfl ?_
      refine ev_go at_73_17 rfl ?_
      refine ev_iald at_73_18 h11 (by omega) hv11 ?_
      refine ev_if_lt at_73_19 (fun _ => ?_) (fun hc => absurd (show (-1 : Int32) < 0 by decide) hc)
      refine ev_ic (nI 0) at_73_26 (by decide) ?_
      refine ev_put at_73_27 h0 (by simp [Mo]) rfl ?_
      rw [hh1]
      refine ev_go at_73_30 rfl ?_
      refine ev_get at_73_31 h01 rfl ?_
      refine ev_if_le at_73_34 (fun _ => ?_) (fun hc => absurd hc (by decide))
      refine ev_go at_73_39 rfl ?_
      refine ev_get at_73_40 h01 rfl ?_
      refine ev_go at_73_43 rfl ?_
      refine ev_iald at_73_44 h10 (by omega) hv10 ?_
      refine ev_go at_73_45 rfl ?_
      refine ev_go at_73_46 rfl ?_
      refine ev_ifb_eq at_73_47 (fun hc => nomatch hc) (fun _ => ?_)
      refine ev_go at_73_50 rfl ?_
      refine ev_ic (nI 1) at_73_51 (by decide) ?_
      refine ev_go at_73_52 rfl ?_
      first | refine ev_top (congrArg Value.int (nI_add _ _)) ?_ | skip
      refine ev_go at_73_53 rfl ?_
      refine ev_go at_73_59 rfl ?_
      refine ev_go at_73_61 rfl ?_
      refine ev_go at_73_62 rfl ?_
      refine ev_go at_73_63 rfl ?_
      refine ev_callV (as := [_]) at_73_65 rfl rfl (by simp [mm_wt, Value.category]) rfl h01 hX ?_
      refine ev_ifb_eq at_73_68 (fun hc => nomatch hc) (fun _ => ?_)
      refine ev_ic (nI 0) at_73_71 (by decide) ?_
      refine ev_go at_73_72 rfl ?_
      refine ev_put at_73_76 h01 (by simp [Mo]) rfl ?_
      rw [hh2]
      refine ev_go at_73_79 rfl ?_
      refine ev_get at_73_80 h02 rfl ?_
      refine ev_if_le at_73_83 (fun _ => ?_) (fun hc => absurd hc (by decide))
      refine ev_go at_73_88 rfl ?_
      refine ev_get at_73_89 h02 rfl ?_
      refine ev_go at_73_92 rfl ?_
      refine ev_zald at_73_94 h2' (by omega) hv2 ?_
      refine ev_ifb_eq at_73_95 (fun _ => ?_) (fun hc => nomatch hc)
      refine ev_go at_73_106 rfl ?_
      refine ev_ifb_eq at_73_107 (fun hc => nomatch hc) (fun _ => ?_)
      refine ev_go at_73_110 rfl ?_
      refine ev_go at_73_111 rfl ?_
      refine ev_go at_73_116 rfl ?_
      refine ev_go at_73_118 rfl ?_
      refine ev_go at_73_119 rfl ?_
      refine ev_callV (as := [_]) at_73_120 rfl rfl (by simp [mm_wt, Value.category]) rfl h02 hC ?_
      refine ev_go at_73_123 rfl ?_
      refine ev_go at_73_125 rfl ?_
      refine ev_go at_73_126 rfl ?_
      refine ev_if_lt at_73_128 (fun hc => absurd hc (nI_pos (by omega))) (fun _ => ?_)
      refine ev_go at_73_131 rfl ?_
      refine ev_top (show Value.int (oI (some y)) = Value.int (nI y) from rfl) ?_
      refine ev_bi (nI 8) at_73_133 (by decide) ?_
      refine ev_idiv at_73_135 (by decide) ?_
      first | refine ev_top (congrArg Value.int (pk_div (by omega) (by omega) (by omega))) ?_ | skip
      refine ev_go at_73_136 rfl ?_
      refine ev_icmp_eq at_73_138 (fun _ => ?_) (fun hc => absurd (by rw [hy2]) hc)
      refine ev_ic (nI 0) at_73_145 (by decide) ?_
      refine ev_put at_73_146 h02 (by simp [Mo]) rfl ?_
      rw [hh3]
      refine ev_go at_73_149 rfl ?_
      refine ev_get at_73_150 h03 rfl ?_
      refine ev_if_le at_73_153 (fun _ => ?_) (fun hc => absurd hc (by decide))
      refine ev_go at_73_158 rfl ?_
      refine ev_get at_73_159 h03 rfl ?_
      refine ev_go at_73_162 rfl ?_
      refine ev_go at_73_163 rfl ?_
      refine ev_iast at_73_165 h113 (by omega) (by rw [rng_len]; exact hi) ?_
      refine ev_go at_73_166 rfl ?_
      refine ev_iret at_73_168 (by first | exact Or.inl rfl | exact Or.inr (Or.inl rfl) | exact Or.inr (Or.inr rfl) | exact Or.inr (bI_01 _)) ?_
      rfl
    · rw [hio] at hv2 hs
      change s = 10 + (b + 1) at hs
      subst hs
      refine ev_go at_73_0 rfl ?_
      refine ev_go at_73_1 rfl ?_
      refine ev_go at_73_2 rfl ?_
      refine ev_callV (as := [_]) at_73_3 rfl rfl (by simp [mm_wt, Value.category]) rfl h0 hA ?_
      refine ev_ifb_ne at_73_6 (fun _ => ?_) (fun hc => nomatch hc)
      refine ev_go at_73_13 rfl ?_
      refine ev_get at_73_14 h0 rfl ?_
      refine ev_go at_73_17 rfl ?_
      refine ev_iald at_73_18 h11 (by omega) hv11 ?_
      refine ev_if_lt at_73_19 (fun _ => ?_) (fun hc => absurd (show (-1 : Int32) < 0 by decide) hc)
      refine ev_ic (nI 0) at_73_26 (by decide) ?_
      refine ev_put at_73_27 h0 (by simp [Mo]) rfl ?_
      rw [hh1]
      refine ev_go at_73_30 rfl ?_
      refine ev_get at_73_31 h01 rfl ?_
      refine ev_if_le at_73_34 (fun _ => ?_) (fun hc => absurd hc (by decide))
      refine ev_go at_73_39 rfl ?_
      refine ev_get at_73_40 h01 rfl ?_
      refine ev_go at_73_43 rfl ?_
      refine ev_iald at_73_44 h10 (by omega) hv10 ?_
      refine ev_go at_73_45 rfl ?_
      refine ev_go at_73_46 rfl ?_
      refine ev_ifb_eq at_73_47 (fun hc => nomatch hc) (fun _ => ?_)
      refine ev_go at_73_50 rfl ?_
      refine ev_ic (nI 1) at_73_51 (by decide) ?_
      refine ev_go at_73_52 rfl ?_
      first | refine ev_top (congrArg Value.int (nI_add _ _)) ?_ | skip
      refine ev_go at_73_53 rfl ?_
      refine ev_go at_73_59 rfl ?_
      refine ev_go at_73_61 rfl ?_
      refine ev_go at_73_62 rfl ?_
      refine ev_go at_73_63 rfl ?_
      refine ev_callV (as := [_]) at_73_65 rfl rfl (by simp [mm_wt, Value.category]) rfl h01 hX ?_
      refine ev_ifb_eq at_73_68 (fun hc => nomatch hc) (fun _ => ?_)
      refine ev_ic (nI 0) at_73_71 (by decide) ?_
      refine ev_go at_73_72 rfl ?_
      refine ev_put at_73_76 h01 (by simp [Mo]) rfl ?_
      rw [hh2]
      refine ev_go at_73_79 rfl ?_
      refine ev_get at_73_80 h02 rfl ?_
      refine ev_if_le at_73_83 (fun _ => ?_) (fun hc => absurd hc (by decide))
      refine ev_go at_73_88 rfl ?_
      refine ev_get at_73_89 h02 rfl ?_
      refine ev_go at_73_92 rfl ?_
      refine ev_zald at_73_94 h2' (by omega) hv2 ?_
      refine ev_ifb_eq at_73_95 (fun hc => nomatch hc) (fun _ => ?_)
      refine ev_bi (nI 10) at_73_98 (by decide) ?_
      refine ev_go at_73_100 rfl ?_
      refine ev_go at_73_102 rfl ?_
      first | refine ev_top (congrArg Value.int (nI_add _ _)) ?_ | skip
      refine ev_go at_73_103 rfl ?_
      refine ev_go at_73_116 rfl ?_
      refine ev_go at_73_118 rfl ?_
      refine ev_go at_73_119 rfl ?_
      refine ev_callV (as := [_]) at_73_120 rfl rfl (by simp [mm_wt, Value.category]) rfl h02 hC ?_
      refine ev_go at_73_123 rfl ?_
      refine ev_go at_73_125 rfl ?_
      refine ev_go at_73_126 rfl ?_
      refine ev_if_lt at_73_128 (fun hc => absurd hc (nI_pos (by omega))) (fun _ => ?_)
      refine ev_go at_73_131 rfl ?_
      refine ev_top (show Value.int (oI (some y)) = Value.int (nI y) from rfl) ?_
      refine ev_bi (nI 8) at_73_133 (by decide) ?_
      refine ev_idiv at_73_135 (by decide) ?_
      first | refine ev_top (congrArg Value.int (pk_div (by omega) (by omega) (by omega))) ?_ | skip
      refine ev_go at_73_136 rfl ?_
      refine ev_icmp_eq at_73_138 (fun _ => ?_) (fun hc => absurd (by rw [hy2]) hc)
      refine ev_ic (nI 0) at_73_145 (by decide) ?_
      refine ev_put at_73_146 h02 (by simp [Mo]) rfl ?_
      rw [hh3]
      refine ev_go at_73_149 rfl ?_
      refine ev_get at_73_150 h03 rfl ?_
      refine ev_if_le at_73_153 (fun _ => ?_) (fun hc => absurd hc (by decide))
      refine ev_go at_73_158 rfl ?_
      refine ev_get at_73_159 h03 rfl ?_
      refine ev_go at_73_162 rfl ?_
      refine ev_go at_73_163 rfl ?_
      refine ev_iast at_73_165 h113 (by omega) (by rw [rng_len]; exact hi) ?_
      refine ev_go at_73_166 rfl ?_
      refine ev_iret at_73_168 (by first | exact Or.inl rfl | exact Or.inr (Or.inl rfl) | exact Or.inr (Or.inr rfl) | exact Or.inr (bI_01 _)) ?_
      rfl
end D7
