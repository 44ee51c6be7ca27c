/-! THE REFERENCE's PUBLIC METHODS (1) -/
section D5
variable {z : mm_Z} {h h' : mm_H} {K : Cf} {a : Nat} {c : Int32} {m : Md}
theorem eN_ne (e : Bool) (k : Nat) : 2 * k + 1 - eN e = 2 * k + eN (!e) := by cases e <;> simp [eN]
theorem eN_ix {k : Nat} (hk : k < 15) (e : Bool) : 2 * k + eN e < 30 := by have := eN_lt e; omega
theorem e_plunge (d : Nat) (hM : MAt K a h c m) {k : Nat} (hk : K.ex k = true) (e v : Bool) : ∃ h', mm_cal z (d + 3) 52 [.ref a, .int (nI (eb k e)), .int (nI k), .int (bI v)] h (.returned none, h') ∧ MAt K a h' (nI 0) (m.sHd (2 * k + eN e) v) ∧ Off a (a + 12) h h' := by
  have hK := hM.1
  have h15 := (Cf.no hK hk).1.1
  have hA := d_isEnd (z := z) d hM (nI (eb k e)) (nI k)
  rw [edB_nI hK hk e] at hA
  have h0 := hM.2.1
  obtain ⟨m1, o1⟩ := hM.setC (nI 0)
  have h01 := m1.2.1
  have h5 := m1.a5
  have hB := d_end (z := z) (h := mm_upd h a 2 (.int (nI 0))) d hK hk e
  obtain ⟨m2, o2⟩ := m1.sHd (2 * k + eN e) v
  have hix := eN_ix h15 e
  refine ⟨_, ?_, m2, o1.trans o2⟩
  refine mm_cal_of ?_
  refine ev_go at_52_0 rfl ?_
  refine ev_go at_52_1 rfl ?_
  refine ev_go at_52_2 rfl ?_
  refine ev_go at_52_3 rfl ?_
  refine ev_callV (as := [_, _]) at_52_4 rfl rfl (by simp [mm_wt, Value.category]) rfl h0 hA ?_
  refine ev_ifb_eq at_52_7 (fun hc => nomatch hc) (fun _ => ?_)
  refine ev_ic (nI 0) at_52_10 (by decide) ?_
  refine ev_go at_52_11 rfl ?_
  refine ev_put at_52_15 h0 (by first | (simp; done) | (simp [Mo]; done)) (by first | rfl | exact fits_b _) ?_
  refine ev_go at_52_18 rfl ?_
  refine ev_get at_52_19 h01 rfl ?_
  refine ev_if_ne at_52_22 (fun hc => absurd hc (by decide)) (fun _ => ?_)
  refine ev_go at_52_25 rfl ?_
  refine ev_get at_52_26 h01 rfl ?_
  refine ev_ic (nI 2) at_52_29 (by decide) ?_
  refine ev_go at_52_30 rfl ?_
  refine ev_go at_52_31 rfl ?_
  first | refine ev_top (congrArg Value.int (pk_mul _ _)) ?_ | skip
  refine ev_go at_52_32 rfl ?_
  refine ev_go at_52_33 rfl ?_
  refine ev_callS (as := [_, _]) at_52_34 (by decide) rfl rfl (by simp [mm_wt, Value.category]) rfl hB ?_
  refine ev_go at_52_37 rfl ?_
  first | refine ev_top (congrArg Value.int (nI_add _ _)) ?_ | skip
  refine ev_go at_52_38 rfl ?_
  refine ev_zast at_52_39 h5 (by omega) (by rw [rng_len]; exact hix) (by first | exact bI_01 _ | decide) ?_
  refine ev_end at_52_40 rfl ?_
  rfl
theorem y_plunge (d : Nat) (hM : MAt K a h c m) {s b : Int32} (hs : edB K s b = false) (v : Int32) : ∃ h', mm_cal z (d + 3) 52 [.ref a, .int b, .int s, .int v] h (.returned none, h') ∧ MAt K a h' (nI 1) m ∧ Off a (a + 12) h h' := by
  have hA := d_isEnd (z := z) d hM b s
  rw [hs] at hA
  have h0 := hM.2.1
  obtain ⟨m1, o1⟩ := hM.setC (nI 1)
  have h01 := m1.2.1
  refine ⟨_, ?_, m1, o1⟩
  refine mm_cal_of ?_
  refine ev_go at_52_0 rfl ?_
  refine ev_go at_52_1 rfl ?_
  refine ev_go at_52_2 rfl ?_
  refine ev_go at_52_3 rfl ?_
  refine ev_callV (as := [_, _]) at_52_4 rfl rfl (by simp [mm_wt, Value.category]) rfl h0 hA ?_
  refine ev_ifb_eq at_52_7 (fun _ => ?_) (fun hc => nomatch hc)
  refine ev_ic (nI 1) at_52_14 (by decide) ?_
  refine ev_put at_52_15 h0 (by first | (simp; done) | (simp [Mo]; done)) (by first | rfl | exact fits_b _) ?_
  refine ev_go at_52_18 rfl ?_
  refine ev_get at_52_19 h01 rfl ?_
  refine ev_if_ne at_52_22 (fun _ => ?_) (fun hc => absurd hc (by decide))
  refine ev_end at_52_40 rfl ?_
  rfl
theorem e_wire (d : Nat) (hM : MAt K a h c m) {k : Nat} (hk : K.ex k = true) (v : Bool) : ∃ h', mm_cal z (d + 2) 59 [.ref a, .int (nI k), .int (bI v)] h (.returned none, h') ∧ MAt K a h' (nI 0) (m.sBk k (!v)) ∧ Off a (a + 12) h h' := by
  have hK := hM.1
  have h15 := (Cf.no hK hk).1.1
  have hA := d_isSection (z := z) d hM (nI k)
  rw [scB_nI hK (by omega), hk] at hA
  have h0 := hM.2.1
  obtain ⟨m1, o1⟩ := hM.setC (nI 0)
  have h01 := m1.2.1
  have h4 := m1.a4
  obtain ⟨m2, o2⟩ := m1.sBk k (!v)
  refine ⟨_, ?_, m2, o1.trans o2⟩
  refine mm_cal_of ?_
  cases v
  · skip
    refine ev_go at_59_0 rfl ?_
    refine ev_go at_59_1 rfl ?_
    refine ev_go at_59_2 rfl ?_
    refine ev_callV (as := [_]) at_59_3 rfl rfl (by simp [mm_wt, Value.category]) rfl h0 hA ?_
    refine ev_ifb_eq at_59_6 (fun hc => nomatch hc) (fun _ => ?_)
    refine ev_ic (nI 0) at_59_9 (by decide) ?_
    refine ev_go at_59_10 rfl ?_
    refine ev_put at_59_14 h0 (by first | (simp; done) | (simp [Mo]; done)) (by first | rfl | exact fits_b _) ?_
    refine ev_go at_59_17 rfl ?_
    refine ev_get at_59_18 h01 rfl ?_
    refine ev_if_ne at_59_21 (fun hc => absurd hc (by decide)) (fun _ => ?_)
    refine ev_go at_59_24 rfl ?_
    refine ev_get at_59_25 h01 rfl ?_
    refine ev_go at_59_28 rfl ?_
    refine ev_go at_59_29 rfl ?_
    refine ev_ifb_ne at_59_30 (fun hc => nomatch hc) (fun _ => ?_)
    refine ev_ic (nI 1) at_59_33 (by decide) ?_
    refine ev_go at_59_34 rfl ?_
    refine ev_zast at_59_38 h4 (by omega) (by rw [rng_len]; exact h15) (by first | exact bI_01 _ | decide) ?_
    refine ev_end at_59_39 rfl ?_
    rfl
  · skip
    refine ev_go at_59_0 rfl ?_
    refine ev_go at_59_1 rfl ?_
    refine ev_go at_59_2 rfl ?_
    refine ev_callV (as := [_]) at_59_3 rfl rfl (by simp [mm_wt, Value.category]) rfl h0 hA ?_
    refine ev_ifb_eq at_59_6 (fun hc => nomatch hc) (fun _ => ?_)
    refine ev_ic (nI 0) at_59_9 (by decide) ?_
    refine ev_go at_59_10 rfl ?_
    refine ev_put at_59_14 h0 (by first | (simp; done) | (simp [Mo]; done)) (by first | rfl | exact fits_b _) ?_
    refine ev_go at_59_17 rfl ?_
    refine ev_get at_59_18 h01 rfl ?_
    refine ev_if_ne at_59_21 (fun hc => absurd hc (by decide)) (fun _ => ?_)
    refine ev_go at_59_24 rfl ?_
    refine ev_get at_59_25 h01 rfl ?_
    refine ev_go at_59_28 rfl ?_
    refine ev_go at_59_29 rfl ?_
    refine ev_ifb_ne at_59_30 (fun _ => ?_) (fun hc => nomatch hc)
    refine ev_ic (nI 0) at_59_37 (by decide) ?_
    refine ev_zast at_59_38 h4 (by omega) (by rw [rng_len]; exact h15) (by first | exact bI_01 _ | decide) ?_
    refine ev_end at_59_39 rfl ?_
    rfl
theorem y_wire (d : Nat) (hM : MAt K a h c m) {s : Int32} (hs : scB K s = false) (v : Int32) : ∃ h', mm_cal z (d + 2) 59 [.ref a, .int s, .int v] h (.returned none, h') ∧ MAt K a h' (nI 1) m ∧ Off a (a + 12) h h' := by
  have hA := d_isSection (z := z) d hM s
  rw [hs] at hA
  have h0 := hM.2.1
  obtain ⟨m1, o1⟩ := hM.setC (nI 1)
  have h01 := m1.2.1
  refine ⟨_, ?_, m1, o1⟩
  refine mm_cal_of ?_
  refine ev_go at_59_0 rfl ?_
  refine ev_go at_59_1 rfl ?_
  refine ev_go at_59_2 rfl ?_
  refine ev_callV (as := [_]) at_59_3 rfl rfl (by simp [mm_wt, Value.category]) rfl h0 hA ?_
  refine ev_ifb_eq at_59_6 (fun _ => ?_) (fun hc => nomatch hc)
  refine ev_ic (nI 1) at_59_13 (by decide) ?_
  refine ev_put at_59_14 h0 (by first | (simp; done) | (simp [Mo]; done)) (by first | rfl | exact fits_b _) ?_
  refine ev_go at_59_17 rfl ?_
  refine ev_get at_59_18 h01 rfl ?_
  refine ev_if_ne at_59_21 (fun _ => ?_) (fun hc => absurd hc (by decide))
  refine ev_end at_59_39 rfl ?_
  rfl
def tkB (hd wi ph em lk : Bool) : Option Int32 := if hd = false then some (-1) else if wi = false then some (-2) else if ph = false then some (-3) else if em = true then some (-4) else if lk = true then some (-5) else none
theorem y_take (d : Nat) (hM : MAt K a h c m) {s b : Int32} (hs : edB K s b = false) : ∃ h', mm_cal z (d + 3) 60 [.ref a, .int b, .int s] h (.returned (some (.int (nI 0))), h') ∧ MAt K a h' (nI 1) m ∧ Off a (a + 12) h h' := by
  have hA := d_isEnd (z := z) d hM b s
  rw [hs] at hA
  have h0 := hM.2.1
  obtain ⟨m1, o1⟩ := hM.setC (nI 1)
  have h01 := m1.2.1
  refine ⟨_, ?_, m1, o1⟩
  refine mm_cal_of ?_
  refine ev_go at_60_0 rfl ?_
  refine ev_go at_60_1 rfl ?_
  refine ev_go at_60_2 rfl ?_
  refine ev_go at_60_3 rfl ?_
  refine ev_callV (as := [_, _]) at_60_4 rfl rfl (by simp [mm_wt, Value.category]) rfl h0 hA ?_
  refine ev_ifb_eq at_60_7 (fun _ => ?_) (fun hc => nomatch hc)
  refine ev_ic (nI 1) at_60_14 (by decide) ?_
  refine ev_put at_60_15 h0 (by first | (simp; done) | (simp [Mo]; done)) (by first | rfl | exact fits_b _) ?_
  refine ev_go at_60_18 rfl ?_
  refine ev_get at_60_19 h01 rfl ?_
  refine ev_if_le at_60_22 (fun hc => absurd hc (by decide)) (fun _ => ?_)
  refine ev_ic (nI 0) at_60_25 (by decide) ?_
  refine ev_iret at_60_26 (by first | exact Or.inl rfl | exact Or.inr (Or.inl rfl) | exact Or.inr (Or.inr rfl) | exact Or.inr (bI_01 _)) ?_
  rfl
theorem e_takeNo (d : Nat) (hM : MAt K a h c m) {k : Nat} (hk : K.ex k = true) (e : Bool) (hB : MB m) {q : List Nat} (hq : Ly K m k e q) (hp : q.Pairwise fun i j => m.si (8 * k + i) < m.si (8 * k + j)) {ph : Bool} (hph : ph = true ↔ ∀ j, j < K.t → m.pl (8 * k + j) < 2) {hd : Bool} (hhd : m.hd (2 * k + eN (!e)) = hd) {v : Int32} (hv : tkB hd (!m.bk k) ph (decide (q = [])) (lmB m k) = some v) : ∃ h', mm_cal z (d + 3) 60 [.ref a, .int (nI (eb k e)), .int (nI k)] h (.returned (some (.int v)), h') ∧ MAt K a h' (nI 0) m ∧ Off a (a + 12) h h' := by
  have hK := hM.1
  have h15 := (Cf.no hK hk).1.1
  have ht := hK.2.2.2.1
  have hA := d_isEnd (z := z) d hM (nI (eb k e)) (nI k)
  rw [edB_nI hK hk e] at hA
  have h0 := hM.2.1
  obtain ⟨m1, o1⟩ := hM.setC (nI 0)
  generalize hh1 : mm_upd h a 2 (.int (nI 0)) = h1 at m1 o1
  have h01 := m1.2.1
  have h5 := m1.a5
  have h4 := m1.a4
  have hE := d_end (z := z) (h := h1) d hK hk e
  have hix := eN_ix h15 (!e)
  have heN := eN_lt e
  have hv5 := rng_at (n := 30) (fun s => Value.int (bI (m.hd s))) hix
  have hv4 := rng_at (n := 15) (fun s => Value.int (bI (m.bk s))) h15
  rw [← eN_ne] at hv5
  rw [← eN_ne] at hhd
  rw [← eN_ne] at hix
  have hP := d_isInPhase (z := z) (d + 1) m1 hB h15 hph
  have hT := d_topmost (z := z) (d + 1) m1 hB h15 hq hp
  have hL := d_isLocked (z := z) (d + 1) m1 hk
  have hs43 : nI (2 * k + 1) - nI (eN e) = nI (2 * k + 1 - eN e) := pk_sub (by omega)
  unfold tkB at hv
  refine ⟨h1, ?_, m1, o1⟩
  refine mm_cal_of ?_
  cases hd with
  | false =>
    rw [hhd] at hv5
    cases hv
    refine ev_go at_60_0 rfl ?_
    refine ev_go at_60_1 rfl ?_
    refine ev_go at_60_2 rfl ?_
    refine ev_go at_60_3 rfl ?_
    refine ev_callV (as := [_, _]) at_60_4 rfl rfl (by simp [mm_wt, Value.category]) rfl h0 hA ?_
    refine ev_ifb_eq at_60_7 (fun hc => nomatch hc) (fun _ => ?_)
    refine ev_ic (nI 0) at_60_10 (by decide) ?_
    refine ev_go at_60_11 rfl ?_
    refine ev_put at_60_15 h0 (by simp [Mo]) rfl ?_
    rw [hh1]
    refine ev_go at_60_18 rfl ?_
    refine ev_get at_60_19 h01 rfl ?_
    refine ev_if_le at_60_22 (fun _ => ?_) (fun hc => absurd hc (by decide))
    refine ev_go at_60_27 rfl ?_
    refine ev_go at_60_28 rfl ?_
    refine ev_callS (as := [_, _]) at_60_29 (by decide) rfl rfl (by simp [mm_wt, Value.category]) rfl hE ?_
    refine ev_go at_60_32 rfl ?_
    refine ev_go at_60_33 rfl ?_
    refine ev_get at_60_34 h01 rfl ?_
    refine ev_ic (nI 2) at_60_37 (by decide) ?_
    refine ev_go at_60_38 rfl ?_
    refine ev_go at_60_39 rfl ?_
    first | refine ev_top (congrArg Value.int (pk_mul _ _)) ?_ | skip
    refine ev_ic (nI 1) at_60_40 (by decide) ?_
    refine ev_go at_60_41 rfl ?_
    first | refine ev_top (congrArg Value.int (nI_add _ _)) ?_ | skip
    refine ev_go at_60_42 rfl ?_
    refine ev_go at_60_43 rfl ?_
    refine ev_top (congrArg Value.int hs43) ?_
    refine ev_zald at_60_44 h5 (by omega) hv5 ?_
    refine ev_ifb_eq at_60_45 (fun _ => ?_) (fun hc => nomatch hc)
    refine ev_go at_60_57 rfl ?_
    refine ev_get at_60_58 h01 rfl ?_
    refine ev_ic (nI 2) at_60_61 (by decide) ?_
    refine ev_go at_60_62 rfl ?_
    refine ev_go at_60_63 rfl ?_
    first | refine ev_top (congrArg Value.int (pk_mul _ _)) ?_ | skip
    refine ev_ic (nI 1) at_60_64 (by decide) ?_
    refine ev_go at_60_65 rfl ?_
    first | refine ev_top (congrArg Value.int (nI_add _ _)) ?_ | skip
    refine ev_go at_60_66 rfl ?_
    refine ev_go at_60_67 rfl ?_
    refine ev_top (congrArg Value.int hs43) ?_
    refine ev_zald at_60_68 h5 (by omega) hv5 ?_
    refine ev_ifb_eq at_60_69 (fun _ => ?_) (fun hc => nomatch hc)
    refine ev_ic (-1) at_60_77 (by decide) ?_
    refine ev_iret at_60_78 (by first | exact Or.inl rfl | exact Or.inr (Or.inl rfl) | exact Or.inr (Or.inr rfl) | exact Or.inr (bI_01 _)) ?_
    rfl
  | true =>
    rw [hhd] at hv5
    rw [if_neg (by decide)] at hv
    cases hbk : m.bk k with
    | true =>
      rw [hbk] at hv hv4
      cases hv
      refine ev_go at_60_0 rfl ?_
      refine ev_go at_60_1 rfl ?_
      refine ev_go at_60_2 rfl ?_
      refine ev_go at_60_3 rfl ?_
      refine ev_callV (as := [_, _]) at_60_4 rfl rfl (by simp [mm_wt, Value.category]) rfl h0 hA ?_
      refine ev_ifb_eq at_60_7 (fun hc => nomatch hc) (fun _ => ?_)
      refine ev_ic (nI 0) at_60_10 (by decide) ?_
      refine ev_go at_60_11 rfl ?_
      refine ev_put at_60_15 h0 (by simp [Mo]) rfl ?_
      rw [hh1]
      refine ev_go at_60_18 rfl ?_
      refine ev_get at_60_19 h01 rfl ?_
      refine ev_if_le at_60_22 (fun _ => ?_) (fun hc => absurd hc (by decide))
      refine ev_go at_60_27 rfl ?_
      refine ev_go at_60_28 rfl ?_
      refine ev_callS (as := [_, _]) at_60_29 (by decide) rfl rfl (by simp [mm_wt, Value.category]) rfl hE ?_
      refine ev_go at_60_32 rfl ?_
      refine ev_go at_60_33 rfl ?_
      refine ev_get at_60_34 h01 rfl ?_
      refine ev_ic (nI 2) at_60_37 (by decide) ?_
      refine ev_go at_60_38 rfl ?_
      refine ev_go at_60_39 rfl ?_
      first | refine ev_top (congrArg Value.int (pk_mul _ _)) ?_ | skip
      refine ev_ic (nI 1) at_60_40 (by decide) ?_
      refine ev_go at_60_41 rfl ?_
      first | refine ev_top (congrArg Value.int (nI_add _ _)) ?_ | skip
      refine ev_go at_60_42 rfl ?_
      refine ev_go at_60_43 rfl ?_
      refine ev_top (congrArg Value.int hs43) ?_
      refine ev_zald at_60_44 h5 (by omega) hv5 ?_
      refine ev_ifb_eq at_60_45 (fun hc => nomatch hc) (fun _ => ?_)
      refine ev_go at_60_48 rfl ?_
      refine ev_get at_60_49 h01 rfl ?_
      refine ev_go at_60_52 rfl ?_
      refine ev_zald at_60_53 h4 (by omega) hv4 ?_
      refine ev_ifb_eq at_60_54 (fun hc => nomatch hc) (fun _ => ?_)
      refine ev_go at_60_57 rfl ?_
      refine ev_get at_60_58 h01 rfl ?_
      refine ev_ic (nI 2) at_60_61 (by decide) ?_
      refine ev_go at_60_62 rfl ?_
      refine ev_go at_60_63 rfl ?_
      first | refine ev_top (congrArg Value.int (pk_mul _ _)) ?_ | skip
      refine ev_ic (nI 1) at_60_64 (by decide) ?_
      refine ev_go at_60_65 rfl ?_
      first | refine ev_top (congrArg Value.int (nI_add _ _)) ?_ | skip
      refine ev_go at_60_66 rfl ?_
      refine ev_go at_60_67 rfl ?_
      refine ev_top (congrArg Value.int hs43) ?_
      refine ev_zald at_60_68 h5 (by omega) hv5 ?_
      refine ev_ifb_eq at_60_69 (fun hc => nomatch hc) (fun _ => ?_)
      refine ev_bi (-2) at_60_72 (by decide) ?_
      refine ev_go at_60_74 rfl ?_
      refine ev_iret at_60_78 (by first | exact Or.inl rfl | exact Or.inr (Or.inl rfl) | exact Or.inr (Or.inr rfl) | exact Or.inr (bI_01 _)) ?_
      rfl
    | false =>
      rw [hbk] at hv hv4
      rw [if_neg (by decide)] at hv
      cases ph with
      | false =>
        cases hv
        refine ev_go at_60_0 rfl ?_
        refine ev_go at_60_1 rfl ?_
        refine ev_go at_60_2 rfl ?_
        refine ev_go at_60_3 rfl ?_
        refine ev_callV (as := [_, _]) at_60_4 rfl rfl (by simp [mm_wt, Value.category]) rfl h0 hA ?_
        refine ev_ifb_eq at_60_7 (fun hc => nomatch hc) (fun _ => ?_)
        refine ev_ic (nI 0) at_60_10 (by decide) ?_
        refine ev_go at_60_11 rfl ?_
        refine ev_put at_60_15 h0 (by simp [Mo]) rfl ?_
        rw [hh1]
        refine ev_go at_60_18 rfl ?_
        refine ev_get at_60_19 h01 rfl ?_
        refine ev_if_le at_60_22 (fun _ => ?_) (fun hc => absurd hc (by decide))
        refine ev_go at_60_27 rfl ?_
        refine ev_go at_60_28 rfl ?_
        refine ev_callS (as := [_, _]) at_60_29 (by decide) rfl rfl (by simp [mm_wt, Value.category]) rfl hE ?_
        refine ev_go at_60_32 rfl ?_
        refine ev_go at_60_33 rfl ?_
        refine ev_get at_60_34 h01 rfl ?_
        refine ev_ic (nI 2) at_60_37 (by decide) ?_
        refine ev_go at_60_38 rfl ?_
        refine ev_go at_60_39 rfl ?_
        first | refine ev_top (congrArg Value.int (pk_mul _ _)) ?_ | skip
        refine ev_ic (nI 1) at_60_40 (by decide) ?_
        refine ev_go at_60_41 rfl ?_
        first | refine ev_top (congrArg Value.int (nI_add _ _)) ?_ | skip
        refine ev_go at_60_42 rfl ?_
        refine ev_go at_60_43 rfl ?_
        refine ev_top (congrArg Value.int hs43) ?_
        refine ev_zald at_60_44 h5 (by omega) hv5 ?_
        refine ev_ifb_eq at_60_45 (fun hc => nomatch hc) (fun _ => ?_)
        refine ev_go at_60_48 rfl ?_
        refine ev_get at_60_49 h01 rfl ?_
        refine ev_go at_60_52 rfl ?_
        refine ev_zald at_60_53 h4 (by omega) hv4 ?_
        refine ev_ifb_eq at_60_54 (fun _ => ?_) (fun hc => nomatch hc)
        refine ev_go at_60_79 rfl ?_
        refine ev_go at_60_80 rfl ?_
        refine ev_go at_60_81 rfl ?_
        refine ev_callV (as := [_, _]) at_60_82 rfl rfl (by simp [mm_wt, Value.category]) rfl h01 hT ?_
        refine ev_go at_60_85 rfl ?_
        refine ev_go at_60_87 rfl ?_
        refine ev_go at_60_88 rfl ?_
        refine ev_callV (as := [_]) at_60_89 rfl rfl (by simp [mm_wt, Value.category]) rfl h01 hP ?_
        refine ev_ifb_eq at_60_92 (fun _ => ?_) (fun hc => nomatch hc)
        refine ev_go at_60_108 rfl ?_
        refine ev_go at_60_109 rfl ?_
        refine ev_callV (as := [_]) at_60_110 rfl rfl (by simp [mm_wt, Value.category]) rfl h01 hP ?_
        refine ev_ifb_ne at_60_113 (fun hc => nomatch hc) (fun _ => ?_)
        refine ev_bi (-3) at_60_116 (by decide) ?_
        refine ev_go at_60_118 rfl ?_
        refine ev_iret at_60_133 (by first | exact Or.inl rfl | exact Or.inr (Or.inl rfl) | exact Or.inr (Or.inr rfl) | exact Or.inr (bI_01 _)) ?_
        rfl
      | true =>
        rw [if_neg (by decide)] at hv
        cases hqe : q.getLast? with
        | none =>
          rw [hqe] at hT
          rw [List.getLast?_eq_none_iff] at hqe
          rw [if_pos (decide_eq_true hqe)] at hv
          cases hv
          refine ev_go at_60_0 rfl ?_
          refine ev_go at_60_1 rfl ?_
          refine ev_go at_60_2 rfl ?_
          refine ev_go at_60_3 rfl ?_
          refine ev_callV (as := [_, _]) at_60_4 rfl rfl (by simp [mm_wt, Value.category]) rfl h0 hA ?_
          refine ev_ifb_eq at_60_7 (fun hc => nomatch hc) (fun _ => ?_)
          refine ev_ic (nI 0) at_60_10 (by decide) ?_
          refine ev_go at_60_11 rfl ?_
          refine ev_put at_60_15 h0 (by simp [Mo]) rfl ?_
          rw [hh1]
          refine ev_go at_60_18 rfl ?_
          refine ev_get at_60_19 h01 rfl ?_
          refine ev_if_le at_60_22 (fun _ => ?_) (fun hc => absurd hc (by decide))
          refine ev_go at_60_27 rfl ?_
          refine ev_go at_60_28 rfl ?_
          refine ev_callS (as := [_, _]) at_60_29 (by decide) rfl rfl (by simp [mm_wt, Value.category]) rfl hE ?_
          refine ev_go at_60_32 rfl ?_
          refine ev_go at_60_33 rfl ?_
          refine ev_get at_60_34 h01 rfl ?_
          refine ev_ic (nI 2) at_60_37 (by decide) ?_
          refine ev_go at_60_38 rfl ?_
          refine ev_go at_60_39 rfl ?_
          first | refine ev_top (congrArg Value.int (pk_mul _ _)) ?_ | skip
          refine ev_ic (nI 1) at_60_40 (by decide) ?_
          refine ev_go at_60_41 rfl ?_
          first | refine ev_top (congrArg Value.int (nI_add _ _)) ?_ | skip
          refine ev_go at_60_42 rfl ?_
          refine ev_go at_60_43 rfl ?_
          refine ev_top (congrArg Value.int hs43) ?_
          refine ev_zald at_60_44 h5 (by omega) hv5 ?_
          refine ev_ifb_eq at_60_45 (fun hc => nomatch hc) (fun _ => ?_)
          refine ev_go at_60_48 rfl ?_
          refine ev_get at_60_49 h01 rfl ?_
          refine ev_go at_60_52 rfl ?_
          refine ev_zald at_60_53 h4 (by omega) hv4 ?_
          refine ev_ifb_eq at_60_54 (fun _ => ?_) (fun hc => nomatch hc)
          refine ev_go at_60_79 rfl ?_
          refine ev_go at_60_80 rfl ?_
          refine ev_go at_60_81 rfl ?_
          refine ev_callV (as := [_, _]) at_60_82 rfl rfl (by simp [mm_wt, Value.category]) rfl h01 hT ?_
          refine ev_go at_60_85 rfl ?_
          refine ev_go at_60_87 rfl ?_
          refine ev_go at_60_88 rfl ?_
          refine ev_callV (as := [_]) at_60_89 rfl rfl (by simp [mm_wt, Value.category]) rfl h01 hP ?_
          refine ev_ifb_eq at_60_92 (fun hc => nomatch hc) (fun _ => ?_)
          refine ev_go at_60_95 rfl ?_
          refine ev_if_lt at_60_97 (fun _ => ?_) (fun hc => absurd (show (-1 : Int32) < 0 by decide) hc)
          refine ev_go at_60_108 rfl ?_
          refine ev_go at_60_109 rfl ?_
          refine ev_callV (as := [_]) at_60_110 rfl rfl (by simp [mm_wt, Value.category]) rfl h01 hP ?_
          refine ev_ifb_ne at_60_113 (fun _ => ?_) (fun hc => nomatch hc)
          refine ev_go at_60_121 rfl ?_
          refine ev_if_ge at_60_123 (fun hc => absurd hc (show ¬ (0 : Int32) ≤ -1 by decide)) (fun _ => ?_)
          refine ev_bi (-4) at_60_126 (by decide) ?_
          refine ev_go at_60_128 rfl ?_
          refine ev_iret at_60_133 (by first | exact Or.inl rfl | exact Or.inr (Or.inl rfl) | exact Or.inr (Or.inr rfl) | exact Or.inr (bI_01 _)) ?_
          rfl
        | some x =>
          rw [hqe] at hT
          have hxq : x ∈ q := List.mem_of_getLast? hqe
          have hx8 := ((hq x).mp hxq).1
          have hne : q ≠ [] := by intro y; rw [y] at hxq; cases hxq
          have hpos : ¬ oS k (some x) < 0 := nI_pos (by show 8 * k + x < 2 ^ 31; omega)
          rw [if_neg (by rw [decide_eq_false hne]; decide)] at hv
          cases hlk : lmB m k with
          | false => rw [hlk, if_neg (by decide)] at hv; cases hv
          | true =>
            rw [hlk] at hL hv
            cases hv
            refine ev_go at_60_0 rfl ?_
            refine ev_go at_60_1 rfl ?_
            refine ev_go at_60_2 rfl ?_
            refine ev_go at_60_3 rfl ?_
            refine ev_callV (as := [_, _]) at_60_4 rfl rfl (by simp [mm_wt, Value.category]) rfl h0 hA ?_
            refine ev_ifb_eq at_60_7 (fun hc => nomatch hc) (fun _ => ?_)
            refine ev_ic (nI 0) at_60_10 (by decide) ?_
            refine ev_go at_60_11 rfl ?_
            refine ev_put at_60_15 h0 (by simp [Mo]) rfl ?_
            rw [hh1]
            refine ev_go at_60_18 rfl ?_
            refine ev_get at_60_19 h01 rfl ?_
            refine ev_if_le at_60_22 (fun _ => ?_) (fun hc => absurd hc (by decide))
            refine ev_go at_60_27 rfl ?_
            refine ev_go at_60_28 rfl ?_
            refine ev_callS (as := [_, _]) at_60_29 (by decide) rfl rfl (by simp [mm_wt, Value.category]) rfl hE ?_
            refine ev_go at_60_32 rfl ?_
            refine ev_go at_60_33 rfl ?_
            refine ev_get at_60_34 h01 rfl ?_
            refine ev_ic (nI 2) at_60_37 (by decide) ?_
            refine ev_go at_60_38 rfl ?_
            refine ev_go at_60_39 rfl ?_
            first | refine ev_top (congrArg Value.int (pk_mul _ _)) ?_ | skip
            refine ev_ic (nI 1) at_60_40 (by decide) ?_
            refine ev_go at_60_41 rfl ?_
            first | refine ev_top (congrArg Value.int (nI_add _ _)) ?_ | skip
            refine ev_go at_60_42 rfl ?_
            refine ev_go at_60_43 rfl ?_
            refine ev_top (congrArg Value.int hs43) ?_
            refine ev_zald at_60_44 h5 (by omega) hv5 ?_
            refine ev_ifb_eq at_60_45 (fun hc => nomatch hc) (fun _ => ?_)
            refine ev_go at_60_48 rfl ?_
            refine ev_get at_60_49 h01 rfl ?_
            refine ev_go at_60_52 rfl ?_
            refine ev_zald at_60_53 h4 (by omega) hv4 ?_
            refine ev_ifb_eq at_60_54 (fun _ => ?_) (fun hc => nomatch hc)
            refine ev_go at_60_79 rfl ?_
            refine ev_go at_60_80 rfl ?_
            refine ev_go at_60_81 rfl ?_
            refine ev_callV (as := [_, _]) at_60_82 rfl rfl (by simp [mm_wt, Value.category]) rfl h01 hT ?_
            refine ev_go at_60_85 rfl ?_
            refine ev_go at_60_87 rfl ?_
            refine ev_go at_60_88 rfl ?_
            refine ev_callV (as := [_]) at_60_89 rfl rfl (by simp [mm_wt, Value.category]) rfl h01 hP ?_
            refine ev_ifb_eq at_60_92 (fun hc => nomatch hc) (fun _ => ?_)
            refine ev_go at_60_95 rfl ?_
            refine ev_if_lt at_60_97 (fun hc => absurd hc hpos) (fun _ => ?_)
            refine ev_go at_60_100 rfl ?_
            refine ev_go at_60_101 rfl ?_
            refine ev_callV (as := [_]) at_60_102 rfl rfl (by simp [mm_wt, Value.category]) rfl h01 hL ?_
            refine ev_ifb_eq at_60_105 (fun hc => nomatch hc) (fun _ => ?_)
            refine ev_go at_60_108 rfl ?_
            refine ev_go at_60_109 rfl ?_
            refine ev_callV (as := [_]) at_60_110 rfl rfl (by simp [mm_wt, Value.category]) rfl h01 hP ?_
            refine ev_ifb_ne at_60_113 (fun _ => ?_) (fun hc => nomatch hc)
            refine ev_go at_60_121 rfl ?_
            refine ev_if_ge at_60_123 (fun _ => ?_) (fun hc => absurd (Int32.not_lt.mp hpos) hc)
            refine ev_bi (-5) at_60_131 (by decide) ?_
            refine ev_iret at_60_133 (by first | exact Or.inl rfl | exact Or.inr (Or.inl rfl) | exact Or.inr (Or.inr rfl) | exact Or.inr (bI_01 _)) ?_
            rfl
theorem e_takeYes (d : Nat) (hM : MAt K a h c m) {k : Nat} (hk : K.ex k = true) (e : Bool) (hB : MB m) {q : List Nat} {i : Nat} (hq : Ly K m k e (q ++ [i])) (hp : (q ++ [i]).Pairwise fun i j => m.si (8 * k + i) < m.si (8 * k + j)) (hph0 : ∀ j, j < K.t → m.pl (8 * k + j) < 2) (hhd : m.hd (2 * k + eN (!e)) = true) (hbk : m.bk k = false) (hlk : lmB m k = false) :
    ∃ h', mm_cal z (d + 3) 60 [.ref a, .int (nI (eb k e)), .int (nI k)] h (.returned (some (.int (nI (k * 100 + i)))), h') ∧ MAt K a h' (nI 0) ((m.goes (8 * k + i) (10 + eb k e)).sTu (2 * k + eN e) (m.tu (2 * k + eN e) + 1)) ∧ Off a (a + 12) h h' := by
  have hph : true = true ↔ ∀ j, j < K.t → m.pl (8 * k + j) < 2 := ⟨fun _ => hph0, fun _ => rfl⟩
  have hK := hM.1
  have h15 := (Cf.no hK hk).1.1
  have ht := hK.2.2.2.1
  have hA := d_isEnd (z := z) d hM (nI (eb k e)) (nI k)
  rw [edB_nI hK hk e] at hA
  have h0 := hM.2.1
  obtain ⟨m1, o1⟩ := hM.setC (nI 0)
  generalize hh1 : mm_upd h a 2 (.int (nI 0)) = h1 at m1 o1
  have h01 := m1.2.1
  have h5 := m1.a5
  have h4 := m1.a4
  have hE := d_end (z := z) (h := h1) d hK hk e
  have hix := eN_ix h15 (!e)
  have heN := eN_lt e
  have hv5 := rng_at (n := 30) (fun s => Value.int (bI (m.hd s))) hix
  have hv4 := rng_at (n := 15) (fun s => Value.int (bI (m.bk s))) h15
  rw [← eN_ne] at hv5
  rw [← eN_ne] at hhd
  rw [← eN_ne] at hix
  have hP := d_isInPhase (z := z) (d + 1) m1 hB h15 hph
  have hT := d_topmost (z := z) (d + 1) m1 hB h15 hq hp
  have hL := d_isLocked (z := z) (d + 1) m1 hk
  have hs43 : nI (2 * k + 1) - nI (eN e) = nI (2 * k + 1 - eN e) := pk_sub (by omega)
  have hix2 := eN_ix h15 e
  have hi8 := ((hq i).mp (by simp)).1
  rw [hhd] at hv5
  rw [hbk] at hv4
  rw [hlk] at hL
  have hgl : (q ++ [i]).getLast? = some i := by simp
  rw [hgl] at hT
  have hpos : ¬ oS k (some i) < 0 := nI_pos (by show 8 * k + i < 2 ^ 31; omega)
  obtain ⟨h2, hG, m2, o2⟩ := d_goes (z := z) (d + 1) m1 (k := 8 * k + i) (v := 10 + eb k e) (by omega)
  have h02 := m2.2.1
  have h6 := m2.a6
  have hv6 := rng_at (n := 30) (fun s => Value.int (nI (m.tu s))) hix2
  obtain ⟨m3, o3⟩ := m2.sTu (2 * k + eN e) (m.tu (2 * k + eN e) + 1)
  refine ⟨_, ?_, m3, (o1.trans o2).trans o3⟩
  refine mm_cal_of ?_
  refine ev_go at_60_0 rfl ?_
  refine ev_go at_60_1 rfl ?_
  refine ev_go at_60_2 rfl ?_
  refine ev_go at_60_3 rfl ?_
  refine ev_callV (as := [_, _]) at_60_4 rfl rfl (by simp [mm_wt, Value.category]) rfl h0 hA ?_
  refine ev_ifb_eq at_60_7 (fun hc => nomatch hc) (fun _ => ?_)
  refine ev_ic (nI 0) at_60_10 (by decide) ?_
  refine ev_go at_60_11 rfl ?_
  refine ev_put at_60_15 h0 (by simp [Mo]) rfl ?_
  rw [hh1]
  refine ev_go at_60_18 rfl ?_
  refine ev_get at_60_19 h01 rfl ?_
  refine ev_if_le at_60_22 (fun _ => ?_) (fun hc => absurd hc (by decide))
  refine ev_go at_60_27 rfl ?_
  refine ev_go at_60_28 rfl ?_
  refine ev_callS (as := [_, _]) at_60_29 (by decide) rfl rfl (by simp [mm_wt, Value.category]) rfl hE ?_
  refine ev_go at_60_32 rfl ?_
  refine ev_go at_60_33 rfl ?_
  refine ev_get at_60_34 h01 rfl ?_
  refine ev_ic (nI 2) at_60_37 (by decide) ?_
  refine ev_go at_60_38 rfl ?_
  refine ev_go at_60_39 rfl ?_
  first | refine ev_top (congrArg Value.int (pk_mul _ _)) ?_ | skip
  refine ev_ic (nI 1) at_60_40 (by decide) ?_
  refine ev_go at_60_41 rfl ?_
  first | refine ev_top (congrArg Value.int (nI_add _ _)) ?_ | skip
  refine ev_go at_60_42 rfl ?_
  refine ev_go at_60_43 rfl ?_
  refine ev_top (congrArg Value.int hs43) ?_
  refine ev_zald at_60_44 h5 (by omega) hv5 ?_
  refine ev_ifb_eq at_60_45 (fun hc => nomatch hc) (fun _ => ?_)
  refine ev_go at_60_48 rfl ?_
  refine ev_get at_60_49 h01 rfl ?_
  refine ev_go at_60_52 rfl ?_
  refine ev_zald at_60_53 h4 (by omega) hv4 ?_
  refine ev_ifb_eq at_60_54 (fun _ => ?_) (fun hc => nomatch hc)
  refine ev_go at_60_79 rfl ?_
  refine ev_go at_60_80 rfl ?_
  refine ev_go at_60_81 rfl ?_
  refine ev_callV (as := [_, _]) at_60_82 rfl rfl (by simp [mm_wt, Value.category]) rfl h01 hT ?_
  refine ev_go at_60_85 rfl ?_
  refine ev_go at_60_87 rfl ?_
  refine ev_go at_60_88 rfl ?_
  refine ev_callV (as := [_]) at_60_89 rfl rfl (by simp [mm_wt, Value.category]) rfl h01 hP ?_
  refine ev_ifb_eq at_60_92 (fun hc => nomatch hc) (fun _ => ?_)
  refine ev_go at_60_95 rfl ?_
  refine ev_if_lt at_60_97 (fun hc => absurd hc hpos) (fun _ => ?_)
  refine ev_go at_60_100 rfl ?_
  refine ev_go at_60_101 rfl ?_
  refine ev_callV (as := [_]) at_60_102 rfl rfl (by simp [mm_wt, Value.category]) rfl h01 hL ?_
  refine ev_ifb_eq at_60_105 (fun _ => ?_) (fun hc => nomatch hc)
  refine ev_go at_60_134 rfl ?_
  refine ev_go at_60_135 rfl ?_
  refine ev_top (show Value.int (oS k (some i)) = Value.int (nI (8 * k + i)) from rfl) ?_
  refine ev_bi (nI 10) at_60_137 (by decide) ?_
  refine ev_go at_60_139 rfl ?_
  refine ev_go at_60_140 rfl ?_
  first | refine ev_top (congrArg Value.int (nI_add _ _)) ?_ | skip
  refine ev_callV (as := [_, _]) at_60_141 rfl rfl (by simp [mm_wt, Value.category]) rfl h01 hG ?_
  refine ev_go at_60_144 rfl ?_
  refine ev_get at_60_145 h02 rfl ?_
  refine ev_ic (nI 2) at_60_148 (by decide) ?_
  refine ev_go at_60_149 rfl ?_
  refine ev_go at_60_150 rfl ?_
  first | refine ev_top (congrArg Value.int (pk_mul _ _)) ?_ | skip
  refine ev_go at_60_151 rfl ?_
  refine ev_go at_60_152 rfl ?_
  first | refine ev_top (congrArg Value.int (nI_add _ _)) ?_ | skip
  refine ev_go at_60_153 rfl ?_
  refine ev_iald at_60_154 h6 (by omega) hv6 ?_
  refine ev_ic (nI 1) at_60_155 (by decide) ?_
  refine ev_go at_60_156 rfl ?_
  first | refine ev_top (congrArg Value.int (nI_add _ _)) ?_ | skip
  refine ev_iast at_60_157 h6 (by omega) (by rw [rng_len]; exact hix2) ?_
  refine ev_bi (nI 100) at_60_158 (by decide) ?_
  refine ev_go at_60_160 rfl ?_
  refine ev_go at_60_161 rfl ?_
  first | refine ev_top (congrArg Value.int (pk_mul _ _)) ?_ | skip
  refine ev_go at_60_162 rfl ?_
  refine ev_top (show Value.int (oS k (some i)) = Value.int (nI (8 * k + i)) from rfl) ?_
  refine ev_go at_60_164 rfl ?_
  first | refine ev_top (congrArg Value.int (nI_add _ _)) ?_ | skip
  refine ev_bi (nI 8) at_60_165 (by decide) ?_
  refine ev_go at_60_167 rfl ?_
  refine ev_go at_60_168 rfl ?_
  first | refine ev_top (congrArg Value.int (pk_mul _ _)) ?_ | skip
  refine ev_go at_60_169 rfl ?_
  refine ev_top (congrArg Value.int (show nI (100 * k + (8 * k + i)) - nI (8 * k) = nI (k * 100 + i) by rw [pk_sub (by omega), show 100 * k + (8 * k + i) - 8 * k = k * 100 + i by omega])) ?_
  refine ev_iret at_60_170 (by first | exact Or.inl rfl | exact Or.inr (Or.inl rfl) | exact Or.inr (Or.inr rfl) | exact Or.inr (bI_01 _)) ?_
  rfl
end D5
