/-! THE CLASS's PUBLIC METHODS (3): hand, back, enter -/
section C5
variable {z : mm_Z} {h h' : mm_H} {K : Cf} {w : Cs}
theorem ni_ne {a b : Nat} (ha : a < 2 ^ 31) (hb : b < 2 ^ 31) (h : a ≠ b) : ¬ nI a = nI b := fun q => h ((nI_eq ha hb).mp q)
/-- the section's tablets' places -/
abbrev pls (w : Cs) (k : Nat) : List Nat := (w.2.1 k).2.2.1
def setP (w : Cs) (k i v : Nat) : Cs := setS w k ((w.2.1 k).1, (w.2.1 k).2.1, (pls w k).set i v, (w.2.1 k).2.2.2)
theorem c_hand (d : Nat) (hW : CW K h w) {i b k m : Nat} (hi : i < 8) (hkn : (w.2.2 i).1 = true) (hb : (w.2.2 i).2.1 = some b) (hb2 : b < 100) (hk : K.ex k = true) (hp : (pls w k)[m]? = some (10 + b)) (ht : (w.2.2 i).2.2.2.2 = none) :
    ∃ h', mm_cal z (d + 4) 16 [.ref 0, .int (nI i), .int (nI (k * 100 + m))] h (.returned none, h') ∧ CW K h' (setP (setT w i (true, some b, (w.2.2 i).2.2.1, (w.2.2 i).2.2.2.1, some (k * 100 + m))) k m (20 + i)) ∧ Off 0 (K.tb + 9) h h' := by
  have hA := c_knownTrain (z := z) (d + 1) hW hi hkn
  have h0 := hW.2.1
  obtain ⟨hS, hn⟩ := hW.sec hk
  have h15 := hn.1
  have h8 := hn.2.2
  have hm : m < K.t := by rw [← hS.2.2.2.2]; exact (List.getElem?_eq_some_iff.mp hp).1
  have hB := c_sectionOfTablet (z := z) d hW hk hm
  have hC := c_placeOf (z := z) d hS hn m _ hp
  have q1 := hS.1
  have hT := hW.tr hi
  unfold TrAt at hT
  rw [hkn, hb, ht] at hT
  have e1 := mm_upd_at hT 4 (.int (nI (k * 100 + m)))
  have o : Off (K.tb + 1 + i) (K.tb + 2 + i) h (mm_upd h (K.tb + 1 + i) 4 (.int (nI (k * 100 + m)))) := Off.upd (Nat.le_refl _) (by omega)
  obtain ⟨r1, r2⟩ := hW.setT hi (g := (true, some b, (w.2.2 i).2.2.1, (w.2.2 i).2.2.2.1, some (k * 100 + m))) o (by unfold TrAt; rw [e1]; rfl)
  obtain ⟨hS1, -⟩ := r1.sec hk
  obtain ⟨h2, hD, hS2, o2⟩ := c_setPlaceOf (z := z) d hS1 hn m (20 + i) hm
  obtain ⟨t1, t2⟩ := r1.setS hk o2 hS2
  have q2 := hS1.1
  refine ⟨h2, ?_, t1, r2.trans t2⟩
  refine mm_cal_of ?_
  refine ev_go at_16_0 rfl ?_
  refine ev_go at_16_1 rfl ?_
  refine ev_callV (as := [_]) at_16_2 rfl rfl (by simp [mm_wt, Value.category]) rfl (by assumption) hA ?_
  refine ev_go at_16_5 rfl ?_
  refine ev_go at_16_6 rfl ?_
  refine ev_go at_16_7 rfl ?_
  refine ev_callV (as := [_]) at_16_8 rfl rfl (by simp [mm_wt, Value.category]) rfl (by assumption) hB ?_
  refine ev_go at_16_11 rfl ?_
  refine ev_go at_16_13 rfl ?_
  refine ev_get at_16_14 hT rfl ?_
  refine ev_ic (-1) at_16_17 (by decide) ?_
  refine ev_icmp_eq at_16_18 (fun hc => absurd hc (nI_m1 (by omega))) (fun _ => ?_)
  refine ev_go at_16_21 rfl ?_
  refine ev_go at_16_23 rfl ?_
  refine ev_callV (as := [_]) at_16_24 rfl rfl (by simp [mm_wt, Value.category]) rfl q1 hC ?_
  refine ev_bi (nI 10) at_16_27 (by decide) ?_
  refine ev_go at_16_29 rfl ?_
  refine ev_get at_16_30 hT rfl ?_
  refine ev_go at_16_33 rfl ?_
  refine ev_top (congrArg Value.int (nI_add 10 b)) ?_
  refine ev_icmp_eq at_16_34 (fun _ => ?_) (fun hc => absurd rfl hc)
  refine ev_go at_16_47 rfl ?_
  refine ev_get at_16_48 hT rfl ?_
  refine ev_ic (-1) at_16_51 (by decide) ?_
  refine ev_icmp_eq at_16_52 (fun _ => ?_) (fun hc => absurd rfl hc)
  refine ev_go at_16_65 rfl ?_
  refine ev_go at_16_66 rfl ?_
  refine ev_put at_16_67 hT (by simp) (by first | rfl | exact fits_b _) ?_
  refine ev_go at_16_70 rfl ?_
  refine ev_go at_16_72 rfl ?_
  refine ev_bi (nI 20) at_16_73 (by decide) ?_
  refine ev_go at_16_75 rfl ?_
  refine ev_go at_16_76 rfl ?_
  first | refine ev_top (congrArg Value.int (nI_add _ _)) ?_ | skip
  refine ev_callV (as := [_, _]) at_16_77 rfl rfl (by simp [mm_wt, Value.category]) rfl q2 hD ?_
  refine ev_end at_16_80 rfl ?_
  rfl
theorem x_hand0 (d : Nat) (hW : CW K h w) {i x : Int32} (hx : knB w i = false ∨ tbB K x = false) : mm_cal z (d + 4) 16 [.ref 0, .int i, .int x] h (.threw 0, xh h 0) := by
  have h0 := hW.2.1
  refine mm_cal_of ?_
  cases hi : knB w i with
  | false =>
    have hX := x_knownTrain (z := z) (d + 1) hW hi
    refine ev_go at_16_0 rfl ?_
    refine ev_go at_16_1 rfl ?_
    exact ev_thrV (as := [_]) at_16_2 rfl rfl (by simp [mm_wt, Value.category]) rfl h0 hX (by decide +kernel) (by decide +kernel) rfl
  | true =>
    obtain ⟨j, hj, rfl, hkn⟩ := knB_t hi
    have hA := c_knownTrain (z := z) (d + 1) hW hj hkn
    have hX := x_sectionOfTablet (z := z) d hW (x := x) (by rcases hx with hx | hx; rw [hi] at hx; cases hx; exact hx)
    refine ev_go at_16_0 rfl ?_
    refine ev_go at_16_1 rfl ?_
    refine ev_callV (as := [_]) at_16_2 rfl rfl (by simp [mm_wt, Value.category]) rfl (by assumption) hA ?_
    refine ev_go at_16_5 rfl ?_
    refine ev_go at_16_6 rfl ?_
    refine ev_go at_16_7 rfl ?_
    exact ev_thrV (as := [_]) at_16_8 rfl rfl (by simp [mm_wt, Value.category]) rfl h0 hX (by decide +kernel) (by decide +kernel) rfl
theorem x_hand1 (d : Nat) (hW : CW K h w) {i k m v : Nat} (hi : i < 8) (hkn : (w.2.2 i).1 = true) (hk : K.ex k = true) (hp : (pls w k)[m]? = some v) (hv : v < 100) (hb2 : ∀ b, (w.2.2 i).2.1 = some b → b < 100) (ht2 : ∀ b, (w.2.2 i).2.2.2.2 = some b → b < 10000)
    (hx : ¬ ((w.2.2 i).2.1.map (10 + ·) = some v ∧ (w.2.2 i).2.2.2.2 = none)) : mm_cal z (d + 4) 16 [.ref 0, .int (nI i), .int (nI (k * 100 + m))] h (.threw 1, xh h 1) := by
  have hA := c_knownTrain (z := z) (d + 1) hW hi hkn
  have h0 := hW.2.1
  obtain ⟨hS, hn⟩ := hW.sec hk
  have h15 := hn.1
  have h8 := hn.2.2
  have hm : m < K.t := by rw [← hS.2.2.2.2]; exact (List.getElem?_eq_some_iff.mp hp).1
  have hB := c_sectionOfTablet (z := z) d hW hk hm
  have hC := c_placeOf (z := z) d hS hn m _ hp
  have q1 := hS.1
  have hT := hW.tr hi
  unfold TrAt at hT
  generalize w.2.2 i = g at hT hx hb2 ht2
  obtain ⟨kn, bx, sc, gl, tab⟩ := g
  refine mm_cal_of ?_
  cases bx with
  | none =>
    refine ev_go at_16_0 rfl ?_
    refine ev_go at_16_1 rfl ?_
    refine ev_callV (as := [_]) at_16_2 rfl rfl (by simp [mm_wt, Value.category]) rfl (by assumption) hA ?_
    refine ev_go at_16_5 rfl ?_
    refine ev_go at_16_6 rfl ?_
    refine ev_go at_16_7 rfl ?_
    refine ev_callV (as := [_]) at_16_8 rfl rfl (by simp [mm_wt, Value.category]) rfl (by assumption) hB ?_
    refine ev_go at_16_11 rfl ?_
    refine ev_go at_16_13 rfl ?_
    refine ev_get at_16_14 hT rfl ?_
    refine ev_ic (-1) at_16_17 (by decide) ?_
    refine ev_icmp_eq at_16_18 (fun _ => ?_) (fun hc => absurd rfl hc)
    refine ev_throw (e := 1) at_16_37 (by simp [mm_wt, Value.category]) ?_
    rfl
  | some b =>
    have hb := hb2 b rfl
    by_cases hvb : v = 10 + b
    · subst hvb
      cases tab with
      | none => exact absurd ⟨rfl, rfl⟩ hx
      | some tx =>
        have htx := ht2 tx rfl
        refine ev_go at_16_0 rfl ?_
        refine ev_go at_16_1 rfl ?_
        refine ev_callV (as := [_]) at_16_2 rfl rfl (by simp [mm_wt, Value.category]) rfl (by assumption) hA ?_
        refine ev_go at_16_5 rfl ?_
        refine ev_go at_16_6 rfl ?_
        refine ev_go at_16_7 rfl ?_
        refine ev_callV (as := [_]) at_16_8 rfl rfl (by simp [mm_wt, Value.category]) rfl (by assumption) hB ?_
        refine ev_go at_16_11 rfl ?_
        refine ev_go at_16_13 rfl ?_
        refine ev_get at_16_14 hT rfl ?_
        refine ev_ic (-1) at_16_17 (by decide) ?_
        refine ev_icmp_eq at_16_18 (fun hc => absurd hc (nI_m1 (by omega))) (fun _ => ?_)
        refine ev_go at_16_21 rfl ?_
        refine ev_go at_16_23 rfl ?_
        refine ev_callV (as := [_]) at_16_24 rfl rfl (by simp [mm_wt, Value.category]) rfl q1 hC ?_
        refine ev_bi (nI 10) at_16_27 (by decide) ?_
        refine ev_go at_16_29 rfl ?_
        refine ev_get at_16_30 hT rfl ?_
        refine ev_go at_16_33 rfl ?_
        refine ev_top (congrArg Value.int (nI_add 10 b)) ?_
        refine ev_icmp_eq at_16_34 (fun _ => ?_) (fun hc => absurd rfl hc)
        refine ev_go at_16_47 rfl ?_
        refine ev_get at_16_48 hT rfl ?_
        refine ev_ic (-1) at_16_51 (by decide) ?_
        refine ev_icmp_eq at_16_52 (fun hc => absurd hc (nI_m1 (by omega))) (fun _ => ?_)
        refine ev_throw (e := 1) at_16_55 (by simp [mm_wt, Value.category]) ?_
        rfl
    · skip
      refine ev_go at_16_0 rfl ?_
      refine ev_go at_16_1 rfl ?_
      refine ev_callV (as := [_]) at_16_2 rfl rfl (by simp [mm_wt, Value.category]) rfl (by assumption) hA ?_
      refine ev_go at_16_5 rfl ?_
      refine ev_go at_16_6 rfl ?_
      refine ev_go at_16_7 rfl ?_
      refine ev_callV (as := [_]) at_16_8 rfl rfl (by simp [mm_wt, Value.category]) rfl (by assumption) hB ?_
      refine ev_go at_16_11 rfl ?_
      refine ev_go at_16_13 rfl ?_
      refine ev_get at_16_14 hT rfl ?_
      refine ev_ic (-1) at_16_17 (by decide) ?_
      refine ev_icmp_eq at_16_18 (fun hc => absurd hc (nI_m1 (by omega))) (fun _ => ?_)
      refine ev_go at_16_21 rfl ?_
      refine ev_go at_16_23 rfl ?_
      refine ev_callV (as := [_]) at_16_24 rfl rfl (by simp [mm_wt, Value.category]) rfl q1 hC ?_
      refine ev_bi (nI 10) at_16_27 (by decide) ?_
      refine ev_go at_16_29 rfl ?_
      refine ev_get at_16_30 hT rfl ?_
      refine ev_go at_16_33 rfl ?_
      refine ev_top (congrArg Value.int (nI_add 10 b)) ?_
      refine ev_icmp_eq at_16_34 (fun hc => absurd hc (ni_ne (by omega) (by omega) hvb)) (fun _ => ?_)
      refine ev_throw (e := 1) at_16_37 (by simp [mm_wt, Value.category]) ?_
      rfl
theorem c_back (d : Nat) (hW : CW K h w) {i b k m : Nat} (hi : i < 8) (hkn : (w.2.2 i).1 = true) (hb : (w.2.2 i).2.1 = some b) (hb2 : b < 100) (hk : K.ex k = true) (hm : m < K.t) (ht : (w.2.2 i).2.2.2.2 = some (k * 100 + m)) :
    ∃ h', mm_cal z (d + 4) 18 [.ref 0, .int (nI i)] h (.returned (some (.int (nI (k * 100 + m)))), h') ∧ CW K h' (setP (setT w i (true, some b, (w.2.2 i).2.2.1, (w.2.2 i).2.2.2.1, none)) k m (10 + b)) ∧ Off 0 (K.tb + 9) h h' := by
  have hA := c_knownTrain (z := z) (d + 1) hW hi hkn
  have h0 := hW.2.1
  obtain ⟨hS, hn⟩ := hW.sec hk
  have h15 := hn.1
  have h8 := hn.2.2
  have hT := hW.tr hi
  unfold TrAt at hT
  rw [hkn, hb, ht] at hT
  have e1 := mm_upd_at hT 4 (.int (-1))
  have o : Off (K.tb + 1 + i) (K.tb + 2 + i) h (mm_upd h (K.tb + 1 + i) 4 (.int (-1))) := Off.upd (Nat.le_refl _) (by omega)
  obtain ⟨r1, r2⟩ := hW.setT hi (g := (true, some b, (w.2.2 i).2.2.1, (w.2.2 i).2.2.2.1, none)) o (by unfold TrAt; rw [e1]; rfl)
  obtain ⟨hS1, -⟩ := r1.sec hk
  have hB := c_sectionOfTablet (z := z) d r1 hk hm
  obtain ⟨h2, hD, hS2, o2⟩ := c_setPlaceOf (z := z) d hS1 hn m (10 + b) hm
  obtain ⟨t1, t2⟩ := r1.setS hk o2 hS2
  have q2 := hS1.1
  have h01 := r1.2.1
  refine ⟨h2, ?_, t1, r2.trans t2⟩
  refine mm_cal_of ?_
  refine ev_go at_18_0 rfl ?_
  refine ev_go at_18_1 rfl ?_
  refine ev_callV (as := [_]) at_18_2 rfl rfl (by simp [mm_wt, Value.category]) rfl (by assumption) hA ?_
  refine ev_go at_18_5 rfl ?_
  refine ev_go at_18_6 rfl ?_
  refine ev_get at_18_7 hT rfl ?_
  refine ev_ic (-1) at_18_10 (by decide) ?_
  refine ev_icmp_eq at_18_11 (fun hc => absurd hc (nI_m1 (by omega))) (fun _ => ?_)
  refine ev_go at_18_14 rfl ?_
  refine ev_get at_18_15 hT rfl ?_
  refine ev_ic (-1) at_18_18 (by decide) ?_
  refine ev_icmp_ne at_18_19 (fun _ => ?_) (fun hc => absurd hc (nI_m1 (by omega)))
  refine ev_go at_18_32 rfl ?_
  refine ev_get at_18_33 hT rfl ?_
  refine ev_go at_18_36 rfl ?_
  refine ev_go at_18_37 rfl ?_
  refine ev_ic (-1) at_18_38 (by decide) ?_
  refine ev_put at_18_39 hT (by simp) (by first | rfl | exact fits_b _) ?_
  refine ev_go at_18_42 rfl ?_
  refine ev_go at_18_43 rfl ?_
  refine ev_callV (as := [_]) at_18_44 rfl rfl (by simp [mm_wt, Value.category]) rfl h01 hB ?_
  refine ev_go at_18_47 rfl ?_
  refine ev_bi (nI 10) at_18_48 (by decide) ?_
  refine ev_go at_18_50 rfl ?_
  refine ev_get at_18_51 e1 rfl ?_
  refine ev_go at_18_54 rfl ?_
  refine ev_top (congrArg Value.int (nI_add 10 b)) ?_
  refine ev_callV (as := [_, _]) at_18_55 rfl rfl (by simp [mm_wt, Value.category]) rfl q2 hD ?_
  refine ev_go at_18_58 rfl ?_
  refine ev_iret at_18_59 (by first | exact Or.inl rfl | exact Or.inr (Or.inl rfl) | exact Or.inr (Or.inr rfl) | exact Or.inr (bI_01 _)) ?_
  rfl
theorem x_back0 (d : Nat) (hW : CW K h w) {i : Int32} (hi : knB w i = false) : mm_cal z (d + 4) 18 [.ref 0, .int i] h (.threw 0, xh h 0) := by
  have hX := x_knownTrain (z := z) (d + 1) hW hi
  have h0 := hW.2.1
  refine mm_cal_of ?_
  refine ev_go at_18_0 rfl ?_
  refine ev_go at_18_1 rfl ?_
  exact ev_thrV (as := [_]) at_18_2 rfl rfl (by simp [mm_wt, Value.category]) rfl h0 hX (by decide +kernel) (by decide +kernel) rfl
theorem x_back1 (d : Nat) (hW : CW K h w) {i : Nat} (hi : i < 8) (hkn : (w.2.2 i).1 = true) (ht2 : ∀ b, (w.2.2 i).2.2.2.2 = some b → b < 10000) (hx : (w.2.2 i).2.2.2.2 = none ∨ (w.2.2 i).2.1 = none) : mm_cal z (d + 4) 18 [.ref 0, .int (nI i)] h (.threw 1, xh h 1) := by
  have hA := c_knownTrain (z := z) (d + 1) hW hi hkn
  have h0 := hW.2.1
  have hT := hW.tr hi
  unfold TrAt at hT
  generalize w.2.2 i = g at hT hx ht2
  obtain ⟨kn, bx, sc, gl, tab⟩ := g
  refine mm_cal_of ?_
  cases tab with
  | none =>
    refine ev_go at_18_0 rfl ?_
    refine ev_go at_18_1 rfl ?_
    refine ev_callV (as := [_]) at_18_2 rfl rfl (by simp [mm_wt, Value.category]) rfl (by assumption) hA ?_
    refine ev_go at_18_5 rfl ?_
    refine ev_go at_18_6 rfl ?_
    refine ev_get at_18_7 hT rfl ?_
    refine ev_ic (-1) at_18_10 (by decide) ?_
    refine ev_icmp_eq at_18_11 (fun _ => ?_) (fun hc => absurd rfl hc)
    refine ev_throw (e := 1) at_18_22 (by simp [mm_wt, Value.category]) ?_
    rfl
  | some tx =>
    have htx := ht2 tx rfl
    have hbx : bx = none := by rcases hx with hx | hx; cases hx; exact hx
    subst hbx
    refine ev_go at_18_0 rfl ?_
    refine ev_go at_18_1 rfl ?_
    refine ev_callV (as := [_]) at_18_2 rfl rfl (by simp [mm_wt, Value.category]) rfl (by assumption) hA ?_
    refine ev_go at_18_5 rfl ?_
    refine ev_go at_18_6 rfl ?_
    refine ev_get at_18_7 hT rfl ?_
    refine ev_ic (-1) at_18_10 (by decide) ?_
    refine ev_icmp_eq at_18_11 (fun hc => absurd hc (nI_m1 (by omega))) (fun _ => ?_)
    refine ev_go at_18_14 rfl ?_
    refine ev_get at_18_15 hT rfl ?_
    refine ev_ic (-1) at_18_18 (by decide) ?_
    refine ev_icmp_ne at_18_19 (fun hc => absurd rfl hc) (fun _ => ?_)
    refine ev_throw (e := 1) at_18_22 (by simp [mm_wt, Value.category]) ?_
    rfl
theorem c_nextUp (d : Nat) (hW : CW K h w) {b : Nat} (hb : b < K.n) : mm_cal z (d + 3) 20 [.ref 0, .int (nI b), .int (bI true)] h (.returned (some (.int (nI (if decide (b + 1 < K.n) && w.1 (b + 1) then b + 2 else b + 1)))), h) := by
  have hn := hW.1.2.1
  have h0 := hW.2.1
  have hA := c_isOut (z := z) d hW (nI (b + 1))
  rw [otB_nI (by omega) (by omega)] at hA
  refine mm_cal_of ?_
  refine ev_go at_20_0 rfl ?_
  refine ev_ifb_eq at_20_1 (fun hc => nomatch hc) (fun _ => ?_)
  refine ev_ic (nI 1) at_20_4 (by decide) ?_
  refine ev_go at_20_5 rfl ?_
  refine ev_go at_20_9 rfl ?_
  refine ev_go at_20_10 rfl ?_
  refine ev_go at_20_11 rfl ?_
  refine ev_go at_20_12 rfl ?_
  first | refine ev_top (congrArg Value.int (nI_add _ _)) ?_ | skip
  refine ev_go at_20_13 rfl ?_
  refine ev_go at_20_15 rfl ?_
  refine ev_go at_20_16 rfl ?_
  refine ev_callV (as := [_]) at_20_18 rfl rfl (by simp [mm_wt, Value.category]) rfl (by assumption) hA ?_
  first | refine ev_ifb_eq at_20_21 (fun hc21 => ?_) (fun hc21 => ?_) | refine ev_if_eq at_20_21 (fun hc21 => ?_) (fun hc21 => ?_)
  · skip
    refine ev_go at_20_31 rfl ?_
    refine ev_iret at_20_33 (by first | exact Or.inl rfl | exact Or.inr (Or.inl rfl) | exact Or.inr (Or.inr rfl) | exact Or.inr (bI_01 _)) ?_
    rw [hc21]; rfl
  · skip
    refine ev_go at_20_24 rfl ?_
    refine ev_go at_20_26 rfl ?_
    refine ev_go at_20_27 rfl ?_
    first | refine ev_top (congrArg Value.int (nI_add _ _)) ?_ | skip
    refine ev_go at_20_28 rfl ?_
    refine ev_iret at_20_33 (by first | exact Or.inl rfl | exact Or.inr (Or.inl rfl) | exact Or.inr (Or.inr rfl) | exact Or.inr (bI_01 _)) ?_
    rw [hc21]; rfl
theorem c_nextDown (d : Nat) (hW : CW K h w) {b : Nat} (hb : b + 1 < K.n) (hout : w.1 b = true → 1 ≤ b) : mm_cal z (d + 3) 20 [.ref 0, .int (nI (b + 1)), .int (bI false)] h (.returned (some (.int (nI (if w.1 b then b - 1 else b)))), h) := by
  have hn := hW.1.2.1
  have h0 := hW.2.1
  have hA := c_isOut (z := z) d hW (nI b)
  rw [otB_nI (by omega) (by omega), decide_eq_true (by omega), Bool.true_and] at hA
  refine mm_cal_of ?_
  refine ev_go at_20_0 rfl ?_
  refine ev_ifb_eq at_20_1 (fun _ => ?_) (fun hc => nomatch hc)
  refine ev_ic (-1) at_20_8 (by decide) ?_
  refine ev_go at_20_9 rfl ?_
  refine ev_go at_20_10 rfl ?_
  refine ev_go at_20_11 rfl ?_
  refine ev_go at_20_12 rfl ?_
  refine ev_top (congrArg Value.int (pk_m1 b)) ?_
  refine ev_go at_20_13 rfl ?_
  refine ev_go at_20_15 rfl ?_
  refine ev_go at_20_16 rfl ?_
  refine ev_callV (as := [_]) at_20_18 rfl rfl (by simp [mm_wt, Value.category]) rfl (by assumption) hA ?_
  first | refine ev_ifb_eq at_20_21 (fun hc21 => ?_) (fun hc21 => ?_) | refine ev_if_eq at_20_21 (fun hc21 => ?_) (fun hc21 => ?_)
  · skip
    refine ev_go at_20_31 rfl ?_
    refine ev_iret at_20_33 (by first | exact Or.inl rfl | exact Or.inr (Or.inl rfl) | exact Or.inr (Or.inr rfl) | exact Or.inr (bI_01 _)) ?_
    rw [hc21]; rfl
  · skip
    refine ev_go at_20_24 rfl ?_
    refine ev_go at_20_26 rfl ?_
    refine ev_go at_20_27 rfl ?_
    have hb1 := hout hc21
    refine ev_top (congrArg Value.int (show nI b + -1 = nI (b - 1) by rw [show b = (b - 1) + 1 by omega, pk_m1]; rfl)) ?_
    refine ev_go at_20_28 rfl ?_
    refine ev_iret at_20_33 (by first | exact Or.inl rfl | exact Or.inr (Or.inl rfl) | exact Or.inr (Or.inr rfl) | exact Or.inr (bI_01 _)) ?_
    rw [hc21]; rfl
theorem c_nextOff (d : Nat) (hW : CW K h w) : mm_cal z (d + 3) 20 [.ref 0, .int (nI 0), .int (bI false)] h (.returned (some (.int (-1))), h) := by
  have h0 := hW.2.1
  have hA := c_isOut (z := z) d hW (-1)
  have hf : otB K.n w.1 (-1) = false := by unfold otB bxB; rw [decide_eq_false (by decide : ¬ ¬ (-1 : Int32) < 0)]; rfl
  rw [hf] at hA
  refine mm_cal_of ?_
  refine ev_go at_20_0 rfl ?_
  refine ev_ifb_eq at_20_1 (fun _ => ?_) (fun hc => nomatch hc)
  refine ev_ic (-1) at_20_8 (by decide) ?_
  refine ev_go at_20_9 rfl ?_
  refine ev_go at_20_10 rfl ?_
  refine ev_go at_20_11 rfl ?_
  refine ev_go at_20_12 rfl ?_
  refine ev_top (congrArg Value.int (show nI 0 + -1 = -1 by decide)) ?_
  refine ev_go at_20_13 rfl ?_
  refine ev_go at_20_15 rfl ?_
  refine ev_go at_20_16 rfl ?_
  refine ev_callV (as := [_]) at_20_18 rfl rfl (by simp [mm_wt, Value.category]) rfl (by assumption) hA ?_
  refine ev_ifb_eq at_20_21 (fun _ => ?_) (fun hc => nomatch hc)
  refine ev_go at_20_31 rfl ?_
  refine ev_iret at_20_33 (by first | exact Or.inl rfl | exact Or.inr (Or.inl rfl) | exact Or.inr (Or.inr rfl) | exact Or.inr (bI_01 _)) ?_
  rfl
theorem c_betweenUp (d : Nat) {a c : Nat} (hac : a < c) (hc : c < 100) : mm_cal z (d + 1) 21 [.int (nI a), .int (nI c)] h (.returned (some (.int (nI (if c = a + 1 then a else a + 11)))), h) := by
  have e1 : (if nI c < nI a then nI c else nI a) = nI a := if_neg (nI_nlt (by omega) (by omega))
  have e2 : (if 0 ≤ nI a - nI c then nI a - nI c else 0 - (nI a - nI c)) = nI (c - a) := by
    rw [if_neg (fun q => absurd (pk_sneg (by omega) hac) (Int32.not_lt.mpr q))]
    rw [← pk_sub (by omega : a ≤ c)]
    first | rw [Int32.zero_sub, Int32.neg_sub] | (generalize nI a = x; generalize nI c = y; apply Int32.toBitVec_inj.mp; simp only [Int32.toBitVec_sub]; show 0#32 - _ = _; bv_omega)
  refine mm_cal_of ?_
  refine ev_go at_21_0 rfl ?_
  refine ev_go at_21_1 rfl ?_
  refine ev_go at_21_2 rfl ?_
  refine ev_top (congrArg Value.int e1) ?_
  refine ev_go at_21_5 rfl ?_
  refine ev_go at_21_6 rfl ?_
  refine ev_go at_21_7 rfl ?_
  refine ev_go at_21_8 rfl ?_
  refine ev_go at_21_9 rfl ?_
  refine ev_top (congrArg Value.int e2) ?_
  refine ev_ic (nI 1) at_21_12 (by decide) ?_
  refine ev_icmp_ne at_21_13 (fun hc13 => ?_) (fun hc13 => ?_)
  · skip
    refine ev_bi (nI 10) at_21_20 (by decide) ?_
    refine ev_go at_21_22 rfl ?_
    refine ev_go at_21_23 rfl ?_
    refine ev_top (congrArg Value.int (nI_add 10 a)) ?_
    refine ev_ic (nI 1) at_21_24 (by decide) ?_
    refine ev_go at_21_25 rfl ?_
    first | refine ev_top (congrArg Value.int (nI_add _ _)) ?_ | skip
    refine ev_iret at_21_26 (by first | exact Or.inl rfl | exact Or.inr (Or.inl rfl) | exact Or.inr (Or.inr rfl) | exact Or.inr (bI_01 _)) ?_
    first | (have hq : ¬ c = a + 1 := (fun q => hc13 (by rw [show c - a = 1 by omega])); rw [if_neg hq, show 10 + a + 1 = a + 11 by omega]) | (have hq : c - a = 1 := (nI_eq (by omega) (by omega)).mp hc13; rw [if_pos (by omega)])
  · skip
    refine ev_go at_21_16 rfl ?_
    refine ev_go at_21_17 rfl ?_
    refine ev_iret at_21_26 (by first | exact Or.inl rfl | exact Or.inr (Or.inl rfl) | exact Or.inr (Or.inr rfl) | exact Or.inr (bI_01 _)) ?_
    first | (have hq : ¬ c = a + 1 := (fun q => hc13 (by rw [show c - a = 1 by omega])); rw [if_neg hq, show 10 + a + 1 = a + 11 by omega]) | (have hq : c - a = 1 := (nI_eq (by omega) (by omega)).mp hc13; rw [if_pos (by omega)])
theorem c_betweenDown (d : Nat) {a c : Nat} (hac : c < a) (ha : a < 100) : mm_cal z (d + 1) 21 [.int (nI a), .int (nI c)] h (.returned (some (.int (nI (if a = c + 1 then c else c + 11)))), h) := by
  have e1 : (if nI c < nI a then nI c else nI a) = nI c := if_pos (nI_lt hac (by omega))
  have e2 : (if 0 ≤ nI (a - c) then nI (a - c) else 0 - nI (a - c)) = nI (a - c) := if_pos (nI_pos' (by omega))
  refine mm_cal_of ?_
  refine ev_go at_21_0 rfl ?_
  refine ev_go at_21_1 rfl ?_
  refine ev_go at_21_2 rfl ?_
  refine ev_top (congrArg Value.int e1) ?_
  refine ev_go at_21_5 rfl ?_
  refine ev_go at_21_6 rfl ?_
  refine ev_go at_21_7 rfl ?_
  refine ev_go at_21_8 rfl ?_
  first | refine ev_top (congrArg Value.int (pk_sub (by omega))) ?_ | skip
  refine ev_go at_21_9 rfl ?_
  refine ev_top (congrArg Value.int e2) ?_
  refine ev_ic (nI 1) at_21_12 (by decide) ?_
  refine ev_icmp_ne at_21_13 (fun hc13 => ?_) (fun hc13 => ?_)
  · skip
    refine ev_bi (nI 10) at_21_20 (by decide) ?_
    refine ev_go at_21_22 rfl ?_
    refine ev_go at_21_23 rfl ?_
    refine ev_top (congrArg Value.int (nI_add 10 c)) ?_
    refine ev_ic (nI 1) at_21_24 (by decide) ?_
    refine ev_go at_21_25 rfl ?_
    first | refine ev_top (congrArg Value.int (nI_add _ _)) ?_ | skip
    refine ev_iret at_21_26 (by first | exact Or.inl rfl | exact Or.inr (Or.inl rfl) | exact Or.inr (Or.inr rfl) | exact Or.inr (bI_01 _)) ?_
    first | (have hq : ¬ a = c + 1 := (fun q => hc13 (by rw [show a - c = 1 by omega])); rw [if_neg hq, show 10 + c + 1 = c + 11 by omega]) | (have hq : a - c = 1 := (nI_eq (by omega) (by omega)).mp hc13; rw [if_pos (by omega)])
  · skip
    refine ev_go at_21_16 rfl ?_
    refine ev_go at_21_17 rfl ?_
    refine ev_iret at_21_26 (by first | exact Or.inl rfl | exact Or.inr (Or.inl rfl) | exact Or.inr (Or.inr rfl) | exact Or.inr (bI_01 _)) ?_
    first | (have hq : ¬ a = c + 1 := (fun q => hc13 (by rw [show a - c = 1 by omega])); rw [if_neg hq, show 10 + c + 1 = c + 11 by omega]) | (have hq : a - c = 1 := (nI_eq (by omega) (by omega)).mp hc13; rw [if_pos (by omega)])
end C5
