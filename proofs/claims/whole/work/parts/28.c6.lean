/-! THE CLASS's PUBLIC METHODS (4): enter, take, give, carry -/
section C6
variable {z : mm_Z} {h h' : mm_H} {K : Cf} {w : Cs}
theorem ev_acmp_t {C : Nat → List Value → mm_H → mm_R → Prop} {j pc n x y : Nat} {ls : List Slot} {st : List Value} {r : mm_R} {off : Int} {a : Nat} (ha : mm_at j pc = some (.if_acmp .eq off, n, x, y)) (k : mm_Ev z C j (x, ls, st, h) r) : mm_Ev z C j (pc, ls, .ref a :: .ref a :: st, h) r :=
  ev_go ha (show (if (ACond.eq = ACond.eq ↔ some a = some a) then mm_go x ls st h else mm_go n ls st h) = _ by rw [if_pos ⟨fun _ => rfl, fun _ => rfl⟩]; rfl) k
theorem ev_acmp_f {C : Nat → List Value → mm_H → mm_R → Prop} {j pc n x y : Nat} {ls : List Slot} {st : List Value} {r : mm_R} {off : Int} {a b : Nat} (ha : mm_at j pc = some (.if_acmp .eq off, n, x, y)) (hab : a ≠ b) (k : mm_Ev z C j (n, ls, st, h) r) : mm_Ev z C j (pc, ls, .ref b :: .ref a :: st, h) r :=
  ev_go ha (show (if (ACond.eq = ACond.eq ↔ some a = some b) then mm_go x ls st h else mm_go n ls st h) = _ by rw [if_neg (fun q => hab (Option.some.inj (q.mp rfl)))]; rfl) k
theorem Cf.inj (hK : K.ok) {k k' : Nat} (h1 : K.ex k = true) (h2 : K.ex k' = true) (hne : k ≠ k') : K.sa k ≠ K.sa k' := by
  intro q
  rcases hK.2.2.2.2.2 k k' h1 h2 hne with x | x <;> omega
theorem c_enter (d : Nat) (hW : CW K h w) {i b gl s m : Nat} {up : Int32} (hi : i < 8) (hkn : (w.2.2 i).1 = true) (hb : (w.2.2 i).2.1 = some b) (hb2 : b < 100) (hgl : gl < K.n) (hs : s < 100) (hm : m < 100) (ht : (w.2.2 i).2.2.2.2 = some (s * 100 + m))
    (hN : mm_cal z (d + 3) 20 [.ref 0, .int (nI b), .int up] h (.returned (some (.int (nI gl))), h)) (hB : mm_cal z (d + 3) 21 [.int (nI b), .int (nI gl)] h (.returned (some (.int (nI s))), h)) :
    ∃ h', mm_cal z (d + 4) 19 [.ref 0, .int (nI i), .int up] h (.returned (some (.int (nI s))), h') ∧ CW K h' (setT w i (true, none, some s, some gl, some (s * 100 + m))) ∧ Off 0 (K.tb + 9) h h' := by
  have hA := c_knownTrain (z := z) (d + 1) hW hi hkn
  have hn := hW.1.2.1
  have hC := c_isBox (z := z) (d + 2) hW (nI gl)
  rw [bxB_nI (by omega) (by omega), decide_eq_true hgl] at hC
  have h0 := hW.2.1
  have hT := hW.tr hi
  unfold TrAt at hT
  rw [hkn, hb, ht] at hT
  have e1 := mm_upd_at hT 1 (.int (-1))
  have e2 := mm_upd_at e1 2 (.int (nI s))
  have e3 := mm_upd_at e2 3 (.int (nI gl))
  have o : Off (K.tb + 1 + i) (K.tb + 2 + i) h (mm_upd (mm_upd (mm_upd h (K.tb + 1 + i) 1 (.int (-1))) (K.tb + 1 + i) 2 (.int (nI s))) (K.tb + 1 + i) 3 (.int (nI gl))) := ((Off.upd (Nat.le_refl _) (by omega)).trans (Off.upd (Nat.le_refl _) (by omega))).trans (Off.upd (Nat.le_refl _) (by omega))
  obtain ⟨r1, r2⟩ := hW.setT hi (g := (true, none, some s, some gl, some (s * 100 + m))) o (by unfold TrAt; rw [e3]; rfl)
  refine ⟨_, ?_, r1, r2⟩
  refine mm_cal_of ?_
  refine ev_go at_19_0 rfl ?_
  refine ev_go at_19_1 rfl ?_
  refine ev_callV (as := [_]) at_19_2 rfl rfl (by simp [mm_wt, Value.category]) rfl (by assumption) hA ?_
  refine ev_go at_19_5 rfl ?_
  refine ev_go at_19_6 rfl ?_
  refine ev_get at_19_7 hT rfl ?_
  refine ev_ic (-1) at_19_10 (by decide) ?_
  refine ev_icmp_ne at_19_11 (fun _ => ?_) (fun hc => absurd hc (nI_m1 (by omega)))
  refine ev_go at_19_24 rfl ?_
  refine ev_go at_19_25 rfl ?_
  refine ev_get at_19_26 hT rfl ?_
  refine ev_go at_19_29 rfl ?_
  refine ev_callV (as := [_, _]) at_19_30 rfl rfl (by simp [mm_wt, Value.category]) rfl (by assumption) hN ?_
  refine ev_go at_19_33 rfl ?_
  refine ev_go at_19_35 rfl ?_
  refine ev_go at_19_36 rfl ?_
  refine ev_callV (as := [_]) at_19_38 rfl rfl (by simp [mm_wt, Value.category]) rfl (by assumption) hC ?_
  refine ev_ifb_ne at_19_41 (fun _ => ?_) (fun hc => nomatch hc)
  refine ev_go at_19_54 rfl ?_
  refine ev_get at_19_55 hT rfl ?_
  refine ev_go at_19_58 rfl ?_
  refine ev_callS (as := [_, _]) at_19_60 (by decide) rfl rfl (by simp [mm_wt, Value.category]) rfl hB ?_
  refine ev_go at_19_63 rfl ?_
  refine ev_go at_19_65 rfl ?_
  refine ev_get at_19_66 hT rfl ?_
  refine ev_ic (-1) at_19_69 (by decide) ?_
  refine ev_icmp_eq at_19_70 (fun hc => absurd hc (nI_m1 (by omega))) (fun _ => ?_)
  refine ev_go at_19_73 rfl ?_
  refine ev_get at_19_74 hT rfl ?_
  refine ev_bi (nI 100) at_19_77 (by decide) ?_
  refine ev_idiv at_19_79 (by decide) ?_
  refine ev_top (congrArg Value.int (show nI (s * 100 + m) / nI 100 = nI s by rw [pk_div (by omega) (by omega) (by omega), show (s * 100 + m) / 100 = s by omega])) ?_
  refine ev_go at_19_80 rfl ?_
  refine ev_icmp_eq at_19_82 (fun _ => ?_) (fun hc => absurd rfl hc)
  refine ev_go at_19_95 rfl ?_
  refine ev_ic (-1) at_19_96 (by decide) ?_
  refine ev_put at_19_97 hT (by simp) (by first | rfl | exact fits_b _) ?_
  refine ev_go at_19_100 rfl ?_
  refine ev_go at_19_101 rfl ?_
  refine ev_put at_19_103 e1 (by simp) (by first | rfl | exact fits_b _) ?_
  refine ev_go at_19_106 rfl ?_
  refine ev_go at_19_107 rfl ?_
  refine ev_put at_19_109 e2 (by simp) (by first | rfl | exact fits_b _) ?_
  refine ev_go at_19_112 rfl ?_
  refine ev_iret at_19_114 (by first | exact Or.inl rfl | exact Or.inr (Or.inl rfl) | exact Or.inr (Or.inr rfl) | exact Or.inr (bI_01 _)) ?_
  rfl
theorem x_enter0 (d : Nat) (hW : CW K h w) {i u : Int32} (hi : knB w i = false) : mm_cal z (d + 4) 19 [.ref 0, .int i, .int u] h (.threw 0, xh h 0) := by
  have hX := x_knownTrain (z := z) (d + 1) hW hi
  have h0 := hW.2.1
  refine mm_cal_of ?_
  refine ev_go at_19_0 rfl ?_
  refine ev_go at_19_1 rfl ?_
  exact ev_thrV (as := [_]) at_19_2 rfl rfl (by simp [mm_wt, Value.category]) rfl h0 hX (by decide +kernel) (by decide +kernel) rfl
theorem x_enter1 (d : Nat) (hW : CW K h w) {i : Nat} {u : Int32} (hi : i < 8) (hkn : (w.2.2 i).1 = true) (hb : (w.2.2 i).2.1 = none) : mm_cal z (d + 4) 19 [.ref 0, .int (nI i), .int u] h (.threw 1, xh h 1) := by
  have hA := c_knownTrain (z := z) (d + 1) hW hi hkn
  have h0 := hW.2.1
  have hT := hW.tr hi
  unfold TrAt at hT
  rw [hb] at hT
  refine mm_cal_of ?_
  refine ev_go at_19_0 rfl ?_
  refine ev_go at_19_1 rfl ?_
  refine ev_callV (as := [_]) at_19_2 rfl rfl (by simp [mm_wt, Value.category]) rfl (by assumption) hA ?_
  refine ev_go at_19_5 rfl ?_
  refine ev_go at_19_6 rfl ?_
  refine ev_get at_19_7 hT rfl ?_
  refine ev_ic (-1) at_19_10 (by decide) ?_
  refine ev_icmp_ne at_19_11 (fun hc => absurd rfl hc) (fun _ => ?_)
  refine ev_throw (e := 1) at_19_14 (by simp [mm_wt, Value.category]) ?_
  rfl
theorem x_enter2 (d : Nat) (hW : CW K h w) {i b : Nat} {up gl : Int32} (hi : i < 8) (hkn : (w.2.2 i).1 = true) (hb : (w.2.2 i).2.1 = some b) (hb2 : b < 100) (hgl : bxB K.n gl = false)
    (hN : mm_cal z (d + 3) 20 [.ref 0, .int (nI b), .int up] h (.returned (some (.int gl)), h)) : mm_cal z (d + 4) 19 [.ref 0, .int (nI i), .int up] h (.threw 2, xh h 2) := by
  have hA := c_knownTrain (z := z) (d + 1) hW hi hkn
  have hC := c_isBox (z := z) (d + 2) hW gl
  rw [hgl] at hC
  have h0 := hW.2.1
  have hT := hW.tr hi
  unfold TrAt at hT
  rw [hb] at hT
  refine mm_cal_of ?_
  refine ev_go at_19_0 rfl ?_
  refine ev_go at_19_1 rfl ?_
  refine ev_callV (as := [_]) at_19_2 rfl rfl (by simp [mm_wt, Value.category]) rfl (by assumption) hA ?_
  refine ev_go at_19_5 rfl ?_
  refine ev_go at_19_6 rfl ?_
  refine ev_get at_19_7 hT rfl ?_
  refine ev_ic (-1) at_19_10 (by decide) ?_
  refine ev_icmp_ne at_19_11 (fun _ => ?_) (fun hc => absurd hc (nI_m1 (by omega)))
  refine ev_go at_19_24 rfl ?_
  refine ev_go at_19_25 rfl ?_
  refine ev_get at_19_26 hT rfl ?_
  refine ev_go at_19_29 rfl ?_
  refine ev_callV (as := [_, _]) at_19_30 rfl rfl (by simp [mm_wt, Value.category]) rfl (by assumption) hN ?_
  refine ev_go at_19_33 rfl ?_
  refine ev_go at_19_35 rfl ?_
  refine ev_go at_19_36 rfl ?_
  refine ev_callV (as := [_]) at_19_38 rfl rfl (by simp [mm_wt, Value.category]) rfl (by assumption) hC ?_
  refine ev_ifb_ne at_19_41 (fun hc => nomatch hc) (fun _ => ?_)
  refine ev_throw (e := 2) at_19_44 (by simp [mm_wt, Value.category]) ?_
  rfl
theorem x_enter3 (d : Nat) (hW : CW K h w) {i b gl s : Nat} {up : Int32} (hi : i < 8) (hkn : (w.2.2 i).1 = true) (hb : (w.2.2 i).2.1 = some b) (hb2 : b < 100) (hgl : gl < K.n) (hs : s < 100) (ht2 : ∀ x, (w.2.2 i).2.2.2.2 = some x → x < 10000 ∧ x / 100 ≠ s)
    (hN : mm_cal z (d + 3) 20 [.ref 0, .int (nI b), .int up] h (.returned (some (.int (nI gl))), h)) (hB : mm_cal z (d + 3) 21 [.int (nI b), .int (nI gl)] h (.returned (some (.int (nI s))), h)) : mm_cal z (d + 4) 19 [.ref 0, .int (nI i), .int up] h (.threw 3, xh h 3) := by
  have hA := c_knownTrain (z := z) (d + 1) hW hi hkn
  have hn := hW.1.2.1
  have hC := c_isBox (z := z) (d + 2) hW (nI gl)
  rw [bxB_nI (by omega) (by omega), decide_eq_true hgl] at hC
  have h0 := hW.2.1
  have hT := hW.tr hi
  unfold TrAt at hT
  rw [hb] at hT
  generalize (w.2.2 i).2.2.2.2 = tab at hT ht2
  refine mm_cal_of ?_
  cases tab with
  | none =>
    refine ev_go at_19_0 rfl ?_
    refine ev_go at_19_1 rfl ?_
    refine ev_callV (as := [_]) at_19_2 rfl rfl (by simp [mm_wt, Value.category]) rfl (by assumption) hA ?_
    refine ev_go at_19_5 rfl ?_
    refine ev_go at_19_6 rfl ?_
    refine ev_get at_19_7 hT rfl ?_
    refine ev_ic (-1) at_19_10 (by decide) ?_
    refine ev_icmp_ne at_19_11 (fun _ => ?_) (fun hc => absurd hc (nI_m1 (by omega)))
    refine ev_go at_19_24 rfl ?_
    refine ev_go at_19_25 rfl ?_
    refine ev_get at_19_26 hT rfl ?_
    refine ev_go at_19_29 rfl ?_
    refine ev_callV (as := [_, _]) at_19_30 rfl rfl (by simp [mm_wt, Value.category]) rfl (by assumption) hN ?_
    refine ev_go at_19_33 rfl ?_
    refine ev_go at_19_35 rfl ?_
    refine ev_go at_19_36 rfl ?_
    refine ev_callV (as := [_]) at_19_38 rfl rfl (by simp [mm_wt, Value.category]) rfl (by assumption) hC ?_
    refine ev_ifb_ne at_19_41 (fun _ => ?_) (fun hc => nomatch hc)
    refine ev_go at_19_54 rfl ?_
    refine ev_get at_19_55 hT rfl ?_
    refine ev_go at_19_58 rfl ?_
    refine ev_callS (as := [_, _]) at_19_60 (by decide) rfl rfl (by simp [mm_wt, Value.category]) rfl hB ?_
    refine ev_go at_19_63 rfl ?_
    refine ev_go at_19_65 rfl ?_
    refine ev_get at_19_66 hT rfl ?_
    refine ev_ic (-1) at_19_69 (by decide) ?_
    refine ev_icmp_eq at_19_70 (fun _ => ?_) (fun hc => absurd rfl hc)
    refine ev_throw (e := 3) at_19_85 (by simp [mm_wt, Value.category]) ?_
    rfl
  | some x =>
    obtain ⟨hx1, hx2⟩ := ht2 x rfl
    refine ev_go at_19_0 rfl ?_
    refine ev_go at_19_1 rfl ?_
    refine ev_callV (as := [_]) at_19_2 rfl rfl (by simp [mm_wt, Value.category]) rfl (by assumption) hA ?_
    refine ev_go at_19_5 rfl ?_
    refine ev_go at_19_6 rfl ?_
    refine ev_get at_19_7 hT rfl ?_
    refine ev_ic (-1) at_19_10 (by decide) ?_
    refine ev_icmp_ne at_19_11 (fun _ => ?_) (fun hc => absurd hc (nI_m1 (by omega)))
    refine ev_go at_19_24 rfl ?_
    refine ev_go at_19_25 rfl ?_
    refine ev_get at_19_26 hT rfl ?_
    refine ev_go at_19_29 rfl ?_
    refine ev_callV (as := [_, _]) at_19_30 rfl rfl (by simp [mm_wt, Value.category]) rfl (by assumption) hN ?_
    refine ev_go at_19_33 rfl ?_
    refine ev_go at_19_35 rfl ?_
    refine ev_go at_19_36 rfl ?_
    refine ev_callV (as := [_]) at_19_38 rfl rfl (by simp [mm_wt, Value.category]) rfl (by assumption) hC ?_
    refine ev_ifb_ne at_19_41 (fun _ => ?_) (fun hc => nomatch hc)
    refine ev_go at_19_54 rfl ?_
    refine ev_get at_19_55 hT rfl ?_
    refine ev_go at_19_58 rfl ?_
    refine ev_callS (as := [_, _]) at_19_60 (by decide) rfl rfl (by simp [mm_wt, Value.category]) rfl hB ?_
    refine ev_go at_19_63 rfl ?_
    refine ev_go at_19_65 rfl ?_
    refine ev_get at_19_66 hT rfl ?_
    refine ev_ic (-1) at_19_69 (by decide) ?_
    refine ev_icmp_eq at_19_70 (fun hc => absurd hc (nI_m1 (by omega))) (fun _ => ?_)
    refine ev_go at_19_73 rfl ?_
    refine ev_get at_19_74 hT rfl ?_
    refine ev_bi (nI 100) at_19_77 (by decide) ?_
    refine ev_idiv at_19_79 (by decide) ?_
    refine ev_top (congrArg Value.int (pk_div (by omega) (by omega) (by omega))) ?_
    refine ev_go at_19_80 rfl ?_
    refine ev_icmp_eq at_19_82 (fun hc => absurd hc (ni_ne (by omega) (by omega) hx2)) (fun _ => ?_)
    refine ev_throw (e := 3) at_19_85 (by simp [mm_wt, Value.category]) ?_
    rfl
/-- why take gives none -/
def tkN (K : Cf) (w : Cs) (k : Nat) (e : Bool) : Option Int32 :=
  if ((w.2.1 k).at (!e)).2.2 = false then some (-1) else if (w.2.1 k).2.2.2 = false then some (-2) else if ((w.2.1 k).1.2.1 == (w.2.1 k).2.1.2.1) = false then some (-3) else if ((w.2.1 k).at e).1 = [] then some (-4) else if lkB K w k = true then some (-5) else none
/-- a section with another instrument at an end, and other places -/
def mv (g : Sg) (e : Bool) (I : List Nat × Bool × Bool) (pl : List Nat) : Sg := ((g.with e I).1, (g.with e I).2.1, pl, g.2.2.2)
theorem c_takeNo (d : Nat) (hW : CW K h w) {k : Nat} (hk : K.ex k = true) (e : Bool) {v : Int32} (hv : tkN K w k e = some v) : mm_cal z (d + 4) 6 [.ref 0, .int (nI (eb k e)), .int (nI k)] h (.returned (some (.int v)), h) := by
  have hA := c_sectionEndingAt (z := z) d hW hk e
  obtain ⟨hS, hn⟩ := hW.sec hk
  have h15 := hn.1
  have h8 := hn.2.2
  have hB := c_instrumentAt (z := z) (d + 2) hS hn e
  have hC := c_instrumentOpposite (z := z) (d + 1) hS hn e
  have hD := c_inPhase (z := z) (d + 2) hS
  have hE := c_isLocked (z := z) d hW hk
  have h0 := hW.2.1
  have q1 := hS.1
  have q2 := hW.q hk e
  have q3 := hW.q hk (!e)
  have hlen : ((w.2.1 k).at e).1.length ≤ K.t := (hS.inst e).2.1
  unfold tkN at hv
  refine mm_cal_of ?_
  refine ev_go at_6_0 rfl ?_
  refine ev_go at_6_1 rfl ?_
  refine ev_go at_6_2 rfl ?_
  refine ev_callV (as := [_, _]) at_6_3 rfl rfl (by simp [mm_wt, Value.category]) rfl (by assumption) hA ?_
  refine ev_go at_6_6 rfl ?_
  refine ev_go at_6_7 rfl ?_
  refine ev_go at_6_8 rfl ?_
  refine ev_callV (as := [_]) at_6_9 rfl rfl (by simp [mm_wt, Value.category]) rfl q1 hB ?_
  refine ev_go at_6_12 rfl ?_
  refine ev_go at_6_14 rfl ?_
  refine ev_go at_6_15 rfl ?_
  refine ev_callV (as := [_]) at_6_16 rfl rfl (by simp [mm_wt, Value.category]) rfl q1 hC ?_
  refine ev_get at_6_19 q3 rfl ?_
  first | refine ev_ifb_ne at_6_22 (fun hc22 => ?_) (fun hc22 => ?_) | refine ev_if_ne at_6_22 (fun hc22 => ?_) (fun hc22 => ?_)
  · skip
    refine ev_go at_6_27 rfl ?_
    refine ev_get at_6_28 q1 rfl ?_
    first | refine ev_ifb_ne at_6_31 (fun hc31 => ?_) (fun hc31 => ?_) | refine ev_if_ne at_6_31 (fun hc31 => ?_) (fun hc31 => ?_)
    · skip
      refine ev_go at_6_37 rfl ?_
      refine ev_callV (as := []) at_6_38 rfl rfl (by simp [mm_wt, Value.category]) rfl q1 hD ?_
      first | refine ev_ifb_ne at_6_41 (fun hc41 => ?_) (fun hc41 => ?_) | refine ev_if_ne at_6_41 (fun hc41 => ?_) (fun hc41 => ?_)
      · skip
        refine ev_go at_6_47 rfl ?_
        refine ev_get at_6_49 q2 rfl ?_
        first | refine ev_ifb_ne at_6_52 (fun hc52 => ?_) (fun hc52 => ?_) | refine ev_if_ne at_6_52 (fun hc52 => ?_) (fun hc52 => ?_)
        · skip
          refine ev_go at_6_58 rfl ?_
          refine ev_go at_6_59 rfl ?_
          refine ev_callV (as := [_]) at_6_60 rfl rfl (by simp [mm_wt, Value.category]) rfl (by assumption) hE ?_
          first | refine ev_ifb_eq at_6_63 (fun hc63 => ?_) (fun hc63 => ?_) | refine ev_if_eq at_6_63 (fun hc63 => ?_) (fun hc63 => ?_)
          · skip
            rw [if_neg (by rw [hc22]; decide), if_neg (by rw [hc31]; decide), if_neg (by rw [hc41]; decide), if_neg (fun q => hc52 (by rw [q]; rfl)), if_neg (by rw [hc63]; decide)] at hv
            cases hv
          · skip
            refine ev_bi (-5) at_6_66 (by decide) ?_
            refine ev_iret at_6_68 (by first | exact Or.inl rfl | exact Or.inr (Or.inl rfl) | exact Or.inr (Or.inr rfl) | exact Or.inr (bI_01 _)) ?_
            rw [if_neg (by rw [hc22]; decide), if_neg (by rw [hc31]; decide), if_neg (by rw [hc41]; decide), if_neg (fun q => hc52 (by rw [q]; rfl)), if_pos hc63] at hv; cases hv; rfl
        · skip
          refine ev_bi (-4) at_6_55 (by decide) ?_
          refine ev_iret at_6_57 (by first | exact Or.inl rfl | exact Or.inr (Or.inl rfl) | exact Or.inr (Or.inr rfl) | exact Or.inr (bI_01 _)) ?_
          rw [if_neg (by rw [hc22]; decide), if_neg (by rw [hc31]; decide), if_neg (by rw [hc41]; decide), if_pos (List.eq_nil_of_length_eq_zero ((nI_eq (by omega) (by omega)).mp hc52))] at hv; cases hv; rfl
      · skip
        refine ev_bi (-3) at_6_44 (by decide) ?_
        refine ev_iret at_6_46 (by first | exact Or.inl rfl | exact Or.inr (Or.inl rfl) | exact Or.inr (Or.inr rfl) | exact Or.inr (bI_01 _)) ?_
        rw [if_neg (by rw [hc22]; decide), if_neg (by rw [hc31]; decide), if_pos hc41] at hv; cases hv; rfl
    · skip
      refine ev_bi (-2) at_6_34 (by decide) ?_
      refine ev_iret at_6_36 (by first | exact Or.inl rfl | exact Or.inr (Or.inl rfl) | exact Or.inr (Or.inr rfl) | exact Or.inr (bI_01 _)) ?_
      rw [if_neg (by rw [hc22]; decide), if_pos hc31] at hv; cases hv; rfl
  · skip
    refine ev_ic (-1) at_6_25 (by decide) ?_
    refine ev_iret at_6_26 (by first | exact Or.inl rfl | exact Or.inr (Or.inl rfl) | exact Or.inr (Or.inr rfl) | exact Or.inr (bI_01 _)) ?_
    rw [if_pos hc22] at hv; cases hv; rfl
theorem c_takeYes (d : Nat) (hW : CW K h w) {k : Nat} (hk : K.ex k = true) (e : Bool) (hv : tkN K w k e = none) {q : List Nat} {i : Nat} (hq : ((w.2.1 k).at e).1 = q ++ [k * 100 + i]) (hi : i < K.t) :
    ∃ h', mm_cal z (d + 4) 6 [.ref 0, .int (nI (eb k e)), .int (nI k)] h (.returned (some (.int (nI (k * 100 + i)))), h') ∧ CW K h' (setS w k (mv (w.2.1 k) e (q, !((w.2.1 k).at e).2.1, ((w.2.1 k).at e).2.2) ((pls w k).set i (10 + eb k e)))) ∧ Off 0 (K.tb + 9) h h' := by
  have hA := c_sectionEndingAt (z := z) d hW hk e
  obtain ⟨hS, hn⟩ := hW.sec hk
  have h15 := hn.1
  have h8 := hn.2.2
  have hB := c_instrumentAt (z := z) (d + 2) hS hn e
  have hC := c_instrumentOpposite (z := z) (d + 1) hS hn e
  have hD := c_inPhase (z := z) (d + 2) hS
  have hE := c_isLocked (z := z) d hW hk
  have h0 := hW.2.1
  have q1 := hS.1
  have q2 := hW.q hk e
  have q3 := hW.q hk (!e)
  have hlen : ((w.2.1 k).at e).1.length ≤ K.t := (hS.inst e).2.1
  unfold tkN at hv
  have v1 : ((w.2.1 k).at (!e)).2.2 = true := by
    cases hx : ((w.2.1 k).at (!e)).2.2 with
    | true => rfl
    | false => rw [if_pos hx] at hv; cases hv
  rw [if_neg (by rw [v1]; decide)] at hv
  have v2 : (w.2.1 k).2.2.2 = true := by
    cases hx : (w.2.1 k).2.2.2 with
    | true => rfl
    | false => rw [if_pos hx] at hv; cases hv
  rw [if_neg (by rw [v2]; decide)] at hv
  have v3 : ((w.2.1 k).1.2.1 == (w.2.1 k).2.1.2.1) = true := by
    cases hx : ((w.2.1 k).1.2.1 == (w.2.1 k).2.1.2.1) with
    | true => rfl
    | false => rw [if_pos hx] at hv; cases hv
  rw [if_neg (by rw [v3]; decide), if_neg (by rw [hq]; simp)] at hv
  have v5 : lkB K w k = false := by
    cases hx : lkB K w k with
    | false => rfl
    | true => rw [if_pos hx] at hv; cases hv
  rw [v1] at q3
  rw [v2] at q1
  rw [v3] at hD
  rw [v5] at hE
  have hI := hS.inst e
  rw [hq] at hI
  obtain ⟨h1, hF, hI1, o1⟩ := c_pop (z := z) (d + 2) (k * 100 + i) hI h8
  obtain ⟨h2, hG, hI2, o2⟩ := c_turnWheel (z := z) (d + 2) hI1
  have hS2 := hS.setInst e (i := (q, !((w.2.1 k).at e).2.1, ((w.2.1 k).at e).2.2)) (o1.trans o2) hI2
  obtain ⟨h3, hH, hS3, o3⟩ := c_setPlaceOf (z := z) d hS2 hn i (10 + eb k e) hi
  have q4 := hI1.1
  have q5 := hS2.1
  obtain ⟨i1, i2⟩ := ia_in (K.sa k) e
  rw [Sg.with_pl] at hS3
  obtain ⟨r1, r2⟩ := hW.setS hk (((o1.trans o2).wide (by omega) (by omega)).trans o3) hS3
  have hl2 : ((w.2.1 k).at e).1.length = q.length + 1 := by rw [hq]; simp
  refine ⟨h3, ?_, r1, r2⟩
  refine mm_cal_of ?_
  refine ev_go at_6_0 rfl ?_
  refine ev_go at_6_1 rfl ?_
  refine ev_go at_6_2 rfl ?_
  refine ev_callV (as := [_, _]) at_6_3 rfl rfl (by simp [mm_wt, Value.category]) rfl (by assumption) hA ?_
  refine ev_go at_6_6 rfl ?_
  refine ev_go at_6_7 rfl ?_
  refine ev_go at_6_8 rfl ?_
  refine ev_callV (as := [_]) at_6_9 rfl rfl (by simp [mm_wt, Value.category]) rfl q1 hB ?_
  refine ev_go at_6_12 rfl ?_
  refine ev_go at_6_14 rfl ?_
  refine ev_go at_6_15 rfl ?_
  refine ev_callV (as := [_]) at_6_16 rfl rfl (by simp [mm_wt, Value.category]) rfl q1 hC ?_
  refine ev_get at_6_19 q3 rfl ?_
  refine ev_ifb_ne at_6_22 (fun _ => ?_) (fun hc => nomatch hc)
  refine ev_go at_6_27 rfl ?_
  refine ev_get at_6_28 q1 rfl ?_
  refine ev_ifb_ne at_6_31 (fun _ => ?_) (fun hc => nomatch hc)
  refine ev_go at_6_37 rfl ?_
  refine ev_callV (as := []) at_6_38 rfl rfl (by simp [mm_wt, Value.category]) rfl q1 hD ?_
  refine ev_ifb_ne at_6_41 (fun _ => ?_) (fun hc => nomatch hc)
  refine ev_go at_6_47 rfl ?_
  refine ev_get at_6_49 q2 rfl ?_
  refine ev_if_ne at_6_52 (fun _ => ?_) (fun hc => absurd hc (nI_ne0 (by omega) (by omega)))
  refine ev_go at_6_58 rfl ?_
  refine ev_go at_6_59 rfl ?_
  refine ev_callV (as := [_]) at_6_60 rfl rfl (by simp [mm_wt, Value.category]) rfl (by assumption) hE ?_
  refine ev_ifb_eq at_6_63 (fun _ => ?_) (fun hc => nomatch hc)
  refine ev_go at_6_69 rfl ?_
  refine ev_callV (as := []) at_6_71 rfl rfl (by simp [mm_wt, Value.category]) rfl q2 hF ?_
  refine ev_go at_6_74 rfl ?_
  refine ev_go at_6_76 rfl ?_
  refine ev_callV (as := []) at_6_78 rfl rfl (by simp [mm_wt, Value.category]) rfl q4 hG ?_
  refine ev_go at_6_81 rfl ?_
  refine ev_go at_6_82 rfl ?_
  refine ev_bi (nI 10) at_6_84 (by decide) ?_
  refine ev_go at_6_86 rfl ?_
  refine ev_go at_6_87 rfl ?_
  first | refine ev_top (congrArg Value.int (nI_add _ _)) ?_ | skip
  refine ev_callV (as := [_, _]) at_6_88 rfl rfl (by simp [mm_wt, Value.category]) rfl q5 hH ?_
  refine ev_go at_6_91 rfl ?_
  refine ev_iret at_6_93 (by first | exact Or.inl rfl | exact Or.inr (Or.inl rfl) | exact Or.inr (Or.inr rfl) | exact Or.inr (bI_01 _)) ?_
  rfl
theorem x_take (d : Nat) (hW : CW K h w) {s b : Int32} (hs : edB K s b = false) : mm_cal z (d + 4) 6 [.ref 0, .int b, .int s] h (.threw 0, xh h 0) := by
  have hX := x_sectionEndingAt (z := z) d hW hs
  have h0 := hW.2.1
  refine mm_cal_of ?_
  refine ev_go at_6_0 rfl ?_
  refine ev_go at_6_1 rfl ?_
  refine ev_go at_6_2 rfl ?_
  exact ev_thrV (as := [_, _]) at_6_3 rfl rfl (by simp [mm_wt, Value.category]) rfl h0 hX (by decide +kernel) (by decide +kernel) rfl
theorem x_give0 (d : Nat) (hW : CW K h w) {s b x : Int32} (hx : edB K s b = false ∨ tbB K x = false ∨ x / nI 100 ≠ s) : mm_cal z (d + 5) 10 [.ref 0, .int b, .int s, .int x] h (.threw 0, xh h 0) := by
  have h0 := hW.2.1
  refine mm_cal_of ?_
  cases hed : edB K s b with
  | false =>
    have hX := x_sectionEndingAt (z := z) (d + 1) hW hed
    refine ev_go at_10_0 rfl ?_
    refine ev_go at_10_1 rfl ?_
    refine ev_go at_10_2 rfl ?_
    exact ev_thrV (as := [_, _]) at_10_3 rfl rfl (by simp [mm_wt, Value.category]) rfl h0 hX (by decide +kernel) (by decide +kernel) rfl
  | true =>
    rw [hed] at hx
    obtain ⟨k, e, hk, rfl, rfl⟩ := edB_t hW.1 hed
    have hA := c_sectionEndingAt (z := z) (d + 1) hW hk e
    cases htb : tbB K x with
    | false =>
      have hX := x_sectionOfTablet (z := z) (d + 1) hW htb
      refine ev_go at_10_0 rfl ?_
      refine ev_go at_10_1 rfl ?_
      refine ev_go at_10_2 rfl ?_
      refine ev_callV (as := [_, _]) at_10_3 rfl rfl (by simp [mm_wt, Value.category]) rfl (by assumption) hA ?_
      refine ev_go at_10_6 rfl ?_
      refine ev_go at_10_8 rfl ?_
      refine ev_go at_10_9 rfl ?_
      exact ev_thrV (as := [_]) at_10_10 rfl rfl (by simp [mm_wt, Value.category]) rfl h0 hX (by decide +kernel) (by decide +kernel) rfl
    | true =>
      obtain ⟨k', i, hk', hi, rfl⟩ := tbB_t hW.1 htb
      have h15 := (hW.sec hk').2.1
      have h8 := (hW.sec hk').2.2.2
      have hne : k' ≠ k := by
        rcases hx with hx | hx | hx
        · cases hx
        · rw [htb] at hx; cases hx
        · intro q
          apply hx
          rw [pk_div (by omega) (by omega) (by omega), show (k' * 100 + i) / 100 = k' by omega, q]
      have hB := c_sectionOfTablet (z := z) (d + 1) hW hk' hi
      refine ev_go at_10_0 rfl ?_
      refine ev_go at_10_1 rfl ?_
      refine ev_go at_10_2 rfl ?_
      refine ev_callV (as := [_, _]) at_10_3 rfl rfl (by simp [mm_wt, Value.category]) rfl (by assumption) hA ?_
      refine ev_go at_10_6 rfl ?_
      refine ev_go at_10_8 rfl ?_
      refine ev_go at_10_9 rfl ?_
      refine ev_callV (as := [_]) at_10_10 rfl rfl (by simp [mm_wt, Value.category]) rfl (by assumption) hB ?_
      refine ev_go at_10_13 rfl ?_
      refine ev_acmp_f at_10_15 (Cf.inj hW.1 hk' hk hne) ?_
      refine ev_throw (e := 0) at_10_18 (by simp [mm_wt, Value.category]) ?_
      rfl
theorem x_give1 (d : Nat) (hW : CW K h w) {k i v : Nat} (hk : K.ex k = true) (e : Bool) (hp : (pls w k)[i]? = some v) (hv : v < 28) (hnh : v ≠ 10 + eb k e) (hnt : ∀ j, j < 8 → v = 20 + j → ∀ b, (w.2.2 j).2.1 = some b → b < 100 ∧ b ≠ eb k e) : mm_cal z (d + 5) 10 [.ref 0, .int (nI (eb k e)), .int (nI k), .int (nI (k * 100 + i))] h (.threw 1, xh h 1) := by
  have h0 := hW.2.1
  obtain ⟨hS, hn⟩ := hW.sec hk
  have h15 := hn.1
  have h8 := hn.2.2
  obtain ⟨n1, n2, n3⟩ := hn.lt
  have hbu : eb k e < 11 := by unfold eb; split <;> omega
  have hit : i < K.t := by rw [← hS.2.2.2.2]; exact (List.getElem?_eq_some_iff.mp hp).1
  have hA := c_sectionEndingAt (z := z) (d + 1) hW hk e
  have hB := c_sectionOfTablet (z := z) (d + 1) hW hk hit
  have hC := c_placeOf (z := z) (d + 1) hS hn i _ hp
  have q1 := hS.1
  refine mm_cal_of ?_
  by_cases h20 : v < 20
  · have hD := n_trainAt (z := z) (h := h) (d + 3) h20
    refine ev_go at_10_0 rfl ?_
    refine ev_go at_10_1 rfl ?_
    refine ev_go at_10_2 rfl ?_
    refine ev_callV (as := [_, _]) at_10_3 rfl rfl (by simp [mm_wt, Value.category]) rfl (by assumption) hA ?_
    refine ev_go at_10_6 rfl ?_
    refine ev_go at_10_8 rfl ?_
    refine ev_go at_10_9 rfl ?_
    refine ev_callV (as := [_]) at_10_10 rfl rfl (by simp [mm_wt, Value.category]) rfl (by assumption) hB ?_
    refine ev_go at_10_13 rfl ?_
    refine ev_acmp_t at_10_15 ?_
    refine ev_go at_10_28 rfl ?_
    refine ev_go at_10_30 rfl ?_
    refine ev_callV (as := [_]) at_10_31 rfl rfl (by simp [mm_wt, Value.category]) rfl q1 hC ?_
    refine ev_go at_10_34 rfl ?_
    refine ev_go at_10_36 rfl ?_
    refine ev_go at_10_37 rfl ?_
    refine ev_callV (as := [_]) at_10_39 rfl rfl (by simp [mm_wt, Value.category]) rfl (by assumption) hD ?_
    refine ev_go at_10_42 rfl ?_
    refine ev_go at_10_44 rfl ?_
    refine ev_bi (nI 10) at_10_46 (by decide) ?_
    refine ev_go at_10_48 rfl ?_
    refine ev_go at_10_49 rfl ?_
    first | refine ev_top (congrArg Value.int (nI_add _ _)) ?_ | skip
    refine ev_icmp_ne at_10_50 (fun _ => ?_) (fun hc => absurd hc (ni_ne (by omega) (by omega) hnh))
    refine ev_ic (nI 0) at_10_57 (by decide) ?_
    refine ev_go at_10_58 rfl ?_
    refine ev_go at_10_60 rfl ?_
    refine ev_go at_10_62 rfl ?_
    refine ev_ic (nI 0) at_10_78 (by decide) ?_
    refine ev_go at_10_79 rfl ?_
    refine ev_go at_10_81 rfl ?_
    refine ev_if_ne at_10_83 (fun hc => absurd hc (by decide)) (fun _ => ?_)
    refine ev_go at_10_86 rfl ?_
    refine ev_if_ne at_10_88 (fun hc => absurd hc (by decide)) (fun _ => ?_)
    refine ev_throw (e := 1) at_10_91 (by simp [mm_wt, Value.category]) ?_
    rfl
  · have hD := c_trainAt (z := z) (d + 3) hW (p := v) (by omega) (by omega)
    have hnt2 := hnt (v - 20) (by omega) (by omega)
    have hT := hW.tr (i := v - 20) (by omega)
    unfold TrAt at hT
    generalize (w.2.2 (v - 20)).2.1 = bx at hT hnt2
    have hne : ¬ oI bx = nI (eb k e) := by
      cases bx with
      | none => exact fun q => nI_m1 (k := eb k e) (by omega) q.symm
      | some b => exact ni_ne (by have := (hnt2 b rfl).1; omega) (by omega) (hnt2 b rfl).2
    refine ev_go at_10_0 rfl ?_
    refine ev_go at_10_1 rfl ?_
    refine ev_go at_10_2 rfl ?_
    refine ev_callV (as := [_, _]) at_10_3 rfl rfl (by simp [mm_wt, Value.category]) rfl (by assumption) hA ?_
    refine ev_go at_10_6 rfl ?_
    refine ev_go at_10_8 rfl ?_
    refine ev_go at_10_9 rfl ?_
    refine ev_callV (as := [_]) at_10_10 rfl rfl (by simp [mm_wt, Value.category]) rfl (by assumption) hB ?_
    refine ev_go at_10_13 rfl ?_
    refine ev_acmp_t at_10_15 ?_
    refine ev_go at_10_28 rfl ?_
    refine ev_go at_10_30 rfl ?_
    refine ev_callV (as := [_]) at_10_31 rfl rfl (by simp [mm_wt, Value.category]) rfl q1 hC ?_
    refine ev_go at_10_34 rfl ?_
    refine ev_go at_10_36 rfl ?_
    refine ev_go at_10_37 rfl ?_
    refine ev_callV (as := [_]) at_10_39 rfl rfl (by simp [mm_wt, Value.category]) rfl (by assumption) hD ?_
    refine ev_go at_10_42 rfl ?_
    refine ev_go at_10_44 rfl ?_
    refine ev_bi (nI 10) at_10_46 (by decide) ?_
    refine ev_go at_10_48 rfl ?_
    refine ev_go at_10_49 rfl ?_
    first | refine ev_top (congrArg Value.int (nI_add _ _)) ?_ | skip
    refine ev_icmp_ne at_10_50 (fun _ => ?_) (fun hc => absurd hc (ni_ne (by omega) (by omega) hnh))
    refine ev_ic (nI 0) at_10_57 (by decide) ?_
    refine ev_go at_10_58 rfl ?_
    refine ev_go at_10_60 rfl ?_
    refine ev_go at_10_62 rfl ?_
    refine ev_go at_10_65 rfl ?_
    refine ev_get at_10_67 hT rfl ?_
    refine ev_go at_10_70 rfl ?_
    refine ev_icmp_ne at_10_71 (fun _ => ?_) (fun hc => absurd hc hne)
    refine ev_ic (nI 0) at_10_78 (by decide) ?_
    refine ev_go at_10_79 rfl ?_
    refine ev_go at_10_81 rfl ?_
    refine ev_if_ne at_10_83 (fun hc => absurd hc (by decide)) (fun _ => ?_)
    refine ev_go at_10_86 rfl ?_
    refine ev_if_ne at_10_88 (fun hc => absurd hc (by decide)) (fun _ => ?_)
    refine ev_throw (e := 1) at_10_91 (by simp [mm_wt, Value.category]) ?_
    rfl
theorem c_giveH (d : Nat) (hW : CW K h w) {k i : Nat} (hk : K.ex k = true) (e : Bool) (hp : (pls w k)[i]? = some (10 + eb k e)) (hpl : ((w.2.1 k).at e).1.length < K.t) : ∃ h', mm_cal z (d + 5) 10 [.ref 0, .int (nI (eb k e)), .int (nI k), .int (nI (k * 100 + i))] h (.returned none, h') ∧ CW K h' (setS w k (mv (w.2.1 k) e (((w.2.1 k).at e).1 ++ [k * 100 + i], !((w.2.1 k).at e).2.1, ((w.2.1 k).at e).2.2) ((pls w k).set i (eN e)))) ∧ Off 0 (K.tb + 9) h h' := by
  have h0 := hW.2.1
  obtain ⟨hS, hn⟩ := hW.sec hk
  have h15 := hn.1
  have h8 := hn.2.2
  obtain ⟨n1, n2, n3⟩ := hn.lt
  have hbu : eb k e < 11 := by unfold eb; split <;> omega
  have hit : i < K.t := by rw [← hS.2.2.2.2]; exact (List.getElem?_eq_some_iff.mp hp).1
  have hA := c_sectionEndingAt (z := z) (d + 1) hW hk e
  have hB := c_sectionOfTablet (z := z) (d + 1) hW hk hit
  have hC := c_placeOf (z := z) (d + 1) hS hn i _ hp
  have q1 := hS.1
  have hD : 10 + eb k e < 20 → mm_cal z (d + 4) 12 [.ref 0, .int (nI (10 + eb k e))] h (.returned (some .null), h) := fun q => n_trainAt (d + 3) q
  have hu6 : up k < K.n := (Cf.no hW.1 hk).2.2.2.1
  have hn6 := hW.1.2.1
  have hb6 : eb k e < 10 := by unfold eb; split <;> omega
  have hD := hD (by omega)
  have hS1 := hS
  obtain ⟨h2, hE, hS2, o2⟩ := c_layIn (z := z) d hS1 hn e i hit hpl
  have hF := c_instrumentAt (z := z) (d + 3) hS2 hn e
  have hI2 : InstAt h2 (ia (K.sa k) e) K.t (((w.2.1 k).at e).1 ++ [k * 100 + i]) ((w.2.1 k).at e).2.1 ((w.2.1 k).at e).2.2 := by
    have hx := hS2.inst e
    cases e <;> exact hx
  have q4 := hI2.1
  obtain ⟨h3, hG, hI3, o3⟩ := c_turnWheel (z := z) (d + 3) hI2
  have hS3 := hS2.setInst e (i := (((w.2.1 k).at e).1 ++ [k * 100 + i], !((w.2.1 k).at e).2.1, ((w.2.1 k).at e).2.2)) o3 hI3
  obtain ⟨i1, i2⟩ := ia_in (K.sa k) e
  have q2 := hS1.1
  have q3 := hS2.1
  obtain ⟨r1, r2⟩ := hW.setS hk (o2.trans (o3.wide (by omega) (by omega))) hS3
  refine ⟨h3, ?_, ?_, r2⟩
  · refine mm_cal_of ?_
    refine ev_go at_10_0 rfl ?_
    refine ev_go at_10_1 rfl ?_
    refine ev_go at_10_2 rfl ?_
    refine ev_callV (as := [_, _]) at_10_3 rfl rfl (by simp [mm_wt, Value.category]) rfl (by assumption) hA ?_
    refine ev_go at_10_6 rfl ?_
    refine ev_go at_10_8 rfl ?_
    refine ev_go at_10_9 rfl ?_
    refine ev_callV (as := [_]) at_10_10 rfl rfl (by simp [mm_wt, Value.category]) rfl (by assumption) hB ?_
    refine ev_go at_10_13 rfl ?_
    refine ev_acmp_t at_10_15 ?_
    refine ev_go at_10_28 rfl ?_
    refine ev_go at_10_30 rfl ?_
    refine ev_callV (as := [_]) at_10_31 rfl rfl (by simp [mm_wt, Value.category]) rfl q1 hC ?_
    refine ev_go at_10_34 rfl ?_
    refine ev_go at_10_36 rfl ?_
    refine ev_go at_10_37 rfl ?_
    refine ev_callV (as := [_]) at_10_39 rfl rfl (by simp [mm_wt, Value.category]) rfl (by assumption) hD ?_
    refine ev_go at_10_42 rfl ?_
    refine ev_go at_10_44 rfl ?_
    refine ev_bi (nI 10) at_10_46 (by decide) ?_
    refine ev_go at_10_48 rfl ?_
    refine ev_go at_10_49 rfl ?_
    refine ev_top (congrArg Value.int (nI_add 10 (eb k e))) ?_
    refine ev_icmp_ne at_10_50 (fun hc => absurd rfl hc) (fun _ => ?_)
    refine ev_ic (nI 1) at_10_53 (by decide) ?_
    refine ev_go at_10_54 rfl ?_
    refine ev_go at_10_58 rfl ?_
    refine ev_go at_10_60 rfl ?_
    refine ev_go at_10_62 rfl ?_
    refine ev_ic (nI 0) at_10_78 (by decide) ?_
    refine ev_go at_10_79 rfl ?_
    refine ev_go at_10_81 rfl ?_
    refine ev_if_ne at_10_83 (fun _ => ?_) (fun hc => absurd hc (by decide))
    refine ev_go at_10_101 rfl ?_
    refine ev_go at_10_103 rfl ?_
    refine ev_go at_10_112 rfl ?_
    refine ev_go at_10_114 rfl ?_
    refine ev_go at_10_115 rfl ?_
    refine ev_callV (as := [_, _]) at_10_116 rfl rfl (by simp [mm_wt, Value.category]) rfl q2 hE ?_
    refine ev_go at_10_119 rfl ?_
    refine ev_go at_10_121 rfl ?_
    refine ev_callV (as := [_]) at_10_122 rfl rfl (by simp [mm_wt, Value.category]) rfl q3 hF ?_
    refine ev_callV (as := []) at_10_125 rfl rfl (by simp [mm_wt, Value.category]) rfl q4 hG ?_
    refine ev_end at_10_128 rfl ?_
    rfl
  · have he : ((w.2.1 k).with e (((w.2.1 k).at e).1 ++ [k * 100 + i], ((w.2.1 k).at e).2)).1 = ((w.2.1 k).with e (((w.2.1 k).at e).1 ++ [k * 100 + i], ((w.2.1 k).at e).2)).1 := rfl
    cases e <;> exact r1
theorem c_giveT (d : Nat) (hW : CW K h w) {k i j b : Nat} (hk : K.ex k = true) (e : Bool) (hp : (pls w k)[i]? = some (20 + j)) (hj : j < 8) (hbx : (w.2.2 j).2.1 = some (eb k e)) (hpl : ((w.2.1 k).at e).1.length < K.t) : ∃ h', mm_cal z (d + 5) 10 [.ref 0, .int (nI (eb k e)), .int (nI k), .int (nI (k * 100 + i))] h (.returned none, h') ∧ CW K h' (setS (setT w j ((w.2.2 j).1, (w.2.2 j).2.1, (w.2.2 j).2.2.1, (w.2.2 j).2.2.2.1, none)) k (mv (w.2.1 k) e (((w.2.1 k).at e).1 ++ [k * 100 + i], !((w.2.1 k).at e).2.1, ((w.2.1 k).at e).2.2) ((pls w k).set i (eN e)))) ∧ Off 0 (K.tb + 9) h h' := by
  have h0 := hW.2.1
  obtain ⟨hS, hn⟩ := hW.sec hk
  have h15 := hn.1
  have h8 := hn.2.2
  obtain ⟨n1, n2, n3⟩ := hn.lt
  have hbu : eb k e < 11 := by unfold eb; split <;> omega
  have hit : i < K.t := by rw [← hS.2.2.2.2]; exact (List.getElem?_eq_some_iff.mp hp).1
  have hA := c_sectionEndingAt (z := z) (d + 1) hW hk e
  have hB := c_sectionOfTablet (z := z) (d + 1) hW hk hit
  have hC := c_placeOf (z := z) (d + 1) hS hn i _ hp
  have q1 := hS.1
  have hD := c_trainAt (z := z) (d + 3) hW (p := 20 + j) (by omega) (by omega)
  rw [Nat.add_sub_cancel_left] at hD
  have hT := hW.tr hj
  unfold TrAt at hT
  have e1 := mm_upd_at hT 4 (.int (-1))
  have o : Off (K.tb + 1 + j) (K.tb + 2 + j) h (mm_upd h (K.tb + 1 + j) 4 (.int (-1))) := Off.upd (Nat.le_refl _) (by omega)
  obtain ⟨t1, t2⟩ := hW.setT hj (g := ((w.2.2 j).1, (w.2.2 j).2.1, (w.2.2 j).2.2.1, (w.2.2 j).2.2.2.1, none)) o (by unfold TrAt; rw [e1]; rfl)
  rw [hbx] at hT
  obtain ⟨hS1, -⟩ := t1.sec hk
  obtain ⟨h2, hE, hS2, o2⟩ := c_layIn (z := z) d hS1 hn e i hit hpl
  have hF := c_instrumentAt (z := z) (d + 3) hS2 hn e
  have hI2 : InstAt h2 (ia (K.sa k) e) K.t (((w.2.1 k).at e).1 ++ [k * 100 + i]) ((w.2.1 k).at e).2.1 ((w.2.1 k).at e).2.2 := by
    have hx := hS2.inst e
    cases e <;> exact hx
  have q4 := hI2.1
  obtain ⟨h3, hG, hI3, o3⟩ := c_turnWheel (z := z) (d + 3) hI2
  have hS3 := hS2.setInst e (i := (((w.2.1 k).at e).1 ++ [k * 100 + i], !((w.2.1 k).at e).2.1, ((w.2.1 k).at e).2.2)) o3 hI3
  obtain ⟨i1, i2⟩ := ia_in (K.sa k) e
  have q2 := hS1.1
  have q3 := hS2.1
  obtain ⟨r1, r2⟩ := t1.setS hk (o2.trans (o3.wide (by omega) (by omega))) hS3
  refine ⟨h3, ?_, ?_, t2.trans r2⟩
  · refine mm_cal_of ?_
    refine ev_go at_10_0 rfl ?_
    refine ev_go at_10_1 rfl ?_
    refine ev_go at_10_2 rfl ?_
    refine ev_callV (as := [_, _]) at_10_3 rfl rfl (by simp [mm_wt, Value.category]) rfl (by assumption) hA ?_
    refine ev_go at_10_6 rfl ?_
    refine ev_go at_10_8 rfl ?_
    refine ev_go at_10_9 rfl ?_
    refine ev_callV (as := [_]) at_10_10 rfl rfl (by simp [mm_wt, Value.category]) rfl (by assumption) hB ?_
    refine ev_go at_10_13 rfl ?_
    refine ev_acmp_t at_10_15 ?_
    refine ev_go at_10_28 rfl ?_
    refine ev_go at_10_30 rfl ?_
    refine ev_callV (as := [_]) at_10_31 rfl rfl (by simp [mm_wt, Value.category]) rfl q1 hC ?_
    refine ev_go at_10_34 rfl ?_
    refine ev_go at_10_36 rfl ?_
    refine ev_go at_10_37 rfl ?_
    refine ev_callV (as := [_]) at_10_39 rfl rfl (by simp [mm_wt, Value.category]) rfl (by assumption) hD ?_
    refine ev_go at_10_42 rfl ?_
    refine ev_go at_10_44 rfl ?_
    refine ev_bi (nI 10) at_10_46 (by decide) ?_
    refine ev_go at_10_48 rfl ?_
    refine ev_go at_10_49 rfl ?_
    refine ev_top (congrArg Value.int (nI_add 10 (eb k e))) ?_
    refine ev_icmp_ne at_10_50 (fun _ => ?_) (fun hc => absurd hc (ni_ne (by omega) (by omega) (by have := (Cf.no hW.1 hk).2.2.2.1; have := hW.1.2.1; unfold eb; split <;> omega)))
    refine ev_ic (nI 0) at_10_57 (by decide) ?_
    refine ev_go at_10_58 rfl ?_
    refine ev_go at_10_60 rfl ?_
    refine ev_go at_10_62 rfl ?_
    refine ev_go at_10_65 rfl ?_
    refine ev_get at_10_67 hT rfl ?_
    refine ev_go at_10_70 rfl ?_
    refine ev_icmp_ne at_10_71 (fun hc => absurd rfl hc) (fun _ => ?_)
    refine ev_ic (nI 1) at_10_74 (by decide) ?_
    refine ev_go at_10_75 rfl ?_
    refine ev_go at_10_79 rfl ?_
    refine ev_go at_10_81 rfl ?_
    refine ev_if_ne at_10_83 (fun hc => absurd hc (by decide)) (fun _ => ?_)
    refine ev_go at_10_86 rfl ?_
    refine ev_if_ne at_10_88 (fun _ => ?_) (fun hc => absurd hc (by decide))
    refine ev_go at_10_101 rfl ?_
    refine ev_go at_10_103 rfl ?_
    refine ev_go at_10_106 rfl ?_
    refine ev_ic (-1) at_10_108 (by decide) ?_
    refine ev_put at_10_109 hT (by simp) (by first | rfl | exact fits_b _) ?_
    refine ev_go at_10_112 rfl ?_
    refine ev_go at_10_114 rfl ?_
    refine ev_go at_10_115 rfl ?_
    refine ev_callV (as := [_, _]) at_10_116 rfl rfl (by simp [mm_wt, Value.category]) rfl q2 hE ?_
    refine ev_go at_10_119 rfl ?_
    refine ev_go at_10_121 rfl ?_
    refine ev_callV (as := [_]) at_10_122 rfl rfl (by simp [mm_wt, Value.category]) rfl q3 hF ?_
    refine ev_callV (as := []) at_10_125 rfl rfl (by simp [mm_wt, Value.category]) rfl q4 hG ?_
    refine ev_end at_10_128 rfl ?_
    rfl
  · cases e <;> exact r1
end C6
