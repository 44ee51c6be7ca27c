/-! THE REFERENCE's PUBLIC METHODS (2): give, train, hand, back -/
section D6
variable {z : mm_Z} {h h' : mm_H} {K : Cf} {a : Nat} {c : Int32} {m : Md}
theorem y_give0 (d : Nat) (hM : MAt K a h c m) {s b x : Int32} (hx : edB K s b = false ∨ tbB K x = false ∨ x / nI 100 ≠ s) : ∃ h', mm_cal z (d + 3) 65 [.ref a, .int b, .int s, .int x] h (.returned none, h') ∧ MAt K a h' (nI 1) m ∧ Off a (a + 12) h h' := by
  have hA := d_isEnd (z := z) d hM b s
  have hB := d_isTablet (z := z) d hM x
  have h0 := hM.2.1
  obtain ⟨m1, o1⟩ := hM.setC (nI 1)
  have h01 := m1.2.1
  refine ⟨_, ?_, m1, o1⟩
  refine mm_cal_of ?_
  cases hed : edB K s b with
  | false =>
    rw [hed] at hA
    refine ev_go at_65_0 rfl ?_
    refine ev_go at_65_1 rfl ?_
    refine ev_go at_65_2 rfl ?_
    refine ev_go at_65_3 rfl ?_
    refine ev_callV (as := [_, _]) at_65_4 rfl rfl (by simp [mm_wt, Value.category]) rfl h0 hA ?_
    refine ev_ifb_eq at_65_7 (fun _ => ?_) (fun hc => nomatch hc)
    refine ev_ic (nI 1) at_65_30 (by decide) ?_
    refine ev_put at_65_31 h0 (by first | (simp; done) | (simp [Mo]; done)) (by first | rfl | exact fits_b _) ?_
    refine ev_go at_65_34 rfl ?_
    refine ev_get at_65_35 h01 rfl ?_
    refine ev_if_le at_65_38 (fun hc => absurd hc (by decide)) (fun _ => ?_)
    refine ev_end at_65_41 rfl ?_
    rfl
  | true =>
    rw [hed] at hA hx
    cases htb : tbB K x with
    | false =>
      rw [htb] at hB
      refine ev_go at_65_0 rfl ?_
      refine ev_go at_65_1 rfl ?_
      refine ev_go at_65_2 rfl ?_
      refine ev_go at_65_3 rfl ?_
      refine ev_callV (as := [_, _]) at_65_4 rfl rfl (by simp [mm_wt, Value.category]) rfl h0 hA ?_
      refine ev_ifb_eq at_65_7 (fun hc => nomatch hc) (fun _ => ?_)
      refine ev_go at_65_10 rfl ?_
      refine ev_go at_65_11 rfl ?_
      refine ev_callV (as := [_]) at_65_12 rfl rfl (by simp [mm_wt, Value.category]) rfl h0 hB ?_
      refine ev_ifb_eq at_65_15 (fun _ => ?_) (fun hc => nomatch hc)
      refine ev_ic (nI 1) at_65_30 (by decide) ?_
      refine ev_put at_65_31 h0 (by first | (simp; done) | (simp [Mo]; done)) (by first | rfl | exact fits_b _) ?_
      refine ev_go at_65_34 rfl ?_
      refine ev_get at_65_35 h01 rfl ?_
      refine ev_if_le at_65_38 (fun hc => absurd hc (by decide)) (fun _ => ?_)
      refine ev_end at_65_41 rfl ?_
      rfl
    | true =>
      rw [htb] at hB hx
      have hne : ¬ x / nI 100 = s := by
        rcases hx with q | q | q
        · cases q
        · cases q
        · exact q
      refine ev_go at_65_0 rfl ?_
      refine ev_go at_65_1 rfl ?_
      refine ev_go at_65_2 rfl ?_
      refine ev_go at_65_3 rfl ?_
      refine ev_callV (as := [_, _]) at_65_4 rfl rfl (by simp [mm_wt, Value.category]) rfl h0 hA ?_
      refine ev_ifb_eq at_65_7 (fun hc => nomatch hc) (fun _ => ?_)
      refine ev_go at_65_10 rfl ?_
      refine ev_go at_65_11 rfl ?_
      refine ev_callV (as := [_]) at_65_12 rfl rfl (by simp [mm_wt, Value.category]) rfl h0 hB ?_
      refine ev_ifb_eq at_65_15 (fun hc => nomatch hc) (fun _ => ?_)
      refine ev_go at_65_18 rfl ?_
      refine ev_bi (nI 100) at_65_19 (by decide) ?_
      refine ev_idiv at_65_21 (by decide) ?_
      refine ev_go at_65_22 rfl ?_
      refine ev_icmp_ne at_65_23 (fun _ => ?_) (fun hc => absurd hc hne)
      refine ev_ic (nI 1) at_65_30 (by decide) ?_
      refine ev_put at_65_31 h0 (by first | (simp; done) | (simp [Mo]; done)) (by first | rfl | exact fits_b _) ?_
      refine ev_go at_65_34 rfl ?_
      refine ev_get at_65_35 h01 rfl ?_
      refine ev_if_le at_65_38 (fun hc => absurd hc (by decide)) (fun _ => ?_)
      refine ev_end at_65_41 rfl ?_
      rfl
theorem y_give1 (d : Nat) (hM : MAt K a h c m) {k i v : Nat} (hk : K.ex k = true) (e : Bool) (hi : i < K.t) (hv : m.pl (8 * k + i) = v) (hv28 : v < 28) (hnh : v ≠ 10 + eb k e) (hnt : ∀ j, v = 20 + j → m.bx j < 100 ∧ (∀ s, m.ins j = some s → s < 100) ∧ (m.ins j = none → m.bx j ≠ eb k e)) : ∃ h', mm_cal z (d + 3) 65 [.ref a, .int (nI (eb k e)), .int (nI k), .int (nI (k * 100 + i))] h (.returned none, h') ∧ MAt K a h' (nI 2) m ∧ Off a (a + 12) h h' := by
  have hK := hM.1
  have h15 := (Cf.no hK hk).1.1
  have ht := hK.2.2.2.1
  obtain ⟨n1, n2, n3⟩ := (Cf.no hK hk).1.lt
  have hbu : eb k e < 11 := by unfold eb; split <;> omega
  have hA := d_isEnd (z := z) d hM (nI (eb k e)) (nI k)
  rw [edB_nI hK hk e] at hA
  have hT := d_isTablet (z := z) d hM (nI (k * 100 + i))
  have e1 : (k * 100 + i) / 100 = k := by omega
  have e2 : (k * 100 + i) % 100 = i := by omega
  rw [tbB_nI hK (by omega), e1, e2, hk, decide_eq_true hi] at hT
  have h0 := hM.2.1
  obtain ⟨m1, o1⟩ := hM.setC (nI 0)
  generalize hh1 : mm_upd h a 2 (.int (nI 0)) = h1 at m1 o1
  have h01 := m1.2.1
  have h7 := m1.a7
  have h10 := m1.a10
  have h11 := m1.a11
  have hv7 := rng_at (n := 120) (fun s => Value.int (nI (m.pl s))) (show 8 * k + i < 120 by omega)
  rw [hv] at hv7
  have hI := d_index (z := z) (h := h1) (d + 1) (i := i) h15 (by omega)
  obtain ⟨m2, o2⟩ := m1.setC (nI 2)
  have h02 := m2.2.1
  refine ⟨_, ?_, m2, o1.trans o2⟩
  refine mm_cal_of ?_
  by_cases h20 : v < 20
  · skip
    refine ev_go at_65_0 rfl ?_
    refine ev_go at_65_1 rfl ?_
    refine ev_go at_65_2 rfl ?_
    refine ev_go at_65_3 rfl ?_
    refine ev_callV (as := [_, _]) at_65_4 rfl rfl (by simp [mm_wt, Value.category]) rfl h0 hA ?_
    refine ev_ifb_eq at_65_7 (fun hc => nomatch hc) (fun _ => ?_)
    refine ev_go at_65_10 rfl ?_
    refine ev_go at_65_11 rfl ?_
    refine ev_callV (as := [_]) at_65_12 rfl rfl (by simp [mm_wt, Value.category]) rfl h0 hT ?_
    refine ev_ifb_eq at_65_15 (fun hc => nomatch hc) (fun _ => ?_)
    refine ev_go at_65_18 rfl ?_
    refine ev_bi (nI 100) at_65_19 (by decide) ?_
    refine ev_idiv at_65_21 (by decide) ?_
    refine ev_top (congrArg Value.int (show nI (k * 100 + i) / nI 100 = nI k by rw [pk_div (by omega) (by omega) (by omega), e1])) ?_
    refine ev_go at_65_22 rfl ?_
    refine ev_icmp_ne at_65_23 (fun hc => absurd rfl hc) (fun _ => ?_)
    refine ev_ic (nI 0) at_65_26 (by decide) ?_
    refine ev_go at_65_27 rfl ?_
    refine ev_put at_65_31 h0 (by simp [Mo]) rfl ?_
    rw [hh1]
    refine ev_go at_65_34 rfl ?_
    refine ev_get at_65_35 h01 rfl ?_
    refine ev_if_le at_65_38 (fun _ => ?_) (fun hc => absurd hc (by decide))
    refine ev_go at_65_42 rfl ?_
    refine ev_callS (as := [_]) at_65_43 (by decide) rfl rfl (by simp [mm_wt, Value.category]) rfl hI ?_
    refine ev_go at_65_46 rfl ?_
    refine ev_go at_65_48 rfl ?_
    refine ev_get at_65_49 h01 rfl ?_
    refine ev_go at_65_52 rfl ?_
    refine ev_iald at_65_54 h7 (by omega) hv7 ?_
    refine ev_bi (nI 20) at_65_55 (by decide) ?_
    refine ev_go at_65_57 rfl ?_
    refine ev_go at_65_58 rfl ?_
    refine ev_go at_65_60 rfl ?_
    refine ev_go at_65_61 rfl ?_
    refine ev_get at_65_62 h01 rfl ?_
    refine ev_go at_65_65 rfl ?_
    refine ev_iald at_65_67 h7 (by omega) hv7 ?_
    refine ev_bi (nI 10) at_65_68 (by decide) ?_
    refine ev_go at_65_70 rfl ?_
    refine ev_go at_65_71 rfl ?_
    first | refine ev_top (congrArg Value.int (nI_add _ _)) ?_ | skip
    refine ev_icmp_eq at_65_72 (fun hc => absurd hc (ni_ne (by omega) (by omega) hnh)) (fun _ => ?_)
    refine ev_go at_65_75 rfl ?_
    refine ev_if_lt at_65_77 (fun _ => ?_) (fun hc => absurd (pk_sneg (by omega) h20) hc)
    refine ev_ic (nI 2) at_65_105 (by decide) ?_
    refine ev_put at_65_106 h01 (by first | (simp; done) | (simp [Mo]; done)) (by first | rfl | exact fits_b _) ?_
    refine ev_go at_65_109 rfl ?_
    refine ev_get at_65_110 h02 rfl ?_
    refine ev_if_ne at_65_113 (fun _ => ?_) (fun hc => absurd hc (by decide))
    refine ev_end at_65_145 rfl ?_
    rfl
  · obtain ⟨b1, b2, b3⟩ := hnt (v - 20) (by omega)
    have hvi := rng_at (n := 8) (fun s => Value.int (oI (m.ins s))) (show v - 20 < 8 by omega)
    have hvb := rng_at (n := 8) (fun s => Value.int (nI (m.bx s))) (show v - 20 < 8 by omega)
    cases hin : m.ins (v - 20) with
    | some s =>
      rw [hin] at hvi
      have hs := b2 s hin
      refine ev_go at_65_0 rfl ?_
      refine ev_go at_65_1 rfl ?_
      refine ev_go at_65_2 rfl ?_
      refine ev_go at_65_3 rfl ?_
      refine ev_callV (as := [_, _]) at_65_4 rfl rfl (by simp [mm_wt, Value.category]) rfl h0 hA ?_
      refine ev_ifb_eq at_65_7 (fun hc => nomatch hc) (fun _ => ?_)
      refine ev_go at_65_10 rfl ?_
      refine ev_go at_65_11 rfl ?_
      refine ev_callV (as := [_]) at_65_12 rfl rfl (by simp [mm_wt, Value.category]) rfl h0 hT ?_
      refine ev_ifb_eq at_65_15 (fun hc => nomatch hc) (fun _ => ?_)
      refine ev_go at_65_18 rfl ?_
      refine ev_bi (nI 100) at_65_19 (by decide) ?_
      refine ev_idiv at_65_21 (by decide) ?_
      refine ev_top (congrArg Value.int (show nI (k * 100 + i) / nI 100 = nI k by rw [pk_div (by omega) (by omega) (by omega), e1])) ?_
      refine ev_go at_65_22 rfl ?_
      refine ev_icmp_ne at_65_23 (fun hc => absurd rfl hc) (fun _ => ?_)
      refine ev_ic (nI 0) at_65_26 (by decide) ?_
      refine ev_go at_65_27 rfl ?_
      refine ev_put at_65_31 h0 (by simp [Mo]) rfl ?_
      rw [hh1]
      refine ev_go at_65_34 rfl ?_
      refine ev_get at_65_35 h01 rfl ?_
      refine ev_if_le at_65_38 (fun _ => ?_) (fun hc => absurd hc (by decide))
      refine ev_go at_65_42 rfl ?_
      refine ev_callS (as := [_]) at_65_43 (by decide) rfl rfl (by simp [mm_wt, Value.category]) rfl hI ?_
      refine ev_go at_65_46 rfl ?_
      refine ev_go at_65_48 rfl ?_
      refine ev_get at_65_49 h01 rfl ?_
      refine ev_go at_65_52 rfl ?_
      refine ev_iald at_65_54 h7 (by omega) hv7 ?_
      refine ev_bi (nI 20) at_65_55 (by decide) ?_
      refine ev_go at_65_57 rfl ?_
      first | refine ev_top (congrArg Value.int (pk_sub (by omega))) ?_ | skip
      refine ev_go at_65_58 rfl ?_
      refine ev_go at_65_60 rfl ?_
      refine ev_go at_65_61 rfl ?_
      refine ev_get at_65_62 h01 rfl ?_
      refine ev_go at_65_65 rfl ?_
      refine ev_iald at_65_67 h7 (by omega) hv7 ?_
      refine ev_bi (nI 10) at_65_68 (by decide) ?_
      refine ev_go at_65_70 rfl ?_
      refine ev_go at_65_71 rfl ?_
      first | refine ev_top (congrArg Value.int (nI_add _ _)) ?_ | skip
      refine ev_icmp_eq at_65_72 (fun hc => absurd hc (ni_ne (by omega) (by omega) hnh)) (fun _ => ?_)
      refine ev_go at_65_75 rfl ?_
      refine ev_if_lt at_65_77 (fun hc => absurd hc (nI_pos (by omega))) (fun _ => ?_)
      refine ev_go at_65_80 rfl ?_
      refine ev_get at_65_81 h01 rfl ?_
      refine ev_go at_65_84 rfl ?_
      refine ev_iald at_65_86 h11 (by omega) hvi ?_
      refine ev_if_ge at_65_87 (fun _ => ?_) (fun hc => absurd (nI_pos' (by omega)) hc)
      refine ev_ic (nI 2) at_65_105 (by decide) ?_
      refine ev_put at_65_106 h01 (by first | (simp; done) | (simp [Mo]; done)) (by first | rfl | exact fits_b _) ?_
      refine ev_go at_65_109 rfl ?_
      refine ev_get at_65_110 h02 rfl ?_
      refine ev_if_ne at_65_113 (fun _ => ?_) (fun hc => absurd hc (by decide))
      refine ev_end at_65_145 rfl ?_
      rfl
    | none =>
      rw [hin] at hvi
      have hbne := b3 hin
      refine ev_go at_65_0 rfl ?_
      refine ev_go at_65_1 rfl ?_
      refine ev_go at_65_2 rfl ?_
      refine ev_go at_65_3 rfl ?_
      refine ev_callV (as := [_, _]) at_65_4 rfl rfl (by simp [mm_wt, Value.category]) rfl h0 hA ?_
      refine ev_ifb_eq at_65_7 (fun hc => nomatch hc) (fun _ => ?_)
      refine ev_go at_65_10 rfl ?_
      refine ev_go at_65_11 rfl ?_
      refine ev_callV (as := [_]) at_65_12 rfl rfl (by simp [mm_wt, Value.category]) rfl h0 hT ?_
      refine ev_ifb_eq at_65_15 (fun hc => nomatch hc) (fun _ => ?_)
      refine ev_go at_65_18 rfl ?_
      refine ev_bi (nI 100) at_65_19 (by decide) ?_
      refine ev_idiv at_65_21 (by decide) ?_
      refine ev_top (congrArg Value.int (show nI (k * 100 + i) / nI 100 = nI k by rw [pk_div (by omega) (by omega) (by omega), e1])) ?_
      refine ev_go at_65_22 rfl ?_
      refine ev_icmp_ne at_65_23 (fun hc => absurd rfl hc) (fun _ => ?_)
      refine ev_ic (nI 0) at_65_26 (by decide) ?_
      refine ev_go at_65_27 rfl ?_
      refine ev_put at_65_31 h0 (by simp [Mo]) rfl ?_
      rw [hh1]
      refine ev_go at_65_34 rfl ?_
      refine ev_get at_65_35 h01 rfl ?_
      refine ev_if_le at_65_38 (fun _ => ?_) (fun hc => absurd hc (by decide))
      refine ev_go at_65_42 rfl ?_
      refine ev_callS (as := [_]) at_65_43 (by decide) rfl rfl (by simp [mm_wt, Value.category]) rfl hI ?_
      refine ev_go at_65_46 rfl ?_
      refine ev_go at_65_48 rfl ?_
      refine ev_get at_65_49 h01 rfl ?_
      refine ev_go at_65_52 rfl ?_
      refine ev_iald at_65_54 h7 (by omega) hv7 ?_
      refine ev_bi (nI 20) at_65_55 (by decide) ?_
      refine ev_go at_65_57 rfl ?_
      first | refine ev_top (congrArg Value.int (pk_sub (by omega))) ?_ | skip
      refine ev_go at_65_58 rfl ?_
      refine ev_go at_65_60 rfl ?_
      refine ev_go at_65_61 rfl ?_
      refine ev_get at_65_62 h01 rfl ?_
      refine ev_go at_65_65 rfl ?_
      refine ev_iald at_65_67 h7 (by omega) hv7 ?_
      refine ev_bi (nI 10) at_65_68 (by decide) ?_
      refine ev_go at_65_70 rfl ?_
      refine ev_go at_65_71 rfl ?_
      first | refine ev_top (congrArg Value.int (nI_add _ _)) ?_ | skip
      refine ev_icmp_eq at_65_72 (fun hc => absurd hc (ni_ne (by omega) (by omega) hnh)) (fun _ => ?_)
      refine ev_go at_65_75 rfl ?_
      refine ev_if_lt at_65_77 (fun hc => absurd hc (nI_pos (by omega))) (fun _ => ?_)
      refine ev_go at_65_80 rfl ?_
      refine ev_get at_65_81 h01 rfl ?_
      refine ev_go at_65_84 rfl ?_
      refine ev_iald at_65_86 h11 (by omega) hvi ?_
      refine ev_if_ge at_65_87 (fun hc => absurd hc (by decide)) (fun _ => ?_)
      refine ev_go at_65_90 rfl ?_
      refine ev_get at_65_91 h01 rfl ?_
      refine ev_go at_65_94 rfl ?_
      refine ev_iald at_65_96 h10 (by omega) hvb ?_
      refine ev_go at_65_97 rfl ?_
      refine ev_icmp_ne at_65_98 (fun _ => ?_) (fun hc => absurd hc (ni_ne (by omega) (by omega) hbne))
      refine ev_ic (nI 2) at_65_105 (by decide) ?_
      refine ev_put at_65_106 h01 (by first | (simp; done) | (simp [Mo]; done)) (by first | rfl | exact fits_b _) ?_
      refine ev_go at_65_109 rfl ?_
      refine ev_get at_65_110 h02 rfl ?_
      refine ev_if_ne at_65_113 (fun _ => ?_) (fun hc => absurd hc (by decide))
      refine ev_end at_65_145 rfl ?_
      rfl
theorem e_give (d : Nat) (hM : MAt K a h c m) {k i v : Nat} (hk : K.ex k = true) (e : Bool) (hi : i < K.t) (hv : m.pl (8 * k + i) = v) (hv28 : v < 28) (hgo : v = 10 + eb k e ∨ ∃ j, j < 8 ∧ v = 20 + j ∧ m.ins j = none ∧ m.bx j = eb k e) : ∃ h', mm_cal z (d + 3) 65 [.ref a, .int (nI (eb k e)), .int (nI k), .int (nI (k * 100 + i))] h (.returned none, h') ∧ MAt K a h' (nI 0) ((m.goes (8 * k + i) (eN e)).sTu (2 * k + eN e) (m.tu (2 * k + eN e) + 1)) ∧ Off a (a + 12) h h' := by
  have hK := hM.1
  have h15 := (Cf.no hK hk).1.1
  have ht := hK.2.2.2.1
  obtain ⟨n1, n2, n3⟩ := (Cf.no hK hk).1.lt
  have hbu : eb k e < 11 := by unfold eb; split <;> omega
  have hA := d_isEnd (z := z) d hM (nI (eb k e)) (nI k)
  rw [edB_nI hK hk e] at hA
  have hT := d_isTablet (z := z) d hM (nI (k * 100 + i))
  have e1 : (k * 100 + i) / 100 = k := by omega
  have e2 : (k * 100 + i) % 100 = i := by omega
  rw [tbB_nI hK (by omega), e1, e2, hk, decide_eq_true hi] at hT
  have h0 := hM.2.1
  obtain ⟨m1, o1⟩ := hM.setC (nI 0)
  generalize hh1 : mm_upd h a 2 (.int (nI 0)) = h1 at m1 o1
  have h01 := m1.2.1
  have h7 := m1.a7
  have h10 := m1.a10
  have h11 := m1.a11
  have hv7 := rng_at (n := 120) (fun s => Value.int (nI (m.pl s))) (show 8 * k + i < 120 by omega)
  rw [hv] at hv7
  have hI := d_index (z := z) (h := h1) (d + 1) (i := i) h15 (by omega)
  have hix2 := eN_ix h15 e
  obtain ⟨m2, o2⟩ := m1.setC (nI 0)
  generalize hh2 : mm_upd h1 a 2 (.int (nI 0)) = h2 at m2 o2
  have h02 := m2.2.1
  have hE := d_end (z := z) (h := h2) d hK hk e
  obtain ⟨h3, hG, m3, o3⟩ := d_goes (z := z) (d + 1) m2 (k := 8 * k + i) (v := eN e) (by omega)
  have h03 := m3.2.1
  have hE3 := d_end (z := z) (h := h3) d hK hk e
  have h6 := m3.a6
  have hv6 := rng_at (n := 30) (fun s => Value.int (nI (m.tu s))) hix2
  obtain ⟨m4, o4⟩ := m3.sTu (2 * k + eN e) (m.tu (2 * k + eN e) + 1)
  refine ⟨_, ?_, m4, ((o1.trans o2).trans o3).trans o4⟩
  refine mm_cal_of ?_
  rcases hgo with hgo | ⟨j, hj, hj2, hj3, hj4⟩
  · subst hgo
    refine ev_go at_65_0 rfl ?_
    refine ev_go at_65_1 rfl ?_
    refine ev_go at_65_2 rfl ?_
    refine ev_go at_65_3 rfl ?_
    refine ev_callV (as := [_, _]) at_65_4 rfl rfl (by simp [mm_wt, Value.category]) rfl h0 hA ?_
    refine ev_ifb_eq at_65_7 (fun hc => nomatch hc) (fun _ => ?_)
    refine ev_go at_65_10 rfl ?_
    refine ev_go at_65_11 rfl ?_
    refine ev_callV (as := [_]) at_65_12 rfl rfl (by simp [mm_wt, Value.category]) rfl h0 hT ?_
    refine ev_ifb_eq at_65_15 (fun hc => nomatch hc) (fun _ => ?_)
    refine ev_go at_65_18 rfl ?_
    refine ev_bi (nI 100) at_65_19 (by decide) ?_
    refine ev_idiv at_65_21 (by decide) ?_
    refine ev_top (congrArg Value.int (show nI (k * 100 + i) / nI 100 = nI k by rw [pk_div (by omega) (by omega) (by omega), e1])) ?_
    refine ev_go at_65_22 rfl ?_
    refine ev_icmp_ne at_65_23 (fun hc => absurd rfl hc) (fun _ => ?_)
    refine ev_ic (nI 0) at_65_26 (by decide) ?_
    refine ev_go at_65_27 rfl ?_
    refine ev_put at_65_31 h0 (by simp [Mo]) rfl ?_
    rw [hh1]
    refine ev_go at_65_34 rfl ?_
    refine ev_get at_65_35 h01 rfl ?_
    refine ev_if_le at_65_38 (fun _ => ?_) (fun hc => absurd hc (by decide))
    refine ev_go at_65_42 rfl ?_
    refine ev_callS (as := [_]) at_65_43 (by decide) rfl rfl (by simp [mm_wt, Value.category]) rfl hI ?_
    refine ev_go at_65_46 rfl ?_
    refine ev_go at_65_48 rfl ?_
    refine ev_get at_65_49 h01 rfl ?_
    refine ev_go at_65_52 rfl ?_
    refine ev_iald at_65_54 h7 (by omega) hv7 ?_
    refine ev_bi (nI 20) at_65_55 (by decide) ?_
    refine ev_go at_65_57 rfl ?_
    refine ev_go at_65_58 rfl ?_
    refine ev_go at_65_60 rfl ?_
    refine ev_go at_65_61 rfl ?_
    refine ev_get at_65_62 h01 rfl ?_
    refine ev_go at_65_65 rfl ?_
    refine ev_iald at_65_67 h7 (by omega) hv7 ?_
    refine ev_bi (nI 10) at_65_68 (by decide) ?_
    refine ev_go at_65_70 rfl ?_
    refine ev_go at_65_71 rfl ?_
    refine ev_top (congrArg Value.int (nI_add 10 (eb k e))) ?_
    refine ev_icmp_eq at_65_72 (fun _ => ?_) (fun hc => absurd rfl hc)
    refine ev_ic (nI 0) at_65_101 (by decide) ?_
    refine ev_go at_65_102 rfl ?_
    refine ev_put at_65_106 h01 (by simp [Mo]) rfl ?_
    rw [hh2]
    refine ev_go at_65_109 rfl ?_
    refine ev_get at_65_110 h02 rfl ?_
    refine ev_if_ne at_65_113 (fun hc => absurd hc (by decide)) (fun _ => ?_)
    refine ev_go at_65_116 rfl ?_
    refine ev_go at_65_117 rfl ?_
    refine ev_go at_65_119 rfl ?_
    refine ev_go at_65_120 rfl ?_
    refine ev_callS (as := [_, _]) at_65_121 (by decide) rfl rfl (by simp [mm_wt, Value.category]) rfl hE ?_
    refine ev_callV (as := [_, _]) at_65_124 rfl rfl (by simp [mm_wt, Value.category]) rfl h02 hG ?_
    refine ev_go at_65_127 rfl ?_
    refine ev_get at_65_128 h03 rfl ?_
    refine ev_ic (nI 2) at_65_131 (by decide) ?_
    refine ev_go at_65_132 rfl ?_
    refine ev_go at_65_133 rfl ?_
    first | refine ev_top (congrArg Value.int (pk_mul _ _)) ?_ | skip
    refine ev_go at_65_134 rfl ?_
    refine ev_go at_65_135 rfl ?_
    refine ev_callS (as := [_, _]) at_65_136 (by decide) rfl rfl (by simp [mm_wt, Value.category]) rfl hE3 ?_
    refine ev_go at_65_139 rfl ?_
    first | refine ev_top (congrArg Value.int (nI_add _ _)) ?_ | skip
    refine ev_go at_65_140 rfl ?_
    refine ev_iald at_65_141 h6 (by omega) hv6 ?_
    refine ev_ic (nI 1) at_65_142 (by decide) ?_
    refine ev_go at_65_143 rfl ?_
    first | refine ev_top (congrArg Value.int (nI_add _ _)) ?_ | skip
    refine ev_iast at_65_144 h6 (by omega) (by rw [rng_len]; exact hix2) ?_
    refine ev_end at_65_145 rfl ?_
    rfl
  · subst hj2
    have hvi := rng_at (n := 8) (fun s => Value.int (oI (m.ins s))) hj
    have hvb := rng_at (n := 8) (fun s => Value.int (nI (m.bx s))) hj
    rw [hj3] at hvi
    rw [hj4] at hvb
    have hu6 : up k < K.n := (Cf.no hK hk).2.2.2.1
    have hn6 := hK.2.1
    have hb6 : eb k e < 10 := by unfold eb; split <;> omega
    have hs57 : nI (20 + j) - nI 20 = nI j := by rw [pk_sub (by omega), Nat.add_sub_cancel_left]
    refine ev_go at_65_0 rfl ?_
    refine ev_go at_65_1 rfl ?_
    refine ev_go at_65_2 rfl ?_
    refine ev_go at_65_3 rfl ?_
    refine ev_callV (as := [_, _]) at_65_4 rfl rfl (by simp [mm_wt, Value.category]) rfl h0 hA ?_
    refine ev_ifb_eq at_65_7 (fun hc => nomatch hc) (fun _ => ?_)
    refine ev_go at_65_10 rfl ?_
    refine ev_go at_65_11 rfl ?_
    refine ev_callV (as := [_]) at_65_12 rfl rfl (by simp [mm_wt, Value.category]) rfl h0 hT ?_
    refine ev_ifb_eq at_65_15 (fun hc => nomatch hc) (fun _ => ?_)
    refine ev_go at_65_18 rfl ?_
    refine ev_bi (nI 100) at_65_19 (by decide) ?_
    refine ev_idiv at_65_21 (by decide) ?_
    refine ev_top (congrArg Value.int (show nI (k * 100 + i) / nI 100 = nI k by rw [pk_div (by omega) (by omega) (by omega), e1])) ?_
    refine ev_go at_65_22 rfl ?_
    refine ev_icmp_ne at_65_23 (fun hc => absurd rfl hc) (fun _ => ?_)
    refine ev_ic (nI 0) at_65_26 (by decide) ?_
    refine ev_go at_65_27 rfl ?_
    refine ev_put at_65_31 h0 (by simp [Mo]) rfl ?_
    rw [hh1]
    refine ev_go at_65_34 rfl ?_
    refine ev_get at_65_35 h01 rfl ?_
    refine ev_if_le at_65_38 (fun _ => ?_) (fun hc => absurd hc (by decide))
    refine ev_go at_65_42 rfl ?_
    refine ev_callS (as := [_]) at_65_43 (by decide) rfl rfl (by simp [mm_wt, Value.category]) rfl hI ?_
    refine ev_go at_65_46 rfl ?_
    refine ev_go at_65_48 rfl ?_
    refine ev_get at_65_49 h01 rfl ?_
    refine ev_go at_65_52 rfl ?_
    refine ev_iald at_65_54 h7 (by omega) hv7 ?_
    refine ev_bi (nI 20) at_65_55 (by decide) ?_
    refine ev_go at_65_57 rfl ?_
    refine ev_top (congrArg Value.int hs57) ?_
    refine ev_go at_65_58 rfl ?_
    refine ev_go at_65_60 rfl ?_
    refine ev_go at_65_61 rfl ?_
    refine ev_get at_65_62 h01 rfl ?_
    refine ev_go at_65_65 rfl ?_
    refine ev_iald at_65_67 h7 (by omega) hv7 ?_
    refine ev_bi (nI 10) at_65_68 (by decide) ?_
    refine ev_go at_65_70 rfl ?_
    refine ev_go at_65_71 rfl ?_
    refine ev_top (congrArg Value.int (nI_add 10 (eb k e))) ?_
    refine ev_icmp_eq at_65_72 (fun hc => absurd hc (ni_ne (by omega) (by omega) (by omega))) (fun _ => ?_)
    refine ev_go at_65_75 rfl ?_
    refine ev_if_lt at_65_77 (fun hc => absurd hc (nI_pos (by omega))) (fun _ => ?_)
    refine ev_go at_65_80 rfl ?_
    refine ev_get at_65_81 h01 rfl ?_
    refine ev_go at_65_84 rfl ?_
    refine ev_iald at_65_86 h11 (by omega) hvi ?_
    refine ev_if_ge at_65_87 (fun hc => absurd hc (by decide)) (fun _ => ?_)
    refine ev_go at_65_90 rfl ?_
    refine ev_get at_65_91 h01 rfl ?_
    refine ev_go at_65_94 rfl ?_
    refine ev_iald at_65_96 h10 (by omega) hvb ?_
    refine ev_go at_65_97 rfl ?_
    refine ev_icmp_ne at_65_98 (fun hc => absurd rfl hc) (fun _ => ?_)
    refine ev_ic (nI 0) at_65_101 (by decide) ?_
    refine ev_go at_65_102 rfl ?_
    refine ev_put at_65_106 h01 (by simp [Mo]) rfl ?_
    rw [hh2]
    refine ev_go at_65_109 rfl ?_
    refine ev_get at_65_110 h02 rfl ?_
    refine ev_if_ne at_65_113 (fun hc => absurd hc (by decide)) (fun _ => ?_)
    refine ev_go at_65_116 rfl ?_
    refine ev_go at_65_117 rfl ?_
    refine ev_go at_65_119 rfl ?_
    refine ev_go at_65_120 rfl ?_
    refine ev_callS (as := [_, _]) at_65_121 (by decide) rfl rfl (by simp [mm_wt, Value.category]) rfl hE ?_
    refine ev_callV (as := [_, _]) at_65_124 rfl rfl (by simp [mm_wt, Value.category]) rfl h02 hG ?_
    refine ev_go at_65_127 rfl ?_
    refine ev_get at_65_128 h03 rfl ?_
    refine ev_ic (nI 2) at_65_131 (by decide) ?_
    refine ev_go at_65_132 rfl ?_
    refine ev_go at_65_133 rfl ?_
    first | refine ev_top (congrArg Value.int (pk_mul _ _)) ?_ | skip
    refine ev_go at_65_134 rfl ?_
    refine ev_go at_65_135 rfl ?_
    refine ev_callS (as := [_, _]) at_65_136 (by decide) rfl rfl (by simp [mm_wt, Value.category]) rfl hE3 ?_
    refine ev_go at_65_139 rfl ?_
    first | refine ev_top (congrArg Value.int (nI_add _ _)) ?_ | skip
    refine ev_go at_65_140 rfl ?_
    refine ev_iald at_65_141 h6 (by omega) hv6 ?_
    refine ev_ic (nI 1) at_65_142 (by decide) ?_
    refine ev_go at_65_143 rfl ?_
    first | refine ev_top (congrArg Value.int (nI_add _ _)) ?_ | skip
    refine ev_iast at_65_144 h6 (by omega) (by rw [rng_len]; exact hix2) ?_
    refine ev_end at_65_145 rfl ?_
    rfl
theorem y_train0 (d : Nat) (hM : MAt K a h c m) {i b : Int32} (hx : tnB i = false ∨ bxB K.n b = false) : ∃ h', mm_cal z (d + 2) 68 [.ref a, .int i, .int b] h (.returned none, h') ∧ MAt K a h' (nI 1) m ∧ Off a (a + 12) h h' := by
  have hA := d_isBox (z := z) d hM b
  have h0 := hM.2.1
  obtain ⟨m1, o1⟩ := hM.setC (nI 1)
  have h01 := m1.2.1
  refine ⟨_, ?_, m1, o1⟩
  refine mm_cal_of ?_
  by_cases hneg : i < 0
  · skip
    refine ev_go at_68_0 rfl ?_
    refine ev_go at_68_1 rfl ?_
    refine ev_if_lt at_68_2 (fun _ => ?_) (fun hc => absurd hneg hc)
    refine ev_ic (nI 1) at_68_19 (by decide) ?_
    refine ev_go at_68_20 rfl ?_
    refine ev_put at_68_37 h0 (by first | (simp; done) | (simp [Mo]; done)) (by first | rfl | exact fits_b _) ?_
    refine ev_go at_68_40 rfl ?_
    refine ev_get at_68_41 h01 rfl ?_
    refine ev_if_ne at_68_44 (fun _ => ?_) (fun hc => absurd hc (by decide))
    refine ev_end at_68_61 rfl ?_
    rfl
  · obtain ⟨k, hk, rfl⟩ := nI_of hneg
    by_cases hk8 : k < 8
    · have hbf : bxB K.n b = false := by
        rcases hx with q | q
        · rw [tnB_nI hk8] at q; cases q
        · exact q
      rw [hbf] at hA
      refine ev_go at_68_0 rfl ?_
      refine ev_go at_68_1 rfl ?_
      refine ev_if_lt at_68_2 (fun hc => absurd hc hneg) (fun _ => ?_)
      refine ev_go at_68_5 rfl ?_
      refine ev_bi (nI 7) at_68_6 (by decide) ?_
      refine ev_icmp_gt at_68_8 (fun hc => absurd hc (nI_nlt (by omega) (by omega))) (fun _ => ?_)
      refine ev_go at_68_11 rfl ?_
      refine ev_go at_68_12 rfl ?_
      refine ev_callV (as := [_]) at_68_13 rfl rfl (by simp [mm_wt, Value.category]) rfl h0 hA ?_
      refine ev_ifb_ne at_68_16 (fun hc => nomatch hc) (fun _ => ?_)
      refine ev_ic (nI 1) at_68_19 (by decide) ?_
      refine ev_go at_68_20 rfl ?_
      refine ev_put at_68_37 h0 (by first | (simp; done) | (simp [Mo]; done)) (by first | rfl | exact fits_b _) ?_
      refine ev_go at_68_40 rfl ?_
      refine ev_get at_68_41 h01 rfl ?_
      refine ev_if_ne at_68_44 (fun _ => ?_) (fun hc => absurd hc (by decide))
      refine ev_end at_68_61 rfl ?_
      rfl
    · skip
      refine ev_go at_68_0 rfl ?_
      refine ev_go at_68_1 rfl ?_
      refine ev_if_lt at_68_2 (fun hc => absurd hc hneg) (fun _ => ?_)
      refine ev_go at_68_5 rfl ?_
      refine ev_bi (nI 7) at_68_6 (by decide) ?_
      refine ev_icmp_gt at_68_8 (fun _ => ?_) (fun hc => absurd (nI_lt (by omega) (by omega)) hc)
      refine ev_ic (nI 1) at_68_19 (by decide) ?_
      refine ev_go at_68_20 rfl ?_
      refine ev_put at_68_37 h0 (by first | (simp; done) | (simp [Mo]; done)) (by first | rfl | exact fits_b _) ?_
      refine ev_go at_68_40 rfl ?_
      refine ev_get at_68_41 h01 rfl ?_
      refine ev_if_ne at_68_44 (fun _ => ?_) (fun hc => absurd hc (by decide))
      refine ev_end at_68_61 rfl ?_
      rfl
theorem y_train1 (d : Nat) (hM : MAt K a h c m) {i b : Nat} (hi : i < 8) (hb : b < K.n) (hkn : m.kn i = true) : ∃ h', mm_cal z (d + 2) 68 [.ref a, .int (nI i), .int (nI b)] h (.returned none, h') ∧ MAt K a h' (nI 2) m ∧ Off a (a + 12) h h' := by
  have hn := hM.1.2.1
  have hA := d_isBox (z := z) d hM (nI b)
  rw [bxB_nI (by omega) (by omega), decide_eq_true hb] at hA
  have h0 := hM.2.1
  have h9 := hM.a9
  have hv9 := rng_at (n := 8) (fun s => Value.int (bI (m.kn s))) hi
  rw [hkn] at hv9
  obtain ⟨m1, o1⟩ := hM.setC (nI 2)
  have h01 := m1.2.1
  refine ⟨_, ?_, m1, o1⟩
  refine mm_cal_of ?_
  refine ev_go at_68_0 rfl ?_
  refine ev_go at_68_1 rfl ?_
  refine ev_if_lt at_68_2 (fun hc => absurd hc (nI_pos (by omega))) (fun _ => ?_)
  refine ev_go at_68_5 rfl ?_
  refine ev_bi (nI 7) at_68_6 (by decide) ?_
  refine ev_icmp_gt at_68_8 (fun hc => absurd hc (nI_nlt (by omega) (by omega))) (fun _ => ?_)
  refine ev_go at_68_11 rfl ?_
  refine ev_go at_68_12 rfl ?_
  refine ev_callV (as := [_]) at_68_13 rfl rfl (by simp [mm_wt, Value.category]) rfl h0 hA ?_
  refine ev_ifb_ne at_68_16 (fun _ => ?_) (fun hc => nomatch hc)
  refine ev_go at_68_23 rfl ?_
  refine ev_get at_68_24 h0 rfl ?_
  refine ev_go at_68_27 rfl ?_
  refine ev_zald at_68_28 h9 (by omega) hv9 ?_
  refine ev_ifb_eq at_68_29 (fun hc => nomatch hc) (fun _ => ?_)
  refine ev_ic (nI 2) at_68_32 (by decide) ?_
  refine ev_go at_68_33 rfl ?_
  refine ev_put at_68_37 h0 (by first | (simp; done) | (simp [Mo]; done)) (by first | rfl | exact fits_b _) ?_
  refine ev_go at_68_40 rfl ?_
  refine ev_get at_68_41 h01 rfl ?_
  refine ev_if_ne at_68_44 (fun _ => ?_) (fun hc => absurd hc (by decide))
  refine ev_end at_68_61 rfl ?_
  rfl
theorem e_train (d : Nat) (hM : MAt K a h c m) {i b : Nat} (hi : i < 8) (hb : b < K.n) (hkn : m.kn i = false) : ∃ h', mm_cal z (d + 2) 68 [.ref a, .int (nI i), .int (nI b)] h (.returned none, h') ∧ MAt K a h' (nI 0) ((m.sKn i true).sBx i b) ∧ Off a (a + 12) h h' := by
  have hn := hM.1.2.1
  have hA := d_isBox (z := z) d hM (nI b)
  rw [bxB_nI (by omega) (by omega), decide_eq_true hb] at hA
  have h0 := hM.2.1
  have h9 := hM.a9
  have hv9 := rng_at (n := 8) (fun s => Value.int (bI (m.kn s))) hi
  rw [hkn] at hv9
  obtain ⟨m1, o1⟩ := hM.setC (nI 0)
  have h01 := m1.2.1
  have h9' := m1.a9
  obtain ⟨m2, o2⟩ := m1.sKn i true
  have h02 := m2.2.1
  have h10 := m2.a10
  obtain ⟨m3, o3⟩ := m2.sBx i b
  refine ⟨_, ?_, m3, (o1.trans o2).trans o3⟩
  refine mm_cal_of ?_
  refine ev_go at_68_0 rfl ?_
  refine ev_go at_68_1 rfl ?_
  refine ev_if_lt at_68_2 (fun hc => absurd hc (nI_pos (by omega))) (fun _ => ?_)
  refine ev_go at_68_5 rfl ?_
  refine ev_bi (nI 7) at_68_6 (by decide) ?_
  refine ev_icmp_gt at_68_8 (fun hc => absurd hc (nI_nlt (by omega) (by omega))) (fun _ => ?_)
  refine ev_go at_68_11 rfl ?_
  refine ev_go at_68_12 rfl ?_
  refine ev_callV (as := [_]) at_68_13 rfl rfl (by simp [mm_wt, Value.category]) rfl h0 hA ?_
  refine ev_ifb_ne at_68_16 (fun _ => ?_) (fun hc => nomatch hc)
  refine ev_go at_68_23 rfl ?_
  refine ev_get at_68_24 h0 rfl ?_
  refine ev_go at_68_27 rfl ?_
  refine ev_zald at_68_28 h9 (by omega) hv9 ?_
  refine ev_ifb_eq at_68_29 (fun _ => ?_) (fun hc => nomatch hc)
  refine ev_ic (nI 0) at_68_36 (by decide) ?_
  refine ev_put at_68_37 h0 (by first | (simp; done) | (simp [Mo]; done)) (by first | rfl | exact fits_b _) ?_
  refine ev_go at_68_40 rfl ?_
  refine ev_get at_68_41 h01 rfl ?_
  refine ev_if_ne at_68_44 (fun hc => absurd hc (by decide)) (fun _ => ?_)
  refine ev_go at_68_47 rfl ?_
  refine ev_get at_68_48 h01 rfl ?_
  refine ev_go at_68_51 rfl ?_
  refine ev_ic (bI true) at_68_52 (by decide) ?_
  refine ev_zast at_68_53 h9' (by omega) (by rw [rng_len]; exact hi) (by first | exact bI_01 _ | decide) ?_
  refine ev_go at_68_54 rfl ?_
  refine ev_get at_68_55 h02 rfl ?_
  refine ev_go at_68_58 rfl ?_
  refine ev_go at_68_59 rfl ?_
  refine ev_iast at_68_60 h10 (by omega) (by rw [rng_len]; exact hi) ?_
  refine ev_end at_68_61 rfl ?_
  rfl
theorem y_hand0 (d : Nat) (hM : MAt K a h c m) {i x : Int32} (hx : kmB m i = false ∨ tbB K x = false) : ∃ h', mm_cal z (d + 3) 69 [.ref a, .int i, .int x] h (.returned none, h') ∧ MAt K a h' (nI 1) m ∧ Off a (a + 12) h h' := by
  have hA := d_isKnown (z := z) (d + 1) hM i
  have hT := d_isTablet (z := z) d hM x
  have h0 := hM.2.1
  obtain ⟨m1, o1⟩ := hM.setC (nI 1)
  have h01 := m1.2.1
  refine ⟨_, ?_, m1, o1⟩
  refine mm_cal_of ?_
  cases hkm : kmB m i with
  | false =>
    rw [hkm] at hA
    refine ev_go at_69_0 rfl ?_
    refine ev_go at_69_1 rfl ?_
    refine ev_go at_69_2 rfl ?_
    refine ev_callV (as := [_]) at_69_3 rfl rfl (by simp [mm_wt, Value.category]) rfl h0 hA ?_
    refine ev_ifb_eq at_69_6 (fun _ => ?_) (fun hc => nomatch hc)
    refine ev_ic (nI 1) at_69_21 (by decide) ?_
    refine ev_put at_69_22 h0 (by first | (simp; done) | (simp [Mo]; done)) (by first | rfl | exact fits_b _) ?_
    refine ev_go at_69_25 rfl ?_
    refine ev_get at_69_26 h01 rfl ?_
    refine ev_if_le at_69_29 (fun hc => absurd hc (by decide)) (fun _ => ?_)
    refine ev_end at_69_32 rfl ?_
    rfl
  | true =>
    rw [hkm] at hA hx
    have htf : tbB K x = false := by
      rcases hx with q | q
      · cases q
      · exact q
    rw [htf] at hT
    refine ev_go at_69_0 rfl ?_
    refine ev_go at_69_1 rfl ?_
    refine ev_go at_69_2 rfl ?_
    refine ev_callV (as := [_]) at_69_3 rfl rfl (by simp [mm_wt, Value.category]) rfl h0 hA ?_
    refine ev_ifb_eq at_69_6 (fun hc => nomatch hc) (fun _ => ?_)
    refine ev_go at_69_9 rfl ?_
    refine ev_go at_69_10 rfl ?_
    refine ev_callV (as := [_]) at_69_11 rfl rfl (by simp [mm_wt, Value.category]) rfl h0 hT ?_
    refine ev_ifb_eq at_69_14 (fun _ => ?_) (fun hc => nomatch hc)
    refine ev_ic (nI 1) at_69_21 (by decide) ?_
    refine ev_put at_69_22 h0 (by first | (simp; done) | (simp [Mo]; done)) (by first | rfl | exact fits_b _) ?_
    refine ev_go at_69_25 rfl ?_
    refine ev_get at_69_26 h01 rfl ?_
    refine ev_if_le at_69_29 (fun hc => absurd hc (by decide)) (fun _ => ?_)
    refine ev_end at_69_32 rfl ?_
    rfl
theorem y_hand1 (d : Nat) (hM : MAt K a h c m) (hB : MB m) {i k j : Nat} (hi : i < 8) (hkn : m.kn i = true) (hk : K.ex k = true) (hj : j < K.t) {tab : Option Nat} (hab : Ab m i tab) (hab2 : ∀ k, tab = some k → k < 120) (hbb : m.bx i < 100) (his : ∀ s, m.ins i = some s → s < 100) (hx : ¬ (m.ins i = none ∧ m.pl (8 * k + j) = 10 + m.bx i ∧ tab = none)) : ∃ h', mm_cal z (d + 3) 69 [.ref a, .int (nI i), .int (nI (k * 100 + j))] h (.returned none, h') ∧ MAt K a h' (nI 2) m ∧ Off a (a + 12) h h' := by
  have hK := hM.1
  have h15 := (Cf.no hK hk).1.1
  have ht := hK.2.2.2.1
  have hA := d_isKnown (z := z) (d + 1) hM (nI i)
  have hkm : kmB m (nI i) = true := by unfold kmB; rw [tnB_nI hi, nI_clamp (by omega), hkn]; rfl
  rw [hkm] at hA
  have hT := d_isTablet (z := z) d hM (nI (k * 100 + j))
  have e1 : (k * 100 + j) / 100 = k := by omega
  have e2 : (k * 100 + j) % 100 = j := by omega
  rw [tbB_nI hK (by omega), e1, e2, hk, decide_eq_true hj] at hT
  have h0 := hM.2.1
  obtain ⟨m1, o1⟩ := hM.setC (nI 0)
  generalize hh1 : mm_upd h a 2 (.int (nI 0)) = h1 at m1 o1
  have h01 := m1.2.1
  have h7 := m1.a7
  have h10 := m1.a10
  have h11 := m1.a11
  have hpb := hB.1 (8 * k + j)
  have hv7 := rng_at (n := 120) (fun s => Value.int (nI (m.pl s))) (show 8 * k + j < 120 by omega)
  have hv10 := rng_at (n := 8) (fun s => Value.int (nI (m.bx s))) hi
  have hv11 := rng_at (n := 8) (fun s => Value.int (oI (m.ins s))) hi
  have hI := d_index (z := z) (h := h1) (d + 1) (i := j) h15 (by omega)
  have hC := d_aboard (z := z) (d + 1) m1 hB hi hab hab2
  obtain ⟨m2, o2⟩ := m1.setC (nI 2)
  have h02 := m2.2.1
  refine ⟨_, ?_, m2, o1.trans o2⟩
  refine mm_cal_of ?_
  cases hin : m.ins i with
  | some s =>
    rw [hin] at hv11
    have hs := his s hin
    refine ev_go at_69_0 rfl ?_
    refine ev_go at_69_1 rfl ?_
    refine ev_go at_69_2 rfl ?_
    refine ev_callV (as := [_]) at_69_3 rfl rfl (by simp [mm_wt, Value.category]) rfl h0 hA ?_
    refine ev_ifb_eq at_69_6 (fun hc => nomatch hc) (fun _ => ?_)
    refine ev_go at_69_9 rfl ?_
    refine ev_go at_69_10 rfl ?_
    refine ev_callV (as := [_]) at_69_11 rfl rfl (by simp [mm_wt, Value.category]) rfl h0 hT ?_
    refine ev_ifb_eq at_69_14 (fun hc => nomatch hc) (fun _ => ?_)
    refine ev_ic (nI 0) at_69_17 (by decide) ?_
    refine ev_go at_69_18 rfl ?_
    refine ev_put at_69_22 h0 (by simp [Mo]) rfl ?_
    rw [hh1]
    refine ev_go at_69_25 rfl ?_
    refine ev_get at_69_26 h01 rfl ?_
    refine ev_if_le at_69_29 (fun _ => ?_) (fun hc => absurd hc (by decide))
    refine ev_go at_69_33 rfl ?_
    refine ev_go at_69_34 rfl ?_
    refine ev_get at_69_35 h01 rfl ?_
    refine ev_go at_69_38 rfl ?_
    refine ev_iald at_69_39 h11 (by omega) hv11 ?_
    refine ev_if_ge at_69_40 (fun _ => ?_) (fun hc => absurd (nI_pos' (by omega)) hc)
    refine ev_ic (nI 2) at_69_76 (by decide) ?_
    refine ev_put at_69_77 h01 (by first | (simp; done) | (simp [Mo]; done)) (by first | rfl | exact fits_b _) ?_
    refine ev_go at_69_80 rfl ?_
    refine ev_get at_69_81 h02 rfl ?_
    refine ev_if_ne at_69_84 (fun _ => ?_) (fun hc => absurd hc (by decide))
    refine ev_end at_69_99 rfl ?_
    rfl
  | none =>
    rw [hin] at hv11
    by_cases hpl : m.pl (8 * k + j) = 10 + m.bx i
    · cases htab : tab with
      | none => exact absurd ⟨hin, hpl, htab⟩ hx
      | some y =>
        have hy := hab2 y htab
        rw [htab] at hC
        refine ev_go at_69_0 rfl ?_
        refine ev_go at_69_1 rfl ?_
        refine ev_go at_69_2 rfl ?_
        refine ev_callV (as := [_]) at_69_3 rfl rfl (by simp [mm_wt, Value.category]) rfl h0 hA ?_
        refine ev_ifb_eq at_69_6 (fun hc => nomatch hc) (fun _ => ?_)
        refine ev_go at_69_9 rfl ?_
        refine ev_go at_69_10 rfl ?_
        refine ev_callV (as := [_]) at_69_11 rfl rfl (by simp [mm_wt, Value.category]) rfl h0 hT ?_
        refine ev_ifb_eq at_69_14 (fun hc => nomatch hc) (fun _ => ?_)
        refine ev_ic (nI 0) at_69_17 (by decide) ?_
        refine ev_go at_69_18 rfl ?_
        refine ev_put at_69_22 h0 (by simp [Mo]) rfl ?_
        rw [hh1]
        refine ev_go at_69_25 rfl ?_
        refine ev_get at_69_26 h01 rfl ?_
        refine ev_if_le at_69_29 (fun _ => ?_) (fun hc => absurd hc (by decide))
        refine ev_go at_69_33 rfl ?_
        refine ev_go at_69_34 rfl ?_
        refine ev_get at_69_35 h01 rfl ?_
        refine ev_go at_69_38 rfl ?_
        refine ev_iald at_69_39 h11 (by omega) hv11 ?_
        refine ev_if_ge at_69_40 (fun hc => absurd hc (by decide)) (fun _ => ?_)
        refine ev_go at_69_43 rfl ?_
        refine ev_get at_69_44 h01 rfl ?_
        refine ev_go at_69_47 rfl ?_
        refine ev_callS (as := [_]) at_69_48 (by decide) rfl rfl (by simp [mm_wt, Value.category]) rfl hI ?_
        refine ev_iald at_69_51 h7 (by omega) hv7 ?_
        refine ev_bi (nI 10) at_69_52 (by decide) ?_
        refine ev_go at_69_54 rfl ?_
        refine ev_get at_69_55 h01 rfl ?_
        refine ev_go at_69_58 rfl ?_
        refine ev_iald at_69_59 h10 (by omega) hv10 ?_
        refine ev_go at_69_60 rfl ?_
        first | refine ev_top (congrArg Value.int (nI_add _ _)) ?_ | skip
        refine ev_icmp_ne at_69_61 (fun hc => absurd (by rw [hpl]) hc) (fun _ => ?_)
        refine ev_go at_69_64 rfl ?_
        refine ev_go at_69_65 rfl ?_
        refine ev_callV (as := [_]) at_69_66 rfl rfl (by simp [mm_wt, Value.category]) rfl h01 hC ?_
        refine ev_if_ge at_69_69 (fun _ => ?_) (fun hc => absurd (nI_pos' (by omega)) hc)
        refine ev_ic (nI 2) at_69_76 (by decide) ?_
        refine ev_put at_69_77 h01 (by first | (simp; done) | (simp [Mo]; done)) (by first | rfl | exact fits_b _) ?_
        refine ev_go at_69_80 rfl ?_
        refine ev_get at_69_81 h02 rfl ?_
        refine ev_if_ne at_69_84 (fun _ => ?_) (fun hc => absurd hc (by decide))
        refine ev_end at_69_99 rfl ?_
        rfl
    · skip
      refine ev_go at_69_0 rfl ?_
      refine ev_go at_69_1 rfl ?_
      refine ev_go at_69_2 rfl ?_
      refine ev_callV (as := [_]) at_69_3 rfl rfl (by simp [mm_wt, Value.category]) rfl h0 hA ?_
      refine ev_ifb_eq at_69_6 (fun hc => nomatch hc) (fun _ => ?_)
      refine ev_go at_69_9 rfl ?_
      refine ev_go at_69_10 rfl ?_
      refine ev_callV (as := [_]) at_69_11 rfl rfl (by simp [mm_wt, Value.category]) rfl h0 hT ?_
      refine ev_ifb_eq at_69_14 (fun hc => nomatch hc) (fun _ => ?_)
      refine ev_ic (nI 0) at_69_17 (by decide) ?_
      refine ev_go at_69_18 rfl ?_
      refine ev_put at_69_22 h0 (by simp [Mo]) rfl ?_
      rw [hh1]
      refine ev_go at_69_25 rfl ?_
      refine ev_get at_69_26 h01 rfl ?_
      refine ev_if_le at_69_29 (fun _ => ?_) (fun hc => absurd hc (by decide))
      refine ev_go at_69_33 rfl ?_
      refine ev_go at_69_34 rfl ?_
      refine ev_get at_69_35 h01 rfl ?_
      refine ev_go at_69_38 rfl ?_
      refine ev_iald at_69_39 h11 (by omega) hv11 ?_
      refine ev_if_ge at_69_40 (fun hc => absurd hc (by decide)) (fun _ => ?_)
      refine ev_go at_69_43 rfl ?_
      refine ev_get at_69_44 h01 rfl ?_
      refine ev_go at_69_47 rfl ?_
      refine ev_callS (as := [_]) at_69_48 (by decide) rfl rfl (by simp [mm_wt, Value.category]) rfl hI ?_
      refine ev_iald at_69_51 h7 (by omega) hv7 ?_
      refine ev_bi (nI 10) at_69_52 (by decide) ?_
      refine ev_go at_69_54 rfl ?_
      refine ev_get at_69_55 h01 rfl ?_
      refine ev_go at_69_58 rfl ?_
      refine ev_iald at_69_59 h10 (by omega) hv10 ?_
      refine ev_go at_69_60 rfl ?_
      first | refine ev_top (congrArg Value.int (nI_add _ _)) ?_ | skip
      refine ev_icmp_ne at_69_61 (fun _ => ?_) (fun hc => absurd hc (ni_ne (by omega) (by omega) hpl))
      refine ev_ic (nI 2) at_69_76 (by decide) ?_
      refine ev_put at_69_77 h01 (by first | (simp; done) | (simp [Mo]; done)) (by first | rfl | exact fits_b _) ?_
      refine ev_go at_69_80 rfl ?_
      refine ev_get at_69_81 h02 rfl ?_
      refine ev_if_ne at_69_84 (fun _ => ?_) (fun hc => absurd hc (by decide))
      refine ev_end at_69_99 rfl ?_
      rfl
theorem e_hand (d : Nat) (hM : MAt K a h c m) (hB : MB m) {i k j : Nat} (hi : i < 8) (hkn : m.kn i = true) (hk : K.ex k = true) (hj : j < K.t) (hab : Ab m i none) (hin : m.ins i = none) (hpl : m.pl (8 * k + j) = 10 + m.bx i) : ∃ h', mm_cal z (d + 3) 69 [.ref a, .int (nI i), .int (nI (k * 100 + j))] h (.returned none, h') ∧ MAt K a h' (nI 0) (m.goes (8 * k + j) (20 + i)) ∧ Off a (a + 12) h h' := by
  have hab2 : ∀ k, (none : Option Nat) = some k → k < 120 := fun k q => nomatch q
  have hK := hM.1
  have h15 := (Cf.no hK hk).1.1
  have ht := hK.2.2.2.1
  have hA := d_isKnown (z := z) (d + 1) hM (nI i)
  have hkm : kmB m (nI i) = true := by unfold kmB; rw [tnB_nI hi, nI_clamp (by omega), hkn]; rfl
  rw [hkm] at hA
  have hT := d_isTablet (z := z) d hM (nI (k * 100 + j))
  have e1 : (k * 100 + j) / 100 = k := by omega
  have e2 : (k * 100 + j) % 100 = j := by omega
  rw [tbB_nI hK (by omega), e1, e2, hk, decide_eq_true hj] at hT
  have h0 := hM.2.1
  obtain ⟨m1, o1⟩ := hM.setC (nI 0)
  generalize hh1 : mm_upd h a 2 (.int (nI 0)) = h1 at m1 o1
  have h01 := m1.2.1
  have h7 := m1.a7
  have h10 := m1.a10
  have h11 := m1.a11
  have hpb := hB.1 (8 * k + j)
  have hv7 := rng_at (n := 120) (fun s => Value.int (nI (m.pl s))) (show 8 * k + j < 120 by omega)
  have hv10 := rng_at (n := 8) (fun s => Value.int (nI (m.bx s))) hi
  have hv11 := rng_at (n := 8) (fun s => Value.int (oI (m.ins s))) hi
  have hI := d_index (z := z) (h := h1) (d + 1) (i := j) h15 (by omega)
  have hC := d_aboard (z := z) (d + 1) m1 hB hi hab hab2
  rw [hin] at hv11
  obtain ⟨m2, o2⟩ := m1.setC (nI 0)
  generalize hh2 : mm_upd h1 a 2 (.int (nI 0)) = h2 at m2 o2
  have h02 := m2.2.1
  have hI2 := d_index (z := z) (h := h2) (d + 1) (i := j) h15 (by omega)
  obtain ⟨h3, hG, m3, o3⟩ := d_goes (z := z) (d + 1) m2 (k := 8 * k + j) (v := 20 + i) (by omega)
  refine ⟨h3, ?_, m3, (o1.trans o2).trans o3⟩
  refine mm_cal_of ?_
  refine ev_go at_69_0 rfl ?_
  refine ev_go at_69_1 rfl ?_
  refine ev_go at_69_2 rfl ?_
  refine ev_callV (as := [_]) at_69_3 rfl rfl (by simp [mm_wt, Value.category]) rfl h0 hA ?_
  refine ev_ifb_eq at_69_6 (fun hc => nomatch hc) (fun _ => ?_)
  refine ev_go at_69_9 rfl ?_
  refine ev_go at_69_10 rfl ?_
  refine ev_callV (as := [_]) at_69_11 rfl rfl (by simp [mm_wt, Value.category]) rfl h0 hT ?_
  refine ev_ifb_eq at_69_14 (fun hc => nomatch hc) (fun _ => ?_)
  refine ev_ic (nI 0) at_69_17 (by decide) ?_
  refine ev_go at_69_18 rfl ?_
  refine ev_put at_69_22 h0 (by simp [Mo]) rfl ?_
  rw [hh1]
  refine ev_go at_69_25 rfl ?_
  refine ev_get at_69_26 h01 rfl ?_
  refine ev_if_le at_69_29 (fun _ => ?_) (fun hc => absurd hc (by decide))
  refine ev_go at_69_33 rfl ?_
  refine ev_go at_69_34 rfl ?_
  refine ev_get at_69_35 h01 rfl ?_
  refine ev_go at_69_38 rfl ?_
  refine ev_iald at_69_39 h11 (by omega) hv11 ?_
  refine ev_if_ge at_69_40 (fun hc => absurd hc (by decide)) (fun _ => ?_)
  refine ev_go at_69_43 rfl ?_
  refine ev_get at_69_44 h01 rfl ?_
  refine ev_go at_69_47 rfl ?_
  refine ev_callS (as := [_]) at_69_48 (by decide) rfl rfl (by simp [mm_wt, Value.category]) rfl hI ?_
  refine ev_iald at_69_51 h7 (by omega) hv7 ?_
  refine ev_bi (nI 10) at_69_52 (by decide) ?_
  refine ev_go at_69_54 rfl ?_
  refine ev_get at_69_55 h01 rfl ?_
  refine ev_go at_69_58 rfl ?_
  refine ev_iald at_69_59 h10 (by omega) hv10 ?_
  refine ev_go at_69_60 rfl ?_
  first | refine ev_top (congrArg Value.int (nI_add _ _)) ?_ | skip
  refine ev_icmp_ne at_69_61 (fun hc => absurd (by rw [hpl]) hc) (fun _ => ?_)
  refine ev_go at_69_64 rfl ?_
  refine ev_go at_69_65 rfl ?_
  refine ev_callV (as := [_]) at_69_66 rfl rfl (by simp [mm_wt, Value.category]) rfl h01 hC ?_
  refine ev_if_ge at_69_69 (fun hc => absurd hc (by decide)) (fun _ => ?_)
  refine ev_ic (nI 0) at_69_72 (by decide) ?_
  refine ev_go at_69_73 rfl ?_
  refine ev_put at_69_77 h01 (by simp [Mo]) rfl ?_
  rw [hh2]
  refine ev_go at_69_80 rfl ?_
  refine ev_get at_69_81 h02 rfl ?_
  refine ev_if_ne at_69_84 (fun hc => absurd hc (by decide)) (fun _ => ?_)
  refine ev_go at_69_87 rfl ?_
  refine ev_go at_69_88 rfl ?_
  refine ev_callS (as := [_]) at_69_89 (by decide) rfl rfl (by simp [mm_wt, Value.category]) rfl hI2 ?_
  refine ev_bi (nI 20) at_69_92 (by decide) ?_
  refine ev_go at_69_94 rfl ?_
  refine ev_go at_69_95 rfl ?_
  first | refine ev_top (congrArg Value.int (nI_add _ _)) ?_ | skip
  refine ev_callV (as := [_, _]) at_69_96 rfl rfl (by simp [mm_wt, Value.category]) rfl h02 hG ?_
  refine ev_end at_69_99 rfl ?_
  rfl
theorem y_back0 (d : Nat) (hM : MAt K a h c m) {i : Int32} (hx : kmB m i = false) : ∃ h', mm_cal z (d + 2) 72 [.ref a, .int i] h (.returned (some (.int (nI 0))), h') ∧ MAt K a h' (nI 1) m ∧ Off a (a + 12) h h' := by
  have hA := d_isKnown (z := z) d hM i
  rw [hx] at hA
  have h0 := hM.2.1
  obtain ⟨m1, o1⟩ := hM.setC (nI 1)
  have h01 := m1.2.1
  refine ⟨_, ?_, m1, o1⟩
  refine mm_cal_of ?_
  refine ev_go at_72_0 rfl ?_
  refine ev_go at_72_1 rfl ?_
  refine ev_go at_72_2 rfl ?_
  refine ev_callV (as := [_]) at_72_3 rfl rfl (by simp [mm_wt, Value.category]) rfl h0 hA ?_
  refine ev_ifb_eq at_72_6 (fun _ => ?_) (fun hc => nomatch hc)
  refine ev_ic (nI 1) at_72_13 (by decide) ?_
  refine ev_put at_72_14 h0 (by first | (simp; done) | (simp [Mo]; done)) (by first | rfl | exact fits_b _) ?_
  refine ev_go at_72_17 rfl ?_
  refine ev_get at_72_18 h01 rfl ?_
  refine ev_if_le at_72_21 (fun hc => absurd hc (by decide)) (fun _ => ?_)
  refine ev_ic (nI 0) at_72_24 (by decide) ?_
  refine ev_iret at_72_25 (by first | exact Or.inl rfl | exact Or.inr (Or.inl rfl) | exact Or.inr (Or.inr rfl) | exact Or.inr (bI_01 _)) ?_
  rfl
theorem y_back1 (d : Nat) (hM : MAt K a h c m) (hB : MB m) {i : Nat} (hi : i < 8) (hkn : m.kn i = true) {tab : Option Nat} (hab : Ab m i tab) (hab2 : ∀ k, tab = some k → k < 120) (his : ∀ s, m.ins i = some s → s < 100) (hx : tab = none ∨ m.ins i ≠ none) : ∃ h', mm_cal z (d + 2) 72 [.ref a, .int (nI i)] h (.returned (some (.int (nI 0))), h') ∧ MAt K a h' (nI 2) m ∧ Off a (a + 12) h h' := by
  have hA := d_isKnown (z := z) d hM (nI i)
  have hkm : kmB m (nI i) = true := by unfold kmB; rw [tnB_nI hi, nI_clamp (by omega), hkn]; rfl
  rw [hkm] at hA
  have h0 := hM.2.1
  obtain ⟨m1, o1⟩ := hM.setC (nI 0)
  generalize hh1 : mm_upd h a 2 (.int (nI 0)) = h1 at m1 o1
  have h01 := m1.2.1
  have h11 := m1.a11
  have hv11 := rng_at (n := 8) (fun s => Value.int (oI (m.ins s))) hi
  have hC := d_aboard (z := z) d m1 hB hi hab hab2
  obtain ⟨m2, o2⟩ := m1.setC (nI 2)
  have h02 := m2.2.1
  refine ⟨_, ?_, m2, o1.trans o2⟩
  refine mm_cal_of ?_
  cases htab : tab with
  | none =>
    rw [htab] at hC
    refine ev_go at_72_0 rfl ?_
    refine ev_go at_72_1 rfl ?_
    refine ev_go at_72_2 rfl ?_
    refine ev_callV (as := [_]) at_72_3 rfl rfl (by simp [mm_wt, Value.category]) rfl h0 hA ?_
    refine ev_ifb_eq at_72_6 (fun hc => nomatch hc) (fun _ => ?_)
    refine ev_ic (nI 0) at_72_9 (by decide) ?_
    refine ev_go at_72_10 rfl ?_
    refine ev_put at_72_14 h0 (by simp [Mo]) rfl ?_
    rw [hh1]
    refine ev_go at_72_17 rfl ?_
    refine ev_get at_72_18 h01 rfl ?_
    refine ev_if_le at_72_21 (fun _ => ?_) (fun hc => absurd hc (by decide))
    refine ev_go at_72_26 rfl ?_
    refine ev_go at_72_27 rfl ?_
    refine ev_callV (as := [_]) at_72_28 rfl rfl (by simp [mm_wt, Value.category]) rfl h01 hC ?_
    refine ev_go at_72_31 rfl ?_
    refine ev_go at_72_32 rfl ?_
    refine ev_go at_72_33 rfl ?_
    refine ev_if_lt at_72_34 (fun _ => ?_) (fun hc => absurd (show (-1 : Int32) < 0 by decide) hc)
    refine ev_ic (nI 2) at_72_46 (by decide) ?_
    refine ev_go at_72_47 rfl ?_
    refine ev_put at_72_51 h01 (by first | (simp; done) | (simp [Mo]; done)) (by first | rfl | exact fits_b _) ?_
    refine ev_go at_72_54 rfl ?_
    refine ev_get at_72_55 h02 rfl ?_
    refine ev_if_le at_72_58 (fun hc => absurd hc (by decide)) (fun _ => ?_)
    refine ev_ic (nI 0) at_72_61 (by decide) ?_
    refine ev_iret at_72_62 (by first | exact Or.inl rfl | exact Or.inr (Or.inl rfl) | exact Or.inr (Or.inr rfl) | exact Or.inr (bI_01 _)) ?_
    rfl
  | some y =>
    have hy := hab2 y htab
    rw [htab] at hC hx
    cases hin : m.ins i with
    | none =>
      rcases hx with q | q
      · cases q
      · exact absurd hin q
    | some s =>
      have hs := his s hin
      rw [hin] at hv11
      refine ev_go at_72_0 rfl ?_
      refine ev_go at_72_1 rfl ?_
      refine ev_go at_72_2 rfl ?_
      refine ev_callV (as := [_]) at_72_3 rfl rfl (by simp [mm_wt, Value.category]) rfl h0 hA ?_
      refine ev_ifb_eq at_72_6 (fun hc => nomatch hc) (fun _ => ?_)
      refine ev_ic (nI 0) at_72_9 (by decide) ?_
      refine ev_go at_72_10 rfl ?_
      refine ev_put at_72_14 h0 (by simp [Mo]) rfl ?_
      rw [hh1]
      refine ev_go at_72_17 rfl ?_
      refine ev_get at_72_18 h01 rfl ?_
      refine ev_if_le at_72_21 (fun _ => ?_) (fun hc => absurd hc (by decide))
      refine ev_go at_72_26 rfl ?_
      refine ev_go at_72_27 rfl ?_
      refine ev_callV (as := [_]) at_72_28 rfl rfl (by simp [mm_wt, Value.category]) rfl h01 hC ?_
      refine ev_go at_72_31 rfl ?_
      refine ev_go at_72_32 rfl ?_
      refine ev_go at_72_33 rfl ?_
      refine ev_if_lt at_72_34 (fun hc => absurd hc (nI_pos (by omega))) (fun _ => ?_)
      refine ev_go at_72_37 rfl ?_
      refine ev_get at_72_38 h01 rfl ?_
      refine ev_go at_72_41 rfl ?_
      refine ev_iald at_72_42 h11 (by omega) hv11 ?_
      refine ev_if_lt at_72_43 (fun hc => absurd hc (nI_pos (by omega))) (fun _ => ?_)
      refine ev_ic (nI 2) at_72_46 (by decide) ?_
      refine ev_go at_72_47 rfl ?_
      refine ev_put at_72_51 h01 (by first | (simp; done) | (simp [Mo]; done)) (by first | rfl | exact fits_b _) ?_
      refine ev_go at_72_54 rfl ?_
      refine ev_get at_72_55 h02 rfl ?_
      refine ev_if_le at_72_58 (fun hc => absurd hc (by decide)) (fun _ => ?_)
      refine ev_ic (nI 0) at_72_61 (by decide) ?_
      refine ev_iret at_72_62 (by first | exact Or.inl rfl | exact Or.inr (Or.inl rfl) | exact Or.inr (Or.inr rfl) | exact Or.inr (bI_01 _)) ?_
      rfl
theorem e_back (d : Nat) (hM : MAt K a h c m) (hB : MB m) {i y : Nat} (hi : i < 8) (hkn : m.kn i = true) (hab : Ab m i (some y)) (hy : y < 120) (hin : m.ins i = none) : ∃ h', mm_cal z (d + 2) 72 [.ref a, .int (nI i)] h (.returned (some (.int (nI (100 * (y / 8) + y % 8)))), h') ∧ MAt K a h' (nI 0) (m.goes y (10 + m.bx i)) ∧ Off a (a + 12) h h' := by
  have hab2 : ∀ k, some y = some k → k < 120 := fun k q => by cases q; exact hy
  have hA := d_isKnown (z := z) d hM (nI i)
  have hkm : kmB m (nI i) = true := by unfold kmB; rw [tnB_nI hi, nI_clamp (by omega), hkn]; rfl
  rw [hkm] at hA
  have h0 := hM.2.1
  obtain ⟨m1, o1⟩ := hM.setC (nI 0)
  generalize hh1 : mm_upd h a 2 (.int (nI 0)) = h1 at m1 o1
  have h01 := m1.2.1
  have h11 := m1.a11
  have hv11 := rng_at (n := 8) (fun s => Value.int (oI (m.ins s))) hi
  have hC := d_aboard (z := z) d m1 hB hi hab hab2
  rw [hin] at hv11
  obtain ⟨m2, o2⟩ := m1.setC (nI 0)
  generalize hh2 : mm_upd h1 a 2 (.int (nI 0)) = h2 at m2 o2
  have h02 := m2.2.1
  have h10 := m2.a10
  have hv10 := rng_at (n := 8) (fun s => Value.int (nI (m.bx s))) hi
  obtain ⟨h3, hG, m3, o3⟩ := d_goes (z := z) d m2 (k := y) (v := 10 + m.bx i) hy
  refine ⟨h3, ?_, m3, (o1.trans o2).trans o3⟩
  refine mm_cal_of ?_
  refine ev_go at_72_0 rfl ?_
  refine ev_go at_72_1 rfl ?_
  refine ev_go at_72_2 rfl ?_
  refine ev_callV (as := [_]) at_72_3 rfl rfl (by simp [mm_wt, Value.category]) rfl h0 hA ?_
  refine ev_ifb_eq at_72_6 (fun hc => nomatch hc) (fun _ => ?_)
  refine ev_ic (nI 0) at_72_9 (by decide) ?_
  refine ev_go at_72_10 rfl ?_
  refine ev_put at_72_14 h0 (by simp [Mo]) rfl ?_
  rw [hh1]
  refine ev_go at_72_17 rfl ?_
  refine ev_get at_72_18 h01 rfl ?_
  refine ev_if_le at_72_21 (fun _ => ?_) (fun hc => absurd hc (by decide))
  refine ev_go at_72_26 rfl ?_
  refine ev_go at_72_27 rfl ?_
  refine ev_callV (as := [_]) at_72_28 rfl rfl (by simp [mm_wt, Value.category]) rfl h01 hC ?_
  refine ev_go at_72_31 rfl ?_
  refine ev_go at_72_32 rfl ?_
  refine ev_go at_72_33 rfl ?_
  refine ev_if_lt at_72_34 (fun hc => absurd hc (nI_pos (by omega))) (fun _ => ?_)
  refine ev_go at_72_37 rfl ?_
  refine ev_get at_72_38 h01 rfl ?_
  refine ev_go at_72_41 rfl ?_
  refine ev_iald at_72_42 h11 (by omega) hv11 ?_
  refine ev_if_lt at_72_43 (fun _ => ?_) (fun hc => absurd (show (-1 : Int32) < 0 by decide) hc)
  refine ev_ic (nI 0) at_72_50 (by decide) ?_
  refine ev_put at_72_51 h01 (by simp [Mo]) rfl ?_
  rw [hh2]
  refine ev_go at_72_54 rfl ?_
  refine ev_get at_72_55 h02 rfl ?_
  refine ev_if_le at_72_58 (fun _ => ?_) (fun hc => absurd hc (by decide))
  refine ev_go at_72_63 rfl ?_
  refine ev_go at_72_64 rfl ?_
  refine ev_top (show Value.int (oI (some y)) = Value.int (nI y) from rfl) ?_
  refine ev_bi (nI 10) at_72_65 (by decide) ?_
  refine ev_go at_72_67 rfl ?_
  refine ev_get at_72_68 h02 rfl ?_
  refine ev_go at_72_71 rfl ?_
  refine ev_iald at_72_72 h10 (by omega) hv10 ?_
  refine ev_go at_72_73 rfl ?_
  first | refine ev_top (congrArg Value.int (nI_add _ _)) ?_ | skip
  refine ev_callV (as := [_, _]) at_72_74 rfl rfl (by simp [mm_wt, Value.category]) rfl h02 hG ?_
  refine ev_bi (nI 100) at_72_77 (by decide) ?_
  refine ev_go at_72_79 rfl ?_
  refine ev_top (show Value.int (oI (some y)) = Value.int (nI y) from rfl) ?_
  refine ev_bi (nI 8) at_72_80 (by decide) ?_
  refine ev_idiv at_72_82 (by decide) ?_
  first | refine ev_top (congrArg Value.int (pk_div (by omega) (by omega) (by omega))) ?_ | skip
  refine ev_go at_72_83 rfl ?_
  first | refine ev_top (congrArg Value.int (pk_mul _ _)) ?_ | skip
  refine ev_go at_72_84 rfl ?_
  refine ev_top (show Value.int (oI (some y)) = Value.int (nI y) from rfl) ?_
  refine ev_bi (nI 8) at_72_85 (by decide) ?_
  refine ev_irem at_72_87 (by decide) ?_
  first | refine ev_top (congrArg Value.int (pk_rem (by omega) (by omega) (by omega))) ?_ | skip
  refine ev_go at_72_88 rfl ?_
  first | refine ev_top (congrArg Value.int (nI_add _ _)) ?_ | skip
  refine ev_iret at_72_89 (by first | exact Or.inl rfl | exact Or.inr (Or.inl rfl) | exact Or.inr (Or.inr rfl) | exact Or.inr (bI_01 _)) ?_
  rfl
end D6
