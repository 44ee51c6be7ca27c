/-! THE REFERENCE's carry; the first states are related -/
section R3
variable {z : mm_Z} {h h' : mm_H} {K : Cf} {a : Nat} {c : Int32} {m : Md} {w : Cs} {T : Nat}
theorem y_carry0 (d : Nat) (hM : MAt K a h c m) {s b n : Int32} (hx : edB K s b = false ∨ cnB n = true) : ∃ h', mm_cal z (d + 3) 77 [.ref a, .int s, .int b, .int n] h (.returned none, h') ∧ MAt K a h' (nI 1) m ∧ Off a (a + 12) h h' := by
  have hA := d_isEnd (z := z) d hM b s
  have h0 := hM.2.1
  obtain ⟨m1, o1⟩ := hM.setC (nI 1)
  have h01 := m1.2.1
  refine ⟨_, ?_, m1, o1⟩
  refine mm_cal_of ?_
  cases hed : edB K s b with
  | false =>
    rw [hed] at hA
    refine ev_go at_77_0 rfl ?_
    refine ev_go at_77_1 rfl ?_
    refine ev_go at_77_2 rfl ?_
    refine ev_go at_77_3 rfl ?_
    refine ev_callV (as := [_, _]) at_77_4 rfl rfl (by simp [mm_wt, Value.category]) rfl h0 hA ?_
    refine ev_ifb_eq at_77_7 (fun _ => ?_) (fun hc => nomatch hc)
    refine ev_ic (nI 1) at_77_21 (by decide) ?_
    refine ev_go at_77_22 rfl ?_
    refine ev_put at_77_26 h0 (by first | (simp; done) | (simp [Mo]; done)) (by first | rfl | exact fits_b _) ?_
    refine ev_go at_77_29 rfl ?_
    refine ev_get at_77_30 h01 rfl ?_
    refine ev_if_le at_77_33 (fun hc => absurd hc (by decide)) (fun _ => ?_)
    refine ev_end at_77_36 rfl ?_
    rfl
  | true =>
    rw [hed] at hA hx
    have hx : cnB n = true := by rcases hx with hx | hx; cases hx; exact hx
    unfold cnB at hx
    simp only [Bool.or_eq_true, decide_eq_true_eq] at hx
    refine ev_go at_77_0 rfl ?_
    refine ev_go at_77_1 rfl ?_
    refine ev_go at_77_2 rfl ?_
    refine ev_go at_77_3 rfl ?_
    refine ev_callV (as := [_, _]) at_77_4 rfl rfl (by simp [mm_wt, Value.category]) rfl h0 hA ?_
    refine ev_ifb_eq at_77_7 (fun hc => nomatch hc) (fun _ => ?_)
    refine ev_go at_77_10 rfl ?_
    refine ev_ic (nI 2) at_77_11 (by decide) ?_
    refine ev_icmp_lt at_77_12 (fun hc12 => ?_) (fun hc12 => ?_)
    · skip
      refine ev_ic (nI 1) at_77_21 (by decide) ?_
      refine ev_go at_77_22 rfl ?_
      refine ev_put at_77_26 h0 (by first | (simp; done) | (simp [Mo]; done)) (by first | rfl | exact fits_b _) ?_
      refine ev_go at_77_29 rfl ?_
      refine ev_get at_77_30 h01 rfl ?_
      refine ev_if_le at_77_33 (fun hc => absurd hc (by decide)) (fun _ => ?_)
      refine ev_end at_77_36 rfl ?_
      rfl
    · skip
      refine ev_go at_77_15 rfl ?_
      refine ev_ic (nI 2) at_77_16 (by decide) ?_
      refine ev_irem at_77_17 (by decide) ?_
      first | refine ev_ifb_eq at_77_18 (fun hc18 => ?_) (fun hc18 => ?_) | refine ev_if_eq at_77_18 (fun hc18 => ?_) (fun hc18 => ?_)
      · skip
        exact absurd hc18 (by rcases hx with hx | hx; exact absurd hx hc12; exact hx)
      · skip
        refine ev_ic (nI 1) at_77_21 (by decide) ?_
        refine ev_go at_77_22 rfl ?_
        refine ev_put at_77_26 h0 (by first | (simp; done) | (simp [Mo]; done)) (by first | rfl | exact fits_b _) ?_
        refine ev_go at_77_29 rfl ?_
        refine ev_get at_77_30 h01 rfl ?_
        refine ev_if_le at_77_33 (fun hc => absurd hc (by decide)) (fun _ => ?_)
        refine ev_end at_77_36 rfl ?_
        rfl
theorem y_carry1 (d : Nat) (hM : MAt K a h c m) (hB : MB m) {k : Nat} (hk : K.ex k = true) (e : Bool) {n : Int32} (hcn : cnB n = false) (hph : false = true ↔ ∀ j, j < K.t → m.pl (8 * k + j) < 2) : ∃ h', mm_cal z (d + 3) 77 [.ref a, .int (nI k), .int (nI (eb k e)), .int n] h (.returned none, h') ∧ MAt K a h' (nI 2) m ∧ Off a (a + 12) h h' := by
  have hK := hM.1
  have h15 := (Cf.no hK hk).1.1
  have hA := d_isEnd (z := z) d hM (nI (eb k e)) (nI k)
  rw [edB_nI hK hk e] at hA
  obtain ⟨N', m1', m2', m3', hNN⟩ := cnB_f hcn
  have hr : n - n / nI 2 * nI 2 = 0 := by rw [hNN, pk_rem m2' (by omega) (by omega), m3']; rfl
  have hlt : ¬ n < nI 2 := by rw [hNN]; exact nI_nlt m1' m2'
  have h0 := hM.2.1
  obtain ⟨m1, o1⟩ := hM.setC (nI 0)
  generalize hh1 : mm_upd h a 2 (.int (nI 0)) = h1 at m1 o1
  have h01 := m1.2.1
  have hE := d_end (z := z) (h := h1) d hK hk e
  have hP := d_isInPhase (z := z) (d + 1) m1 hB h15 hph
  obtain ⟨m2, o2⟩ := m1.setC (nI 2)
  have h02 := m2.2.1
  refine ⟨_, ?_, m2, o1.trans o2⟩
  refine mm_cal_of ?_
  refine ev_go at_77_0 rfl ?_
  refine ev_go at_77_1 rfl ?_
  refine ev_go at_77_2 rfl ?_
  refine ev_go at_77_3 rfl ?_
  refine ev_callV (as := [_, _]) at_77_4 rfl rfl (by simp [mm_wt, Value.category]) rfl h0 hA ?_
  refine ev_ifb_eq at_77_7 (fun hc => nomatch hc) (fun _ => ?_)
  refine ev_go at_77_10 rfl ?_
  refine ev_ic (nI 2) at_77_11 (by decide) ?_
  refine ev_icmp_lt at_77_12 (fun hc => absurd hc hlt) (fun _ => ?_)
  refine ev_go at_77_15 rfl ?_
  refine ev_ic (nI 2) at_77_16 (by decide) ?_
  refine ev_irem at_77_17 (by decide) ?_
  refine ev_if_eq at_77_18 (fun _ => ?_) (fun hc => absurd hr hc)
  refine ev_ic (nI 0) at_77_25 (by decide) ?_
  refine ev_put at_77_26 h0 (by simp [Mo]) rfl ?_
  rw [hh1]
  refine ev_go at_77_29 rfl ?_
  refine ev_get at_77_30 h01 rfl ?_
  refine ev_if_le at_77_33 (fun _ => ?_) (fun hc => absurd hc (by decide))
  refine ev_go at_77_37 rfl ?_
  refine ev_go at_77_38 rfl ?_
  refine ev_callS (as := [_, _]) at_77_39 (by decide) rfl rfl (by simp [mm_wt, Value.category]) rfl hE ?_
  refine ev_go at_77_42 rfl ?_
  refine ev_go at_77_44 rfl ?_
  refine ev_go at_77_45 rfl ?_
  refine ev_go at_77_46 rfl ?_
  refine ev_callV (as := [_]) at_77_47 rfl rfl (by simp [mm_wt, Value.category]) rfl h01 hP ?_
  refine ev_ifb_ne at_77_50 (fun hc => nomatch hc) (fun _ => ?_)
  refine ev_ic (nI 2) at_77_53 (by decide) ?_
  refine ev_go at_77_54 rfl ?_
  refine ev_put at_77_73 h01 (by first | (simp; done) | (simp [Mo]; done)) (by first | rfl | exact fits_b _) ?_
  refine ev_ic (nI 0) at_77_76 (by decide) ?_
  refine ev_go at_77_77 rfl ?_
  refine ev_go at_77_79 rfl ?_
  refine ev_go at_77_81 rfl ?_
  refine ev_icmp_ge at_77_82 (fun hc => absurd hc (show ¬ n ≤ nI 0 by rw [hNN]; exact nI_ge (by omega) m2')) (fun _ => ?_)
  refine ev_go at_77_85 rfl ?_
  refine ev_get at_77_86 h02 rfl ?_
  refine ev_if_ne at_77_89 (fun _ => ?_) (fun hc => absurd hc (by decide))
  refine ev_end at_77_113 rfl ?_
  rfl
theorem y_carry3 (d : Nat) (hM : MAt K a h c m) (hB : MB m) {k : Nat} (hk : K.ex k = true) (e : Bool) {n : Int32} (hcn : cnB n = false) (hph : true = true ↔ ∀ j, j < K.t → m.pl (8 * k + j) < 2) {q : List Nat} (hq : Ly K m k e q) (hnd : q.Nodup) (hl : nI q.length < n) : ∃ h', mm_cal z (d + 3) 77 [.ref a, .int (nI k), .int (nI (eb k e)), .int n] h (.returned none, h') ∧ MAt K a h' (nI 3) m ∧ Off a (a + 12) h h' := by
  have hK := hM.1
  have h15 := (Cf.no hK hk).1.1
  have hA := d_isEnd (z := z) d hM (nI (eb k e)) (nI k)
  rw [edB_nI hK hk e] at hA
  obtain ⟨N', m1', m2', m3', hNN⟩ := cnB_f hcn
  have hr : n - n / nI 2 * nI 2 = 0 := by rw [hNN, pk_rem m2' (by omega) (by omega), m3']; rfl
  have hlt : ¬ n < nI 2 := by rw [hNN]; exact nI_nlt m1' m2'
  have h0 := hM.2.1
  obtain ⟨m1, o1⟩ := hM.setC (nI 0)
  generalize hh1 : mm_upd h a 2 (.int (nI 0)) = h1 at m1 o1
  have h01 := m1.2.1
  have hE := d_end (z := z) (h := h1) d hK hk e
  have hP := d_isInPhase (z := z) (d + 1) m1 hB h15 hph
  have hL := d_lying (z := z) (d + 1) m1 hB h15 hq hnd
  obtain ⟨m2, o2⟩ := m1.setC (nI 3)
  have h02 := m2.2.1
  refine ⟨_, ?_, m2, o1.trans o2⟩
  refine mm_cal_of ?_
  refine ev_go at_77_0 rfl ?_
  refine ev_go at_77_1 rfl ?_
  refine ev_go at_77_2 rfl ?_
  refine ev_go at_77_3 rfl ?_
  refine ev_callV (as := [_, _]) at_77_4 rfl rfl (by simp [mm_wt, Value.category]) rfl h0 hA ?_
  refine ev_ifb_eq at_77_7 (fun hc => nomatch hc) (fun _ => ?_)
  refine ev_go at_77_10 rfl ?_
  refine ev_ic (nI 2) at_77_11 (by decide) ?_
  refine ev_icmp_lt at_77_12 (fun hc => absurd hc hlt) (fun _ => ?_)
  refine ev_go at_77_15 rfl ?_
  refine ev_ic (nI 2) at_77_16 (by decide) ?_
  refine ev_irem at_77_17 (by decide) ?_
  refine ev_if_eq at_77_18 (fun _ => ?_) (fun hc => absurd hr hc)
  refine ev_ic (nI 0) at_77_25 (by decide) ?_
  refine ev_put at_77_26 h0 (by simp [Mo]) rfl ?_
  rw [hh1]
  refine ev_go at_77_29 rfl ?_
  refine ev_get at_77_30 h01 rfl ?_
  refine ev_if_le at_77_33 (fun _ => ?_) (fun hc => absurd hc (by decide))
  refine ev_go at_77_37 rfl ?_
  refine ev_go at_77_38 rfl ?_
  refine ev_callS (as := [_, _]) at_77_39 (by decide) rfl rfl (by simp [mm_wt, Value.category]) rfl hE ?_
  refine ev_go at_77_42 rfl ?_
  refine ev_go at_77_44 rfl ?_
  refine ev_go at_77_45 rfl ?_
  refine ev_go at_77_46 rfl ?_
  refine ev_callV (as := [_]) at_77_47 rfl rfl (by simp [mm_wt, Value.category]) rfl h01 hP ?_
  refine ev_ifb_ne at_77_50 (fun _ => ?_) (fun hc => nomatch hc)
  refine ev_go at_77_57 rfl ?_
  refine ev_go at_77_58 rfl ?_
  refine ev_go at_77_59 rfl ?_
  refine ev_callV (as := [_, _]) at_77_61 rfl rfl (by simp [mm_wt, Value.category]) rfl h01 hL ?_
  refine ev_go at_77_64 rfl ?_
  refine ev_icmp_ge at_77_65 (fun hc => absurd hl (Int32.not_lt.mpr hc)) (fun _ => ?_)
  refine ev_ic (nI 3) at_77_68 (by decide) ?_
  refine ev_go at_77_69 rfl ?_
  refine ev_put at_77_73 h01 (by first | (simp; done) | (simp [Mo]; done)) (by first | rfl | exact fits_b _) ?_
  refine ev_ic (nI 0) at_77_76 (by decide) ?_
  refine ev_go at_77_77 rfl ?_
  refine ev_go at_77_79 rfl ?_
  refine ev_go at_77_81 rfl ?_
  refine ev_icmp_ge at_77_82 (fun hc => absurd hc (show ¬ n ≤ nI 0 by rw [hNN]; exact nI_ge (by omega) m2')) (fun _ => ?_)
  refine ev_go at_77_85 rfl ?_
  refine ev_get at_77_86 h02 rfl ?_
  refine ev_if_ne at_77_89 (fun _ => ?_) (fun hc => absurd hc (by decide))
  refine ev_end at_77_113 rfl ?_
  rfl
theorem cst_ph {k i : Nat} {e : Bool} {g : Sg} {q : List Nat} (hq : (g.at e).1 = q ++ [k * 100 + i]) : ((cst k e g).1.2.1 == (cst k e g).2.1.2.1) = (g.1.2.1 == g.2.1.2.1) := by
  rw [cst_eq hq]
  cases e <;> rfl
theorem e_carryLoop (d : Nat) {k N : Nat} (hk : K.ex k = true) (e : Bool) (hN : N < 100) : ∀ (r i : Nat) (h : mm_H) (m : Md) (w : Cs) (T : Nat), i + r = N → MAt K a h (nI 0) m → Rel K w m T → T + r < 2 ^ 30 → ((w.2.1 k).1.2.1 == (w.2.1 k).2.1.2.1) = true → r ≤ ((w.2.1 k).at e).1.length →
    ∃ h' m', mm_Ev z (mm_cal z (d + 2)) 77 (79, [.val (.ref a), .val (.int (nI k)), .val (.int (nI (eb k e))), .val (.int (nI N)), .val (.int (nI (eN e))), .val (.int (nI i))], [], h) (.returned none, h') ∧ MAt K a h' (nI 0) m' ∧ Rel K (setS w k (crry k e r (w.2.1 k))) m' (T + r) ∧ Off a (a + 12) h h'
  | 0, i, h, m, w, T, hi, hM, hR, hT, hph, hr => by
    refine ⟨h, m, ?_, hM, ?_, Off.rfl⟩
    refine ev_go at_77_79 rfl ?_
    refine ev_go at_77_81 rfl ?_
    refine ev_icmp_ge at_77_82 (fun _ => ?_) (fun hc => absurd (nI_le (by omega) (by omega)) hc)
    refine ev_end at_77_113 rfl ?_
    rfl
    show Rel K (setS w k (w.2.1 k)) m (T + 0)
    rw [setS_self]
    exact hR
  | r + 1, i, h, m, w, T, hi, hM, hR, hT, hph, hr => by
    have hK := hM.1
    have h15 := (Cf.no hK hk).1.1
    have ht := hK.2.2.2.1
    have hB := hR.mb (by omega)
    have h0 := hM.2.1
    have he2 := eN_lt e
    obtain ⟨q, y1, y2, y3⟩ := (hR.2.2.2.1 k hk).2.2.2.2.1 e
    have hne : q ≠ [] := by intro x; rw [y1, x] at hr; simp at hr
    obtain ⟨q0, i0, hq⟩ : ∃ q0 i0, q = q0 ++ [i0] := ⟨q.dropLast, q.getLast hne, (List.dropLast_concat_getLast hne).symm⟩
    subst hq
    have hi0 := ((y2 i0).mp (by simp)).1
    have hTp := d_topmost (z := z) (d + 1) hM hB h15 y2 y3
    rw [show (q0 ++ [i0]).getLast? = some i0 by simp] at hTp
    obtain ⟨h1, hG, m1, o1⟩ := d_goes (z := z) (d + 1) hM (k := 8 * k + i0) (v := eN (!e)) (by omega)
    have hR1 := hR.cst hk e y1 y2 y3 hph
    have hq2 : ((w.2.1 k).at e).1 = q0.map (k * 100 + ·) ++ [k * 100 + i0] := by rw [y1, List.map_append]; rfl
    have hat : (setS w k (cst k e (w.2.1 k))).2.1 k = cst k e (w.2.1 k) := upf_at _ _ _
    have a1 : ((cst k e (w.2.1 k)).at e).1 = q0.map (k * 100 + ·) := by rw [cst_eq hq2, mv_at'', Sg.at_with]
    obtain ⟨h', m', b1, b2, b3, b4⟩ := e_carryLoop d hk e hN r (i + 1) h1 _ _ (T + 1) (by omega) m1 hR1 (by omega) (by rw [hat, cst_ph hq2]; exact hph) (by rw [hat, a1]; rw [hq2] at hr; simp at hr ⊢; omega)
    rw [hat, setS_setS, show T + 1 + r = T + (r + 1) by omega] at b3
    have hs103 : nI 1 - nI (eN e) = nI (eN (!e)) := by cases e <;> decide
    refine ⟨h', m', ?_, b2, b3, o1.trans b4⟩
    refine ev_go at_77_79 rfl ?_
    refine ev_go at_77_81 rfl ?_
    refine ev_icmp_ge at_77_82 (fun hc => absurd hc (nI_ge (by omega) (by omega))) (fun _ => ?_)
    refine ev_go at_77_85 rfl ?_
    refine ev_get at_77_86 h0 rfl ?_
    refine ev_if_ne at_77_89 (fun hc => absurd hc (by decide)) (fun _ => ?_)
    refine ev_go at_77_92 rfl ?_
    refine ev_go at_77_93 rfl ?_
    refine ev_go at_77_94 rfl ?_
    refine ev_go at_77_95 rfl ?_
    refine ev_callV (as := [_, _]) at_77_97 rfl rfl (by simp [mm_wt, Value.category]) rfl h0 hTp ?_
    refine ev_top (show Value.int (oS k (some i0)) = Value.int (nI (8 * k + i0)) from rfl) ?_
    refine ev_ic (nI 1) at_77_100 (by decide) ?_
    refine ev_go at_77_101 rfl ?_
    refine ev_go at_77_103 rfl ?_
    refine ev_top (congrArg Value.int hs103) ?_
    refine ev_callV (as := [_, _]) at_77_104 rfl rfl (by simp [mm_wt, Value.category]) rfl h0 hG ?_
    refine ev_inc at_77_107 rfl ?_
    refine ev_go at_77_110 rfl ?_
    exact b1
theorem e_carry (d : Nat) (hM : MAt K a h c m) (hR : Rel K w m T) (hT : T + 8 < 2 ^ 30) {k N : Nat} (hk : K.ex k = true) (e : Bool) (hcn : cnB (nI N) = false) (hphw : ((w.2.1 k).1.2.1 == (w.2.1 k).2.1.2.1) = true) (hl : N ≤ ((w.2.1 k).at e).1.length) : ∃ h' m', mm_cal z (d + 3) 77 [.ref a, .int (nI k), .int (nI (eb k e)), .int (nI N)] h (.returned none, h') ∧ MAt K a h' (nI 0) m' ∧ Rel K (setS w k (crry k e N (w.2.1 k))) m' (T + 8) ∧ Off a (a + 12) h h' := by
  have hB := hR.mb (by omega)
  have ht8 := hM.1.2.2.2.1
  obtain ⟨a1, a2, a3, a4, a5, a6⟩ := hR.2.2.2.1 k hk
  have hall : ∀ i, i < K.t → m.pl (8 * k + i) < 2 := by
    rcases a6 with x | x
    · exact x.2
    · rw [hphw] at x; cases x.1
  obtain ⟨q, y1, y2, y3⟩ := a5 e
  have hnd := nd_of y3
  have hql : q.length ≤ K.t := nodup_le _ q hnd fun x hx => ((y2 x).mp hx).1
  have hN8 : N ≤ q.length := by rw [y1, List.length_map] at hl; exact hl
  have hph : true = true ↔ ∀ j, j < K.t → m.pl (8 * k + j) < 2 := ⟨fun _ => hall, fun _ => rfl⟩
  have hK := hM.1
  have h15 := (Cf.no hK hk).1.1
  have hA := d_isEnd (z := z) d hM (nI (eb k e)) (nI k)
  rw [edB_nI hK hk e] at hA
  obtain ⟨N', m1', m2', m3', hNN⟩ := cnB_f hcn
  have hr : nI N - nI N / nI 2 * nI 2 = 0 := by rw [hNN, pk_rem m2' (by omega) (by omega), m3']; rfl
  have hlt : ¬ nI N < nI 2 := by rw [hNN]; exact nI_nlt m1' m2'
  have h0 := hM.2.1
  obtain ⟨m1, o1⟩ := hM.setC (nI 0)
  generalize hh1 : mm_upd h a 2 (.int (nI 0)) = h1 at m1 o1
  have h01 := m1.2.1
  have hE := d_end (z := z) (h := h1) d hK hk e
  have hP := d_isInPhase (z := z) (d + 1) m1 hB h15 hph
  have hL := d_lying (z := z) (d + 1) m1 hB h15 y2 hnd
  obtain ⟨m2, o2⟩ := m1.setC (nI 0)
  generalize hh2 : mm_upd h1 a 2 (.int (nI 0)) = h2 at m2 o2
  obtain ⟨h', m', b1, b2, b3, b4⟩ := e_carryLoop (z := z) d hk e (N := N) (by omega) N 0 h2 m w T (by omega) m2 hR (by omega) hphw hl
  refine ⟨h', m', ?_, b2, b3.up (by omega), (o1.trans o2).trans b4⟩
  refine mm_cal_of ?_
  refine ev_go at_77_0 rfl ?_
  refine ev_go at_77_1 rfl ?_
  refine ev_go at_77_2 rfl ?_
  refine ev_go at_77_3 rfl ?_
  refine ev_callV (as := [_, _]) at_77_4 rfl rfl (by simp [mm_wt, Value.category]) rfl h0 hA ?_
  refine ev_ifb_eq at_77_7 (fun hc => nomatch hc) (fun _ => ?_)
  refine ev_go at_77_10 rfl ?_
  refine ev_ic (nI 2) at_77_11 (by decide) ?_
  refine ev_icmp_lt at_77_12 (fun hc => absurd hc hlt) (fun _ => ?_)
  refine ev_go at_77_15 rfl ?_
  refine ev_ic (nI 2) at_77_16 (by decide) ?_
  refine ev_irem at_77_17 (by decide) ?_
  refine ev_if_eq at_77_18 (fun _ => ?_) (fun hc => absurd hr hc)
  refine ev_ic (nI 0) at_77_25 (by decide) ?_
  refine ev_put at_77_26 h0 (by simp [Mo]) rfl ?_
  rw [hh1]
  refine ev_go at_77_29 rfl ?_
  refine ev_get at_77_30 h01 rfl ?_
  refine ev_if_le at_77_33 (fun _ => ?_) (fun hc => absurd hc (by decide))
  refine ev_go at_77_37 rfl ?_
  refine ev_go at_77_38 rfl ?_
  refine ev_callS (as := [_, _]) at_77_39 (by decide) rfl rfl (by simp [mm_wt, Value.category]) rfl hE ?_
  refine ev_go at_77_42 rfl ?_
  refine ev_go at_77_44 rfl ?_
  refine ev_go at_77_45 rfl ?_
  refine ev_go at_77_46 rfl ?_
  refine ev_callV (as := [_]) at_77_47 rfl rfl (by simp [mm_wt, Value.category]) rfl h01 hP ?_
  refine ev_ifb_ne at_77_50 (fun _ => ?_) (fun hc => nomatch hc)
  refine ev_go at_77_57 rfl ?_
  refine ev_go at_77_58 rfl ?_
  refine ev_go at_77_59 rfl ?_
  refine ev_callV (as := [_, _]) at_77_61 rfl rfl (by simp [mm_wt, Value.category]) rfl h01 hL ?_
  refine ev_go at_77_64 rfl ?_
  refine ev_icmp_ge at_77_65 (fun _ => ?_) (fun hc => absurd (nI_le hN8 (by omega)) hc)
  refine ev_ic (nI 0) at_77_72 (by decide) ?_
  refine ev_put at_77_73 h01 (by simp [Mo]) rfl ?_
  rw [hh2]
  refine ev_ic (nI 0) at_77_76 (by decide) ?_
  refine ev_go at_77_77 rfl ?_
  exact b1
theorem Rel0 (hK : K.ok) : Rel K (w0 K.t) m0 121 := by
  have ht := hK.2.2.2.1
  refine ⟨hK, ⟨fun k => ?_, fun k => ?_, fun k => Nat.zero_le _, Nat.le_refl _⟩, ⟨fun b _ => rfl, fun b hb => nomatch hb⟩, fun s hs => ?_, fun i hi => ⟨rfl, Or.inl ⟨rfl, rfl⟩, none, fun k hk => ?_, fun _ y => (nomatch y), rfl⟩⟩
  · show k % 2 < 28; omega
  · show (if k < 120 then k + 1 else 0) < 121
    split <;> omega
  · have h15 := (Cf.no hK hs).1.1
    refine ⟨rfl, fun e => ?_, fun e => ?_, fun i hi => ?_, fun e => ⟨(List.range K.t).filter fun j => decide (j % 2 = eN e), ?_, fun i => ?_, ?_⟩, Or.inl ⟨rfl, fun i hi => ?_⟩⟩
    · cases e <;> rfl
    · cases e <;> rfl
    · show (p0 K.t K.t)[i]? = some ((8 * s + i) % 2)
      unfold p0
      rw [List.getElem?_map, List.getElem?_range hi, Option.map_some, if_pos hi]
      congr 1; omega
    · cases e <;> rfl
    · show _ ↔ i < K.t ∧ (8 * s + i) % 2 = eN e
      simp only [List.mem_filter, List.mem_range, decide_eq_true_eq]
      rw [show (8 * s + i) % 2 = i % 2 by omega]
    · refine (List.pairwise_lt_range.filter _).imp_of_mem fun {x y} hx hy hxy => ?_
      have hx2 : x < K.t := by simpa using (List.mem_filter.mp hx).1
      have hy2 : y < K.t := by simpa using (List.mem_filter.mp hy).1
      show (if 8 * s + x < 120 then 8 * s + x + 1 else 0) < (if 8 * s + y < 120 then 8 * s + y + 1 else 0)
      rw [if_pos (by omega), if_pos (by omega)]
      omega
    · show (8 * s + i) % 2 < 2; omega
  · show k % 2 = 20 + i ↔ _
    exact ⟨fun x => by omega, fun x => nomatch x⟩
end R3
