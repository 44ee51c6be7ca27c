/-! THE REFERENCE's CONSTRUCTOR, whole -/
def m0 : Md := (121, fun _ => false, fun _ => false, fun _ => false, fun _ => 0, fun k => k % 2, fun k => if k < 120 then k + 1 else 0, fun _ => false, fun _ => 0, fun _ => none)
section D4
variable {z : mm_Z} {h h' : mm_H} {a : Nat} {K : Cf}
theorem d_init138 (d : Nat) {a1 a2 a3 : Int32} {v4 : Slot} (hv4 : v4 = .unset) (hK : K.ok) (hmo : K.mo = moF a3) (hG : MG a h (Ml a K.n K.t 1) (VV (fun _ => false) 0 1 0 0)) :
    ∃ h', mm_Ev z (mm_cal z d) 50 (138, [.val (.ref a), .val (.int a1), .val (.int a2), .val (.int a3), v4], [], h) (.returned none, h') ∧ MAt K a h' 0 m0 ∧ Off a (a + 12) h h' := by
  have n2 := hK.1
  have n6 := hK.2.1
  obtain ⟨g1, b1, o1, k1⟩ := d_loop1 (z := z) d (mo := moF a3) (a1 := a1) (a2 := a2) (a3 := a3) n2 n6 (K.n - 1) 0 h (by omega) hG
  obtain ⟨g2, b2, o2, k2⟩ := d_loop2 (z := z) d (a1 := a1) (a2 := a2) (a3 := a3) n2 n6 (K.n - 2) 1 g1 (by omega) (by omega) b1
  obtain ⟨g3, b3, o3, k3⟩ := d_loop3 (z := z) d (a1 := a1) (a2 := a2) (a3 := a3) 120 0 g2 (by omega) b2
  obtain ⟨g4, b4, o4, k4⟩ := d_loop4 (z := z) d (a1 := a1) (a2 := a2) (a3 := a3) 8 0 g3 (by omega) b3
  refine ⟨g4, ?_, ⟨hK, b4.1, (b4.congr (V' := Mv K m0) (fun q q1 q2 => r11 (P := fun q => ∀ j, j < (Mk q).2 → VV (moF a3) (K.n - 1) (K.n - 1) 120 8 q j = Mv K m0 q j) q1 q2 ?_ (fun _ _ => rfl) ?_ (fun _ _ => rfl) (fun _ _ => rfl) (fun _ _ => rfl) ?_ (fun _ _ => rfl) (fun _ _ => rfl) (fun _ _ => rfl) ?_)).2⟩, ((o1.trans o2).trans o3).trans o4⟩
  · subst hv4
    refine ev_ic (nI 0) at_50_138 (by decide) ?_
    refine ev_go at_50_139 rfl ?_
    refine k1 _ (fun v => ?_)
    refine ev_ic (nI 1) at_50_166 (by decide) ?_
    refine ev_go at_50_167 rfl ?_
    refine k2 _ (fun v => ?_)
    refine ev_ic (nI 0) at_50_225 (by decide) ?_
    refine ev_go at_50_226 rfl ?_
    refine k3 _ (fun v => ?_)
    refine ev_ic (nI 0) at_50_273 (by decide) ?_
    refine ev_go at_50_274 rfl ?_
    exact k4
  · intro j hj
    show Value.int (bI (decide (1 ≤ j) && decide (j < K.n - 1) && moF a3 j)) = Value.int (bI (K.ex (10 + j)))
    unfold Cf.ex
    rw [hmo, Nat.add_sub_cancel_left, decide_eq_false (by omega : ¬ 10 + j + 1 < K.n), Bool.false_or, show decide (11 ≤ 10 + j) = decide (1 ≤ j) from decide_eq_decide.mpr (by omega), show decide (10 + j + 1 < 10 + K.n) = decide (j < K.n - 1) from decide_eq_decide.mpr (by omega)]
  · intro j hj
    show Value.int (bI (decide (j < K.n - 1) || (decide (11 ≤ j) && decide (j < 10 + (K.n - 1)) && moF a3 (j - 10)))) = Value.int (bI (K.ex j))
    unfold Cf.ex
    rw [hmo, show decide (j + 1 < K.n) = decide (j < K.n - 1) from decide_eq_decide.mpr (by omega), show decide (j + 1 < 10 + K.n) = decide (j < 10 + (K.n - 1)) from decide_eq_decide.mpr (by omega)]
  · intro j hj
    change j < 120 at hj
    show Value.int (nI (if j < 120 then j % 2 else 0)) = Value.int (nI (j % 2))
    rw [if_pos hj]
  · intro j hj
    change j < 8 at hj
    show Value.int (if j < 8 then -1 else 0) = Value.int (-1)
    rw [if_pos hj]
theorem d_init117 (d : Nat) {a1 a2 a3 : Int32} {v4 : Slot} (hv4 : v4 = .unset) (hK : K.ok) (ht : K.t = tN a2) (hmo : K.mo = moF a3) (hG : MG a h (Ml a K.n 0 1) (VV (fun _ => false) 0 1 0 0)) :
    ∃ h', mm_Ev z (mm_cal z d) 50 (117, [.val (.ref a), .val (.int a1), .val (.int a2), .val (.int a3), v4], [], h) (.returned none, h') ∧ MAt K a h' 0 m0 ∧ Off a (a + 12) h h' := by
  obtain ⟨m1, o1⟩ := hG.fld 1 (.int (nI K.t))
  obtain ⟨h', k, r1, r2⟩ := d_init138 (z := z) d (a1 := a1) (a2 := a2) (a3 := a3) hv4 hK hmo m1
  have h0 := hG.1
  refine ⟨h', ?_, r1, o1.trans r2⟩
  subst hv4
  unfold tN at ht
  by_cases c1 : a2 < nI 4
  · rw [if_pos c1] at ht
    rw [ht] at k
    refine ev_go at_50_117 rfl ?_
    refine ev_go at_50_118 rfl ?_
    refine ev_ic (nI 4) at_50_119 (by decide) ?_
    refine ev_icmp_lt at_50_120 (fun _ => ?_) (fun hc => absurd c1 hc)
    refine ev_bi (nI 6) at_50_129 (by decide) ?_
    refine ev_go at_50_131 rfl ?_
    refine ev_put at_50_135 h0 (by simp [Ml]) rfl ?_
    exact k
  · rw [if_neg c1] at ht
    by_cases c2 : nI 8 < a2
    · rw [if_pos c2] at ht
      rw [ht] at k
      refine ev_go at_50_117 rfl ?_
      refine ev_go at_50_118 rfl ?_
      refine ev_ic (nI 4) at_50_119 (by decide) ?_
      refine ev_icmp_lt at_50_120 (fun hc => absurd hc c1) (fun _ => ?_)
      refine ev_go at_50_123 rfl ?_
      refine ev_bi (nI 8) at_50_124 (by decide) ?_
      refine ev_icmp_le at_50_126 (fun hc => absurd c2 (Int32.not_lt.mpr hc)) (fun _ => ?_)
      refine ev_bi (nI 6) at_50_129 (by decide) ?_
      refine ev_go at_50_131 rfl ?_
      refine ev_put at_50_135 h0 (by simp [Ml]) rfl ?_
      exact k
    · rw [if_neg c2] at ht
      have c0 : ¬ a2 < 0 := fun q => c1 (Int32.lt_trans q (by decide))
      obtain ⟨t, htt, he⟩ := nI_of c0
      rw [he, nI_clamp htt] at ht
      rw [ht, ← he] at k
      refine ev_go at_50_117 rfl ?_
      refine ev_go at_50_118 rfl ?_
      refine ev_ic (nI 4) at_50_119 (by decide) ?_
      refine ev_icmp_lt at_50_120 (fun hc => absurd hc c1) (fun _ => ?_)
      refine ev_go at_50_123 rfl ?_
      refine ev_bi (nI 8) at_50_124 (by decide) ?_
      refine ev_icmp_le at_50_126 (fun _ => ?_) (fun hc => absurd (Int32.not_lt.mp c2) hc)
      refine ev_go at_50_134 rfl ?_
      refine ev_put at_50_135 h0 (by simp [Ml]) rfl ?_
      exact k
theorem d_init (d : Nat) {a1 a2 a3 : Int32} (hK : K.ok) (hn : K.n = nN a1) (ht : K.t = tN a2) (hmo : K.mo = moF a3) (hl : h.length = a + 1) (h0 : h[a]? = some (4, mm_dv 4)) :
    ∃ h', mm_cal z (d + 1) 50 [.ref a, .int a1, .int a2, .int a3] h (.returned none, h') ∧ MAt K a h' 0 m0 ∧ h'.length = a + 12 ∧ mm_w h' = mm_w h + 366 ∧ ∀ k, k < a → h'[k]? = h[k]? := by
  change h[a]? = some (4, [.int 0, .int 0, .int 0, .int 0, .null, .null, .null, .null, .null, .null, .null, .null, .null, .null, .null]) at h0
  have e1 := mm_upd_at h0 3 (.int (nI 1))
  obtain ⟨g1, b1, l1, w1, o1, k1⟩ := d_arrays (z := z) d (a1 := a1) (a2 := a2) (a3 := a3) (h := mm_upd h a 3 (.int (nI 1))) (by rw [mm_upd_len, hl]) e1
  obtain ⟨m1, o2⟩ := b1.fld 0 (.int (nI K.n))
  obtain ⟨h', k, r1, r2⟩ := d_init117 (z := z) d (a1 := a1) (a2 := a2) (a3 := a3) (v4 := .unset) rfl hK ht hmo m1
  have h01 := b1.1
  refine ⟨h', ?_, r1, by rw [r2.1, o2.1, l1], by rw [r2.2.1, o2.2.1, w1, mm_w_upd], fun q hq => by rw [r2.2.2 _ (by omega), o2.2.2 _ (by omega), o1 q hq, mm_upd_ne (by omega)]⟩
  refine mm_cal_of ?_
  refine ev_go at_50_0 rfl ?_
  refine ev_go at_50_1 rfl ?_
  refine ev_go at_50_4 rfl ?_
  refine ev_ic (nI 1) at_50_5 (by decide) ?_
  refine ev_put at_50_6 h0 (by simp) rfl ?_
  refine k1 _ ?_
  unfold nN at hn
  by_cases c1 : a1 < nI 2
  · rw [if_pos c1] at hn
    rw [hn] at k
    refine ev_go at_50_97 rfl ?_
    refine ev_go at_50_98 rfl ?_
    refine ev_ic (nI 2) at_50_99 (by decide) ?_
    refine ev_icmp_lt at_50_100 (fun _ => ?_) (fun hc => absurd c1 hc)
    refine ev_ic (nI 4) at_50_109 (by decide) ?_
    refine ev_go at_50_110 rfl ?_
    refine ev_put at_50_114 h01 (by simp [Ml]) rfl ?_
    exact k
  · rw [if_neg c1] at hn
    by_cases c2 : nI 6 < a1
    · rw [if_pos c2] at hn
      rw [hn] at k
      refine ev_go at_50_97 rfl ?_
      refine ev_go at_50_98 rfl ?_
      refine ev_ic (nI 2) at_50_99 (by decide) ?_
      refine ev_icmp_lt at_50_100 (fun hc => absurd hc c1) (fun _ => ?_)
      refine ev_go at_50_103 rfl ?_
      refine ev_bi (nI 6) at_50_104 (by decide) ?_
      refine ev_icmp_le at_50_106 (fun hc => absurd c2 (Int32.not_lt.mpr hc)) (fun _ => ?_)
      refine ev_ic (nI 4) at_50_109 (by decide) ?_
      refine ev_go at_50_110 rfl ?_
      refine ev_put at_50_114 h01 (by simp [Ml]) rfl ?_
      exact k
    · rw [if_neg c2] at hn
      have c0 : ¬ a1 < 0 := fun q => c1 (Int32.lt_trans q (by decide))
      obtain ⟨t, htt, he⟩ := nI_of c0
      rw [he, nI_clamp htt] at hn
      rw [hn, ← he] at k
      refine ev_go at_50_97 rfl ?_
      refine ev_go at_50_98 rfl ?_
      refine ev_ic (nI 2) at_50_99 (by decide) ?_
      refine ev_icmp_lt at_50_100 (fun hc => absurd hc c1) (fun _ => ?_)
      refine ev_go at_50_103 rfl ?_
      refine ev_bi (nI 6) at_50_104 (by decide) ?_
      refine ev_icmp_le at_50_106 (fun _ => ?_) (fun hc => absurd (Int32.not_lt.mp c2) hc)
      refine ev_go at_50_113 rfl ?_
      refine ev_put at_50_114 h01 (by simp [Ml]) rfl ?_
      exact k
end D4
