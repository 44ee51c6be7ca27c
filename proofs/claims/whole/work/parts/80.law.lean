/-! THE LAW -/
section L3
variable {z : mm_Z} {h : mm_H} {K : Cf} {T N W : Nat}
def clZ (z : mm_Z) (k : Nat) : Int32 := if k < z.1 then z.2 k else nI 0
theorem c_cell (d : Nat) {k : Nat} (hz : z.1 < 10000) (hk : k < 100) : mm_cal z (d + 1) 85 [.retAddr 0, .int (nI k)] h (.returned (some (.int (clZ z k))), h) := by
  refine mm_cal_of ?_
  unfold clZ
  by_cases hkz : k < z.1
  · rw [if_pos hkz]
    refine ev_go at_85_0 rfl ?_
    refine ev_go at_85_1 rfl ?_
    refine ev_alenS at_85_2 ?_
    refine ev_icmp_ge at_85_3 (fun hc => absurd hc (nI_ge hkz (by omega))) (fun _ => ?_)
    refine ev_go at_85_6 rfl ?_
    refine ev_go at_85_7 rfl ?_
    refine ev_ialdS at_85_8 hkz (by omega) ?_
    refine ev_go at_85_9 rfl ?_
    refine ev_iret at_85_13 (by first | exact Or.inl rfl | exact Or.inr (Or.inl rfl) | exact Or.inr (Or.inr rfl) | exact Or.inr (bI_01 _)) ?_
    rfl
  · rw [if_neg hkz]
    refine ev_go at_85_0 rfl ?_
    refine ev_go at_85_1 rfl ?_
    refine ev_alenS at_85_2 ?_
    refine ev_icmp_ge at_85_3 (fun _ => ?_) (fun hc => absurd (nI_le (by omega) (by omega)) hc)
    refine ev_ic (nI 0) at_85_12 (by decide) ?_
    refine ev_iret at_85_13 (by first | exact Or.inl rfl | exact Or.inr (Or.inl rfl) | exact Or.inr (Or.inr rfl) | exact Or.inr (bI_01 _)) ?_
    rfl
theorem law_case (hL : LW K h T N W) (hT : T + 8 < 2 ^ 30) {i : Nat} (hi : i + 4 ≤ z.1) (hz : z.1 < 10000) {s5 s6 : Slot} (hs5 : mm_slot1 s5 = true) (hs6 : mm_slot1 s6 = true) : CS z K h T N W i s5 s6 62 := by
  obtain ⟨j, hj, hx⟩ := pk_andE (z.2 i) (m := nI 31) 5 (by decide)
  have pre : ∀ t, (∀ R, mm_Ev z (mm_cal z 6) 104 (t, lls K i s5 s6, [], h) R → mm_Ev z (mm_cal z 6) 104 (69, lls K i s5 s6, [.int (nI j)], h) R) → CS z K h T N W i s5 s6 t → CS z K h T N W i s5 s6 62 := fun t ht hC => by
    obtain ⟨h2, s5', s6', r1, r2, r3, r4⟩ := hC
    refine ⟨h2, s5', s6', r1, r2, r3, fun R k => ?_⟩
    refine ev_go at_104_62 rfl ?_
    refine ev_go at_104_63 rfl ?_
    refine ev_ialdS at_104_65 (by omega) (by omega) ?_
    refine ev_bi (nI 31) at_104_66 (by decide) ?_
    refine ev_go at_104_68 rfl ?_
    refine ev_top (congrArg Value.int hx) ?_
    exact ht R (r4 R k)
  by_cases hj18 : 17 < j
  · refine pre 1267 (fun R k => ev_tsw at_104_69 ?_ k) ?_
    · unfold mm_tsw
      dsimp only
      rw [nI_toInt (by omega), if_pos (Or.inr (by omega))]
      rfl
    · obtain ⟨w, m, c, v, b1, b2, b3, b4, b5, b6⟩ := hL
      exact ⟨h, s5, s6, ⟨w, m, c, v, b1, b2, b3.up (by omega), b4, by omega, by omega⟩, hs5, hs6, fun R k => k⟩
  · rcases (by omega : j = 0 ∨ j = 1 ∨ j = 2 ∨ j = 3 ∨ j = 4 ∨ j = 5 ∨ j = 6 ∨ j = 7 ∨ j = 8 ∨ j = 9 ∨ j = 10 ∨ j = 11 ∨ j = 12 ∨ j = 13 ∨ j = 14 ∨ j = 15 ∨ j = 16 ∨ j = 17) with e | e | e | e | e | e | e | e | e | e | e | e | e | e | e | e | e | e
    · subst e
      exact pre 156 (fun R k => ev_tsw at_104_69 rfl k) (cs_plunge hL hT hi hz hs5 hs6)
    · subst e
      exact pre 232 (fun R k => ev_tsw at_104_69 rfl k) (cs_wire hL hT hi hz hs5 hs6)
    · subst e
      exact pre 296 (fun R k => ev_tsw at_104_69 rfl k) (cs_take hL hT hi hz hs5 hs6)
    · subst e
      exact pre 364 (fun R k => ev_tsw at_104_69 rfl k) (cs_give hL hT hi hz hs5 hs6)
    · subst e
      exact pre 424 (fun R k => ev_tsw at_104_69 rfl k) (cs_train hL hT hi hz hs5 hs6)
    · subst e
      exact pre 472 (fun R k => ev_tsw at_104_69 rfl k) (cs_hand hL hT hi hz hs5 hs6)
    · subst e
      exact pre 520 (fun R k => ev_tsw at_104_69 rfl k) (cs_back hL hT hi hz hs5 hs6)
    · subst e
      exact pre 576 (fun R k => ev_tsw at_104_69 rfl k) (cs_enter hL hT hi hz hs5 hs6)
    · subst e
      exact pre 660 (fun R k => ev_tsw at_104_69 rfl k) (cs_arrive hL hT hi hz hs5 hs6)
    · subst e
      exact pre 716 (fun R k => ev_tsw at_104_69 rfl k) (cs_switchOut hL hT hi hz hs5 hs6)
    · subst e
      exact pre 772 (fun R k => ev_tsw at_104_69 rfl k) (cs_switchIn hL hT hi hz hs5 hs6)
    · subst e
      exact pre 828 (fun R k => ev_tsw at_104_69 rfl k) (cs_carry hL hT hi hz hs5 hs6)
    · subst e
      exact pre 888 (fun R k => ev_tsw at_104_69 rfl k) (cs_phase hL hT hi hz hs5 hs6)
    · subst e
      exact pre 956 (fun R k => ev_tsw at_104_69 rfl k) (cs_slide hL hT hi hz hs5 hs6)
    · subst e
      exact pre 1024 (fun R k => ev_tsw at_104_69 rfl k) (cs_where hL hT hi hz hs5 hs6)
    · subst e
      exact pre 1080 (fun R k => ev_tsw at_104_69 rfl k) (cs_place hL hT hi hz hs5 hs6)
    · subst e
      exact pre 1136 (fun R k => ev_tsw at_104_69 rfl k) (cs_spend hL hT hi hz hs5 hs6)
    · subst e
      exact pre 1204 (fun R k => ev_tsw at_104_69 rfl k) (cs_out hL hT hi hz hs5 hs6)
theorem law_loop (hz : z.1 < 10000) : ∀ (r i : Nat) (h : mm_H) (T N W : Nat) (s5 s6 : Slot), z.1 ≤ i + 4 * r + 3 → i < 20000 → LW K h T N W → T + 8 * (r + 1) < 2 ^ 30 → mm_slot1 s5 = true → mm_slot1 s6 = true →
    ∃ h', mm_Ev z (mm_cal z 6) 104 (53, lls K i s5 s6, [], h) (.returned (some (.int 1)), h') ∧ h'.length ≤ N + r ∧ mm_w h' ≤ W + 6 * r := by
  have exit : ∀ (i : Nat) (h : mm_H) (s5 s6 : Slot), i < 20000 → ¬ i + 4 ≤ z.1 → mm_Ev z (mm_cal z 6) 104 (53, lls K i s5 s6, [], h) (.returned (some (.int 1)), h) := fun i h s5 s6 hi20 hi => by
    have hg : nI z.1 - nI 4 < nI i := by
      by_cases h4 : 4 ≤ z.1
      · rw [pk_sub h4]
        exact nI_lt (by omega) (by omega)
      · exact Int32.lt_of_lt_of_le (pk_sneg (by omega) (by omega)) (nI_pos' (by omega))
    refine ev_go at_104_53 rfl ?_
    refine ev_go at_104_55 rfl ?_
    refine ev_alenS at_104_56 ?_
    refine ev_ic (nI 4) at_104_57 (by decide) ?_
    refine ev_go at_104_58 rfl ?_
    refine ev_icmp_gt at_104_59 (fun _ => ?_) (fun hc => absurd hg hc)
    refine ev_ic (nI 1) at_104_1273 (by decide) ?_
    refine ev_iret at_104_1274 (Or.inr (Or.inr rfl)) ?_
    rfl
  intro r
  induction r with
  | zero =>
    intro i h T N W s5 s6 h1 h2 hL hT hs5 hs6
    obtain ⟨w, m, c, v, b1, b2, b3, b4, b5, b6⟩ := hL
    exact ⟨h, exit i h s5 s6 h2 (by omega), by omega, by omega⟩
  | succ r ih =>
    intro i h T N W s5 s6 h1 h2 hL hT hs5 hs6
    by_cases hi : i + 4 ≤ z.1
    · obtain ⟨h3, s5', s6', r1, r2, r3, r4⟩ := law_case (z := z) hL (by omega) hi hz hs5 hs6
      obtain ⟨h', k1, k2, k3⟩ := ih (i + 4) h3 (T + 8) (N + 1) (W + 6) s5' s6' (by omega) (by omega) r1 (by omega) r2 r3
      refine ⟨h', ?_, by omega, by omega⟩
      have hg : ¬ nI z.1 - nI 4 < nI i := by
        rw [pk_sub (by omega)]
        exact nI_nlt (by omega) (by omega)
      refine ev_go at_104_53 rfl ?_
      refine ev_go at_104_55 rfl ?_
      refine ev_alenS at_104_56 ?_
      refine ev_ic (nI 4) at_104_57 (by decide) ?_
      refine ev_go at_104_58 rfl ?_
      refine ev_icmp_gt at_104_59 (fun hc => absurd hc hg) (fun _ => ?_)
      refine r4 _ ?_
      refine ev_inc4 at_104_1267 rfl ?_
      refine ev_go at_104_1270 rfl ?_
      exact k1
    · obtain ⟨w, m, c, v, b1, b2, b3, b4, b5, b6⟩ := hL
      exact ⟨h, exit i h s5 s6 h2 hi, by omega, by omega⟩
end L3
theorem mm_law (L : Nat) (xs : Nat → Int32) (hL : L ≤ 2051) : ∃ h' : mm_H, mm_cal (L, xs) 7 104 [.retAddr 0] [] (.returned (some (.int 1)), h') ∧ h'.length ≤ 655647 ∧ mm_w h' ≤ 7129130 := by
  have hz : (L, xs).1 < 10000 := by show L < 10000; omega
  generalize hzz : (L, xs) = z at hz
  have hzL : z.1 = L := by rw [← hzz]
  obtain ⟨h1, K, c1, hW, k1, k2, k3, k4, k5, k6⟩ := c_init (z := z) 0 (h := [(0, mm_dv 0)]) (clZ z 0) (clZ z 1) (clZ z 2) rfl rfl rfl
  have l1 : (h1 ++ [(4, mm_dv 4)]).length = K.tb + 9 + 1 := by simp [k4]
  obtain ⟨h2, c2, hM, l2, w2, e2⟩ := d_init (z := z) 5 (a1 := clZ z 0) (a2 := clZ z 1) (a3 := clZ z 2) hW.1 k1 k2 k3 l1 (app_end k4 _)
  have hW2 : CW K h2 (w0 K.t) := by
    have hx : CW K (h1 ++ [(4, mm_dv 4)]) (w0 K.t) := by rw [k2]; exact hW.app _
    have o : ∀ q, q < K.tb + 9 → h2[q]? = (h1 ++ [(4, mm_dv 4)])[q]? := e2
    obtain ⟨hK, h0, a1, a2, a3, a4, a5⟩ := hx
    have e0 : K.ex 0 = true := by unfold Cf.ex; rw [decide_eq_true (by have := hK.1; omega)]; rfl
    obtain ⟨b1, b2⟩ := hK.2.2.2.2.1 0 e0
    refine ⟨hK, by rw [o _ (by omega)]; exact h0, by rw [o _ (by omega)]; exact a1, by rw [o _ (by omega)]; exact a2, by rw [o _ (by omega)]; exact a3, fun s hs => ?_, fun i hi => ?_⟩
    · have := hK.2.2.2.2.1 s hs
      exact (a4 s hs).same (b := K.tb + 9) o (by omega)
    · show h2[_]? = _
      rw [o _ (by omega)]; exact a5 i hi
  have hl2 : h2.length = K.tb + 21 := by rw [l2]
  have hLW : LW K (h2 ++ [(12, List.replicate 1 (mm_zero 12))]) 121 100 1000 := by
    refine ⟨w0 K.t, m0, 0, 0, hW2.app _, hM.app _, Rel0 hW.1, app_end hl2 _, ?_, ?_⟩
    · simp [hl2]; omega
    · rw [mm_w_push, w2, mm_w_push]
      show mm_w h1 + 15 + 366 + 1 ≤ 1000
      omega
  obtain ⟨h', r1, r2, r3⟩ := law_loop (z := z) (K := K) hz 512 3 _ 121 100 1000 .unset .unset (by omega) (by omega) hLW (by omega) rfl rfl
  refine ⟨h', ?_, by omega, by omega⟩
  have q0 := c_cell (z := z) (h := [(0, mm_dv 0)]) 5 (k := 0) hz (by omega)
  have q1 := c_cell (z := z) (h := [(0, mm_dv 0)]) 5 (k := 1) hz (by omega)
  have q2 := c_cell (z := z) (h := [(0, mm_dv 0)]) 5 (k := 2) hz (by omega)
  have p0 := c_cell (z := z) (h := h1 ++ [(4, mm_dv 4)]) 5 (k := 0) hz (by omega)
  have p1 := c_cell (z := z) (h := h1 ++ [(4, mm_dv 4)]) 5 (k := 1) hz (by omega)
  have p2 := c_cell (z := z) (h := h1 ++ [(4, mm_dv 4)]) 5 (k := 2) hz (by omega)
  refine mm_cal_of (d := 6) ?_
  refine ev_newL (a := 0) rfl at_104_0 (by decide) ?_
  refine ev_go at_104_3 rfl ?_
  refine ev_go at_104_4 rfl ?_
  refine ev_ic (nI 0) at_104_5 (by decide) ?_
  refine ev_callS (as := [_, _]) at_104_6 (by decide) rfl rfl (by simp [mm_wt, Value.category]) rfl q0 ?_
  refine ev_go at_104_9 rfl ?_
  refine ev_ic (nI 1) at_104_10 (by decide) ?_
  refine ev_callS (as := [_, _]) at_104_11 (by decide) rfl rfl (by simp [mm_wt, Value.category]) rfl q1 ?_
  refine ev_go at_104_14 rfl ?_
  refine ev_ic (nI 2) at_104_15 (by decide) ?_
  refine ev_callS (as := [_, _]) at_104_16 (by decide) rfl rfl (by simp [mm_wt, Value.category]) rfl q2 ?_
  refine ev_callI (as := [_, _, _]) at_104_19 (by decide) rfl rfl (by simp [mm_wt, Value.category]) rfl c1 ?_
  refine ev_go at_104_22 rfl ?_
  refine ev_newL k4 at_104_23 (by decide) ?_
  refine ev_go at_104_26 rfl ?_
  refine ev_go at_104_27 rfl ?_
  refine ev_ic (nI 0) at_104_28 (by decide) ?_
  refine ev_callS (as := [_, _]) at_104_29 (by decide) rfl rfl (by simp [mm_wt, Value.category]) rfl p0 ?_
  refine ev_go at_104_32 rfl ?_
  refine ev_ic (nI 1) at_104_33 (by decide) ?_
  refine ev_callS (as := [_, _]) at_104_34 (by decide) rfl rfl (by simp [mm_wt, Value.category]) rfl p1 ?_
  refine ev_go at_104_37 rfl ?_
  refine ev_ic (nI 2) at_104_38 (by decide) ?_
  refine ev_callS (as := [_, _]) at_104_39 (by decide) rfl rfl (by simp [mm_wt, Value.category]) rfl p2 ?_
  refine ev_callI (as := [_, _, _]) at_104_42 (by decide) rfl rfl (by simp [mm_wt, Value.category]) rfl c2 ?_
  refine ev_go at_104_45 rfl ?_
  refine ev_ic (nI 1) at_104_46 (by decide) ?_
  refine ev_newaL hl2 (Or.inl ⟨_, rfl⟩) at_104_47 (by omega) ?_
  refine ev_go at_104_49 rfl ?_
  refine ev_ic (nI 3) at_104_50 (by decide) ?_
  refine ev_go at_104_51 rfl ?_
  exact r1
