/-! THE CLASS's CONSTRUCTORS -/
def pl0 (s : Nat) (e : Bool) (i : Nat) : List Nat := ((List.range i).filter fun j => decide (j % 2 = eN e)).map fun j => s * 100 + j
def p0 (t i : Nat) : List Nat := (List.range t).map fun j => if j < i then j % 2 else 0
def sec0 (s t i : Nat) : Sg := ((pl0 s false i, false, false), (pl0 s true i, false, false), p0 t i, true)
theorem p0_z (t : Nat) : nums (p0 t 0) = List.replicate t (mm_zero 10) := by
  unfold nums p0
  rw [List.map_map, List.eq_replicate_iff]
  refine ⟨by simp, fun b hb => ?_⟩
  simp only [List.mem_map] at hb
  obtain ⟨a, -, rfl⟩ := hb
  rfl
theorem p0_len (t i : Nat) : (p0 t i).length = t := by unfold p0; simp
theorem p0_set {t i : Nat} : (p0 t i).set i (i % 2) = p0 t (i + 1) := by
  apply List.ext_getElem?
  intro j
  unfold p0
  by_cases hj : j < t
  · by_cases hij : i = j
    · subst hij
      rw [List.getElem?_set_self (by simpa using hj)]
      simp [hj]
    · rw [List.getElem?_set_ne hij]
      simp only [List.getElem?_map, List.getElem?_range hj, Option.map_some]
      congr 1
      by_cases q : j < i
      · rw [if_pos q, if_pos (by omega)]
      · rw [if_neg q, if_neg (by omega)]
  · rw [List.getElem?_eq_none (by simpa using Nat.not_lt.mp hj), List.getElem?_eq_none (by simpa using Nat.not_lt.mp hj)]
theorem pl0_len (s : Nat) (e : Bool) (i : Nat) : (pl0 s e i).length ≤ i := by
  unfold pl0
  rw [List.length_map]
  exact Nat.le_trans (List.length_filter_le _ _) (by simp)
theorem pl0_y {s i : Nat} {e : Bool} (h : i % 2 = eN e) : pl0 s e (i + 1) = pl0 s e i ++ [s * 100 + i] := by
  unfold pl0
  rw [List.range_succ, List.filter_append, List.map_append]
  simp [h]
theorem pl0_n {s i : Nat} {e : Bool} (h : ¬ i % 2 = eN e) : pl0 s e (i + 1) = pl0 s e i := by
  unfold pl0
  rw [List.range_succ, List.filter_append, List.map_append]
  simp [h]
theorem sec0_step {s t i : Nat} {e : Bool} (h : i % 2 = eN e) : (((sec0 s t i).with e (((sec0 s t i).at e).1 ++ [s * 100 + i], ((sec0 s t i).at e).2)).1, ((sec0 s t i).with e (((sec0 s t i).at e).1 ++ [s * 100 + i], ((sec0 s t i).at e).2)).2.1, (sec0 s t i).2.2.1.set i (eN e), (sec0 s t i).2.2.2) = sec0 s t (i + 1) := by
  cases e
  · have h1 : ¬ i % 2 = eN true := by rw [h]; decide
    show ((pl0 s false i ++ [s * 100 + i], false, false), (pl0 s true i, false, false), (p0 t i).set i (eN false), true) = _
    unfold sec0
    rw [pl0_y h, pl0_n h1, ← h, p0_set]
  · have h1 : ¬ i % 2 = eN false := by rw [h]; decide
    show ((pl0 s false i, false, false), (pl0 s true i ++ [s * 100 + i], false, false), (p0 t i).set i (eN true), true) = _
    unfold sec0
    rw [pl0_y h, pl0_n h1, ← h, p0_set]
section C8
variable {z : mm_Z} {h h' : mm_H}
/-- cells made behind the first a -/
def Gr (a n k : Nat) (h h' : mm_H) : Prop := h'.length = h.length + n ∧ mm_w h' = mm_w h + k ∧ ∀ q, q < a → h'[q]? = h[q]?
theorem c_instInit (d : Nat) {a t : Nat} (hl : h.length = a + 1) (hq : h[a]? = some (2, mm_dv 2)) (ht : t ≤ 8) : ∃ h', mm_cal z (d + 1) 45 [.ref a, .int (nI t)] h (.returned none, h') ∧ InstAt h' a t [] false false ∧ Gr a 1 t h h' := by
  have e1 : (h ++ [(10, List.replicate t (mm_zero 10))])[a]? = some (2, mm_dv 2) := app_at hq _
  refine ⟨mm_upd (h ++ [(10, List.replicate t (mm_zero 10))]) a 0 (.ref (a + 1)), ?_, ⟨?_, by simp, List.replicate t (mm_zero 10), ?_, by simp, fun i x hi => by simp at hi⟩, ?_, ?_, fun q hq => ?_⟩
  · refine mm_cal_of ?_
    refine ev_go at_45_0 rfl ?_
    refine ev_go at_45_1 rfl ?_
    refine ev_go at_45_4 rfl ?_
    refine ev_go at_45_5 rfl ?_
    refine ev_newaL hl (Or.inl ⟨_, rfl⟩) at_45_6 (by omega) ?_
    refine ev_put at_45_8 e1 (by decide) rfl ?_
    refine ev_end at_45_11 rfl ?_
    rfl
  · rw [mm_upd_at e1]; rfl
  · rw [mm_upd_ne (by omega)]; exact app_end hl _
  · rw [mm_upd_len]; simp
  · rw [mm_w_upd, mm_w_push]; simp
  · rw [mm_upd_ne (by omega)]; exact app_ne (by omega) _
theorem c_secLoop (d : Nat) {a s t : Nat} (hn : SecNo s t) : ∀ (r i : Nat) (h : mm_H), i + r = t → SecAt h a s t (sec0 s t i) → ∃ h', mm_Ev z (mm_cal z (d + 4)) 34 (61, [.val (.ref a), .val (.int (nI s)), .val (.int (nI (lo s))), .val (.int (nI (up s))), .val (.int (nI t)), .val (.int (nI i))], [], h) (.returned none, h') ∧ SecAt h' a s t (sec0 s t t) ∧ Off a (a + 6) h h'
  | 0, i, h, hi, hS => by
    have h8 := hn.2.2
    have hit : i = t := by omega
    refine ⟨h, ?_, by rw [← hit]; rw [hit] at hS; rw [hit]; exact hS, Off.rfl⟩
    refine ev_go at_34_61 rfl ?_
    refine ev_go at_34_63 rfl ?_
    refine ev_icmp_ge at_34_65 (fun _ => ?_) (fun hc => absurd (nI_le (by omega) (by omega)) hc)
    refine ev_end at_34_97 rfl ?_
    rfl
  | r + 1, i, h, hi, hS => by
    have h8 := hn.2.2
    have h15 := hn.1
    have q1 := hS.1
    have hl := pl0_len s
    by_cases h2 : i % 2 = 0
    · have he : i % 2 = eN false := by exact h2
      obtain ⟨h1, hE, hS1, o1⟩ := c_layIn (z := z) d hS hn false i (by omega) (by have := hl false i; show (pl0 s false i).length < t; omega)
      rw [sec0_step he] at hS1
      obtain ⟨h2', hR, hS2, o2⟩ := c_secLoop d hn r (i + 1) h1 (by omega) hS1
      refine ⟨h2', ?_, hS2, o1.trans o2⟩
      refine ev_go at_34_61 rfl ?_
      refine ev_go at_34_63 rfl ?_
      refine ev_icmp_ge at_34_65 (fun hc => absurd hc (nI_ge (by omega) (by omega))) (fun _ => ?_)
      refine ev_go at_34_68 rfl ?_
      refine ev_go at_34_69 rfl ?_
      refine ev_ic (nI 2) at_34_71 (by decide) ?_
      refine ev_irem at_34_72 (by decide) ?_
      refine ev_top (congrArg Value.int (show nI i - nI i / nI 2 * nI 2 = nI 0 by rw [pk_rem (by omega) (by omega) (by omega), he]; rfl)) ?_
      refine ev_if_ne at_34_73 (fun hc => absurd rfl hc) (fun _ => ?_)
      refine ev_go at_34_76 rfl ?_
      refine ev_go at_34_77 rfl ?_
      refine ev_go at_34_81 rfl ?_
      refine ev_bi (nI 100) at_34_82 (by decide) ?_
      refine ev_go at_34_84 rfl ?_
      first | refine ev_top (congrArg Value.int (pk_mul _ _)) ?_ | skip
      refine ev_go at_34_85 rfl ?_
      refine ev_go at_34_87 rfl ?_
      first | refine ev_top (congrArg Value.int (nI_add _ _)) ?_ | skip
      refine ev_callV (as := [_, _]) at_34_88 rfl rfl (by simp [mm_wt, Value.category]) rfl q1 hE ?_
      refine ev_inc at_34_91 rfl ?_
      refine ev_go at_34_94 rfl ?_
      exact hR
    
    · have he : i % 2 = eN true := by show i % 2 = 1; omega
      obtain ⟨h1, hE, hS1, o1⟩ := c_layIn (z := z) d hS hn true i (by omega) (by have := hl true i; show (pl0 s true i).length < t; omega)
      rw [sec0_step he] at hS1
      obtain ⟨h2', hR, hS2, o2⟩ := c_secLoop d hn r (i + 1) h1 (by omega) hS1
      refine ⟨h2', ?_, hS2, o1.trans o2⟩
      refine ev_go at_34_61 rfl ?_
      refine ev_go at_34_63 rfl ?_
      refine ev_icmp_ge at_34_65 (fun hc => absurd hc (nI_ge (by omega) (by omega))) (fun _ => ?_)
      refine ev_go at_34_68 rfl ?_
      refine ev_go at_34_69 rfl ?_
      refine ev_ic (nI 2) at_34_71 (by decide) ?_
      refine ev_irem at_34_72 (by decide) ?_
      refine ev_top (congrArg Value.int (show nI i - nI i / nI 2 * nI 2 = nI 1 by rw [pk_rem (by omega) (by omega) (by omega), he]; rfl)) ?_
      refine ev_if_ne at_34_73 (fun _ => ?_) (fun hc => absurd hc (by decide))
      refine ev_go at_34_80 rfl ?_
      refine ev_go at_34_81 rfl ?_
      refine ev_bi (nI 100) at_34_82 (by decide) ?_
      refine ev_go at_34_84 rfl ?_
      first | refine ev_top (congrArg Value.int (pk_mul _ _)) ?_ | skip
      refine ev_go at_34_85 rfl ?_
      refine ev_go at_34_87 rfl ?_
      first | refine ev_top (congrArg Value.int (nI_add _ _)) ?_ | skip
      refine ev_callV (as := [_, _]) at_34_88 rfl rfl (by simp [mm_wt, Value.category]) rfl q1 hE ?_
      refine ev_inc at_34_91 rfl ?_
      refine ev_go at_34_94 rfl ?_
      exact hR
theorem c_secInit (d : Nat) {a s t : Nat} (hn : SecNo s t) (hl : h.length = a + 1) (hq : h[a]? = some (1, mm_dv 1)) : ∃ h', mm_cal z (d + 5) 34 [.ref a, .int (nI s), .int (nI (lo s)), .int (nI (up s)), .int (nI t)] h (.returned none, h') ∧ SecAt h' a s t (sec0 s t t) ∧ Gr a 5 (8 + t + t + t) h h' := by
  have h8 := hn.2.2
  change h[a]? = some (1, [.int 0, .int 0, .int 0, .null, .null, .null, .int 0]) at hq
  have e1 := mm_upd_at hq 0 (.int (nI s))
  have e2 := mm_upd_at e1 1 (.int (nI (lo s)))
  have e3 := mm_upd_at e2 2 (.int (nI (up s)))
  generalize hA : mm_upd (mm_upd (mm_upd h a 0 (.int (nI s))) a 1 (.int (nI (lo s)))) a 2 (.int (nI (up s))) = hA' at e3
  have lA : hA'.length = a + 1 := by rw [← hA, mm_upd_len, mm_upd_len, mm_upd_len, hl]
  have wA : mm_w hA' = mm_w h := by rw [← hA, mm_w_upd, mm_w_upd, mm_w_upd]
  have nA : ∀ q, q < a → hA'[q]? = h[q]? := fun q hq => by rw [← hA, mm_upd_ne (by omega), mm_upd_ne (by omega), mm_upd_ne (by omega)]
  have lB : (hA' ++ [(2, mm_dv 2)]).length = a + 1 + 1 := by simp [lA]
  obtain ⟨hB, cB, iB, gB1, gB2, gB3⟩ := c_instInit (z := z) (d + 3) lB (app_end lA _) h8
  have e4 : hB[a]? = some (1, [.int (nI s), .int (nI (lo s)), .int (nI (up s)), .null, .null, .null, .int 0]) := by rw [gB3 _ (by omega)]; exact app_at e3 _
  have e5 := mm_upd_at e4 3 (.ref (a + 1))
  generalize hC : mm_upd hB a 3 (.ref (a + 1)) = hC' at e5
  have oC : Off a (a + 1) hB hC' := by rw [← hC]; exact Off.upd (Nat.le_refl _) (by omega)
  have lC : hC'.length = a + 3 := by rw [oC.1, gB1, lB]
  have lD : (hC' ++ [(2, mm_dv 2)]).length = a + 3 + 1 := by simp [lC]
  obtain ⟨hD, cD, iD, gD1, gD2, gD3⟩ := c_instInit (z := z) (d + 3) lD (app_end lC _) h8
  have e6 : hD[a]? = some (1, [.int (nI s), .int (nI (lo s)), .int (nI (up s)), .ref (a + 1), .null, .null, .int 0]) := by rw [gD3 _ (by omega)]; exact app_at e5 _
  have e7 := mm_upd_at e6 4 (.ref (a + 3))
  generalize hE : mm_upd hD a 4 (.ref (a + 3)) = hE' at e7
  have oE : Off a (a + 1) hD hE' := by rw [← hE]; exact Off.upd (Nat.le_refl _) (by omega)
  have lE : hE'.length = a + 5 := by rw [oE.1, gD1, lD]
  have e8 := app_at e7 [(10, List.replicate t (mm_zero 10))]
  have e9 := mm_upd_at e8 5 (.ref (a + 5))
  have e10 := mm_upd_at e9 6 (.int (nI 1))
  generalize hF : mm_upd (mm_upd (hE' ++ [(10, List.replicate t (mm_zero 10))]) a 5 (.ref (a + 5))) a 6 (.int (nI 1)) = hF' at e10
  have oF : Off a (a + 1) (hE' ++ [(10, List.replicate t (mm_zero 10))]) hF' := by rw [← hF]; exact (Off.upd (Nat.le_refl _) (by omega)).trans (Off.upd (Nat.le_refl _) (by omega))
  have nF : ∀ q, a < q → q < a + 5 → hF'[q]? = hD[q]? := fun q h1 h2 => by rw [oF.2.2 _ (by omega), app_ne (by omega), oE.2.2 _ (by omega)]
  have hS : SecAt hF' a s t (sec0 s t 0) := by
    obtain ⟨b1, b2, arr, b3, b4⟩ := iB
    obtain ⟨d1, d2, arr', d3, d4⟩ := iD
    refine ⟨e10, ⟨?_, b2, arr, ?_, b4⟩, ⟨?_, d2, arr', ?_, d4⟩, ?_, p0_len _ _⟩
    · rw [nF _ (by omega) (by omega), gD3 _ (by omega), app_ne (by omega), oC.2.2 _ (by omega)]; exact b1
    · rw [nF _ (by omega) (by omega), gD3 _ (by omega), app_ne (by omega), oC.2.2 _ (by omega)]; exact b3
    · rw [nF _ (by omega) (by omega)]; exact d1
    · rw [nF _ (by omega) (by omega)]; exact d3
    · rw [oF.2.2 _ (by omega), app_end lE]
      show _ = some (10, nums (p0 t 0))
      rw [p0_z]
  obtain ⟨hG, hR, hS2, oG⟩ := c_secLoop (z := z) d hn t 0 hF' (by omega) hS
  refine ⟨hG, ?_, hS2, ?_, ?_, fun q hq => ?_⟩
  · refine mm_cal_of ?_
    refine ev_go at_34_0 rfl ?_
    refine ev_go at_34_1 rfl ?_
    refine ev_go at_34_4 rfl ?_
    refine ev_go at_34_5 rfl ?_
    refine ev_put at_34_6 hq (by simp) (by first | rfl | exact fits_b _) ?_
    refine ev_go at_34_9 rfl ?_
    refine ev_go at_34_10 rfl ?_
    refine ev_put at_34_11 e1 (by simp) (by first | rfl | exact fits_b _) ?_
    refine ev_go at_34_14 rfl ?_
    refine ev_go at_34_15 rfl ?_
    refine ev_put at_34_16 e2 (by simp) (by first | rfl | exact fits_b _) ?_
    refine ev_go at_34_19 rfl ?_
    rw [hA]
    refine ev_newL lA at_34_20 (by decide) ?_
    refine ev_go at_34_23 rfl ?_
    refine ev_go at_34_24 rfl ?_
    refine ev_callI (as := [_]) at_34_26 (by decide) rfl rfl (by simp [mm_wt, Value.category]) rfl cB ?_
    refine ev_put at_34_29 e4 (by simp) (by first | rfl | exact fits_b _) ?_
    refine ev_go at_34_32 rfl ?_
    rw [hC]
    refine ev_newL lC at_34_33 (by decide) ?_
    refine ev_go at_34_36 rfl ?_
    refine ev_go at_34_37 rfl ?_
    refine ev_callI (as := [_]) at_34_39 (by decide) rfl rfl (by simp [mm_wt, Value.category]) rfl cD ?_
    refine ev_put at_34_42 e6 (by simp) (by first | rfl | exact fits_b _) ?_
    refine ev_go at_34_45 rfl ?_
    refine ev_go at_34_46 rfl ?_
    rw [hE]
    refine ev_newaL lE (Or.inl ⟨_, rfl⟩) at_34_48 (by omega) ?_
    refine ev_put at_34_50 e8 (by simp) (by first | rfl | exact fits_b _) ?_
    refine ev_go at_34_53 rfl ?_
    refine ev_ic (nI 1) at_34_54 (by decide) ?_
    refine ev_put at_34_55 e9 (by simp) (by first | rfl | exact fits_b _) ?_
    refine ev_ic (nI 0) at_34_58 (by decide) ?_
    refine ev_go at_34_59 rfl ?_
    rw [hF]
    exact hR
  · rw [oG.1, oF.1, List.length_append, lE, hl]; rfl
  · rw [oG.2.1, oF.2.1, mm_w_push, oE.2.1, gD2, mm_w_push, oC.2.1, gB2, mm_w_push, wA]
    simp [mm_dv, mm_dvs]
    omega
  · rw [oG.2.2 _ (by omega), oF.2.2 _ (by omega), app_ne (by omega), oE.2.2 _ (by omega), gD3 _ (by omega), app_ne (by omega), oC.2.2 _ (by omega), gB3 _ (by omega), app_ne (by omega), nA _ hq]
theorem c_trInit (d : Nat) {a : Nat} (hq : h[a]? = some (3, mm_dv 3)) : ∃ h', mm_cal z (d + 1) 49 [.ref a] h (.returned none, h') ∧ TrAt h' a (false, none, none, none, none) ∧ Off a (a + 1) h h' := by
  change h[a]? = some (3, [.int 0, .int 0, .int 0, .int 0, .int 0]) at hq
  have e1 := mm_upd_at hq 1 (.int (-1))
  have e2 := mm_upd_at e1 2 (.int (-1))
  have e3 := mm_upd_at e2 3 (.int (-1))
  have e4 := mm_upd_at e3 4 (.int (-1))
  refine ⟨mm_upd (mm_upd (mm_upd (mm_upd h a 1 (.int (-1))) a 2 (.int (-1))) a 3 (.int (-1))) a 4 (.int (-1)), ?_, ?_, (((Off.upd (Nat.le_refl _) (by omega)).trans (Off.upd (Nat.le_refl _) (by omega))).trans (Off.upd (Nat.le_refl _) (by omega))).trans (Off.upd (Nat.le_refl _) (by omega))⟩
  rotate_left
  · unfold TrAt; rw [e4]; rfl
  · refine mm_cal_of ?_
    refine ev_go at_49_0 rfl ?_
    refine ev_go at_49_1 rfl ?_
    refine ev_go at_49_4 rfl ?_
    refine ev_ic (-1) at_49_5 (by decide) ?_
    refine ev_put at_49_6 hq (by simp) (by first | rfl | exact fits_b _) ?_
    refine ev_go at_49_9 rfl ?_
    refine ev_ic (-1) at_49_10 (by decide) ?_
    refine ev_put at_49_11 e1 (by simp) (by first | rfl | exact fits_b _) ?_
    refine ev_go at_49_14 rfl ?_
    refine ev_ic (-1) at_49_15 (by decide) ?_
    refine ev_put at_49_16 e2 (by simp) (by first | rfl | exact fits_b _) ?_
    refine ev_go at_49_19 rfl ?_
    refine ev_ic (-1) at_49_20 (by decide) ?_
    refine ev_put at_49_21 e3 (by simp) (by first | rfl | exact fits_b _) ?_
    refine ev_end at_49_24 rfl ?_
    rfl
end C8
