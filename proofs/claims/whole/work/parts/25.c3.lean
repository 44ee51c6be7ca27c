/-! THE CLASS's PUBLIC METHODS (1) -/
def setS (w : Cs) (k : Nat) (g : Sg) : Cs := (w.1, upf w.2.1 k g, w.2.2)
def setT (w : Cs) (i : Nat) (g : Tg) : Cs := (w.1, w.2.1, upf w.2.2 i g)
def setO (w : Cs) (b : Nat) (v : Bool) : Cs := (upf w.1 b v, w.2)
theorem nI_m1 {k : Nat} (hk : k < 2 ^ 31) : ¬ nI k = -1 := fun q => absurd (show nI k < 0 by rw [q]; decide) (nI_pos hk)
theorem oI_n : oI none = -1 := rfl
section C3
variable {z : mm_Z} {h h' : mm_H} {K : Cf} {w : Cs}
theorem CW.low (hW : CW K h w) (o : Off 3 (K.tb) h h') : h'[0]? = h[0]? ∧ h'[1]? = h[1]? ∧ h'[2]? = h[2]? ∧ h'[K.tb]? = h[K.tb]? := ⟨o.2.2 _ (by omega), o.2.2 _ (by omega), o.2.2 _ (by omega), o.2.2 _ (by omega)⟩
theorem CW.setS (hW : CW K h w) {k : Nat} (hk : K.ex k = true) {g : Sg} (o : Off (K.sa k) (K.sa k + 6) h h') (hS : SecAt h' (K.sa k) k K.t g) : CW K h' (setS w k g) ∧ Off 0 (K.tb + 9) h h' := by
  obtain ⟨hK, h0, h1, h2, h3, h4, h5⟩ := hW
  obtain ⟨a1, a2⟩ := hK.2.2.2.2.1 k hk
  refine ⟨⟨hK, by rw [o.2.2 _ (by omega)]; exact h0, by rw [o.2.2 _ (by omega)]; exact h1, by rw [o.2.2 _ (by omega)]; exact h2, by rw [o.2.2 _ (by omega)]; exact h3, fun s hs => ?_, fun i hi => ?_⟩, o.wide (by omega) (by omega)⟩
  · show SecAt h' (K.sa s) s K.t (upf w.2.1 k g s)
    by_cases hsk : s = k
    · subst hsk; rw [upf_at]; exact hS
    · rw [upf_ne _ _ hsk]
      refine (h4 s hs).off o ?_
      rcases hK.2.2.2.2.2 s k hs hk hsk with q | q <;> omega
  · show h'[_]? = _
    rw [o.2.2 _ (by omega)]; exact h5 i hi
theorem CW.setT (hW : CW K h w) {i : Nat} (hi : i < 8) {g : Tg} (o : Off (K.tb + 1 + i) (K.tb + 2 + i) h h') (hT : TrAt h' (K.tb + 1 + i) g) : CW K h' (setT w i g) ∧ Off 0 (K.tb + 9) h h' := by
  obtain ⟨hK, h0, h1, h2, h3, h4, h5⟩ := hW
  have e0 : K.ex 0 = true := by unfold Cf.ex; rw [decide_eq_true (by have := hK.1; omega)]; rfl
  obtain ⟨a1, a2⟩ := hK.2.2.2.2.1 0 e0
  refine ⟨⟨hK, by rw [o.2.2 _ (by omega)]; exact h0, by rw [o.2.2 _ (by omega)]; exact h1, by rw [o.2.2 _ (by omega)]; exact h2, by rw [o.2.2 _ (by omega)]; exact h3, fun s hs => ?_, fun j hj => ?_⟩, o.wide (by omega) (by omega)⟩
  · obtain ⟨b1, b2⟩ := hK.2.2.2.2.1 s hs
    exact (h4 s hs).off o (by omega)
  · show TrAt h' (K.tb + 1 + j) (upf w.2.2 i g j)
    by_cases hji : j = i
    · subst hji; rw [upf_at]; exact hT
    · rw [upf_ne _ _ hji]
      show h'[_]? = _
      rw [o.2.2 _ (by omega)]; exact h5 j hj
theorem CW.setO (hW : CW K h w) {b : Nat} (v : Bool) : CW K (mm_upd h 1 b (.int (bI v))) (setO w b v) ∧ Off 0 (K.tb + 9) h (mm_upd h 1 b (.int (bI v))) := by
  obtain ⟨hK, h0, h1, h2, h3, h4, h5⟩ := hW
  have o : Off 1 2 h (mm_upd h 1 b (.int (bI v))) := Off.upd (Nat.le_refl _) (by omega)
  have e0 : K.ex 0 = true := by unfold Cf.ex; rw [decide_eq_true (by have := hK.1; omega)]; rfl
  obtain ⟨a1, a2⟩ := hK.2.2.2.2.1 0 e0
  refine ⟨⟨hK, by rw [o.2.2 _ (by omega)]; exact h0, ?_, by rw [o.2.2 _ (by omega)]; exact h2, by rw [o.2.2 _ (by omega)]; exact h3, fun s hs => ?_, fun j hj => ?_⟩, o.wide (by omega) (by omega)⟩
  · rw [mm_upd_at h1, rng_set]
    show some (11, rng K.n _) = some (11, rng K.n _)
    congr 3
    funext j
    show upf _ b _ j = Value.int (bI (upf w.1 b v j))
    unfold upf
    split <;> rfl
  · obtain ⟨b1, b2⟩ := hK.2.2.2.2.1 s hs
    exact (h4 s hs).off o (by omega)
  · show (mm_upd h 1 b (.int (bI v)))[_]? = _
    rw [o.2.2 _ (by omega)]; exact h5 j hj
theorem SecAt.app {a s t : Nat} {g : Sg} (x : SecAt h a s t g) (l : mm_H) : SecAt (h ++ l) a s t g := by
  have e : ∀ {k : Nat} {c : mm_C}, h[k]? = some c → (h ++ l)[k]? = some c := fun hk => by rw [List.getElem?_append_left (List.getElem?_eq_some_iff.mp hk).1]; exact hk
  obtain ⟨h1, ⟨a1, a2, a3, a4, a5⟩, ⟨b1, b2, b3, b4, b5⟩, h4, h5⟩ := x
  exact ⟨e h1, ⟨e a1, a2, a3, e a4, a5⟩, ⟨e b1, b2, b3, e b4, b5⟩, e h4, h5⟩
theorem CW.app (hW : CW K h w) (l : mm_H) : CW K (h ++ l) w := by
  have e : ∀ {k : Nat} {c : mm_C}, h[k]? = some c → (h ++ l)[k]? = some c := fun hk => by rw [List.getElem?_append_left (List.getElem?_eq_some_iff.mp hk).1]; exact hk
  obtain ⟨hK, h0, h1, h2, h3, h4, h5⟩ := hW
  exact ⟨hK, e h0, e h1, e h2, e h3, fun s hs => (h4 s hs).app l, fun i hi => e (h5 i hi)⟩
theorem CW.q (hW : CW K h w) {k : Nat} (hk : K.ex k = true) (e : Bool) : h[ia (K.sa k) e]? = some (2, [.ref (ia (K.sa k) e + 1), .int (nI ((w.2.1 k).at e).1.length), .int (bI ((w.2.1 k).at e).2.1), .int (bI ((w.2.1 k).at e).2.2)]) := ((hW.sec hk).1.inst e).1
theorem ia_in (a : Nat) (e : Bool) : a < ia a e ∧ ia a e + 2 ≤ a + 5 := by unfold ia; split <;> omega
theorem c_plunge (d : Nat) (hW : CW K h w) {k : Nat} (hk : K.ex k = true) (e v : Bool) : ∃ h', mm_cal z (d + 4) 1 [.ref 0, .int (nI (eb k e)), .int (nI k), .int (bI v)] h (.returned none, h') ∧ CW K h' (setS w k ((w.2.1 k).with e (((w.2.1 k).at e).1, ((w.2.1 k).at e).2.1, v))) ∧ Off 0 (K.tb + 9) h h' := by
  have hA := c_sectionEndingAt (z := z) d hW hk e
  obtain ⟨hS, hn⟩ := hW.sec hk
  have hB := c_instrumentAt (z := z) (d + 2) hS hn e
  have h0 := hW.2.1
  have q1 := hS.1
  have q2 := hW.q hk e
  obtain ⟨i1, i2⟩ := ia_in (K.sa k) e
  have o : Off (ia (K.sa k) e) (ia (K.sa k) e + 2) h (mm_upd h (ia (K.sa k) e) 3 (.int (bI v))) := Off.upd (Nat.le_refl _) (by omega)
  obtain ⟨j1, j2, arr, j3, j4⟩ := hS.inst e
  have hI : InstAt (mm_upd h (ia (K.sa k) e) 3 (.int (bI v))) (ia (K.sa k) e) K.t ((w.2.1 k).at e).1 ((w.2.1 k).at e).2.1 v := ⟨by rw [mm_upd_at q2]; rfl, j2, arr, by rw [mm_upd_ne (by omega)]; exact j3, j4⟩
  obtain ⟨r1, r2⟩ := hW.setS hk (o.wide (by omega) (by omega)) (hS.setInst e (i := (((w.2.1 k).at e).1, ((w.2.1 k).at e).2.1, v)) o hI)
  refine ⟨_, ?_, r1, r2⟩
  refine mm_cal_of ?_
  refine ev_go at_1_0 rfl ?_
  refine ev_go at_1_1 rfl ?_
  refine ev_go at_1_2 rfl ?_
  refine ev_callV (as := [_, _]) at_1_3 rfl rfl (by simp [mm_wt, Value.category]) rfl (by assumption) hA ?_
  refine ev_go at_1_6 rfl ?_
  refine ev_callV (as := [_]) at_1_7 rfl rfl (by simp [mm_wt, Value.category]) rfl q1 hB ?_
  refine ev_go at_1_10 rfl ?_
  refine ev_put at_1_11 q2 (by simp) (by first | rfl | exact fits_b _) ?_
  refine ev_end at_1_14 rfl ?_
  rfl
theorem x_plunge (d : Nat) (hW : CW K h w) {s b : Int32} (hs : edB K s b = false) (v : Int32) : mm_cal z (d + 4) 1 [.ref 0, .int b, .int s, .int v] h (.threw 0, xh h 0) := by
  have hX := x_sectionEndingAt (z := z) d hW hs
  have h0 := hW.2.1
  refine mm_cal_of ?_
  refine ev_go at_1_0 rfl ?_
  refine ev_go at_1_1 rfl ?_
  refine ev_go at_1_2 rfl ?_
  exact ev_thrV (as := [_, _]) at_1_3 rfl rfl (by simp [mm_wt, Value.category]) rfl h0 hX (by decide +kernel) (by decide +kernel) rfl
theorem c_wire (d : Nat) (hW : CW K h w) {k : Nat} (hk : K.ex k = true) (v : Bool) : ∃ h', mm_cal z (d + 3) 5 [.ref 0, .int (nI k), .int (bI v)] h (.returned none, h') ∧ CW K h' (setS w k ((w.2.1 k).1, (w.2.1 k).2.1, (w.2.1 k).2.2.1, v)) ∧ Off 0 (K.tb + 9) h h' := by
  have hA := c_sectionNumbered (z := z) d hW hk
  obtain ⟨hS, hn⟩ := hW.sec hk
  have h0 := hW.2.1
  have q1 := hS.1
  have o : Off (K.sa k) (K.sa k + 1) h (mm_upd h (K.sa k) 6 (.int (bI v))) := Off.upd (Nat.le_refl _) (by omega)
  have hS' : SecAt (mm_upd h (K.sa k) 6 (.int (bI v))) (K.sa k) k K.t ((w.2.1 k).1, (w.2.1 k).2.1, (w.2.1 k).2.2.1, v) := ⟨by rw [mm_upd_at q1]; rfl, hS.2.1.off o (by omega), hS.2.2.1.off o (by omega), by rw [o.2.2 _ (by omega)]; exact hS.2.2.2.1, hS.2.2.2.2⟩
  obtain ⟨r1, r2⟩ := hW.setS hk (o.wide (by omega) (by omega)) hS'
  refine ⟨_, ?_, r1, r2⟩
  refine mm_cal_of ?_
  refine ev_go at_5_0 rfl ?_
  refine ev_go at_5_1 rfl ?_
  refine ev_callV (as := [_]) at_5_2 rfl rfl (by simp [mm_wt, Value.category]) rfl (by assumption) hA ?_
  refine ev_go at_5_5 rfl ?_
  refine ev_put at_5_6 q1 (by simp) (by first | rfl | exact fits_b _) ?_
  refine ev_end at_5_9 rfl ?_
  rfl
theorem x_wire (d : Nat) (hW : CW K h w) {s : Int32} (hs : scB K s = false) (v : Int32) : mm_cal z (d + 3) 5 [.ref 0, .int s, .int v] h (.threw 0, xh h 0) := by
  have hX := x_sectionNumbered (z := z) d hW hs
  have h0 := hW.2.1
  refine mm_cal_of ?_
  refine ev_go at_5_0 rfl ?_
  refine ev_go at_5_1 rfl ?_
  exact ev_thrV (as := [_]) at_5_2 rfl rfl (by simp [mm_wt, Value.category]) rfl h0 hX (by decide +kernel) (by decide +kernel) rfl
theorem c_phase (d : Nat) (hW : CW K h w) {k : Nat} (hk : K.ex k = true) (e : Bool) : mm_cal z (d + 4) 28 [.ref 0, .int (nI (eb k e)), .int (nI k)] h (.returned (some (.int (bI ((w.2.1 k).at e).2.1))), h) := by
  have hA := c_sectionEndingAt (z := z) d hW hk e
  obtain ⟨hS, hn⟩ := hW.sec hk
  have hB := c_instrumentAt (z := z) (d + 2) hS hn e
  have h0 := hW.2.1
  have q1 := hS.1
  have q2 := hW.q hk e
  refine mm_cal_of ?_
  refine ev_go at_28_0 rfl ?_
  refine ev_go at_28_1 rfl ?_
  refine ev_go at_28_2 rfl ?_
  refine ev_callV (as := [_, _]) at_28_3 rfl rfl (by simp [mm_wt, Value.category]) rfl (by assumption) hA ?_
  refine ev_go at_28_6 rfl ?_
  refine ev_callV (as := [_]) at_28_7 rfl rfl (by simp [mm_wt, Value.category]) rfl q1 hB ?_
  refine ev_get at_28_10 q2 rfl ?_
  refine ev_iret at_28_13 (by first | exact Or.inl rfl | exact Or.inr (Or.inl rfl) | exact Or.inr (Or.inr rfl) | exact Or.inr (bI_01 _)) ?_
  rfl
theorem x_phase (d : Nat) (hW : CW K h w) {s b : Int32} (hs : edB K s b = false) : mm_cal z (d + 4) 28 [.ref 0, .int b, .int s] h (.threw 0, xh h 0) := by
  have hX := x_sectionEndingAt (z := z) d hW hs
  have h0 := hW.2.1
  refine mm_cal_of ?_
  refine ev_go at_28_0 rfl ?_
  refine ev_go at_28_1 rfl ?_
  refine ev_go at_28_2 rfl ?_
  exact ev_thrV (as := [_, _]) at_28_3 rfl rfl (by simp [mm_wt, Value.category]) rfl h0 hX (by decide +kernel) (by decide +kernel) rfl
theorem c_slide (d : Nat) (hW : CW K h w) {k : Nat} (hk : K.ex k = true) (e : Bool) : mm_cal z (d + 4) 29 [.ref 0, .int (nI (eb k e)), .int (nI k)] h (.returned (some (.int (nI ((w.2.1 k).at e).1.length))), h) := by
  have hA := c_sectionEndingAt (z := z) d hW hk e
  obtain ⟨hS, hn⟩ := hW.sec hk
  have hB := c_instrumentAt (z := z) (d + 2) hS hn e
  have h0 := hW.2.1
  have q1 := hS.1
  have q2 := hW.q hk e
  refine mm_cal_of ?_
  refine ev_go at_29_0 rfl ?_
  refine ev_go at_29_1 rfl ?_
  refine ev_go at_29_2 rfl ?_
  refine ev_callV (as := [_, _]) at_29_3 rfl rfl (by simp [mm_wt, Value.category]) rfl (by assumption) hA ?_
  refine ev_go at_29_6 rfl ?_
  refine ev_callV (as := [_]) at_29_7 rfl rfl (by simp [mm_wt, Value.category]) rfl q1 hB ?_
  refine ev_get at_29_10 q2 rfl ?_
  refine ev_iret at_29_13 (by first | exact Or.inl rfl | exact Or.inr (Or.inl rfl) | exact Or.inr (Or.inr rfl) | exact Or.inr (bI_01 _)) ?_
  rfl
theorem x_slide (d : Nat) (hW : CW K h w) {s b : Int32} (hs : edB K s b = false) : mm_cal z (d + 4) 29 [.ref 0, .int b, .int s] h (.threw 0, xh h 0) := by
  have hX := x_sectionEndingAt (z := z) d hW hs
  have h0 := hW.2.1
  refine mm_cal_of ?_
  refine ev_go at_29_0 rfl ?_
  refine ev_go at_29_1 rfl ?_
  refine ev_go at_29_2 rfl ?_
  exact ev_thrV (as := [_, _]) at_29_3 rfl rfl (by simp [mm_wt, Value.category]) rfl h0 hX (by decide +kernel) (by decide +kernel) rfl
theorem c_where (d : Nat) (hW : CW K h w) {k i v : Nat} (hk : K.ex k = true) (hi : (w.2.1 k).2.2.1[i]? = some v) : mm_cal z (d + 4) 30 [.ref 0, .int (nI (k * 100 + i))] h (.returned (some (.int (nI v))), h) := by
  obtain ⟨hS, hn⟩ := hW.sec hk
  have hit : i < K.t := by rw [← hS.2.2.2.2]; exact (List.getElem?_eq_some_iff.mp hi).1
  have hA := c_sectionOfTablet (z := z) d hW hk hit
  have hB := c_placeOf (z := z) d hS hn i v hi
  have h0 := hW.2.1
  have q1 := hS.1
  refine mm_cal_of ?_
  refine ev_go at_30_0 rfl ?_
  refine ev_go at_30_1 rfl ?_
  refine ev_callV (as := [_]) at_30_2 rfl rfl (by simp [mm_wt, Value.category]) rfl (by assumption) hA ?_
  refine ev_go at_30_5 rfl ?_
  refine ev_callV (as := [_]) at_30_6 rfl rfl (by simp [mm_wt, Value.category]) rfl q1 hB ?_
  refine ev_iret at_30_9 (by first | exact Or.inl rfl | exact Or.inr (Or.inl rfl) | exact Or.inr (Or.inr rfl) | exact Or.inr (bI_01 _)) ?_
  rfl
theorem x_where (d : Nat) (hW : CW K h w) {x : Int32} (hx : tbB K x = false) : mm_cal z (d + 4) 30 [.ref 0, .int x] h (.threw 0, xh h 0) := by
  have hX := x_sectionOfTablet (z := z) d hW hx
  have h0 := hW.2.1
  refine mm_cal_of ?_
  refine ev_go at_30_0 rfl ?_
  refine ev_go at_30_1 rfl ?_
  exact ev_thrV (as := [_]) at_30_2 rfl rfl (by simp [mm_wt, Value.category]) rfl h0 hX (by decide +kernel) (by decide +kernel) rfl
theorem c_spend (d : Nat) (hW : CW K h w) {k : Nat} (hk : K.ex k = true) (e : Bool) : mm_cal z (d + 4) 32 [.ref 0, .int (nI k), .int (nI (eb k e))] h (.returned (some (.int (if (w.2.1 k).1.2.1 == (w.2.1 k).2.1.2.1 then nI ((w.2.1 k).at e).1.length else nI 0))), h) := by
  have hA := c_sectionEndingAt (z := z) d hW hk e
  obtain ⟨hS, hn⟩ := hW.sec hk
  have hC := c_inPhase (z := z) (d + 2) hS
  have hB := c_instrumentAt (z := z) (d + 2) hS hn e
  have h0 := hW.2.1
  have q1 := hS.1
  have q2 := hW.q hk e
  refine mm_cal_of ?_
  refine ev_go at_32_0 rfl ?_
  refine ev_go at_32_1 rfl ?_
  refine ev_go at_32_2 rfl ?_
  refine ev_callV (as := [_, _]) at_32_3 rfl rfl (by simp [mm_wt, Value.category]) rfl (by assumption) hA ?_
  refine ev_go at_32_6 rfl ?_
  refine ev_go at_32_7 rfl ?_
  refine ev_callV (as := []) at_32_8 rfl rfl (by simp [mm_wt, Value.category]) rfl q1 hC ?_
  first | refine ev_ifb_eq at_32_11 (fun hc11 => ?_) (fun hc11 => ?_) | refine ev_if_eq at_32_11 (fun hc11 => ?_) (fun hc11 => ?_)
  · skip
    refine ev_ic (nI 0) at_32_25 (by decide) ?_
    refine ev_iret at_32_26 (by first | exact Or.inl rfl | exact Or.inr (Or.inl rfl) | exact Or.inr (Or.inr rfl) | exact Or.inr (bI_01 _)) ?_
    rw [hc11]; rfl
  · skip
    refine ev_go at_32_14 rfl ?_
    refine ev_go at_32_15 rfl ?_
    refine ev_callV (as := [_]) at_32_16 rfl rfl (by simp [mm_wt, Value.category]) rfl q1 hB ?_
    refine ev_get at_32_19 q2 rfl ?_
    refine ev_go at_32_22 rfl ?_
    refine ev_iret at_32_26 (by first | exact Or.inl rfl | exact Or.inr (Or.inl rfl) | exact Or.inr (Or.inr rfl) | exact Or.inr (bI_01 _)) ?_
    rw [hc11]; rfl
theorem x_spend (d : Nat) (hW : CW K h w) {s b : Int32} (hs : edB K s b = false) : mm_cal z (d + 4) 32 [.ref 0, .int s, .int b] h (.threw 0, xh h 0) := by
  have hX := x_sectionEndingAt (z := z) d hW hs
  have h0 := hW.2.1
  refine mm_cal_of ?_
  refine ev_go at_32_0 rfl ?_
  refine ev_go at_32_1 rfl ?_
  refine ev_go at_32_2 rfl ?_
  exact ev_thrV (as := [_, _]) at_32_3 rfl rfl (by simp [mm_wt, Value.category]) rfl h0 hX (by decide +kernel) (by decide +kernel) rfl
theorem c_out (d : Nat) (hW : CW K h w) {b : Nat} (hb : b < K.n) : mm_cal z (d + 3) 33 [.ref 0, .int (nI b)] h (.returned (some (.int (bI (w.1 b)))), h) := by
  have hn := hW.1.2.1
  have hA := c_checkBox (z := z) d hW (b := nI b) (by rw [bxB_nI (by omega) (by omega)]; exact decide_eq_true hb)
  have hB := c_isOut (z := z) d hW (nI b)
  rw [otB_nI (by omega) (by omega), decide_eq_true hb, Bool.true_and] at hB
  have h0 := hW.2.1
  refine mm_cal_of ?_
  refine ev_go at_33_0 rfl ?_
  refine ev_go at_33_1 rfl ?_
  refine ev_callV (as := [_]) at_33_2 rfl rfl (by simp [mm_wt, Value.category]) rfl (by assumption) hA ?_
  refine ev_go at_33_5 rfl ?_
  refine ev_go at_33_6 rfl ?_
  refine ev_callV (as := [_]) at_33_7 rfl rfl (by simp [mm_wt, Value.category]) rfl (by assumption) hB ?_
  refine ev_iret at_33_10 (by first | exact Or.inl rfl | exact Or.inr (Or.inl rfl) | exact Or.inr (Or.inr rfl) | exact Or.inr (bI_01 _)) ?_
  rfl
theorem x_out (d : Nat) (hW : CW K h w) {b : Int32} (hb : bxB K.n b = false) : mm_cal z (d + 3) 33 [.ref 0, .int b] h (.threw 0, xh h 0) := by
  have hX := x_checkBox (z := z) d hW hb
  have h0 := hW.2.1
  refine mm_cal_of ?_
  refine ev_go at_33_0 rfl ?_
  refine ev_go at_33_1 rfl ?_
  exact ev_thrV (as := [_]) at_33_2 rfl rfl (by simp [mm_wt, Value.category]) rfl h0 hX (by decide +kernel) (by decide +kernel) rfl
/-- a train's place, as place() answers it -/
def plI (g : Tg) : Int32 := if g.1 then (match g.2.2.1 with | none => oI g.2.1 | some s => nI (10 + s)) else -1
theorem c_place (d : Nat) (hW : CW K h w) {i : Nat} (hi : i < 8) (hb : ∀ s, (w.2.2 i).2.2.1 = some s → s < 100) : mm_cal z (d + 2) 31 [.ref 0, .int (nI i)] h (.returned (some (.int (plI (w.2.2 i)))), h) := by
  have hA := c_trainNumbered (z := z) d hW hi
  have h0 := hW.2.1
  have hT := hW.tr hi
  unfold TrAt at hT
  generalize w.2.2 i = g at hT hb
  obtain ⟨kn, bx, sc, gl, tb⟩ := g
  refine mm_cal_of ?_
  cases kn
  · skip
    refine ev_go at_31_0 rfl ?_
    refine ev_go at_31_1 rfl ?_
    refine ev_callV (as := [_]) at_31_2 rfl rfl (by simp [mm_wt, Value.category]) rfl (by assumption) hA ?_
    refine ev_go at_31_5 rfl ?_
    refine ev_go at_31_6 rfl ?_
    refine ev_get at_31_7 (by assumption) rfl ?_
    refine ev_ifb_ne at_31_10 (fun hc => nomatch hc) (fun _ => ?_)
    refine ev_ic (-1) at_31_13 (by decide) ?_
    refine ev_iret at_31_14 (by first | exact Or.inl rfl | exact Or.inr (Or.inl rfl) | exact Or.inr (Or.inr rfl) | exact Or.inr (bI_01 _)) ?_
    rfl
  · cases sc with
    | none =>
      refine ev_go at_31_0 rfl ?_
      refine ev_go at_31_1 rfl ?_
      refine ev_callV (as := [_]) at_31_2 rfl rfl (by simp [mm_wt, Value.category]) rfl (by assumption) hA ?_
      refine ev_go at_31_5 rfl ?_
      refine ev_go at_31_6 rfl ?_
      refine ev_get at_31_7 (by assumption) rfl ?_
      refine ev_ifb_ne at_31_10 (fun _ => ?_) (fun hc => nomatch hc)
      refine ev_go at_31_15 rfl ?_
      refine ev_get at_31_16 (by assumption) rfl ?_
      refine ev_ic (-1) at_31_19 (by decide) ?_
      refine ev_icmp_ne at_31_20 (fun hc => absurd rfl hc) (fun _ => ?_)
      refine ev_go at_31_23 rfl ?_
      refine ev_get at_31_24 (by assumption) rfl ?_
      refine ev_go at_31_27 rfl ?_
      refine ev_iret at_31_37 (by first | exact Or.inl rfl | exact Or.inr (Or.inl rfl) | exact Or.inr (Or.inr rfl) | exact Or.inr (bI_01 _)) ?_
      rfl
    | some s =>
      have hs := hb s rfl
      refine ev_go at_31_0 rfl ?_
      refine ev_go at_31_1 rfl ?_
      refine ev_callV (as := [_]) at_31_2 rfl rfl (by simp [mm_wt, Value.category]) rfl (by assumption) hA ?_
      refine ev_go at_31_5 rfl ?_
      refine ev_go at_31_6 rfl ?_
      refine ev_get at_31_7 (by assumption) rfl ?_
      refine ev_ifb_ne at_31_10 (fun _ => ?_) (fun hc => nomatch hc)
      refine ev_go at_31_15 rfl ?_
      refine ev_get at_31_16 (by assumption) rfl ?_
      refine ev_ic (-1) at_31_19 (by decide) ?_
      refine ev_icmp_ne at_31_20 (fun _ => ?_) (fun hc => absurd hc (nI_m1 (by omega)))
      refine ev_bi (nI 10) at_31_30 (by decide) ?_
      refine ev_go at_31_32 rfl ?_
      refine ev_get at_31_33 (by assumption) rfl ?_
      refine ev_go at_31_36 rfl ?_
      refine ev_top (congrArg Value.int (nI_add 10 s)) ?_
      refine ev_iret at_31_37 (by first | exact Or.inl rfl | exact Or.inr (Or.inl rfl) | exact Or.inr (Or.inr rfl) | exact Or.inr (bI_01 _)) ?_
      rfl
theorem x_place (d : Nat) (hW : CW K h w) {i : Int32} (hi : tnB i = false) : mm_cal z (d + 2) 31 [.ref 0, .int i] h (.threw 0, xh h 0) := by
  have hX := x_trainNumbered (z := z) d hW hi
  have h0 := hW.2.1
  refine mm_cal_of ?_
  refine ev_go at_31_0 rfl ?_
  refine ev_go at_31_1 rfl ?_
  exact ev_thrV (as := [_]) at_31_2 rfl rfl (by simp [mm_wt, Value.category]) rfl h0 hX (by decide +kernel) (by decide +kernel) rfl
theorem c_train (d : Nat) (hW : CW K h w) {i b : Nat} (hi : i < 8) (hb : b < K.n) (hkn : (w.2.2 i).1 = false) : ∃ h', mm_cal z (d + 3) 13 [.ref 0, .int (nI i), .int (nI b)] h (.returned none, h') ∧ CW K h' (setT w i (true, some b, (w.2.2 i).2.2)) ∧ Off 0 (K.tb + 9) h h' := by
  have hn := hW.1.2.1
  have hA := c_trainNumbered (z := z) (d + 1) hW hi
  have hB := c_checkBox (z := z) d hW (b := nI b) (by rw [bxB_nI (by omega) (by omega)]; exact decide_eq_true hb)
  have h0 := hW.2.1
  have hT := hW.tr hi
  unfold TrAt at hT
  rw [hkn] at hT
  have e1 := mm_upd_at hT 0 (.int (nI 1))
  have e2 := mm_upd_at e1 1 (.int (nI b))
  have o : Off (K.tb + 1 + i) (K.tb + 2 + i) h (mm_upd (mm_upd h (K.tb + 1 + i) 0 (.int (nI 1))) (K.tb + 1 + i) 1 (.int (nI b))) := (Off.upd (Nat.le_refl _) (by omega)).trans (Off.upd (Nat.le_refl _) (by omega))
  obtain ⟨r1, r2⟩ := hW.setT hi (g := (true, some b, (w.2.2 i).2.2)) o (by unfold TrAt; rw [e2]; rfl)
  refine ⟨_, ?_, r1, r2⟩
  refine mm_cal_of ?_
  refine ev_go at_13_0 rfl ?_
  refine ev_go at_13_1 rfl ?_
  refine ev_callV (as := [_]) at_13_2 rfl rfl (by simp [mm_wt, Value.category]) rfl (by assumption) hA ?_
  refine ev_go at_13_5 rfl ?_
  refine ev_go at_13_6 rfl ?_
  refine ev_go at_13_7 rfl ?_
  refine ev_callV (as := [_]) at_13_8 rfl rfl (by simp [mm_wt, Value.category]) rfl (by assumption) hB ?_
  refine ev_go at_13_11 rfl ?_
  refine ev_get at_13_12 (by assumption) rfl ?_
  refine ev_ifb_eq at_13_15 (fun _ => ?_) (fun hc => nomatch hc)
  refine ev_go at_13_28 rfl ?_
  refine ev_ic (nI 1) at_13_29 (by decide) ?_
  refine ev_put at_13_30 hT (by simp) (by first | rfl | exact fits_b _) ?_
  refine ev_go at_13_33 rfl ?_
  refine ev_go at_13_34 rfl ?_
  refine ev_put at_13_35 e1 (by simp) (by first | rfl | exact fits_b _) ?_
  refine ev_end at_13_38 rfl ?_
  rfl
theorem x_train0 (d : Nat) (hW : CW K h w) {i b : Int32} (hx : tnB i = false ∨ bxB K.n b = false) : mm_cal z (d + 3) 13 [.ref 0, .int i, .int b] h (.threw 0, xh h 0) := by
  have h0 := hW.2.1
  refine mm_cal_of ?_
  cases hi : tnB i with
  | false =>
    have hX := x_trainNumbered (z := z) (d + 1) hW hi
    refine ev_go at_13_0 rfl ?_
    refine ev_go at_13_1 rfl ?_
    exact ev_thrV (as := [_]) at_13_2 rfl rfl (by simp [mm_wt, Value.category]) rfl h0 hX (by decide +kernel) (by decide +kernel) rfl
  | true =>
    obtain ⟨k, hk, rfl⟩ := tnB_t hi
    have hA := c_trainNumbered (z := z) (d + 1) hW hk
    have hX := x_checkBox (z := z) d hW (b := b) (by rcases hx with hx | hx; rw [hi] at hx; cases hx; exact hx)
    refine ev_go at_13_0 rfl ?_
    refine ev_go at_13_1 rfl ?_
    refine ev_callV (as := [_]) at_13_2 rfl rfl (by simp [mm_wt, Value.category]) rfl (by assumption) hA ?_
    refine ev_go at_13_5 rfl ?_
    refine ev_go at_13_6 rfl ?_
    refine ev_go at_13_7 rfl ?_
    exact ev_thrV (as := [_]) at_13_8 rfl rfl (by simp [mm_wt, Value.category]) rfl h0 hX (by decide +kernel) (by decide +kernel) rfl
theorem x_train1 (d : Nat) (hW : CW K h w) {i b : Nat} (hi : i < 8) (hb : b < K.n) (hkn : (w.2.2 i).1 = true) : mm_cal z (d + 3) 13 [.ref 0, .int (nI i), .int (nI b)] h (.threw 1, xh h 1) := by
  have hn := hW.1.2.1
  have hA := c_trainNumbered (z := z) (d + 1) hW hi
  have hB := c_checkBox (z := z) d hW (b := nI b) (by rw [bxB_nI (by omega) (by omega)]; exact decide_eq_true hb)
  have h0 := hW.2.1
  have hT := hW.tr hi
  unfold TrAt at hT
  rw [hkn] at hT
  refine mm_cal_of ?_
  refine ev_go at_13_0 rfl ?_
  refine ev_go at_13_1 rfl ?_
  refine ev_callV (as := [_]) at_13_2 rfl rfl (by simp [mm_wt, Value.category]) rfl (by assumption) hA ?_
  refine ev_go at_13_5 rfl ?_
  refine ev_go at_13_6 rfl ?_
  refine ev_go at_13_7 rfl ?_
  refine ev_callV (as := [_]) at_13_8 rfl rfl (by simp [mm_wt, Value.category]) rfl (by assumption) hB ?_
  refine ev_go at_13_11 rfl ?_
  refine ev_get at_13_12 (by assumption) rfl ?_
  refine ev_ifb_eq at_13_15 (fun hc => nomatch hc) (fun _ => ?_)
  refine ev_throw (e := 1) at_13_18 (by simp [mm_wt, Value.category]) ?_
  rfl
theorem c_arrive (d : Nat) (hW : CW K h w) {i s b : Nat} (hi : i < 8) (hkn : (w.2.2 i).1 = true) (hs : (w.2.2 i).2.2.1 = some s) (hs2 : s < 100) (hg : (w.2.2 i).2.2.2.1 = some b) : ∃ h', mm_cal z (d + 3) 22 [.ref 0, .int (nI i)] h (.returned (some (.int (nI b))), h') ∧ CW K h' (setT w i (true, some b, none, none, (w.2.2 i).2.2.2.2)) ∧ Off 0 (K.tb + 9) h h' := by
  have hA := c_knownTrain (z := z) d hW hi hkn
  have h0 := hW.2.1
  have hT := hW.tr hi
  unfold TrAt at hT
  rw [hkn, hs, hg] at hT
  have e1 := mm_upd_at hT 1 (.int (nI b))
  have e2 := mm_upd_at e1 2 (.int (-1))
  have e3 := mm_upd_at e2 3 (.int (-1))
  have o : Off (K.tb + 1 + i) (K.tb + 2 + i) h (mm_upd (mm_upd (mm_upd h (K.tb + 1 + i) 1 (.int (nI b))) (K.tb + 1 + i) 2 (.int (-1))) (K.tb + 1 + i) 3 (.int (-1))) := ((Off.upd (Nat.le_refl _) (by omega)).trans (Off.upd (Nat.le_refl _) (by omega))).trans (Off.upd (Nat.le_refl _) (by omega))
  obtain ⟨r1, r2⟩ := hW.setT hi (g := (true, some b, none, none, (w.2.2 i).2.2.2.2)) o (by unfold TrAt; rw [e3]; rfl)
  refine ⟨_, ?_, r1, r2⟩
  refine mm_cal_of ?_
  refine ev_go at_22_0 rfl ?_
  refine ev_go at_22_1 rfl ?_
  refine ev_callV (as := [_]) at_22_2 rfl rfl (by simp [mm_wt, Value.category]) rfl (by assumption) hA ?_
  refine ev_go at_22_5 rfl ?_
  refine ev_go at_22_6 rfl ?_
  refine ev_get at_22_7 hT rfl ?_
  refine ev_ic (-1) at_22_10 (by decide) ?_
  refine ev_icmp_ne at_22_11 (fun _ => ?_) (fun hc => absurd hc (nI_m1 (by omega)))
  refine ev_go at_22_24 rfl ?_
  refine ev_go at_22_25 rfl ?_
  refine ev_get at_22_26 hT rfl ?_
  refine ev_put at_22_29 hT (by simp) (by first | rfl | exact fits_b _) ?_
  refine ev_go at_22_32 rfl ?_
  refine ev_ic (-1) at_22_33 (by decide) ?_
  refine ev_put at_22_34 e1 (by simp) (by first | rfl | exact fits_b _) ?_
  refine ev_go at_22_37 rfl ?_
  refine ev_ic (-1) at_22_38 (by decide) ?_
  refine ev_put at_22_39 e2 (by simp) (by first | rfl | exact fits_b _) ?_
  refine ev_go at_22_42 rfl ?_
  refine ev_get at_22_43 e3 rfl ?_
  refine ev_iret at_22_46 (by first | exact Or.inl rfl | exact Or.inr (Or.inl rfl) | exact Or.inr (Or.inr rfl) | exact Or.inr (bI_01 _)) ?_
  rfl
theorem x_arrive0 (d : Nat) (hW : CW K h w) {i : Int32} (hi : knB w i = false) : mm_cal z (d + 3) 22 [.ref 0, .int i] h (.threw 0, xh h 0) := by
  have hX := x_knownTrain (z := z) d hW hi
  have h0 := hW.2.1
  refine mm_cal_of ?_
  refine ev_go at_22_0 rfl ?_
  refine ev_go at_22_1 rfl ?_
  exact ev_thrV (as := [_]) at_22_2 rfl rfl (by simp [mm_wt, Value.category]) rfl h0 hX (by decide +kernel) (by decide +kernel) rfl
theorem x_arrive1 (d : Nat) (hW : CW K h w) {i : Nat} (hi : i < 8) (hkn : (w.2.2 i).1 = true) (hs : (w.2.2 i).2.2.1 = none) : mm_cal z (d + 3) 22 [.ref 0, .int (nI i)] h (.threw 1, xh h 1) := by
  have hA := c_knownTrain (z := z) d hW hi hkn
  have h0 := hW.2.1
  have hT := hW.tr hi
  unfold TrAt at hT
  rw [hs] at hT
  refine mm_cal_of ?_
  refine ev_go at_22_0 rfl ?_
  refine ev_go at_22_1 rfl ?_
  refine ev_callV (as := [_]) at_22_2 rfl rfl (by simp [mm_wt, Value.category]) rfl (by assumption) hA ?_
  refine ev_go at_22_5 rfl ?_
  refine ev_go at_22_6 rfl ?_
  refine ev_get at_22_7 (by assumption) rfl ?_
  refine ev_ic (-1) at_22_10 (by decide) ?_
  refine ev_icmp_ne at_22_11 (fun hc => absurd rfl hc) (fun _ => ?_)
  refine ev_throw (e := 1) at_22_14 (by simp [mm_wt, Value.category]) ?_
  rfl
end C3
