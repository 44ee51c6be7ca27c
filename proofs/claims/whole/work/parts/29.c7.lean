/-! THE CLASS: carry; constructors -/
section C7
variable {z : mm_Z} {h h' : mm_H} {K : Cf} {w : Cs}
theorem ev_inc {C : Nat → List Value → mm_H → mm_R → Prop} {j pc n x y : Nat} {ls : List Slot} {st : List Value} {r : mm_R} {q i : Nat} (ha : mm_at j pc = some (.iinc q 1, n, x, y)) (hl : ls[q]? = some (.val (.int (nI i)))) (k : mm_Ev z C j (n, ls.set q (.val (.int (nI (i + 1)))), st, h) r) : mm_Ev z C j (pc, ls, st, h) r :=
  ev_go ha (by simp only [mm_exec, mm_iinc, hl]; rw [nI_succ]; rfl) k
theorem ev_newL {C : Nat → List Value → mm_H → mm_R → Prop} {j pc n x y : Nat} {ls : List Slot} {st : List Value} {r : mm_R} {idx a : Nat} (hl : h.length = a) (ha : mm_at j pc = some (.new idx, n, x, y)) (hx : x < 10) (k : mm_Ev z C j (n, ls, .ref a :: st, h ++ [(x, mm_dv x)]) r) : mm_Ev z C j (pc, ls, st, h) r := by
  subst hl; exact ev_new ha hx k
theorem ev_newaL {C : Nat → List Value → mm_H → mm_R → Prop} {j pc n x y : Nat} {ls : List Slot} {st : List Value} {r : mm_R} {i : Instr} {m a : Nat} (hl : h.length = a) (hi : (∃ t, i = .newarray t) ∨ ∃ t, i = .anewarray t) (ha : mm_at j pc = some (i, n, x, y)) (hm : m ≤ 1000) (k : mm_Ev z C j (n, ls, .ref a :: st, h ++ [(x, List.replicate m (mm_zero x))]) r) : mm_Ev z C j (pc, ls, .int (nI m) :: st, h) r := by
  subst hl; exact ev_newa hi ha hm k
theorem app_at {k : Nat} {c : mm_C} (hk : h[k]? = some c) (l : mm_H) : (h ++ l)[k]? = some c := by rw [List.getElem?_append_left (List.getElem?_eq_some_iff.mp hk).1]; exact hk
theorem app_ne {k : Nat} (hk : k < h.length) (l : mm_H) : (h ++ l)[k]? = h[k]? := List.getElem?_append_left hk
theorem app_end {a : Nat} (ha : h.length = a) (c : mm_C) : (h ++ [c])[a]? = some c := by subst ha; simp
/-- one tablet, the uppermost, carried from an end to the other -/
def cst (k : Nat) (e : Bool) (g : Sg) : Sg := match (g.at e).1.getLast? with
  | none => g
  | some x => mv (g.with e ((g.at e).1.dropLast, (g.at e).2)) (!e) ((g.at (!e)).1 ++ [x], (g.at (!e)).2) (g.2.2.1.set (x - k * 100) (eN (!e)))
def crry (k : Nat) (e : Bool) : Nat → Sg → Sg
  | 0, g => g
  | r + 1, g => crry k e r (cst k e g)
theorem cst_eq {k : Nat} {e : Bool} {g : Sg} {q : List Nat} {i : Nat} (hq : (g.at e).1 = q ++ [k * 100 + i]) : cst k e g = mv (g.with e (q, (g.at e).2)) (!e) ((g.at (!e)).1 ++ [k * 100 + i], (g.at (!e)).2) (g.2.2.1.set i (eN (!e))) := by
  unfold cst
  rw [hq]
  simp
theorem setS_setS (w : Cs) (k : Nat) (g g' : Sg) : setS (setS w k g) k g' = setS w k g' := by
  unfold setS
  refine Prod.ext rfl (Prod.ext ?_ rfl)
  funext j
  show upf (upf w.2.1 k g) k g' j = upf w.2.1 k g' j
  unfold upf
  split <;> rfl
theorem setS_self (w : Cs) (k : Nat) : setS w k (w.2.1 k) = w := by
  unfold setS
  refine Prod.ext rfl (Prod.ext ?_ rfl)
  funext j
  show upf w.2.1 k (w.2.1 k) j = w.2.1 j
  unfold upf
  split
  · next q => rw [q]
  · rfl
theorem mv_at (g : Sg) (e : Bool) (I : List Nat × Bool × Bool) (pl : List Nat) : (mv g e I pl).at e = I := by cases e <;> rfl
theorem mv_at' (g : Sg) (e : Bool) (I : List Nat × Bool × Bool) (pl : List Nat) : (mv g e I pl).at (!e) = g.at (!e) := by cases e <;> rfl
theorem mv_at'' (g : Sg) (e : Bool) (I : List Nat × Bool × Bool) (pl : List Nat) : (mv g (!e) I pl).at e = g.at e := by cases e <;> rfl
theorem c_carryLoop (d : Nat) {k N : Nat} (hk : K.ex k = true) (e : Bool) (hN : N < 100) : ∀ (r i : Nat) (w : Cs) (h : mm_H), i + r = N → CW K h w → (∀ x ∈ ((w.2.1 k).at e).1, ∃ i, i < K.t ∧ x = k * 100 + i) → r ≤ ((w.2.1 k).at e).1.length → ((w.2.1 k).at (!e)).1.length + r ≤ K.t →
    ∃ h', mm_Ev z (mm_cal z (d + 4)) 27 (85, [.val (.ref 0), .val (.int (nI k)), .val (.int (nI (eb k e))), .val (.int (nI N)), .val (.ref (K.sa k)), .val (.ref (ia (K.sa k) e)), .val (.int (nI (eb k (!e)))), .val (.int (nI i))], [], h) (.returned none, h') ∧ CW K h' (setS w k (crry k e r (w.2.1 k))) ∧ Off 0 (K.tb + 9) h h'
  | 0, i, w, h, hi, hW, hv, h1, h2 => by
    refine ⟨h, ?_, ?_, Off.rfl⟩
    refine ev_go at_27_85 rfl ?_
    refine ev_go at_27_87 rfl ?_
    refine ev_icmp_ge at_27_88 (fun _ => ?_) (fun hc => absurd (nI_le (by omega) (by omega)) hc)
    refine ev_end at_27_109 rfl ?_
    rfl
    show CW K h (setS w k (w.2.1 k))
    rw [setS_self]
    exact hW
  | r + 1, i, w, h, hi, hW, hv, h1, h2 => by
    obtain ⟨hS, hn⟩ := hW.sec hk
    have h8 := hn.2.2
    obtain ⟨i1, i2⟩ := ia_in (K.sa k) e
    have hne : ((w.2.1 k).at e).1 ≠ [] := by intro q; rw [q] at h1; simp at h1
    have hq := (List.dropLast_concat_getLast hne).symm
    obtain ⟨m, hm, hx⟩ := hv _ (List.getLast_mem hne)
    rw [hx] at hq
    generalize ((w.2.1 k).at e).1.dropLast = q at hq
    have hI := hS.inst e
    rw [hq] at hI
    have q2 := hI.1
    obtain ⟨ha, hF, hI1, o1⟩ := c_pop (z := z) (d + 3) (k * 100 + m) hI h8
    have hS1 := hS.setInst e (i := (q, ((w.2.1 k).at e).2)) o1 hI1
    have q1 := hS1.1
    obtain ⟨hb, hE, hS2, o2⟩ := c_layIn (z := z) d hS1 hn (!e) m hm (by rw [Sg.at_with']; omega)
    rw [Sg.at_with', Sg.with_pl] at hS2
    obtain ⟨t1, t2⟩ := hW.setS hk ((o1.wide (by omega) (by omega)).trans o2) hS2
    have hg : cst k e (w.2.1 k) = _ := cst_eq hq
    have t1' : CW K hb (setS w k (cst k e (w.2.1 k))) := by rw [hg]; unfold mv; rw [Sg.with_pl]; exact t1
    have hat : (setS w k (cst k e (w.2.1 k))).2.1 k = cst k e (w.2.1 k) := upf_at _ _ _
    have a1 : ((cst k e (w.2.1 k)).at e).1 = q := by rw [hg, mv_at'', Sg.at_with]
    have a2 : ((cst k e (w.2.1 k)).at (!e)).1 = ((w.2.1 k).at (!e)).1 ++ [k * 100 + m] := by rw [hg, mv_at]
    obtain ⟨hc, hR, hW3, o3⟩ := c_carryLoop d hk e hN r (i + 1) (setS w k (cst k e (w.2.1 k))) hb (by omega) t1' (by rw [hat, a1]; intro x hx; exact hv x (by rw [hq]; simp [hx])) (by rw [hat, a1]; rw [hq] at h1; simp at h1; omega) (by rw [hat, a2]; simp; omega)
    rw [hat, setS_setS] at hW3
    refine ⟨hc, ?_, hW3, t2.trans o3⟩
    refine ev_go at_27_85 rfl ?_
    refine ev_go at_27_87 rfl ?_
    refine ev_icmp_ge at_27_88 (fun hc => absurd hc (nI_ge (by omega) (by omega))) (fun _ => ?_)
    refine ev_go at_27_91 rfl ?_
    refine ev_go at_27_93 rfl ?_
    refine ev_go at_27_95 rfl ?_
    refine ev_callV (as := []) at_27_97 rfl rfl (by simp [mm_wt, Value.category]) rfl q2 hF ?_
    refine ev_callV (as := [_, _]) at_27_100 rfl rfl (by simp [mm_wt, Value.category]) rfl q1 hE ?_
    refine ev_inc at_27_103 rfl ?_
    refine ev_go at_27_106 rfl ?_
    exact hR
/-- a number that carry refuses -/
def cnB (n : Int32) : Bool := decide (n < nI 2) || decide (¬ n - n / nI 2 * nI 2 = 0)
theorem cnB_f {n : Int32} (h : cnB n = false) : ∃ m, 2 ≤ m ∧ m < 2 ^ 31 ∧ m % 2 = 0 ∧ n = nI m := by
  unfold cnB at h
  simp only [Bool.or_eq_false_iff, decide_eq_false_iff_not, Decidable.not_not] at h
  obtain ⟨h1, h2⟩ := h
  have h0 : ¬ n < 0 := fun q => h1 (Int32.lt_trans q (by decide))
  obtain ⟨m, hm, rfl⟩ := nI_of h0
  rw [pk_rem hm (by omega) (by omega)] at h2
  refine ⟨m, Nat.not_lt.mp fun q => h1 (nI_lt q (by omega)), hm, (nI_eq (by omega) (by omega)).mp h2, rfl⟩
theorem x_carry0 (d : Nat) (hW : CW K h w) {s b n : Int32} (hx : edB K s b = false ∨ cnB n = true) : mm_cal z (d + 5) 27 [.ref 0, .int s, .int b, .int n] h (.threw 0, xh h 0) := by
  have h0 := hW.2.1
  refine mm_cal_of ?_
  cases hed : edB K s b with
  | false =>
    have hX := x_sectionEndingAt (z := z) (d + 1) hW hed
    refine ev_go at_27_0 rfl ?_
    refine ev_go at_27_1 rfl ?_
    refine ev_go at_27_2 rfl ?_
    exact ev_thrV (as := [_, _]) at_27_3 rfl rfl (by simp [mm_wt, Value.category]) rfl h0 hX (by decide +kernel) (by decide +kernel) rfl
  | true =>
    rw [hed] at hx
    obtain ⟨k, e, hk, rfl, rfl⟩ := edB_t hW.1 hed
    have hA := c_sectionEndingAt (z := z) (d + 1) hW hk e
    have hx : cnB n = true := by rcases hx with hx | hx; cases hx; exact hx
    unfold cnB at hx
    simp only [Bool.or_eq_true, decide_eq_true_eq] at hx
    refine ev_go at_27_0 rfl ?_
    refine ev_go at_27_1 rfl ?_
    refine ev_go at_27_2 rfl ?_
    refine ev_callV (as := [_, _]) at_27_3 rfl rfl (by simp [mm_wt, Value.category]) rfl (by assumption) hA ?_
    refine ev_go at_27_6 rfl ?_
    refine ev_go at_27_8 rfl ?_
    refine ev_ic (nI 2) at_27_9 (by decide) ?_
    refine ev_icmp_lt at_27_10 (fun hc10 => ?_) (fun hc10 => ?_)
    · skip
      refine ev_throw (e := 0) at_27_19 (by simp [mm_wt, Value.category]) ?_
      rfl
    · skip
      refine ev_go at_27_13 rfl ?_
      refine ev_ic (nI 2) at_27_14 (by decide) ?_
      refine ev_irem at_27_15 (by decide) ?_
      first | refine ev_ifb_eq at_27_16 (fun hc16 => ?_) (fun hc16 => ?_) | refine ev_if_eq at_27_16 (fun hc16 => ?_) (fun hc16 => ?_)
      · skip
        exact absurd hc16 (by rcases hx with hx | hx; exact absurd hx hc10; exact hx)
      · skip
        refine ev_throw (e := 0) at_27_19 (by simp [mm_wt, Value.category]) ?_
        rfl
theorem x_carry1 (d : Nat) (hW : CW K h w) {k : Nat} (hk : K.ex k = true) (e : Bool) {n : Int32} (hcn : cnB n = false) (hp : ((w.2.1 k).1.2.1 == (w.2.1 k).2.1.2.1) = false) : mm_cal z (d + 5) 27 [.ref 0, .int (nI k), .int (nI (eb k e)), .int n] h (.threw 1, xh h 1) := by
  have h0 := hW.2.1
  obtain ⟨hS, hn⟩ := hW.sec hk
  have h8 := hn.2.2
  have q1 := hS.1
  have q2 := hW.q hk e
  have hA := c_sectionEndingAt (z := z) (d + 1) hW hk e
  have hB := c_inPhase (z := z) (d + 3) hS
  have hC := c_instrumentAt (z := z) (d + 3) hS hn e
  have hD := c_otherEnd (z := z) (d + 3) hS hn e
  obtain ⟨m, m1, m2, m3, rfl⟩ := cnB_f hcn
  have hr : nI m - nI m / nI 2 * nI 2 = 0 := by rw [pk_rem m2 (by omega) (by omega), m3]; rfl
  have hlen : ((w.2.1 k).at e).1.length ≤ K.t := (hS.inst e).2.1
  rw [hp] at hB
  refine mm_cal_of ?_
  refine ev_go at_27_0 rfl ?_
  refine ev_go at_27_1 rfl ?_
  refine ev_go at_27_2 rfl ?_
  refine ev_callV (as := [_, _]) at_27_3 rfl rfl (by simp [mm_wt, Value.category]) rfl (by assumption) hA ?_
  refine ev_go at_27_6 rfl ?_
  refine ev_go at_27_8 rfl ?_
  refine ev_ic (nI 2) at_27_9 (by decide) ?_
  refine ev_icmp_lt at_27_10 (fun hc => absurd hc (nI_nlt m1 m2)) (fun _ => ?_)
  refine ev_go at_27_13 rfl ?_
  refine ev_ic (nI 2) at_27_14 (by decide) ?_
  refine ev_irem at_27_15 (by decide) ?_
  refine ev_if_eq at_27_16 (fun _ => ?_) (fun hc => absurd hr hc)
  refine ev_go at_27_29 rfl ?_
  refine ev_callV (as := []) at_27_31 rfl rfl (by simp [mm_wt, Value.category]) rfl q1 hB ?_
  refine ev_ifb_ne at_27_34 (fun hc => nomatch hc) (fun _ => ?_)
  refine ev_throw (e := 1) at_27_37 (by simp [mm_wt, Value.category]) ?_
  rfl
theorem x_carry3 (d : Nat) (hW : CW K h w) {k : Nat} (hk : K.ex k = true) (e : Bool) {n : Int32} (hcn : cnB n = false) (hp : ((w.2.1 k).1.2.1 == (w.2.1 k).2.1.2.1) = true) (hl : nI ((w.2.1 k).at e).1.length < n) : mm_cal z (d + 5) 27 [.ref 0, .int (nI k), .int (nI (eb k e)), .int n] h (.threw 3, xh h 3) := by
  have h0 := hW.2.1
  obtain ⟨hS, hn⟩ := hW.sec hk
  have h8 := hn.2.2
  have q1 := hS.1
  have q2 := hW.q hk e
  have hA := c_sectionEndingAt (z := z) (d + 1) hW hk e
  have hB := c_inPhase (z := z) (d + 3) hS
  have hC := c_instrumentAt (z := z) (d + 3) hS hn e
  have hD := c_otherEnd (z := z) (d + 3) hS hn e
  obtain ⟨m, m1, m2, m3, rfl⟩ := cnB_f hcn
  have hr : nI m - nI m / nI 2 * nI 2 = 0 := by rw [pk_rem m2 (by omega) (by omega), m3]; rfl
  have hlen : ((w.2.1 k).at e).1.length ≤ K.t := (hS.inst e).2.1
  rw [hp] at hB
  refine mm_cal_of ?_
  refine ev_go at_27_0 rfl ?_
  refine ev_go at_27_1 rfl ?_
  refine ev_go at_27_2 rfl ?_
  refine ev_callV (as := [_, _]) at_27_3 rfl rfl (by simp [mm_wt, Value.category]) rfl (by assumption) hA ?_
  refine ev_go at_27_6 rfl ?_
  refine ev_go at_27_8 rfl ?_
  refine ev_ic (nI 2) at_27_9 (by decide) ?_
  refine ev_icmp_lt at_27_10 (fun hc => absurd hc (nI_nlt m1 m2)) (fun _ => ?_)
  refine ev_go at_27_13 rfl ?_
  refine ev_ic (nI 2) at_27_14 (by decide) ?_
  refine ev_irem at_27_15 (by decide) ?_
  refine ev_if_eq at_27_16 (fun _ => ?_) (fun hc => absurd hr hc)
  refine ev_go at_27_29 rfl ?_
  refine ev_callV (as := []) at_27_31 rfl rfl (by simp [mm_wt, Value.category]) rfl q1 hB ?_
  refine ev_ifb_ne at_27_34 (fun _ => ?_) (fun hc => nomatch hc)
  refine ev_go at_27_47 rfl ?_
  refine ev_go at_27_49 rfl ?_
  refine ev_callV (as := [_]) at_27_50 rfl rfl (by simp [mm_wt, Value.category]) rfl q1 hC ?_
  refine ev_go at_27_53 rfl ?_
  refine ev_go at_27_55 rfl ?_
  refine ev_get at_27_57 q2 rfl ?_
  refine ev_go at_27_60 rfl ?_
  refine ev_icmp_ge at_27_61 (fun hc => absurd hl (Int32.not_lt.mpr hc)) (fun _ => ?_)
  refine ev_throw (e := 3) at_27_64 (by simp [mm_wt, Value.category]) ?_
  rfl
theorem c_carry (d : Nat) (hW : CW K h w) {k m : Nat} (hk : K.ex k = true) (e : Bool) (hcn : cnB (nI m) = false) (hp : ((w.2.1 k).1.2.1 == (w.2.1 k).2.1.2.1) = true) (hm : m ≤ ((w.2.1 k).at e).1.length) (hv : ∀ x ∈ ((w.2.1 k).at e).1, ∃ i, i < K.t ∧ x = k * 100 + i) (hl : ((w.2.1 k).at (!e)).1.length + m ≤ K.t) :
    ∃ h', mm_cal z (d + 5) 27 [.ref 0, .int (nI k), .int (nI (eb k e)), .int (nI m)] h (.returned none, h') ∧ CW K h' (setS w k (crry k e m (w.2.1 k))) ∧ Off 0 (K.tb + 9) h h' := by
  have hm8 : m ≤ 8 := by have := (hW.sec hk).2.2.2; have := ((hW.sec hk).1.inst e).2.1; omega
  obtain ⟨h', hR, r1, r2⟩ := c_carryLoop (z := z) d (N := m) hk e (by omega) m 0 w h (by omega) hW hv hm hl
  refine ⟨h', ?_, r1, r2⟩
  have h0 := hW.2.1
  obtain ⟨hS, hn⟩ := hW.sec hk
  have h8 := hn.2.2
  have q1 := hS.1
  have q2 := hW.q hk e
  have hA := c_sectionEndingAt (z := z) (d + 1) hW hk e
  have hB := c_inPhase (z := z) (d + 3) hS
  have hC := c_instrumentAt (z := z) (d + 3) hS hn e
  have hD := c_otherEnd (z := z) (d + 3) hS hn e
  obtain ⟨m', m1, m2, m3, hmm⟩ := cnB_f hcn
  have hmm := (nI_eq (by omega) (by omega)).mp hmm
  subst hmm
  have hr : nI m - nI m / nI 2 * nI 2 = 0 := by rw [pk_rem m2 (by omega) (by omega), m3]; rfl
  have hlen : ((w.2.1 k).at e).1.length ≤ K.t := (hS.inst e).2.1
  rw [hp] at hB
  refine mm_cal_of ?_
  refine ev_go at_27_0 rfl ?_
  refine ev_go at_27_1 rfl ?_
  refine ev_go at_27_2 rfl ?_
  refine ev_callV (as := [_, _]) at_27_3 rfl rfl (by simp [mm_wt, Value.category]) rfl (by assumption) hA ?_
  refine ev_go at_27_6 rfl ?_
  refine ev_go at_27_8 rfl ?_
  refine ev_ic (nI 2) at_27_9 (by decide) ?_
  refine ev_icmp_lt at_27_10 (fun hc => absurd hc (nI_nlt m1 m2)) (fun _ => ?_)
  refine ev_go at_27_13 rfl ?_
  refine ev_ic (nI 2) at_27_14 (by decide) ?_
  refine ev_irem at_27_15 (by decide) ?_
  refine ev_if_eq at_27_16 (fun _ => ?_) (fun hc => absurd hr hc)
  refine ev_go at_27_29 rfl ?_
  refine ev_callV (as := []) at_27_31 rfl rfl (by simp [mm_wt, Value.category]) rfl q1 hB ?_
  refine ev_ifb_ne at_27_34 (fun _ => ?_) (fun hc => nomatch hc)
  refine ev_go at_27_47 rfl ?_
  refine ev_go at_27_49 rfl ?_
  refine ev_callV (as := [_]) at_27_50 rfl rfl (by simp [mm_wt, Value.category]) rfl q1 hC ?_
  refine ev_go at_27_53 rfl ?_
  refine ev_go at_27_55 rfl ?_
  refine ev_get at_27_57 q2 rfl ?_
  refine ev_go at_27_60 rfl ?_
  refine ev_icmp_ge at_27_61 (fun _ => ?_) (fun hc => absurd (nI_le hm (by omega)) hc)
  refine ev_go at_27_74 rfl ?_
  refine ev_go at_27_76 rfl ?_
  refine ev_callV (as := [_]) at_27_77 rfl rfl (by simp [mm_wt, Value.category]) rfl q1 hD ?_
  refine ev_go at_27_80 rfl ?_
  refine ev_ic (nI 0) at_27_82 (by decide) ?_
  refine ev_go at_27_83 rfl ?_
  exact hR
end C7
