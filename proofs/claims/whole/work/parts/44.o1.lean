/-! ONE CALL: the class under its wrapper and the reference answer alike -/
def LB (K : Cf) (h : mm_H) (w : Cs) (m : Md) (c : Int32) (v : Int64) (T N W : Nat) : Prop := CW K h w ∧ MAt K (K.tb + 9) h c m ∧ Rel K w m T ∧ h[K.tb + 21]? = some (12, [.long v]) ∧ h.length ≤ N ∧ mm_w h ≤ W
def LW (K : Cf) (h : mm_H) (T N W : Nat) : Prop := ∃ w m c v, LB K h w m c v T N W
/-- behind both calls -/
def LF (z : mm_Z) (K : Cf) (h2 : mm_H) (kd : Int32) (vo : Int64) (T N W : Nat) : Prop := LW K h2 T N W ∧ h2[K.tb + 21]? = some (12, [.long vo]) ∧ (∃ fs, h2[K.tb + 9]? = some (4, fs)) ∧ mm_cal z 6 51 [.ref (K.tb + 9)] h2 (.returned (some (.int kd)), h2)
def OPv (z : mm_Z) (K : Cf) (h : mm_H) (T N W : Nat) (jw : Nat) (asw : List Value) (jm : Nat) (asm : List Value) : Prop :=
  ∃ kd h1 h2 vo, mm_cal z 6 jw asw h (.returned (some (.int kd)), h1) ∧ (∃ fs, h1[K.tb + 9]? = some (4, fs)) ∧ mm_cal z 6 jm asm h1 (.returned none, h2) ∧ LF z K h2 kd vo T N W
def OPi (z : mm_Z) (K : Cf) (h : mm_H) (T N W : Nat) (jw : Nat) (asw : List Value) (jm : Nat) (asm : List Value) : Prop :=
  ∃ kd h1 h2 vo v, mm_cal z 6 jw asw h (.returned (some (.int kd)), h1) ∧ (∃ fs, h1[K.tb + 9]? = some (4, fs)) ∧ mm_cal z 6 jm asm h1 (.returned (some (.int v)), h2) ∧ (kd = 0 → vo = v.toInt64) ∧ LF z K h2 kd vo T N W
def OPb (z : mm_Z) (K : Cf) (h : mm_H) (T N W : Nat) (jw : Nat) (asw : List Value) (jm : Nat) (asm : List Value) : Prop :=
  ∃ kd h1 h2 vo v, mm_cal z 6 jw asw h (.returned (some (.int kd)), h1) ∧ (∃ fs, h1[K.tb + 9]? = some (4, fs)) ∧ mm_cal z 6 jm asm h1 (.returned (some (.int (bI v))), h2) ∧ (kd = 0 → vo = if v then 1 else 0) ∧ LF z K h2 kd vo T N W
section O1
variable {z : mm_Z} {h h1 h2 : mm_H} {K : Cf} {w w1 : Cs} {m m2 : Md} {c kd : Int32} {v : Int64} {T N W : Nat} {jw jm : Nat} {asw asm : List Value}
theorem LF.of {T1 : Nat} (hW1 : CW K h1 w1) (hM2 : MAt K (K.tb + 9) h2 kd m2) (hR : Rel K w1 m2 T1) (o : Off (K.tb + 9) (K.tb + 9 + 12) h1 h2) (ho : h1[K.tb + 21]? = some (12, [.long v])) (hN : h1.length ≤ N) (hw : mm_w h1 ≤ W) : LF z K h2 kd v T1 N W := by
  have ho2 : h2[K.tb + 21]? = some (12, [.long v]) := by rw [o.2.2 _ (by omega)]; exact ho
  exact ⟨⟨w1, m2, kd, v, hW1.off o (by omega), hM2, hR, ho2, by rw [o.1]; exact hN, by rw [o.2.1]; exact hw⟩, ho2, ⟨_, hM2.2.1⟩, d_thrown 5 hM2⟩
theorem LB.xh (hB : LB K h w m c v T N W) (e : Nat) : LB K (xh h e) w m c v T (N + 1) (W + 6) := by
  obtain ⟨b1, b2, b3, b4, b5, b6⟩ := hB
  refine ⟨b1.app _, b2.app _, b3, app_at b4 _, by simp; omega, ?_⟩
  rw [mm_w_push]
  simp
  exact b6
theorem OPv.x (hB : LB K h w m c v T N W) {e : Nat} (hw : mm_cal z 6 jw asw h (.returned (some (.int kd)), xh h e)) (hm : MAt K (K.tb + 9) (xh h e) c m → ∃ h2, mm_cal z 6 jm asm (xh h e) (.returned none, h2) ∧ MAt K (K.tb + 9) h2 kd m ∧ Off (K.tb + 9) (K.tb + 9 + 12) (xh h e) h2) : OPv z K h (T + 8) (N + 1) (W + 6) jw asw jm asm := by
  obtain ⟨b1, b2, b3, b4, b5, b6⟩ := hB.xh e
  obtain ⟨h2, r1, r2, r3⟩ := hm b2
  exact ⟨kd, xh h e, h2, v, hw, ⟨_, b2.2.1⟩, r1, LF.of b1 r2 (b3.up (by omega)) r3 b4 b5 b6⟩
theorem OPi.x (hB : LB K h w m c v T N W) {e : Nat} {r : Int32} (hkd : kd ≠ 0) (hw : mm_cal z 6 jw asw h (.returned (some (.int kd)), xh h e)) (hm : MAt K (K.tb + 9) (xh h e) c m → ∃ h2, mm_cal z 6 jm asm (xh h e) (.returned (some (.int r)), h2) ∧ MAt K (K.tb + 9) h2 kd m ∧ Off (K.tb + 9) (K.tb + 9 + 12) (xh h e) h2) : OPi z K h (T + 8) (N + 1) (W + 6) jw asw jm asm := by
  obtain ⟨b1, b2, b3, b4, b5, b6⟩ := hB.xh e
  obtain ⟨h2, r1, r2, r3⟩ := hm b2
  exact ⟨kd, xh h e, h2, v, r, hw, ⟨_, b2.2.1⟩, r1, fun q => absurd q hkd, LF.of b1 r2 (b3.up (by omega)) r3 b4 b5 b6⟩
theorem OPb.x (hB : LB K h w m c v T N W) {e : Nat} {r : Bool} (hkd : kd ≠ 0) (hw : mm_cal z 6 jw asw h (.returned (some (.int kd)), xh h e)) (hm : MAt K (K.tb + 9) (xh h e) c m → ∃ h2, mm_cal z 6 jm asm (xh h e) (.returned (some (.int (bI r))), h2) ∧ MAt K (K.tb + 9) h2 kd m ∧ Off (K.tb + 9) (K.tb + 9 + 12) (xh h e) h2) : OPb z K h (T + 8) (N + 1) (W + 6) jw asw jm asm := by
  obtain ⟨b1, b2, b3, b4, b5, b6⟩ := hB.xh e
  obtain ⟨h2, r1, r2, r3⟩ := hm b2
  exact ⟨kd, xh h e, h2, v, r, hw, ⟨_, b2.2.1⟩, r1, fun q => absurd q hkd, LF.of b1 r2 (b3.up (by omega)) r3 b4 b5 b6⟩
theorem OPv.k (hB : LB K h w m c v T N W) (hW1 : CW K h1 w1) (o1 : Off 0 (K.tb + 9) h h1) (hw : mm_cal z 6 jw asw h (.returned (some (.int (nI 0))), h1)) (hm : MAt K (K.tb + 9) h1 c m → ∃ h2 m2, mm_cal z 6 jm asm h1 (.returned none, h2) ∧ MAt K (K.tb + 9) h2 (nI 0) m2 ∧ Rel K w1 m2 (T + 8) ∧ Off (K.tb + 9) (K.tb + 9 + 12) h1 h2) : OPv z K h (T + 8) (N + 1) (W + 6) jw asw jm asm := by
  obtain ⟨b1, b2, b3, b4, b5, b6⟩ := hB
  have b2' := b2.off o1 (by omega)
  obtain ⟨h2, m2, r1, r2, r3, r4⟩ := hm b2'
  exact ⟨nI 0, h1, h2, v, hw, ⟨_, b2'.2.1⟩, r1, LF.of hW1 r2 r3 r4 (by rw [o1.2.2 _ (by omega)]; exact b4) (by rw [o1.1]; omega) (by rw [o1.2.1]; omega)⟩
theorem OPi.k (hB : LB K h w m c v T N W) {r : Int32} (hW1 : CW K h1 w1) (o1 : Off 0 (K.tb + 9) h h1) (hw : h1[K.tb + 21]? = some (12, [.long v]) → mm_cal z 6 jw asw h (.returned (some (.int (nI 0))), mm_upd h1 (K.tb + 21) 0 (.long r.toInt64))) (hm : ∀ h', MAt K (K.tb + 9) h' c m → ∃ h2 m2, mm_cal z 6 jm asm h' (.returned (some (.int r)), h2) ∧ MAt K (K.tb + 9) h2 (nI 0) m2 ∧ Rel K w1 m2 (T + 8) ∧ Off (K.tb + 9) (K.tb + 9 + 12) h' h2) : OPi z K h (T + 8) (N + 1) (W + 6) jw asw jm asm := by
  obtain ⟨b1, b2, b3, b4, b5, b6⟩ := hB
  have b2' := b2.off o1 (by omega)
  have b4' : h1[K.tb + 21]? = some (12, [.long v]) := by rw [o1.2.2 _ (by omega)]; exact b4
  have o2 : Off (K.tb + 21) (K.tb + 22) h1 (mm_upd h1 (K.tb + 21) 0 (.long r.toInt64)) := Off.upd (Nat.le_refl _) (by omega)
  have b2'' := b2'.off o2 (by omega)
  obtain ⟨h2, m2, r1, r2, r3, r4⟩ := hm _ b2''
  exact ⟨nI 0, _, h2, r.toInt64, r, hw b4', ⟨_, b2''.2.1⟩, r1, fun _ => rfl, LF.of (hW1.off o2 (by omega)) r2 r3 r4 (by rw [mm_upd_at b4']; rfl) (by rw [o2.1, o1.1]; omega) (by rw [o2.2.1, o1.2.1]; omega)⟩
theorem OPb.k (hB : LB K h w m c v T N W) {r : Bool} (hW1 : CW K h1 w1) (o1 : Off 0 (K.tb + 9) h h1) (hw : h1[K.tb + 21]? = some (12, [.long v]) → mm_cal z 6 jw asw h (.returned (some (.int (nI 0))), mm_upd h1 (K.tb + 21) 0 (.long (if r then 1 else 0)))) (hm : ∀ h', MAt K (K.tb + 9) h' c m → ∃ h2 m2, mm_cal z 6 jm asm h' (.returned (some (.int (bI r))), h2) ∧ MAt K (K.tb + 9) h2 (nI 0) m2 ∧ Rel K w1 m2 (T + 8) ∧ Off (K.tb + 9) (K.tb + 9 + 12) h' h2) : OPb z K h (T + 8) (N + 1) (W + 6) jw asw jm asm := by
  obtain ⟨b1, b2, b3, b4, b5, b6⟩ := hB
  have b2' := b2.off o1 (by omega)
  have b4' : h1[K.tb + 21]? = some (12, [.long v]) := by rw [o1.2.2 _ (by omega)]; exact b4
  have o2 : Off (K.tb + 21) (K.tb + 22) h1 (mm_upd h1 (K.tb + 21) 0 (.long (if r then 1 else 0))) := Off.upd (Nat.le_refl _) (by omega)
  have b2'' := b2'.off o2 (by omega)
  obtain ⟨h2, m2, r1, r2, r3, r4⟩ := hm _ b2''
  exact ⟨nI 0, _, h2, (if r then 1 else 0), r, hw b4', ⟨_, b2''.2.1⟩, r1, fun _ => rfl, LF.of (hW1.off o2 (by omega)) r2 r3 r4 (by rw [mm_upd_at b4']; rfl) (by rw [o2.1, o1.1]; omega) (by rw [o2.2.1, o1.2.1]; omega)⟩
theorem op_plunge (hL : LW K h T N W) (b s : Int32) (x : Bool) : OPv z K h (T + 8) (N + 1) (W + 6) 86 [.ref 0, .int b, .int s, .int (bI x)] 52 [.ref (K.tb + 9), .int b, .int s, .int (bI x)] := by
  obtain ⟨w, m, c, v, hB⟩ := hL
  have hW := hB.1
  cases hed : edB K s b with
  | false => exact OPv.x hB (w_plunge_x0 hW.2.1 (x_plunge 1 hW hed _)) fun hM => y_plunge 3 hM hed _
  | true =>
    obtain ⟨k, e, hk, rfl, rfl⟩ := edB_t hW.1 hed
    obtain ⟨h1, hC, hW1, o1⟩ := c_plunge (z := z) 1 hW hk e x
    refine OPv.k hB hW1 o1 (w_plunge hW.2.1 hC) fun hM => ?_
    obtain ⟨h2, r1, r2, r3⟩ := e_plunge (z := z) 3 hM hk e x
    exact ⟨h2, _, r1, r2, (hB.2.2.1.plunge hk e x).up (by omega), r3⟩
theorem op_wire (hL : LW K h T N W) (s : Int32) (x : Bool) : OPv z K h (T + 8) (N + 1) (W + 6) 87 [.ref 0, .int s, .int (bI x)] 59 [.ref (K.tb + 9), .int s, .int (bI x)] := by
  obtain ⟨w, m, c, v, hB⟩ := hL
  have hW := hB.1
  cases hed : scB K s with
  | false => exact OPv.x hB (w_wire_x0 hW.2.1 (x_wire 2 hW hed _)) fun hM => y_wire 4 hM hed _
  | true =>
    obtain ⟨k, hk, rfl⟩ := scB_t hW.1 hed
    obtain ⟨h1, hC, hW1, o1⟩ := c_wire (z := z) 2 hW hk x
    refine OPv.k hB hW1 o1 (w_wire hW.2.1 hC) fun hM => ?_
    obtain ⟨h2, r1, r2, r3⟩ := e_wire (z := z) 4 hM hk x
    exact ⟨h2, _, r1, r2, (hB.2.2.1.wire hk x).up (by omega), r3⟩
theorem ph_iff (hR : Rel K w m T) {k : Nat} (hk : K.ex k = true) : ((w.2.1 k).1.2.1 == (w.2.1 k).2.1.2.1) = true ↔ ∀ j, j < K.t → m.pl (8 * k + j) < 2 := by
  obtain ⟨a1, a2, a3, a4, a5, a6⟩ := hR.2.2.2.1 k hk
  rcases a6 with x | ⟨x, j, y1, y2, y3⟩
  · exact ⟨fun _ => x.2, fun _ => x.1⟩
  · exact ⟨fun y => (by rw [x] at y; exact nomatch y), fun y => (by have := y j y1; omega)⟩
theorem lk_eq (hR : Rel K w m T) {k : Nat} (hk : K.ex k = true) : lkB K w k = lmB m k := by
  have hK := hR.1
  have hn := hK.2.1
  obtain ⟨-, n2, n3, n4, n5, n6⟩ := Cf.no hK hk
  unfold lkB lmB
  by_cases h10 : k < 10
  · have := n5 h10
    rw [if_pos h10, if_pos h10, show lo k = k from if_pos h10, show up k = k + 1 from if_pos h10, hR.2.2.1.1 k (by omega), hR.2.2.1.1 (k + 1) (by omega)]
  · have := n6 (by omega)
    rw [if_neg h10, if_neg h10, hR.2.2.1.1 (k - 10) (by omega)]
theorem tk_eq (hR : Rel K w m T) {k : Nat} (hk : K.ex k = true) (e : Bool) {q : List Nat} (hq : ((w.2.1 k).at e).1 = q.map (k * 100 + ·)) : tkN K w k e = tkB (m.hd (2 * k + eN (!e))) (!m.bk k) ((w.2.1 k).1.2.1 == (w.2.1 k).2.1.2.1) (decide (q = [])) (lmB m k) := by
  obtain ⟨a1, a2, a3, a4, a5, a6⟩ := hR.2.2.2.1 k hk
  unfold tkN tkB
  rw [a2, a1, Bool.not_not, lk_eq hR hk, hq]
  by_cases hx : q = []
  · rw [if_pos (by rw [hx]; rfl : q.map (k * 100 + ·) = []), if_pos (decide_eq_true hx)]
  · rw [if_neg (by simpa using hx : ¬ q.map (k * 100 + ·) = []), if_neg (show ¬ decide (q = []) = true by rw [decide_eq_false hx]; decide)]
theorem tkB_none {hd wi ph em lk : Bool} (h : tkB hd wi ph em lk = none) : hd = true ∧ wi = true ∧ ph = true ∧ em = false ∧ lk = false := by
  cases hd <;> cases wi <;> cases ph <;> cases em <;> cases lk <;> first | exact ⟨rfl, rfl, rfl, rfl, rfl⟩ | cases h
theorem op_take (hL : LW K h T N W) (hT : T + 8 < 2 ^ 30) (b s : Int32) : OPi z K h (T + 8) (N + 1) (W + 6) 88 [.ref 0, .int b, .int s, .ref (K.tb + 21)] 60 [.ref (K.tb + 9), .int b, .int s] := by
  obtain ⟨w, m, c, v, hB⟩ := hL
  have hW := hB.1
  have hR := hB.2.2.1
  cases hed : edB K s b with
  | false => exact OPi.x hB (by decide) (w_take_x0 hW.2.1 (x_take 1 hW hed)) fun hM => y_take 3 hM hed
  | true =>
    obtain ⟨k, e, hk, rfl, rfl⟩ := edB_t hW.1 hed
    obtain ⟨a1, a2, a3, a4, a5, a6⟩ := hR.2.2.2.1 k hk
    obtain ⟨q, y1, y2, y3⟩ := a5 e
    have htk := tk_eq hR hk e y1
    cases hn : tkN K w k e with
    | some r =>
      have hC := c_takeNo (z := z) 1 hW hk e hn
      rw [hn] at htk
      refine OPi.k hB hW Off.rfl (fun ho => w_take hW.2.1 ho hC) fun h' hM => ?_
      obtain ⟨h2, r1, r2, r3⟩ := e_takeNo (z := z) 3 hM hk e (hR.mb (by omega)) y2 y3 (ph_iff hR hk) rfl htk.symm
      exact ⟨h2, m, r1, r2, hR.up (by omega), r3⟩
    | none =>
      rw [hn] at htk
      obtain ⟨z1, z2, z3, z4, z5⟩ := tkB_none htk.symm
      have hne : q ≠ [] := of_decide_eq_false z4
      obtain ⟨q0, i0, hq⟩ : ∃ q0 i0, q = q0 ++ [i0] := ⟨q.dropLast, q.getLast hne, (List.dropLast_concat_getLast hne).symm⟩
      subst hq
      have hi0 := ((y2 i0).mp (by simp)).1
      have hq2 : ((w.2.1 k).at e).1 = q0.map (k * 100 + ·) ++ [k * 100 + i0] := by rw [y1, List.map_append]; rfl
      obtain ⟨h1, hC, hW1, o1⟩ := c_takeYes (z := z) 1 hW hk e hn hq2 hi0
      refine OPi.k hB hW1 o1 (fun ho => w_take hW.2.1 ho hC) fun h' hM => ?_
      obtain ⟨h2, r1, r2, r3⟩ := e_takeYes (z := z) 3 hM hk e (hR.mb (by omega)) y2 y3 ((ph_iff hR hk).mp z3) z1 (by simpa using z2) z5
      exact ⟨h2, _, r1, r2, (hR.take hk e y1 y2 y3 z3).up (by omega), r3⟩
theorem pile_lt (hR : Rel K w m T) {k i : Nat} (hk : K.ex k = true) (e : Bool) (hi : i < K.t) (hv : m.pl (8 * k + i) ≠ eN e) : ((w.2.1 k).at e).1.length < K.t := by
  obtain ⟨q, y1, y2, y3⟩ := (hR.2.2.2.1 k hk).2.2.2.2.1 e
  have hni : i ∉ q := fun x => hv ((y2 i).mp x).2
  have := nodup_le K.t (i :: q) (List.nodup_cons.mpr ⟨hni, nd_of y3⟩) (fun x hx => by
    rcases List.mem_cons.mp hx with h | h
    · rw [h]; exact hi
    · exact ((y2 x).mp h).1)
  rw [y1, List.length_map]
  simp at this
  omega
theorem tab_at (hR : Rel K w m T) {j k i : Nat} (hj : j < 8) (hk : K.ex k = true) (hi : i < K.t) (hv : m.pl (8 * k + i) = 20 + j) : (w.2.2 j).2.2.2.2 = some (k * 100 + i) := by
  have h15 := (Cf.no hR.1 hk).1.1
  have h8 := hR.1.2.2.2.1
  obtain ⟨t1, t2, tab, t3, t4, t5⟩ := hR.2.2.2.2 j hj
  rw [t5, (t3 (8 * k + i) (by omega)).mp hv]
  show some ((8 * k + i) / 8 * 100 + (8 * k + i) % 8) = _
  rw [show (8 * k + i) / 8 = k by omega, show (8 * k + i) % 8 = i by omega]
theorem op_give (hL : LW K h T N W) (b s x : Int32) : OPv z K h (T + 8) (N + 1) (W + 6) 89 [.ref 0, .int b, .int s, .int x] 65 [.ref (K.tb + 9), .int b, .int s, .int x] := by
  obtain ⟨w, m, c, v, hB⟩ := hL
  have hW := hB.1
  have hR := hB.2.2.1
  have hK := hW.1
  by_cases h0 : edB K s b = false ∨ tbB K x = false ∨ x / nI 100 ≠ s
  · exact OPv.x hB (w_give_x0 hW.2.1 (x_give0 0 hW h0)) fun hM => y_give0 3 hM h0
  · have hed : edB K s b = true := by
      cases q : edB K s b with
      | true => rfl
      | false => exact absurd (Or.inl q) h0
    have htb : tbB K x = true := by
      cases q : tbB K x with
      | true => rfl
      | false => exact absurd (Or.inr (Or.inl q)) h0
    have hds : x / nI 100 = s := Decidable.not_not.mp fun q => h0 (Or.inr (Or.inr q))
    obtain ⟨k, e, hk, rfl, rfl⟩ := edB_t hK hed
    obtain ⟨k', i, hk', hi, rfl⟩ := tbB_t hK htb
    have h15 := (Cf.no hK hk).1.1
    have h15' := (Cf.no hK hk').1.1
    have h8 := hK.2.2.2.1
    have hkk : k' = k := by
      rw [pk_div (by omega) (by omega) (by omega), show (k' * 100 + i) / 100 = k' by omega] at hds
      exact (nI_eq (by omega) (by omega)).mp hds
    subst hkk
    obtain ⟨a1, a2, a3, a4, a5, a6⟩ := hR.2.2.2.1 k' hk
    have hp := a4 i hi
    obtain ⟨e1, e2⟩ := eb_lt hK hk e
    have he2 := eN_lt e
    have h28 := hR.2.1.1 (8 * k' + i)
    by_cases hh : m.pl (8 * k' + i) = 10 + eb k' e
    · have hpl := pile_lt hR hk e hi (by omega)
      rw [hh] at hp
      obtain ⟨h1, hC, hW1, o1⟩ := c_giveH (z := z) 0 hW hk e hp hpl
      refine OPv.k hB hW1 o1 (w_give hW.2.1 hC) fun hM => ?_
      obtain ⟨h2, r1, r2, r3⟩ := e_give (z := z) 3 hM hk e hi hh (by omega) (Or.inl rfl)
      exact ⟨h2, _, r1, r2, (hR.giveH hk e hi hh (by omega) (by omega)).up (by omega), r3⟩
    · by_cases h20 : m.pl (8 * k' + i) < 20
      · exact OPv.x hB (w_give_x1 hW.2.1 (x_give1 0 hW hk e hp h28 hh fun j _ hj => by omega)) fun hM => y_give1 3 hM hk e hi rfl h28 hh fun j hj => by omega
      · obtain ⟨j, hj⟩ : ∃ j, m.pl (8 * k' + i) = 20 + j := ⟨m.pl (8 * k' + i) - 20, by omega⟩
        have hj8 : j < 8 := by omega
        obtain ⟨t1, t2, t3⟩ := hR.2.2.2.2 j hj8
        have htab := tab_at hR hj8 hk hi hj
        have hpl := pile_lt hR hk e hi (by omega)
        rcases t2 with ⟨u, u2⟩ | ⟨c', u1, u2, u3, u4, u5, u6, u7⟩ | ⟨s', e', u1, u2, u3, u4, u5, u6, u7⟩
        · rw [u] at htab; cases htab
        · by_cases hbx : c' = eb k' e
          · subst hbx
            have hp' := hp
            rw [hj] at hp'
            obtain ⟨h1, hC, hW1, o1⟩ := c_giveT (z := z) (b := 0) 0 hW hk e hp' hj8 u3 hpl
            refine OPv.k hB hW1 o1 (w_give hW.2.1 hC) fun hM => ?_
            obtain ⟨h2, r1, r2, r3⟩ := e_give (z := z) 3 hM hk e hi hj (by omega) (Or.inr ⟨j, hj8, rfl, u6, u7⟩)
            exact ⟨h2, _, r1, r2, (hR.giveT hk e hi hj8 hj).up (by omega), r3⟩
          · have hn6 := hK.2.1
            refine OPv.x hB (w_give_x1 hW.2.1 (x_give1 0 hW hk e hp h28 hh fun j' _ hj' b' hb' => ?_)) fun hM => y_give1 3 hM hk e hi rfl h28 hh fun j' hj' => ?_
            · have : j' = j := by omega
              subst this
              rw [u3] at hb'
              cases hb'
              exact ⟨by omega, hbx⟩
            · have : j' = j := by omega
              subst this
              exact ⟨by omega, fun s' hs' => (by rw [u6] at hs'; cases hs'), fun _ => by rw [u7]; exact hbx⟩
        · have hs15 := (Cf.no hK u1).1.1
          obtain ⟨e3, e4⟩ := eb_lt hK u1 e'
          refine OPv.x hB (w_give_x1 hW.2.1 (x_give1 0 hW hk e hp h28 hh fun j' _ hj' b' hb' => ?_)) fun hM => y_give1 3 hM hk e hi rfl h28 hh fun j' hj' => ?_
          · have : j' = j := by omega
            subst this
            rw [u3] at hb'
            cases hb'
          · have : j' = j := by omega
            subst this
            exact ⟨by omega, fun s'' hs' => by rw [u6] at hs'; cases hs'; omega, fun q => by rw [u6] at q; cases q⟩
end O1
