/-! ONE CALL (2) -/
section O2
variable {z : mm_Z} {h : mm_H} {K : Cf} {w : Cs} {m : Md} {T N W : Nat}
theorem km_kn (hR : Rel K w m T) (i : Int32) : kmB m i = knB w i := by
  unfold kmB knB
  cases ht : tnB i with
  | false => rfl
  | true =>
    obtain ⟨k, hk, rfl⟩ := tnB_t ht
    rw [nI_clamp (by omega), (hR.2.2.2.2 k hk).1]
theorem or_f {a b : Bool} (h : ¬ (a = false ∨ b = false)) : a = true ∧ b = true := by
  cases a
  · exact absurd (Or.inl rfl) h
  · cases b
    · exact absurd (Or.inr rfl) h
    · exact ⟨rfl, rfl⟩
theorem op_train (hL : LW K h T N W) (i b : Int32) : OPv z K h (T + 8) (N + 1) (W + 6) 90 [.ref 0, .int i, .int b] 68 [.ref (K.tb + 9), .int i, .int b] := by
  obtain ⟨w, m, c, v, hB⟩ := hL
  have hW := hB.1
  have hR := hB.2.2.1
  have hn6 := hW.1.2.1
  by_cases h0 : tnB i = false ∨ bxB K.n b = false
  · exact OPv.x hB (w_train_x0 hW.2.1 (x_train0 2 hW h0)) fun hM => y_train0 4 hM h0
  · obtain ⟨h1, h2⟩ := or_f h0
    obtain ⟨i, hi, rfl⟩ := tnB_t h1
    obtain ⟨b, hb, rfl⟩ := bxB_t (by omega) h2
    have hkm := (hR.2.2.2.2 i hi).1
    cases hkn : (w.2.2 i).1 with
    | true =>
      rw [hkn] at hkm
      exact OPv.x hB (w_train_x1 hW.2.1 (x_train1 2 hW hi hb hkn)) fun hM => y_train1 4 hM hi hb hkm
    | false =>
      rw [hkn] at hkm
      obtain ⟨h1, hC, hW1, o1⟩ := c_train (z := z) 2 hW hi hb hkn
      refine OPv.k hB hW1 o1 (w_train hW.2.1 hC) fun hM => ?_
      obtain ⟨h2, r1, r2, r3⟩ := e_train (z := z) 4 hM hi hb hkm
      exact ⟨h2, _, r1, r2, (hR.train hi hb hkn).up (by omega), r3⟩
/-- what is known of a train's tablet -/
theorem tb_facts (hR : Rel K w m T) {i : Nat} (hi : i < 8) : ∃ tab, Ab m i tab ∧ (∀ k, tab = some k → k < 120) ∧ (∀ k, tab = some k → K.ex (k / 8) = true ∧ k % 8 < K.t) ∧ (w.2.2 i).2.2.2.2 = tab.map (fun k => k / 8 * 100 + k % 8) ∧ (∀ y, (w.2.2 i).2.2.2.2 = some y → y < 10000) := by
  obtain ⟨tab, t3, t4, t5⟩ := (hR.2.2.2.2 i hi).2.2
  refine ⟨tab, t3, fun k hk => (t4 k hk).1, fun k hk => (t4 k hk).2, t5, fun y hy => ?_⟩
  rw [t5] at hy
  cases tab with
  | none => cases hy
  | some k =>
    have := (t4 k rfl).1
    cases hy
    show k / 8 * 100 + k % 8 < 10000
    omega
theorem op_hand (hL : LW K h T N W) (hT : T + 8 < 2 ^ 30) (i x : Int32) : OPv z K h (T + 8) (N + 1) (W + 6) 91 [.ref 0, .int i, .int x] 69 [.ref (K.tb + 9), .int i, .int x] := by
  obtain ⟨w, m, c, v, hB⟩ := hL
  have hW := hB.1
  have hR := hB.2.2.1
  have hK := hW.1
  have hn6 := hK.2.1
  by_cases h0 : knB w i = false ∨ tbB K x = false
  · refine OPv.x hB (w_hand_x0 hW.2.1 (x_hand0 1 hW h0)) fun hM => y_hand0 3 hM ?_
    rw [km_kn hR]; exact h0
  · obtain ⟨h1, h2⟩ := or_f h0
    obtain ⟨i, hi, rfl, hkn⟩ := knB_t h1
    obtain ⟨k, j, hk, hj, rfl⟩ := tbB_t hK h2
    obtain ⟨t1, t2, -⟩ := hR.2.2.2.2 i hi
    obtain ⟨tab, f1, f2, f3, f4, f5⟩ := tb_facts hR hi
    have hp := (hR.2.2.2.1 k hk).2.2.2.1 j hj
    have h28 := hR.2.1.1 (8 * k + j)
    have hkm : m.kn i = true := t1.trans hkn
    rcases t2 with ⟨u, u2⟩ | ⟨b, u1, u2, u3, u4, u5, u6, u7⟩ | ⟨s', e', u1, u2, u3, u4, u5, u6, u7⟩
    · rw [u] at hkn; cases hkn
    · by_cases hgo : m.pl (8 * k + j) = 10 + b ∧ (w.2.2 i).2.2.2.2 = none
      · obtain ⟨g1, g2⟩ := hgo
        have htn : tab = none := by
          rw [g2] at f4
          cases tab with
          | none => rfl
          | some y => cases f4
        rw [htn] at f1
        rw [g1] at hp
        obtain ⟨h1, hC, hW1, o1⟩ := c_hand (z := z) 1 hW hi hkn u3 (by omega) hk hp g2
        refine OPv.k hB hW1 o1 (w_hand hW.2.1 hC) fun hM => ?_
        obtain ⟨h2, r1, r2, r3⟩ := e_hand (z := z) 3 hM (hR.mb (by omega)) hi hkm hk hj f1 u6 (by rw [u7]; exact g1)
        exact ⟨h2, _, r1, r2, (hR.hand hk hj hi hkn u3 g1 (by omega) g2).up (by omega), r3⟩
      · refine OPv.x hB (w_hand_x1 hW.2.1 (x_hand1 1 hW hi hkn hk hp (by omega) (fun b' hb' => by rw [u3] at hb'; cases hb'; omega) f5 fun q => hgo ⟨?_, q.2⟩)) fun hM => y_hand1 3 hM (hR.mb (by omega)) hi hkm hk hj f1 f2 (by omega) (fun s hs => by rw [u6] at hs; cases hs) fun q => hgo ⟨by rw [← u7]; exact q.2.1, by rw [f4, q.2.2]; rfl⟩
        have q1 := q.1
        rw [u3] at q1
        exact (Option.some.inj q1).symm
    · have hs15 := (Cf.no hK u1).1.1
      obtain ⟨e3, e4⟩ := eb_lt hK u1 e'
      exact OPv.x hB (w_hand_x1 hW.2.1 (x_hand1 1 hW hi hkn hk hp (by omega) (fun b' hb' => by rw [u3] at hb'; cases hb') f5 fun q => by have q1 := q.1; rw [u3] at q1; cases q1)) fun hM => y_hand1 3 hM (hR.mb (by omega)) hi hkm hk hj f1 f2 (by omega) (fun s hs => by rw [u6] at hs; cases hs; omega) fun q => by rw [u6] at q; cases q.1
theorem op_back (hL : LW K h T N W) (hT : T + 8 < 2 ^ 30) (i : Int32) : OPi z K h (T + 8) (N + 1) (W + 6) 92 [.ref 0, .int i, .ref (K.tb + 21)] 72 [.ref (K.tb + 9), .int i] := by
  obtain ⟨w, m, c, v, hB⟩ := hL
  have hW := hB.1
  have hR := hB.2.2.1
  have hK := hW.1
  have hn6 := hK.2.1
  cases hkn0 : knB w i with
  | false =>
    refine OPi.x hB (by decide) (w_back_x0 hW.2.1 (x_back0 1 hW hkn0)) fun hM => y_back0 4 hM ?_
    rw [km_kn hR]; exact hkn0
  | true =>
    obtain ⟨i, hi, rfl, hkn⟩ := knB_t hkn0
    obtain ⟨t1, t2, -⟩ := hR.2.2.2.2 i hi
    obtain ⟨tab, f1, f2, f3, f4, f5⟩ := tb_facts hR hi
    have hkm : m.kn i = true := t1.trans hkn
    rcases t2 with ⟨u, u2⟩ | ⟨b, u1, u2, u3, u4, u5, u6, u7⟩ | ⟨s', e', u1, u2, u3, u4, u5, u6, u7⟩
    · rw [u] at hkn; cases hkn
    · cases tab with
      | none => exact OPi.x hB (by decide) (w_back_x1 hW.2.1 (x_back1 1 hW hi hkn f5 (Or.inl f4))) fun hM => y_back1 4 hM (hR.mb (by omega)) hi hkm f1 f2 (fun s hs => by rw [u6] at hs; cases hs) (Or.inl rfl)
      | some y =>
        have hy := f2 y rfl
        obtain ⟨hk, hj⟩ := f3 y rfl
        have hyy : 8 * (y / 8) + y % 8 = y := by omega
        have hpl : m.pl y = 20 + i := (f1 y hy).mpr rfl
        obtain ⟨h1, hC, hW1, o1⟩ := c_back (z := z) 1 hW hi hkn u3 (by omega) hk hj f4
        refine OPi.k hB hW1 o1 (fun ho => w_back hW.2.1 ho hC) fun h' hM => ?_
        obtain ⟨h2, r1, r2, r3⟩ := e_back (z := z) 4 hM (hR.mb (by omega)) hi hkm f1 hy u6
        rw [Nat.mul_comm 100] at r1
        have hRb := hR.back hk hj hi hkn u3 (by omega) (by rw [hyy]; exact hpl)
        rw [hyy] at hRb
        rw [u7] at r2
        exact ⟨h2, _, r1, r2, hRb.up (by omega), r3⟩
    · have hs15 := (Cf.no hK u1).1.1
      exact OPi.x hB (by decide) (w_back_x1 hW.2.1 (x_back1 1 hW hi hkn f5 (Or.inr u3))) fun hM => y_back1 4 hM (hR.mb (by omega)) hi hkm f1 f2 (fun s hs => by rw [u6] at hs; cases hs; omega) (Or.inr (by rw [u6]; exact fun q => nomatch q))
theorem go_on (hW : CW K h w) (hR : Rel K w m T) {b : Nat} (hb : b < K.n) (u : Bool) :
    (∃ gl : Int32, bxB K.n gl = false ∧ mm_cal z 4 20 [.ref 0, .int (nI b), .int (bI u)] h (.returned (some (.int gl)), h) ∧ (if u then K.n ≤ b + 1 else b = 0)) ∨
    ∃ nb gl s e, nb < K.n ∧ gl < K.n ∧ s < 100 ∧ (if u then nb = b + 1 else b = nb + 1) ∧ s = (if m.io nb then 10 + nb else if u then b else nb) ∧ mm_cal z 4 20 [.ref 0, .int (nI b), .int (bI u)] h (.returned (some (.int (nI gl))), h) ∧ mm_cal z 4 21 [.int (nI b), .int (nI gl)] h (.returned (some (.int (nI s))), h) ∧ b = eb s e ∧ gl = eb s (!e) := by
  have hK := hW.1
  have hn6 := hK.2.1
  cases u with
  | true =>
    have hN := c_nextUp (z := z) 1 hW hb
    by_cases hb1 : b + 1 < K.n
    · right
      rw [decide_eq_true hb1, Bool.true_and] at hN
      have hio := hR.2.2.1.1 (b + 1) (by omega)
      cases ho : w.1 (b + 1) with
      | true =>
        rw [ho] at hN hio
        obtain ⟨-, -, -, z1⟩ := Cf.around hK (hR.2.2.1.2 (b + 1) ho).1
        have hB := c_betweenUp (z := z) (h := h) 3 (a := b) (c := b + 2) (by omega) (by omega)
        rw [if_neg (by omega : ¬ b + 2 = b + 1)] at hB
        refine ⟨b + 1, b + 2, b + 11, false, hb1, by omega, by omega, rfl, by rw [hio]; show b + 11 = 10 + (b + 1); omega, hN, hB, ?_, ?_⟩
        · show b = lo (b + 11)
          unfold lo; rw [if_neg (by omega)]; omega
        · show b + 2 = up (b + 11)
          unfold up; rw [if_neg (by omega)]; omega
      | false =>
        rw [ho] at hN hio
        have hB := c_betweenUp (z := z) (h := h) 3 (a := b) (c := b + 1) (by omega) (by omega)
        rw [if_pos rfl] at hB
        refine ⟨b + 1, b + 1, b, false, hb1, by omega, by omega, rfl, by rw [hio]; rfl, hN, hB, ?_, ?_⟩
        · show b = lo b
          unfold lo; rw [if_pos (by omega)]
        · show b + 1 = up b
          unfold up; rw [if_pos (by omega)]
    · left
      rw [decide_eq_false hb1, Bool.false_and] at hN
      exact ⟨nI (b + 1), by rw [bxB_nI (by omega) (by omega)]; exact decide_eq_false hb1, hN, Nat.not_lt.mp hb1⟩
  | false =>
    cases b with
    | zero =>
      left
      exact ⟨-1, by unfold bxB; rw [decide_eq_false (by decide : ¬ ¬ (-1 : Int32) < 0)]; rfl, c_nextOff (z := z) 1 hW, rfl⟩
    | succ nb =>
      right
      have hio := hR.2.2.1.1 nb (by omega)
      have hout : w.1 nb = true → 1 ≤ nb ∧ nb + 1 < K.n := fun q => by
        obtain ⟨-, -, z0, z1⟩ := Cf.around hK (hR.2.2.1.2 nb q).1
        exact ⟨z0, z1⟩
      have hN := c_nextDown (z := z) 1 hW hb fun q => (hout q).1
      cases ho : w.1 nb with
      | true =>
        rw [ho] at hN hio
        obtain ⟨z0, z1⟩ := hout ho
        have hB := c_betweenDown (z := z) (h := h) 3 (a := nb + 1) (c := nb - 1) (by omega) (by omega)
        rw [if_neg (by omega : ¬ nb + 1 = nb - 1 + 1), show nb - 1 + 11 = 10 + nb by omega] at hB
        refine ⟨nb, nb - 1, 10 + nb, true, by omega, by omega, by omega, rfl, by rw [hio]; rfl, hN, hB, ?_, ?_⟩
        · show nb + 1 = up (10 + nb)
          unfold up; rw [if_neg (by omega)]; omega
        · show nb - 1 = lo (10 + nb)
          unfold lo; rw [if_neg (by omega)]; omega
      | false =>
        rw [ho] at hN hio
        have hB := c_betweenDown (z := z) (h := h) 3 (a := nb + 1) (c := nb) (by omega) (by omega)
        rw [if_pos rfl] at hB
        refine ⟨nb, nb, nb, true, by omega, by omega, by omega, rfl, by rw [hio]; rfl, hN, hB, ?_, ?_⟩
        · show nb + 1 = up nb
          unfold up; rw [if_pos (by omega)]
        · show nb = lo nb
          unfold lo; rw [if_pos (by omega)]
theorem op_enter (hL : LW K h T N W) (hT : T + 8 < 2 ^ 30) (i : Int32) (u : Bool) : OPi z K h (T + 8) (N + 1) (W + 6) 93 [.ref 0, .int i, .int (bI u), .ref (K.tb + 21)] 73 [.ref (K.tb + 9), .int i, .int (bI u)] := by
  obtain ⟨w, m, c, v, hB⟩ := hL
  have hW := hB.1
  have hR := hB.2.2.1
  have hK := hW.1
  have hn6 := hK.2.1
  cases hkn0 : knB w i with
  | false =>
    refine OPi.x hB (by decide) (w_enter_x0 hW.2.1 (x_enter0 1 hW hkn0)) fun hM => y_enter0 3 hM ?_
    rw [km_kn hR]; exact hkn0
  | true =>
    obtain ⟨i, hi, rfl, hkn⟩ := knB_t hkn0
    obtain ⟨t1, t2, -⟩ := hR.2.2.2.2 i hi
    obtain ⟨tab, f1, f2, f3, f4, f5⟩ := tb_facts hR hi
    have hkm : m.kn i = true := t1.trans hkn
    rcases t2 with ⟨u0, u2⟩ | ⟨b, u1, u2, u3, u4, u5, u6, u7⟩ | ⟨s', e', u1, u2, u3, u4, u5, u6, u7⟩
    · rw [u0] at hkn; cases hkn
    · rcases go_on (z := z) hW hR u1 u with ⟨gl, g1, g2, g3⟩ | ⟨nb, gl, s, e, g1, g2, g3, g4, g5, g6, g7, g8, g9⟩
      · exact OPi.x hB (by decide) (w_enter_x2 hW.2.1 (x_enter2 1 hW hi hkn u3 (by omega) g1 g2)) fun hM => y_enter2 3 hM hi hkm u6 u7 u1 g3
      · by_cases hgo : ∃ y, tab = some y ∧ y / 8 = s
        · obtain ⟨y, rfl, hys⟩ := hgo
          have hy := f2 y rfl
          obtain ⟨hk, hj⟩ := f3 y rfl
          have hf4 : (w.2.2 i).2.2.2.2 = some (s * 100 + y % 8) := by rw [f4, ← hys]; rfl
          obtain ⟨h1, hC, hW1, o1⟩ := c_enter (z := z) 1 hW hi hkn u3 (by omega) g2 g3 (m := y % 8) (by omega) hf4 g6 g7
          refine OPi.k hB hW1 o1 (fun ho => w_enter hW.2.1 ho hC) fun h' hM => ?_
          obtain ⟨h2, r1, r2, r3⟩ := e_enter (z := z) 3 hM (hR.mb (by omega)) hi hkm u6 u7 u1 g4 g1 g5 f1 hy hys
          have hRe := hR.enter (s := s) e hi (by rw [← hys]; exact hk) hkn hf4 (by rw [u7]; exact g8)
          rw [← g9] at hRe
          exact ⟨h2, _, r1, r2, hRe.up (by omega), r3⟩
        · refine OPi.x hB (by decide) (w_enter_x3 hW.2.1 (x_enter3 1 hW hi hkn u3 (by omega) g2 g3 (fun x hx => ⟨f5 x hx, fun q => hgo ?_⟩) g6 g7)) fun hM => y_enter3 3 hM (hR.mb (by omega)) hi hkm u6 u7 u1 g4 g1 g5 f1 f2 fun k hk q => hgo ⟨k, hk, q⟩
          rw [f4] at hx
          cases tab with
          | none => cases hx
          | some y =>
            have hy := f2 y rfl
            refine ⟨y, rfl, ?_⟩
            cases hx
            have q' : (y / 8 * 100 + y % 8) / 100 = s := q
            omega
    · have hs15 := (Cf.no hK u1).1.1
      exact OPi.x hB (by decide) (w_enter_x1 hW.2.1 (x_enter1 1 hW hi hkn u3)) fun hM => y_enter1 3 hM hi hkm u6 (by omega)
theorem op_arrive (hL : LW K h T N W) (i : Int32) : OPi z K h (T + 8) (N + 1) (W + 6) 94 [.ref 0, .int i, .ref (K.tb + 21)] 74 [.ref (K.tb + 9), .int i] := by
  obtain ⟨w, m, c, v, hB⟩ := hL
  have hW := hB.1
  have hR := hB.2.2.1
  have hK := hW.1
  have hn6 := hK.2.1
  cases hkn0 : knB w i with
  | false =>
    refine OPi.x hB (by decide) (w_arrive_x0 hW.2.1 (x_arrive0 2 hW hkn0)) fun hM => y_arrive0 3 hM ?_
    rw [km_kn hR]; exact hkn0
  | true =>
    obtain ⟨i, hi, rfl, hkn⟩ := knB_t hkn0
    obtain ⟨t1, t2, -⟩ := hR.2.2.2.2 i hi
    have hkm : m.kn i = true := t1.trans hkn
    rcases t2 with ⟨u0, u2⟩ | ⟨b, u1, u2, u3, u4, u5, u6, u7⟩ | ⟨s', e', u1, u2, u3, u4, u5, u6, u7⟩
    · rw [u0] at hkn; cases hkn
    · exact OPi.x hB (by decide) (w_arrive_x1 hW.2.1 (x_arrive1 2 hW hi hkn u4)) fun hM => y_arrive1 3 hM hi hkm u6
    · have hs15 := (Cf.no hK u1).1.1
      obtain ⟨e3, e4⟩ := eb_lt hK u1 (!e')
      obtain ⟨h1, hC, hW1, o1⟩ := c_arrive (z := z) 2 hW hi hkn u4 (by omega) u5
      refine OPi.k hB hW1 o1 (fun ho => w_arrive hW.2.1 ho hC) fun h' hM => ?_
      obtain ⟨h2, r1, r2, r3⟩ := e_arrive (z := z) 3 hM hi hkm u6 u1 e' u7
      exact ⟨h2, _, r1, r2, (hR.arrive hi e3 hkn rfl).up (by omega), r3⟩
theorem wr_eq (hR : Rel K w m T) {b : Nat} (hb : K.ex (10 + b) = true) : wrB w b = (m.bk (b - 1) || (m.bk b || m.bk (10 + b))) := by
  obtain ⟨x1, x2, -⟩ := Cf.around hR.1 hb
  unfold wrB
  rw [(hR.2.2.2.1 _ x1).1, (hR.2.2.2.1 _ x2).1, (hR.2.2.2.1 _ hb).1]
theorem so_eq (hR : Rel K w m T) {b : Nat} (hb : b < K.n) : soI K w b = soM K m b ((w.2.1 (b - 1)).1.2.1 == (w.2.1 (b - 1)).2.1.2.1) ((w.2.1 b).1.2.1 == (w.2.1 b).2.1.2.1) := by
  have hn6 := hR.1.2.1
  have hio := hR.2.2.1.1 b (by omega)
  unfold soI soM
  cases hex : K.ex (10 + b) with
  | false => rfl
  | true =>
    obtain ⟨x1, x2, x3, x4⟩ := Cf.around hR.1 hex
    rw [wr_eq hR hex, hio, hR.2.2.1.1 (b - 1) (by omega), hR.2.2.1.1 (b + 1) (by omega)]
    have h1 := (hR.2.2.2.1 _ x1).2.1 false
    have h2 := (hR.2.2.2.1 _ x2).2.1 true
    rw [show 2 * (b - 1) + eN false = 2 * b - 2 by show 2 * (b - 1) + 0 = _; omega] at h1
    change m.hd (2 * b + 1) = _ at h2
    rw [h1, h2]
    rfl
theorem op_switchOut (hL : LW K h T N W) (hT : T + 8 < 2 ^ 30) (b : Int32) : OPi z K h (T + 8) (N + 1) (W + 6) 95 [.ref 0, .int b, .ref (K.tb + 21)] 75 [.ref (K.tb + 9), .int b] := by
  obtain ⟨w, m, c, v, hB⟩ := hL
  have hW := hB.1
  have hR := hB.2.2.1
  have hn6 := hW.1.2.1
  cases hbx : bxB K.n b with
  | false => exact OPi.x hB (by decide) (w_switchOut_x0 hW.2.1 (x_switchOut 1 hW hbx)) fun hM => y_switchOut 4 hM hbx
  | true =>
    obtain ⟨b, hb, rfl⟩ := bxB_t (by omega) hbx
    obtain ⟨h1, hC, hW1, o1⟩ := c_switchOut (z := z) 1 hW hb
    refine OPi.k hB hW1 o1 (fun ho => w_switchOut hW.2.1 ho hC) fun h' hM => ?_
    obtain ⟨h2, r1, r2, r3⟩ := e_switchOut (z := z) 4 hM (hR.mb (by omega)) hb (fun q => ph_iff hR (Cf.around hR.1 q).1) (fun q => ph_iff hR (Cf.around hR.1 q).2.1)
    rw [← so_eq hR hb] at r1 r2
    refine ⟨h2, _, r1, r2, ?_, r3⟩
    by_cases h0 : soI K w b = 0
    · rw [if_pos h0, if_pos h0]
      refine (hR.setO (fun _ => ?_)).up (by omega)
      unfold soI at h0
      cases hex : K.ex (10 + b) with
      | false => rw [hex] at h0; cases h0
      | true =>
        rw [hex] at h0
        cases ho : w.1 b with
        | true => rw [ho] at h0; cases h0
        | false =>
          rw [ho] at h0
          cases hl : w.1 (b - 1) with
          | true => rw [hl] at h0; cases h0
          | false =>
            cases hr : w.1 (b + 1) with
            | true => rw [hl, hr] at h0; cases h0
            | false => exact ⟨rfl, rfl, rfl⟩
    · rw [if_neg h0, if_neg h0]
      exact hR.up (by omega)
theorem si_eq (hR : Rel K w m T) {b : Nat} (hb : b < K.n) : siI w b = siM m b ((w.2.1 (10 + b)).1.2.1 == (w.2.1 (10 + b)).2.1.2.1) := by
  have hn6 := hR.1.2.1
  have hio := hR.2.2.1.1 b (by omega)
  unfold siI siM
  rw [hio]
  cases ho : w.1 b with
  | false => rfl
  | true =>
    have hex := (hR.2.2.1.2 b ho).1
    have h1 := (hR.2.2.2.1 _ hex).2.1 false
    have h2 := (hR.2.2.2.1 _ hex).2.1 true
    change m.hd (2 * (10 + b)) = _ at h1
    change m.hd (2 * (10 + b) + 1) = _ at h2
    rw [wr_eq hR hex, h1, h2]
    rfl
theorem op_switchIn (hL : LW K h T N W) (hT : T + 8 < 2 ^ 30) (b : Int32) : OPi z K h (T + 8) (N + 1) (W + 6) 96 [.ref 0, .int b, .ref (K.tb + 21)] 76 [.ref (K.tb + 9), .int b] := by
  obtain ⟨w, m, c, v, hB⟩ := hL
  have hW := hB.1
  have hR := hB.2.2.1
  have hn6 := hW.1.2.1
  cases hbx : bxB K.n b with
  | false => exact OPi.x hB (by decide) (w_switchIn_x0 hW.2.1 (x_switchIn 1 hW hbx)) fun hM => y_switchIn 4 hM hbx
  | true =>
    obtain ⟨b, hb, rfl⟩ := bxB_t (by omega) hbx
    have hio := hR.2.2.1.1 b (by omega)
    obtain ⟨h1, hC, hW1, o1⟩ := c_switchIn (z := z) 1 hW hb (fun q => (hR.2.2.1.2 b q).1)
    refine OPi.k hB hW1 o1 (fun ho => w_switchIn hW.2.1 ho hC) fun h' hM => ?_
    obtain ⟨h2, r1, r2, r3⟩ := e_switchIn (z := z) 4 hM (hR.mb (by omega)) hb (fun q => (hR.2.2.1.2 b (hio.symm.trans q)).1) (fun q => ph_iff hR (hR.2.2.1.2 b (hio.symm.trans q)).1)
    rw [← si_eq hR hb] at r1 r2
    refine ⟨h2, _, r1, r2, ?_, r3⟩
    by_cases h0 : siI w b = 0
    · rw [if_pos h0, if_pos h0]
      exact (hR.setO (b := b) (v := false) (fun q => absurd q (by decide))).up (by omega)
    · rw [if_neg h0, if_neg h0]
      exact hR.up (by omega)
theorem op_carry (hL : LW K h T N W) (hT : T + 8 < 2 ^ 30) (s b n : Int32) : OPv z K h (T + 8) (N + 1) (W + 6) 97 [.ref 0, .int s, .int b, .int n] 77 [.ref (K.tb + 9), .int s, .int b, .int n] := by
  obtain ⟨w, m, c, v, hB⟩ := hL
  have hW := hB.1
  have hR := hB.2.2.1
  have hK := hW.1
  have ht8 := hK.2.2.2.1
  by_cases h0 : edB K s b = false ∨ cnB n = true
  · exact OPv.x hB (w_carry_x0 hW.2.1 (x_carry0 0 hW h0)) fun hM => y_carry0 3 hM h0
  · have hed : edB K s b = true := by
      cases q : edB K s b with
      | true => rfl
      | false => exact absurd (Or.inl q) h0
    have hcn : cnB n = false := by
      cases q : cnB n with
      | false => rfl
      | true => exact absurd (Or.inr q) h0
    obtain ⟨k, e, hk, rfl, rfl⟩ := edB_t hK hed
    obtain ⟨q, y1, y2, y3⟩ := (hR.2.2.2.1 k hk).2.2.2.2.1 e
    obtain ⟨q', y1', y2', y3'⟩ := (hR.2.2.2.1 k hk).2.2.2.2.1 (!e)
    have hph := ph_iff hR hk
    cases hp : ((w.2.1 k).1.2.1 == (w.2.1 k).2.1.2.1) with
    | false =>
      rw [hp] at hph
      exact OPv.x hB (w_carry_x1 hW.2.1 (x_carry1 0 hW hk e hcn hp)) fun hM => y_carry1 3 hM (hR.mb (by omega)) hk e hcn hph
    | true =>
      rw [hp] at hph
      have hlen : ((w.2.1 k).at e).1.length = q.length := by rw [y1, List.length_map]
      by_cases hl : nI ((w.2.1 k).at e).1.length < n
      · exact OPv.x hB (w_carry_x3 hW.2.1 (x_carry3 0 hW hk e hcn hp hl)) fun hM => y_carry3 3 hM (hR.mb (by omega)) hk e hcn hph y2 (nd_of y3) (by rw [← hlen]; exact hl)
      · obtain ⟨n', m1, m2, m3, rfl⟩ := cnB_f hcn
        have hql : q.length ≤ K.t := nodup_le _ q (nd_of y3) fun x hx => ((y2 x).mp hx).1
        have hn' : n' ≤ ((w.2.1 k).at e).1.length := Nat.not_lt.mp fun x => hl (nI_lt x m2)
        have hboth : (q' ++ q).length ≤ K.t := nodup_le _ (q' ++ q) (List.nodup_append.mpr ⟨nd_of y3', nd_of y3, fun x hx y hy hxy => by
          subst hxy
          have h1 := ((y2' x).mp hx).2
          have h2 := ((y2 x).mp hy).2
          have := eN_inj (h1.symm.trans h2)
          cases e <;> cases this⟩) (fun x hx => by
          rcases List.mem_append.mp hx with hx | hx
          · exact ((y2' x).mp hx).1
          · exact ((y2 x).mp hx).1)
        rw [List.length_append] at hboth
        obtain ⟨h1, hC, hW1, o1⟩ := c_carry (z := z) 0 hW hk e hcn hp hn' (fun x hx => by
          rw [y1] at hx
          obtain ⟨i, hi, rfl⟩ := List.mem_map.mp hx
          exact ⟨i, ((y2 i).mp hi).1, rfl⟩) (by rw [y1', List.length_map]; omega)
        refine OPv.k hB hW1 o1 (w_carry hW.2.1 hC) fun hM => ?_
        obtain ⟨h2, m', r1, r2, r3, r4⟩ := e_carry (z := z) 3 hM hR hT hk e hcn hp hn'
        exact ⟨h2, m', r1, r2, r3, r4⟩
theorem op_phase (hL : LW K h T N W) (hT : T + 8 < 2 ^ 30) (b s : Int32) : OPi z K h (T + 8) (N + 1) (W + 6) 98 [.ref 0, .int b, .int s, .ref (K.tb + 21)] 79 [.ref (K.tb + 9), .int b, .int s] := by
  obtain ⟨w, m, c, v, hB⟩ := hL
  have hW := hB.1
  have hR := hB.2.2.1
  cases hed : edB K s b with
  | false => exact OPi.x hB (by decide) (w_phase_x0 hW.2.1 (x_phase 1 hW hed)) fun hM => y_phase 3 hM hed
  | true =>
    obtain ⟨k, e, hk, rfl, rfl⟩ := edB_t hW.1 hed
    have hC := c_phase (z := z) 1 hW hk e
    refine OPi.k hB hW Off.rfl (fun ho => w_phase hW.2.1 ho hC) fun h' hM => ?_
    obtain ⟨h2, r1, r2, r3⟩ := e_phase (z := z) 3 hM (hR.mb (by omega)) hk e
    have he : nI (m.tu (2 * k + eN e) % 2) = bI ((w.2.1 k).at e).2.1 := by
      rw [← (hR.2.2.2.1 k hk).2.2.1 e]
      rcases (by omega : m.tu (2 * k + eN e) % 2 = 0 ∨ m.tu (2 * k + eN e) % 2 = 1) with q | q
      · rw [q]; rfl
      · rw [q]; rfl
    rw [he] at r1
    exact ⟨h2, m, r1, r2, hR.up (by omega), r3⟩
theorem op_slide (hL : LW K h T N W) (hT : T + 8 < 2 ^ 30) (b s : Int32) : OPi z K h (T + 8) (N + 1) (W + 6) 99 [.ref 0, .int b, .int s, .ref (K.tb + 21)] 80 [.ref (K.tb + 9), .int b, .int s] := by
  obtain ⟨w, m, c, v, hB⟩ := hL
  have hW := hB.1
  have hR := hB.2.2.1
  cases hed : edB K s b with
  | false => exact OPi.x hB (by decide) (w_slide_x0 hW.2.1 (x_slide 1 hW hed)) fun hM => y_slide 3 hM hed
  | true =>
    obtain ⟨k, e, hk, rfl, rfl⟩ := edB_t hW.1 hed
    obtain ⟨q, y1, y2, y3⟩ := (hR.2.2.2.1 k hk).2.2.2.2.1 e
    have hC := c_slide (z := z) 1 hW hk e
    rw [y1, List.length_map] at hC
    refine OPi.k hB hW Off.rfl (fun ho => w_slide hW.2.1 ho hC) fun h' hM => ?_
    obtain ⟨h2, r1, r2, r3⟩ := e_slide (z := z) 3 hM (hR.mb (by omega)) hk e y2 (nd_of y3)
    exact ⟨h2, m, r1, r2, hR.up (by omega), r3⟩
theorem op_where (hL : LW K h T N W) (x : Int32) : OPi z K h (T + 8) (N + 1) (W + 6) 100 [.ref 0, .int x, .ref (K.tb + 21)] 81 [.ref (K.tb + 9), .int x] := by
  obtain ⟨w, m, c, v, hB⟩ := hL
  have hW := hB.1
  have hR := hB.2.2.1
  cases htb : tbB K x with
  | false => exact OPi.x hB (by decide) (w_where_x0 hW.2.1 (x_where 1 hW htb)) fun hM => y_where 3 hM htb
  | true =>
    obtain ⟨k, j, hk, hj, rfl⟩ := tbB_t hW.1 htb
    have hC := c_where (z := z) 1 hW hk ((hR.2.2.2.1 k hk).2.2.2.1 j hj)
    refine OPi.k hB hW Off.rfl (fun ho => w_where hW.2.1 ho hC) fun h' hM => ?_
    obtain ⟨h2, r1, r2, r3⟩ := e_where (z := z) 3 hM hk hj
    exact ⟨h2, m, r1, r2, hR.up (by omega), r3⟩
theorem op_place (hL : LW K h T N W) (i : Int32) : OPi z K h (T + 8) (N + 1) (W + 6) 101 [.ref 0, .int i, .ref (K.tb + 21)] 82 [.ref (K.tb + 9), .int i] := by
  obtain ⟨w, m, c, v, hB⟩ := hL
  have hW := hB.1
  have hR := hB.2.2.1
  have hK := hW.1
  cases htn : tnB i with
  | false => exact OPi.x hB (by decide) (w_place_x0 hW.2.1 (x_place 3 hW htn)) fun hM => y_place 5 hM htn
  | true =>
    obtain ⟨i, hi, rfl⟩ := tnB_t htn
    obtain ⟨t1, t2, -⟩ := hR.2.2.2.2 i hi
    have hfact : (∀ s, (w.2.2 i).2.2.1 = some s → s < 100) ∧ (∀ s, m.ins i = some s → s < 100) ∧ plM m i = plI (w.2.2 i) := by
      unfold plM plI
      rw [t1]
      rcases t2 with ⟨u0, u2⟩ | ⟨b, u1, u2, u3, u4, u5, u6, u7⟩ | ⟨s', e', u1, u2, u3, u4, u5, u6, u7⟩
      · rw [u0, u2]
        exact ⟨fun _ q => (nomatch q), fun _ q => (nomatch q), rfl⟩
      · rw [u2, u3, u4, u6, u7]
        exact ⟨fun _ q => (nomatch q), fun _ q => (nomatch q), rfl⟩
      · have hs15 := (Cf.no hK u1).1.1
        rw [u2, u3, u4, u6]
        exact ⟨fun _ q => by cases q; omega, fun _ q => by cases q; omega, rfl⟩
    have hC := c_place (z := z) 3 hW hi hfact.1
    refine OPi.k hB hW Off.rfl (fun ho => w_place hW.2.1 ho hC) fun h' hM => ?_
    obtain ⟨h2, r1, r2, r3⟩ := e_place (z := z) 5 hM hi hfact.2.1
    rw [hfact.2.2] at r1
    exact ⟨h2, m, r1, r2, hR.up (by omega), r3⟩
theorem op_spend (hL : LW K h T N W) (hT : T + 8 < 2 ^ 30) (s b : Int32) : OPi z K h (T + 8) (N + 1) (W + 6) 102 [.ref 0, .int s, .int b, .ref (K.tb + 21)] 83 [.ref (K.tb + 9), .int s, .int b] := by
  obtain ⟨w, m, c, v, hB⟩ := hL
  have hW := hB.1
  have hR := hB.2.2.1
  cases hed : edB K s b with
  | false => exact OPi.x hB (by decide) (w_spend_x0 hW.2.1 (x_spend 1 hW hed)) fun hM => y_spend 3 hM hed
  | true =>
    obtain ⟨k, e, hk, rfl, rfl⟩ := edB_t hW.1 hed
    obtain ⟨q, y1, y2, y3⟩ := (hR.2.2.2.1 k hk).2.2.2.2.1 e
    have hC := c_spend (z := z) 1 hW hk e
    rw [y1, List.length_map] at hC
    refine OPi.k hB hW Off.rfl (fun ho => w_spend hW.2.1 ho hC) fun h' hM => ?_
    obtain ⟨h2, r1, r2, r3⟩ := e_spend (z := z) 3 hM (hR.mb (by omega)) hk e y2 (nd_of y3) (ph_iff hR hk)
    exact ⟨h2, m, r1, r2, hR.up (by omega), r3⟩
theorem op_out (hL : LW K h T N W) (b : Int32) : OPb z K h (T + 8) (N + 1) (W + 6) 103 [.ref 0, .int b, .ref (K.tb + 21)] 84 [.ref (K.tb + 9), .int b] := by
  obtain ⟨w, m, c, v, hB⟩ := hL
  have hW := hB.1
  have hR := hB.2.2.1
  have hn6 := hW.1.2.1
  cases hbx : bxB K.n b with
  | false => exact OPb.x (r := false) hB (by decide) (w_out_x0 hW.2.1 (x_out 2 hW hbx)) fun hM => y_out 4 hM hbx
  | true =>
    obtain ⟨b, hb, rfl⟩ := bxB_t (by omega) hbx
    have hC := c_out (z := z) 2 hW hb
    refine OPb.k hB hW Off.rfl (fun ho => w_out hW.2.1 ho hC) fun h' hM => ?_
    obtain ⟨h2, r1, r2, r3⟩ := e_out (z := z) 4 hM hb
    rw [hR.2.2.1.1 b (by omega)] at r1
    exact ⟨h2, m, r1, r2, hR.up (by omega), r3⟩
end O2
