/-! THE REFERENCE's CONSTRUCTOR -/
def MG (a : Nat) (h : mm_H) (l : List Value) (V : Nat → Nat → Value) : Prop := h[a]? = some (4, l) ∧ ∀ q, 1 ≤ q → q ≤ 11 → h[a + q]? = some ((Mk q).1, rng (Mk q).2 (V q))
/-- q arrays made -/
def NA (a : Nat) (h : mm_H) (l : List Value) (q : Nat) : Prop := h.length = a + 1 + q ∧ h[a]? = some (4, l) ∧ ∀ p, 1 ≤ p → p ≤ q → h[a + p]? = some ((Mk p).1, rng (Mk p).2 fun _ => .int 0)
def VV (mo : Nat → Bool) (i b k e : Nat) : Nat → Nat → Value
  | 1 => fun j => .int (bI (decide (1 ≤ j) && decide (j < b) && mo j))
  | 3 => fun s => .int (bI (decide (s < i) || (decide (11 ≤ s) && decide (s < 10 + b) && mo (s - 10))))
  | 7 => fun j => .int (nI (if j < k then j % 2 else 0))
  | 8 => fun j => .int (nI (if j < k then j + 1 else 0))
  | 11 => fun j => .int (if j < e then -1 else 0)
  | _ => fun _ => .int 0
def Ml (a n t tm : Nat) : List Value := [.int (nI n), .int (nI t), .int 0, .int (nI tm), .ref (a + 1), .ref (a + 2), .ref (a + 3), .ref (a + 4), .ref (a + 5), .ref (a + 6), .ref (a + 7), .ref (a + 8), .ref (a + 9), .ref (a + 10), .ref (a + 11)]
section D3
variable {z : mm_Z} {h h' : mm_H} {a : Nat} {l : List Value}
theorem rng_congr {n : Nat} {f g : Nat → Value} (e : ∀ i, i < n → f i = g i) : rng n f = rng n g := by
  unfold rng
  apply List.map_congr_left
  intro i hi
  exact e i (by simpa using hi)
theorem MG.congr {V V' : Nat → Nat → Value} (hG : MG a h l V) (e : ∀ q, 1 ≤ q → q ≤ 11 → ∀ j, j < (Mk q).2 → V q j = V' q j) : MG a h l V' := ⟨hG.1, fun q q1 q2 => by rw [hG.2 q q1 q2, rng_congr (e q q1 q2)]⟩
theorem MG.upd {V : Nat → Nat → Value} (hG : MG a h l V) {q : Nat} (q1 : 1 ≤ q) (q2 : q ≤ 11) (i : Nat) (v : Value) : MG a (mm_upd h (a + q) i v) l (upf V q (upf (V q) i v)) ∧ Off a (a + 12) h (mm_upd h (a + q) i v) := by
  refine ⟨⟨by rw [mm_upd_ne (by omega)]; exact hG.1, fun r r1 r2 => ?_⟩, Off.upd (by omega) (by omega)⟩
  by_cases hrq : r = q
  · subst hrq
    rw [mm_upd_at (hG.2 r r1 r2), rng_set, upf_at]
  · rw [mm_upd_ne (by omega), upf_ne _ _ hrq]; exact hG.2 r r1 r2
theorem MG.fld {V : Nat → Nat → Value} (hG : MG a h l V) (i : Nat) (v : Value) : MG a (mm_upd h a i v) (l.set i v) V ∧ Off a (a + 12) h (mm_upd h a i v) :=
  ⟨⟨by rw [mm_upd_at hG.1], fun r r1 r2 => by rw [mm_upd_ne (by omega)]; exact hG.2 r r1 r2⟩, Off.upd (by omega) (by omega)⟩
theorem mk1 {C : Nat → List Value → mm_H → mm_R → Prop} {j p1 p2 p3 p4 n kd q x0 y0 x1 y1 y2 : Nat} {L : Int} {ty : _} {idx : Nat} {ls : List Slot} (hN : NA a h l q) (hq : q < 11) (hl : l.length = 15) (h1 : mm_at j p1 = some (.aload_n 0, p2, x0, y0)) (h2 : mm_at j p2 = some (.bipush L, p3, x1, y1)) (hL : (Int8.ofInt L).toInt32 = nI (Mk (q + 1)).2) (h3 : mm_at j p3 = some (.newarray ty, p4, kd, y2)) (hkd : kd = (Mk (q + 1)).1) (h4 : mm_at j p4 = some (.putfield idx, n, 4, 4 + q)) (hls : ls[0]? = some (.val (.ref a))) (hM : (Mk (q + 1)).2 ≤ 1000) (hz : mm_zero kd = .int 0) (hf : ∀ r, mm_fits (mm_ft 4 (4 + q)) (.ref r) = true) :
    ∃ h', NA a h' (l.set (4 + q) (.ref (a + (q + 1)))) (q + 1) ∧ mm_w h' = mm_w h + (Mk (q + 1)).2 ∧ (∀ k, k < a → h'[k]? = h[k]?) ∧ ∀ R, mm_Ev z C j (n, ls, [], h') R → mm_Ev z C j (p1, ls, [], h) R := by
  obtain ⟨n1, n2, n3⟩ := hN
  have e1 := app_at n2 [(kd, List.replicate (Mk (q + 1)).2 (mm_zero kd))]
  refine ⟨mm_upd (h ++ [(kd, List.replicate (Mk (q + 1)).2 (mm_zero kd))]) a (4 + q) (.ref (a + (q + 1))), ⟨?_, by rw [mm_upd_at e1], fun p p1 p2 => ?_⟩, ?_, fun k hk => ?_, fun R k => ?_⟩
  · rw [mm_upd_len, List.length_append, n1]; rfl
  · rw [mm_upd_ne (by omega)]
    by_cases hp : p = q + 1
    · subst hp
      rw [app_end (by omega), hz, rng_rep, hkd]
    · rw [app_ne (by omega)]
      exact n3 p p1 (by omega)
  · rw [mm_w_upd, mm_w_push]; simp
  · rw [mm_upd_ne (by omega), app_ne (by omega)]
  · have e0 : mm_exec z (.aload_n 0) p2 x0 y0 p1 ls [] h = some (.inl (p2, ls, [.ref a], h)) := by
      show mm_aload p2 0 ls [] h = _
      unfold mm_aload
      rw [hls]
      rfl
    refine ev_go h1 e0 ?_
    refine ev_bi _ h2 hL ?_
    refine ev_newaL (a := a + (q + 1)) (by omega) (Or.inl ⟨_, rfl⟩) h3 hM ?_
    exact ev_put h4 e1 (by rw [hl]; omega) (hf _) k
theorem d_arrays (d : Nat) {a1 a2 a3 : Int32} (hl : h.length = a + 1) (h0 : h[a]? = some (4, [.int 0, .int 0, .int 0, .int (nI 1), .null, .null, .null, .null, .null, .null, .null, .null, .null, .null, .null])) :
    ∃ h', MG a h' (Ml a 0 0 1) (VV (fun _ => false) 0 1 0 0) ∧ h'.length = a + 12 ∧ mm_w h' = mm_w h + 366 ∧ (∀ k, k < a → h'[k]? = h[k]?) ∧ ∀ R, mm_Ev z (mm_cal z d) 50 (97, [.val (.ref a), .val (.int a1), .val (.int a2), .val (.int a3), .unset], [], h') R → mm_Ev z (mm_cal z d) 50 (9, [.val (.ref a), .val (.int a1), .val (.int a2), .val (.int a3), .unset], [], h) R := by
  have n0 : NA a h _ 0 := ⟨hl, h0, fun p p1 p2 => by omega⟩
  obtain ⟨g1, n1, w1, k1, rr1⟩ := mk1 (z := z) (C := mm_cal z d) (ls := [.val (.ref a), .val (.int a1), .val (.int a2), .val (.int a3), .unset]) n0 (by omega) rfl at_50_9 at_50_10 (by decide) at_50_12 rfl at_50_14 rfl (by decide) rfl (fun _ => rfl)
  obtain ⟨g2, n2, w2, k2, rr2⟩ := mk1 (z := z) (C := mm_cal z d) (ls := [.val (.ref a), .val (.int a1), .val (.int a2), .val (.int a3), .unset]) n1 (by omega) rfl at_50_17 at_50_18 (by decide) at_50_20 rfl at_50_22 rfl (by decide) rfl (fun _ => rfl)
  obtain ⟨g3, n3, w3, k3, rr3⟩ := mk1 (z := z) (C := mm_cal z d) (ls := [.val (.ref a), .val (.int a1), .val (.int a2), .val (.int a3), .unset]) n2 (by omega) rfl at_50_25 at_50_26 (by decide) at_50_28 rfl at_50_30 rfl (by decide) rfl (fun _ => rfl)
  obtain ⟨g4, n4, w4, k4, rr4⟩ := mk1 (z := z) (C := mm_cal z d) (ls := [.val (.ref a), .val (.int a1), .val (.int a2), .val (.int a3), .unset]) n3 (by omega) rfl at_50_33 at_50_34 (by decide) at_50_36 rfl at_50_38 rfl (by decide) rfl (fun _ => rfl)
  obtain ⟨g5, n5, w5, k5, rr5⟩ := mk1 (z := z) (C := mm_cal z d) (ls := [.val (.ref a), .val (.int a1), .val (.int a2), .val (.int a3), .unset]) n4 (by omega) rfl at_50_41 at_50_42 (by decide) at_50_44 rfl at_50_46 rfl (by decide) rfl (fun _ => rfl)
  obtain ⟨g6, n6, w6, k6, rr6⟩ := mk1 (z := z) (C := mm_cal z d) (ls := [.val (.ref a), .val (.int a1), .val (.int a2), .val (.int a3), .unset]) n5 (by omega) rfl at_50_49 at_50_50 (by decide) at_50_52 rfl at_50_54 rfl (by decide) rfl (fun _ => rfl)
  obtain ⟨g7, n7, w7, k7, rr7⟩ := mk1 (z := z) (C := mm_cal z d) (ls := [.val (.ref a), .val (.int a1), .val (.int a2), .val (.int a3), .unset]) n6 (by omega) rfl at_50_57 at_50_58 (by decide) at_50_60 rfl at_50_62 rfl (by decide) rfl (fun _ => rfl)
  obtain ⟨g8, n8, w8, k8, rr8⟩ := mk1 (z := z) (C := mm_cal z d) (ls := [.val (.ref a), .val (.int a1), .val (.int a2), .val (.int a3), .unset]) n7 (by omega) rfl at_50_65 at_50_66 (by decide) at_50_68 rfl at_50_70 rfl (by decide) rfl (fun _ => rfl)
  obtain ⟨g9, n9, w9, k9, rr9⟩ := mk1 (z := z) (C := mm_cal z d) (ls := [.val (.ref a), .val (.int a1), .val (.int a2), .val (.int a3), .unset]) n8 (by omega) rfl at_50_73 at_50_74 (by decide) at_50_76 rfl at_50_78 rfl (by decide) rfl (fun _ => rfl)
  obtain ⟨g10, n10, w10, k10, rr10⟩ := mk1 (z := z) (C := mm_cal z d) (ls := [.val (.ref a), .val (.int a1), .val (.int a2), .val (.int a3), .unset]) n9 (by omega) rfl at_50_81 at_50_82 (by decide) at_50_84 rfl at_50_86 rfl (by decide) rfl (fun _ => rfl)
  obtain ⟨g11, n11, w11, k11, rr11⟩ := mk1 (z := z) (C := mm_cal z d) (ls := [.val (.ref a), .val (.int a1), .val (.int a2), .val (.int a3), .unset]) n10 (by omega) rfl at_50_89 at_50_90 (by decide) at_50_92 rfl at_50_94 rfl (by decide) rfl (fun _ => rfl)
  refine ⟨g11, ⟨n11.2.1, fun q q1 q2 => ?_⟩, by rw [n11.1], ?_, fun k hk => ?_, fun R k => ?_⟩
  · rw [n11.2.2 q q1 q2]
    congr 2
    refine r11 (P := fun q => rng (Mk q).2 (fun _ => Value.int 0) = rng (Mk q).2 (VV (fun _ => false) 0 1 0 0 q)) q1 q2 ?_ rfl ?_ rfl rfl rfl ?_ ?_ rfl rfl ?_
    · exact rng_congr fun i hi => by show _ = Value.int (bI (_ && false)); rw [Bool.and_false]; rfl
    · exact rng_congr fun i hi => by show _ = Value.int (bI (decide (i < 0) || (_ && false))); rw [Bool.and_false, decide_eq_false (Nat.not_lt_zero i)]; rfl
    · exact rng_congr fun i hi => by show _ = Value.int (nI (if i < 0 then i % 2 else 0)); rw [if_neg (Nat.not_lt_zero i)]; rfl
    · exact rng_congr fun i hi => by show _ = Value.int (nI (if i < 0 then i + 1 else 0)); rw [if_neg (Nat.not_lt_zero i)]; rfl
    · exact rng_congr fun i hi => by show _ = Value.int (if i < 0 then -1 else 0); rw [if_neg (Nat.not_lt_zero i)]
  · rw [w11, w10, w9, w8, w7, w6, w5, w4, w3, w2, w1]; simp only [Mk]
  · rw [k11 k hk, k10 k hk, k9 k hk, k8 k hk, k7 k hk, k6 k hk, k5 k hk, k4 k hk, k3 k hk, k2 k hk, k1 k hk]
  · exact rr1 R (rr2 R (rr3 R (rr4 R (rr5 R (rr6 R (rr7 R (rr8 R (rr9 R (rr10 R (rr11 R k))))))))))
theorem d_loop1 (d : Nat) {n t : Nat} {mo : Nat → Bool} {a1 a2 a3 : Int32} (n2 : 2 ≤ n) (n6 : n ≤ 6) : ∀ (r i : Nat) (h : mm_H), i + r = n - 1 → MG a h (Ml a n t 1) (VV (fun _ => false) i 1 0 0) →
    ∃ h', MG a h' (Ml a n t 1) (VV mo (n - 1) 1 0 0) ∧ Off a (a + 12) h h' ∧ ∀ R, (∀ v, mm_Ev z (mm_cal z d) 50 (166, [.val (.ref a), .val (.int a1), .val (.int a2), .val (.int a3), .val (.int v)], [], h') R) → mm_Ev z (mm_cal z d) 50 (141, [.val (.ref a), .val (.int a1), .val (.int a2), .val (.int a3), .val (.int (nI i))], [], h) R
  | 0, i, h, hi, hG => by
    have hit : i = n - 1 := by omega
    subst hit
    have h0 := hG.1
    refine ⟨h, hG.congr (fun q q1 q2 => r11 (P := fun q => ∀ j, j < (Mk q).2 → VV (fun _ => false) (n - 1) 1 0 0 q j = VV mo (n - 1) 1 0 0 q j) q1 q2 ?_ (fun _ _ => rfl) ?_ (fun _ _ => rfl) (fun _ _ => rfl) (fun _ _ => rfl) (fun _ _ => rfl) (fun _ _ => rfl) (fun _ _ => rfl) (fun _ _ => rfl) (fun _ _ => rfl)), Off.rfl, fun R k => ?_⟩
    · intro j hj
      show Value.int (bI (decide (1 ≤ j) && decide (j < 1) && false)) = Value.int (bI (decide (1 ≤ j) && decide (j < 1) && mo j))
      by_cases q : 1 ≤ j
      · rw [decide_eq_false (by omega : ¬ j < 1)]; simp
      · rw [decide_eq_false q]; rfl
    · intro j hj
      show Value.int (bI (_ || (decide (11 ≤ j) && decide (j < 10 + 1) && false))) = Value.int (bI (_ || (decide (11 ≤ j) && decide (j < 10 + 1) && mo (j - 10))))
      by_cases q : 11 ≤ j
      · rw [decide_eq_false (by omega : ¬ j < 10 + 1)]; simp
      · rw [decide_eq_false q]; rfl
    refine ev_go at_50_141 rfl ?_
    refine ev_go at_50_143 rfl ?_
    refine ev_get at_50_144 h0 rfl ?_
    refine ev_ic (nI 1) at_50_147 (by decide) ?_
    refine ev_go at_50_148 rfl ?_
    refine ev_top (congrArg Value.int (pk_sub (show 1 ≤ n by omega))) ?_
    refine ev_icmp_ge at_50_149 (fun _ => ?_) (fun hc => absurd (nI_le (by omega) (by omega)) hc)
    exact k _
  | r + 1, i, h, hi, hG => by
    have h0 := hG.1
    have h3 := hG.2 3 (by omega) (by omega)
    obtain ⟨m1, o1⟩ := hG.upd (q := 3) (by omega) (by omega) i (.int (nI 1))
    obtain ⟨h', b1, b2, b3⟩ := d_loop1 d (mo := mo) (a1 := a1) (a2 := a2) (a3 := a3) n2 n6 r (i + 1) _ (by omega) (m1.congr (V' := VV (fun _ => false) (i + 1) 1 0 0) (fun q q1 q2 => r11 (P := fun q => ∀ j, j < (Mk q).2 → upf (VV (fun _ => false) i 1 0 0) 3 (upf (VV (fun _ => false) i 1 0 0 3) i (.int (nI 1))) q j = VV (fun _ => false) (i + 1) 1 0 0 q j) q1 q2 (fun _ _ => rfl) (fun _ _ => rfl) (fun j hj => by
      show upf (VV (fun _ => false) i 1 0 0 3) i (.int (nI 1)) j = Value.int (bI (decide (j < i + 1) || (decide (11 ≤ j) && decide (j < 10 + 1) && false)))
      rw [Bool.and_false, Bool.or_false]
      unfold upf
      by_cases q : j = i
      · rw [if_pos q, decide_eq_true (by omega)]; rfl
      · rw [if_neg q]
        show Value.int (bI (decide (j < i) || (decide (11 ≤ j) && decide (j < 10 + 1) && false))) = _
        rw [Bool.and_false, Bool.or_false]
        by_cases q2 : j < i
        · rw [decide_eq_true q2, decide_eq_true (by omega)]
        · rw [decide_eq_false q2, decide_eq_false (by omega)]) (fun _ _ => rfl) (fun _ _ => rfl) (fun _ _ => rfl) (fun _ _ => rfl) (fun _ _ => rfl) (fun _ _ => rfl) (fun _ _ => rfl) (fun _ _ => rfl)))
    refine ⟨h', b1, o1.trans b2, fun R k => ?_⟩
    refine ev_go at_50_141 rfl ?_
    refine ev_go at_50_143 rfl ?_
    refine ev_get at_50_144 h0 rfl ?_
    refine ev_ic (nI 1) at_50_147 (by decide) ?_
    refine ev_go at_50_148 rfl ?_
    refine ev_top (congrArg Value.int (pk_sub (show 1 ≤ n by omega))) ?_
    refine ev_icmp_ge at_50_149 (fun hc => absurd hc (nI_ge (by omega) (by omega))) (fun _ => ?_)
    refine ev_go at_50_152 rfl ?_
    refine ev_get at_50_153 h0 rfl ?_
    refine ev_go at_50_156 rfl ?_
    refine ev_ic (nI 1) at_50_158 (by decide) ?_
    refine ev_zast at_50_159 h3 (by omega) (by rw [rng_len]; show i < 15; omega) (by first | exact bI_01 _ | decide) ?_
    refine ev_inc at_50_160 rfl ?_
    refine ev_go at_50_163 rfl ?_
    exact b3 R k
theorem d_loop2 (d : Nat) {n t : Nat} {a1 a2 a3 : Int32} (n2 : 2 ≤ n) (n6 : n ≤ 6) : ∀ (r b : Nat) (h : mm_H), 1 ≤ b → b + r = n - 1 → MG a h (Ml a n t 1) (VV (moF a3) (n - 1) b 0 0) →
    ∃ h', MG a h' (Ml a n t 1) (VV (moF a3) (n - 1) (n - 1) 0 0) ∧ Off a (a + 12) h h' ∧ ∀ R, (∀ v, mm_Ev z (mm_cal z d) 50 (225, [.val (.ref a), .val (.int a1), .val (.int a2), .val (.int a3), .val (.int v)], [], h') R) → mm_Ev z (mm_cal z d) 50 (169, [.val (.ref a), .val (.int a1), .val (.int a2), .val (.int a3), .val (.int (nI b))], [], h) R
  | 0, b, h, hb, hi, hG => by
    have hit : b = n - 1 := by omega
    subst hit
    have h0 := hG.1
    refine ⟨h, hG, Off.rfl, fun R k => ?_⟩
    refine ev_go at_50_169 rfl ?_
    refine ev_go at_50_171 rfl ?_
    refine ev_get at_50_172 h0 rfl ?_
    refine ev_ic (nI 1) at_50_175 (by decide) ?_
    refine ev_go at_50_176 rfl ?_
    refine ev_top (congrArg Value.int (pk_sub (show 1 ≤ n by omega))) ?_
    refine ev_icmp_ge at_50_177 (fun _ => ?_) (fun hc => absurd (nI_le (by omega) (by omega)) hc)
    exact k _
  | r + 1, b, h, hb, hi, hG => by
    have h0 := hG.1
    have h1 := hG.2 1 (by omega) (by omega)
    obtain ⟨m1, o1⟩ := hG.upd (q := 1) (by omega) (by omega) b (.int (bI (moF a3 b)))
    have h01 := m1.1
    have h3 := m1.2 3 (by omega) (by omega)
    have h1' := m1.2 1 (by omega) (by omega)
    have hv : (rng 6 (upf (VV (moF a3) (n - 1) b 0 0) 1 (upf (VV (moF a3) (n - 1) b 0 0 1) b (.int (bI (moF a3 b)))) 1))[b]? = some (.int (bI (moF a3 b))) := by
      rw [rng_at _ (by omega), upf_at, upf_at]
    obtain ⟨m2, o2⟩ := m1.upd (q := 3) (by omega) (by omega) (10 + b) (.int (bI (moF a3 b)))
    obtain ⟨h', b1, b2, b3⟩ := d_loop2 d (a1 := a1) (a2 := a2) n2 n6 r (b + 1) _ (by omega) (by omega) (m2.congr (V' := VV (moF a3) (n - 1) (b + 1) 0 0) (fun q q1 q2 => r11 (P := fun q => ∀ j, j < (Mk q).2 → upf (upf (VV (moF a3) (n - 1) b 0 0) 1 (upf (VV (moF a3) (n - 1) b 0 0 1) b (.int (bI (moF a3 b))))) 3 (upf (upf (VV (moF a3) (n - 1) b 0 0) 1 (upf (VV (moF a3) (n - 1) b 0 0 1) b (.int (bI (moF a3 b)))) 3) (10 + b) (.int (bI (moF a3 b)))) q j = VV (moF a3) (n - 1) (b + 1) 0 0 q j) q1 q2 (fun j hj => by
      show upf (VV (moF a3) (n - 1) b 0 0 1) b (.int (bI (moF a3 b))) j = Value.int (bI (decide (1 ≤ j) && decide (j < b + 1) && moF a3 j))
      unfold upf
      by_cases q : j = b
      · rw [if_pos q, decide_eq_true (by omega), decide_eq_true (by omega), q]; rfl
      · rw [if_neg q]
        show Value.int (bI (decide (1 ≤ j) && decide (j < b) && moF a3 j)) = _
        by_cases q2 : j < b
        · rw [decide_eq_true q2, decide_eq_true (by omega : j < b + 1)]
        · rw [decide_eq_false q2, decide_eq_false (by omega : ¬ j < b + 1)]) (fun _ _ => rfl) (fun j hj => by
      show upf (VV (moF a3) (n - 1) b 0 0 3) (10 + b) (.int (bI (moF a3 b))) j = Value.int (bI (decide (j < n - 1) || (decide (11 ≤ j) && decide (j < 10 + (b + 1)) && moF a3 (j - 10))))
      unfold upf
      by_cases q : j = 10 + b
      · rw [if_pos q, decide_eq_false (by omega), decide_eq_true (by omega), decide_eq_true (by omega), q, Nat.add_sub_cancel_left]; rfl
      · rw [if_neg q]
        show Value.int (bI (decide (j < n - 1) || (decide (11 ≤ j) && decide (j < 10 + b) && moF a3 (j - 10)))) = _
        by_cases q2 : j < 10 + b
        · rw [decide_eq_true q2, decide_eq_true (by omega : j < 10 + (b + 1))]
        · rw [decide_eq_false q2, decide_eq_false (by omega : ¬ j < 10 + (b + 1))]) (fun _ _ => rfl) (fun _ _ => rfl) (fun _ _ => rfl) (fun _ _ => rfl) (fun _ _ => rfl) (fun _ _ => rfl) (fun _ _ => rfl) (fun _ _ => rfl)))
    refine ⟨h', b1, (o1.trans o2).trans b2, fun R k => ?_⟩
    refine ev_go at_50_169 rfl ?_
    refine ev_go at_50_171 rfl ?_
    refine ev_get at_50_172 h0 rfl ?_
    refine ev_ic (nI 1) at_50_175 (by decide) ?_
    refine ev_go at_50_176 rfl ?_
    refine ev_top (congrArg Value.int (pk_sub (show 1 ≤ n by omega))) ?_
    refine ev_icmp_ge at_50_177 (fun hc => absurd hc (nI_ge (by omega) (by omega))) (fun _ => ?_)
    refine ev_go at_50_180 rfl ?_
    refine ev_get at_50_181 h0 rfl ?_
    refine ev_go at_50_184 rfl ?_
    refine ev_go at_50_186 rfl ?_
    refine ev_go at_50_187 rfl ?_
    refine ev_go at_50_189 rfl ?_
    refine ev_ic (nI 1) at_50_190 (by decide) ?_
    refine ev_go at_50_191 rfl ?_
    refine ev_ic (nI 1) at_50_192 (by decide) ?_
    refine ev_icmp_ne at_50_193 (fun hc193 => ?_) (fun hc193 => ?_)
    · skip
      refine ev_ic (nI 0) at_50_200 (by decide) ?_
      refine ev_zast at_50_201 h1 (by omega) (by rw [rng_len]; show b < 6; omega) (by decide) ?_
      have hmo : moF a3 b = false := decide_eq_false hc193
      have hx : (Value.int (nI 0)) = .int (bI (moF a3 b)) := by rw [hmo]; rfl
      rw [hx]
      refine ev_go at_50_202 rfl ?_
      refine ev_get at_50_203 h01 rfl ?_
      refine ev_bi (nI 10) at_50_206 (by decide) ?_
      refine ev_go at_50_208 rfl ?_
      refine ev_go at_50_210 rfl ?_
      first | refine ev_top (congrArg Value.int (nI_add _ _)) ?_ | skip
      refine ev_go at_50_211 rfl ?_
      refine ev_get at_50_212 h01 rfl ?_
      refine ev_go at_50_215 rfl ?_
      refine ev_zald at_50_217 h1' (by omega) hv ?_
      refine ev_zast at_50_218 h3 (by omega) (by rw [rng_len]; show 10 + b < 15; omega) (by first | exact bI_01 _ | decide) ?_
      refine ev_inc at_50_219 rfl ?_
      refine ev_go at_50_222 rfl ?_
      exact b3 R k
    · skip
      refine ev_ic (nI 1) at_50_196 (by decide) ?_
      refine ev_go at_50_197 rfl ?_
      refine ev_zast at_50_201 h1 (by omega) (by rw [rng_len]; show b < 6; omega) (by decide) ?_
      have hmo : moF a3 b = true := decide_eq_true hc193
      have hx : (Value.int (nI 1)) = .int (bI (moF a3 b)) := by rw [hmo]; rfl
      rw [hx]
      refine ev_go at_50_202 rfl ?_
      refine ev_get at_50_203 h01 rfl ?_
      refine ev_bi (nI 10) at_50_206 (by decide) ?_
      refine ev_go at_50_208 rfl ?_
      refine ev_go at_50_210 rfl ?_
      first | refine ev_top (congrArg Value.int (nI_add _ _)) ?_ | skip
      refine ev_go at_50_211 rfl ?_
      refine ev_get at_50_212 h01 rfl ?_
      refine ev_go at_50_215 rfl ?_
      refine ev_zald at_50_217 h1' (by omega) hv ?_
      refine ev_zast at_50_218 h3 (by omega) (by rw [rng_len]; show 10 + b < 15; omega) (by first | exact bI_01 _ | decide) ?_
      refine ev_inc at_50_219 rfl ?_
      refine ev_go at_50_222 rfl ?_
      exact b3 R k
theorem d_loop3 (d : Nat) {n t b : Nat} {mo : Nat → Bool} {a1 a2 a3 : Int32} : ∀ (r k : Nat) (h : mm_H), k + r = 120 → MG a h (Ml a n t (k + 1)) (VV mo (n - 1) b k 0) →
    ∃ h', MG a h' (Ml a n t 121) (VV mo (n - 1) b 120 0) ∧ Off a (a + 12) h h' ∧ ∀ R, (∀ v, mm_Ev z (mm_cal z d) 50 (273, [.val (.ref a), .val (.int a1), .val (.int a2), .val (.int a3), .val (.int v)], [], h') R) → mm_Ev z (mm_cal z d) 50 (228, [.val (.ref a), .val (.int a1), .val (.int a2), .val (.int a3), .val (.int (nI k))], [], h) R
  | 0, k, h, hi, hG => by
    have hit : k = 120 := by omega
    subst hit
    refine ⟨h, hG, Off.rfl, fun R k => ?_⟩
    refine ev_go at_50_228 rfl ?_
    refine ev_bi (nI 120) at_50_230 (by decide) ?_
    refine ev_icmp_ge at_50_232 (fun _ => ?_) (fun hc => absurd (nI_le (by omega) (by omega)) hc)
    exact k _
  | r + 1, k, h, hi, hG => by
    have h0 := hG.1
    have h7 := hG.2 7 (by omega) (by omega)
    obtain ⟨m1, o1⟩ := hG.upd (q := 7) (by omega) (by omega) k (.int (nI (k % 2)))
    have h01 := m1.1
    have h8 := m1.2 8 (by omega) (by omega)
    obtain ⟨m2, o2⟩ := m1.upd (q := 8) (by omega) (by omega) k (.int (nI (k + 1)))
    have h02 := m2.1
    obtain ⟨m3, o3⟩ := m2.fld 3 (.int (nI (k + 1 + 1)))
    obtain ⟨h', b1, b2, b3⟩ := d_loop3 d (mo := mo) (b := b) (a1 := a1) (a2 := a2) (a3 := a3) r (k + 1) _ (by omega) (m3.congr (V' := VV mo (n - 1) b (k + 1) 0) (fun q q1 q2 => r11 (P := fun q => ∀ j, j < (Mk q).2 → upf (upf (VV mo (n - 1) b k 0) 7 (upf (VV mo (n - 1) b k 0 7) k (.int (nI (k % 2))))) 8 (upf (upf (VV mo (n - 1) b k 0) 7 (upf (VV mo (n - 1) b k 0 7) k (.int (nI (k % 2)))) 8) k (.int (nI (k + 1)))) q j = VV mo (n - 1) b (k + 1) 0 q j) q1 q2 (fun _ _ => rfl) (fun _ _ => rfl) (fun _ _ => rfl) (fun _ _ => rfl) (fun _ _ => rfl) (fun _ _ => rfl) (fun j hj => by
      show upf (VV mo (n - 1) b k 0 7) k (.int (nI (k % 2))) j = Value.int (nI (if j < k + 1 then j % 2 else 0))
      unfold upf
      by_cases q : j = k
      · rw [if_pos q, if_pos (by omega), q]
      · rw [if_neg q]
        show Value.int (nI (if j < k then j % 2 else 0)) = _
        by_cases q2 : j < k
        · rw [if_pos q2, if_pos (by omega)]
        · rw [if_neg q2, if_neg (by omega)]) (fun j hj => by
      show upf (VV mo (n - 1) b k 0 8) k (.int (nI (k + 1))) j = Value.int (nI (if j < k + 1 then j + 1 else 0))
      unfold upf
      by_cases q : j = k
      · rw [if_pos q, if_pos (by omega), q]
      · rw [if_neg q]
        show Value.int (nI (if j < k then j + 1 else 0)) = _
        by_cases q2 : j < k
        · rw [if_pos q2, if_pos (by omega)]
        · rw [if_neg q2, if_neg (by omega)]) (fun _ _ => rfl) (fun _ _ => rfl) (fun _ _ => rfl)))
    refine ⟨h', b1, ((o1.trans o2).trans o3).trans b2, fun R kk => ?_⟩
    refine ev_go at_50_228 rfl ?_
    refine ev_bi (nI 120) at_50_230 (by decide) ?_
    refine ev_icmp_ge at_50_232 (fun hc => absurd hc (nI_ge (by omega) (by omega))) (fun _ => ?_)
    refine ev_go at_50_235 rfl ?_
    refine ev_get at_50_236 h0 rfl ?_
    refine ev_go at_50_239 rfl ?_
    refine ev_go at_50_241 rfl ?_
    refine ev_ic (nI 2) at_50_243 (by decide) ?_
    refine ev_irem at_50_244 (by decide) ?_
    first | refine ev_top (congrArg Value.int (pk_rem (by omega) (by omega) (by omega))) ?_ | skip
    refine ev_iast at_50_245 h7 (by omega) (by rw [rng_len]; show k < 120; omega) ?_
    refine ev_go at_50_246 rfl ?_
    refine ev_get at_50_247 h01 rfl ?_
    refine ev_go at_50_250 rfl ?_
    refine ev_go at_50_252 rfl ?_
    refine ev_get at_50_253 h01 rfl ?_
    refine ev_iast at_50_256 h8 (by omega) (by rw [rng_len]; show k < 120; omega) ?_
    refine ev_go at_50_257 rfl ?_
    refine ev_go at_50_258 rfl ?_
    refine ev_get at_50_259 h02 rfl ?_
    refine ev_ic (nI 1) at_50_262 (by decide) ?_
    refine ev_go at_50_263 rfl ?_
    first | refine ev_top (congrArg Value.int (nI_add _ _)) ?_ | skip
    refine ev_put at_50_264 h02 (by simp [Ml]) rfl ?_
    refine ev_inc at_50_267 rfl ?_
    refine ev_go at_50_270 rfl ?_
    exact b3 R kk
theorem d_loop4 (d : Nat) {n t i b : Nat} {mo : Nat → Bool} {a1 a2 a3 : Int32} : ∀ (r k : Nat) (h : mm_H), k + r = 8 → MG a h (Ml a n t 121) (VV mo i b 120 k) →
    ∃ h', MG a h' (Ml a n t 121) (VV mo i b 120 8) ∧ Off a (a + 12) h h' ∧ mm_Ev z (mm_cal z d) 50 (276, [.val (.ref a), .val (.int a1), .val (.int a2), .val (.int a3), .val (.int (nI k))], [], h) (.returned none, h')
  | 0, k, h, hi, hG => by
    have hit : k = 8 := by omega
    subst hit
    refine ⟨h, hG, Off.rfl, ?_⟩
    refine ev_go at_50_276 rfl ?_
    refine ev_bi (nI 8) at_50_278 (by decide) ?_
    refine ev_icmp_ge at_50_280 (fun _ => ?_) (fun hc => absurd (nI_le (by omega) (by omega)) hc)
    refine ev_end at_50_297 rfl ?_
    rfl
  | r + 1, k, h, hi, hG => by
    have h0 := hG.1
    have h11 := hG.2 11 (by omega) (by omega)
    obtain ⟨m1, o1⟩ := hG.upd (q := 11) (by omega) (by omega) k (.int (-1))
    obtain ⟨h', b1, b2, b3⟩ := d_loop4 d (a1 := a1) (a2 := a2) (a3 := a3) r (k + 1) _ (by omega) (m1.congr (V' := VV mo i b 120 (k + 1)) (fun q q1 q2 => r11 (P := fun q => ∀ j, j < (Mk q).2 → upf (VV mo i b 120 k) 11 (upf (VV mo i b 120 k 11) k (.int (-1))) q j = VV mo i b 120 (k + 1) q j) q1 q2 (fun _ _ => rfl) (fun _ _ => rfl) (fun _ _ => rfl) (fun _ _ => rfl) (fun _ _ => rfl) (fun _ _ => rfl) (fun _ _ => rfl) (fun _ _ => rfl) (fun _ _ => rfl) (fun _ _ => rfl) (fun j hj => by
      show upf (VV mo i b 120 k 11) k (.int (-1)) j = Value.int (if j < k + 1 then -1 else 0)
      unfold upf
      by_cases q : j = k
      · rw [if_pos q, if_pos (by omega)]
      · rw [if_neg q]
        show Value.int (if j < k then -1 else 0) = _
        by_cases q2 : j < k
        · rw [if_pos q2, if_pos (by omega)]
        · rw [if_neg q2, if_neg (by omega)])))
    refine ⟨h', b1, o1.trans b2, ?_⟩
    refine ev_go at_50_276 rfl ?_
    refine ev_bi (nI 8) at_50_278 (by decide) ?_
    refine ev_icmp_ge at_50_280 (fun hc => absurd hc (nI_ge (by omega) (by omega))) (fun _ => ?_)
    refine ev_go at_50_283 rfl ?_
    refine ev_get at_50_284 h0 rfl ?_
    refine ev_go at_50_287 rfl ?_
    refine ev_ic (-1) at_50_289 (by decide) ?_
    refine ev_iast at_50_290 h11 (by omega) (by rw [rng_len]; show k < 8; omega) ?_
    refine ev_inc at_50_291 rfl ?_
    refine ev_go at_50_294 rfl ?_
    exact b3
end D3
