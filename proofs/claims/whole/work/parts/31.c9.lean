/-! THE CONSTRUCTOR OF TabletLine -/
/-- a bit of the switches -/
def moF (sw : Int32) (b : Nat) : Bool := decide (sw >>> (nI b &&& 31) &&& nI 1 = nI 1)
def nN (a : Int32) : Nat := if a < nI 2 then 4 else if nI 6 < a then 4 else a.toNatClampNeg
def tN (a : Int32) : Nat := if a < nI 4 then 6 else if nI 8 < a then 6 else a.toNatClampNeg
def PW (n t : Nat) (h : mm_H) (E : Nat → Bool) (sa : Nat → Nat) (c : Nat) : Prop :=
  h[0]? = some (0, [.int (nI n), .ref 1, .ref 2, .null]) ∧ h[1]? = some (11, rng n fun _ => .int (bI false)) ∧ h[2]? = some (13, rng (10 + n) fun s => if E s then .ref (sa s) else .null) ∧
  (∀ s, E s = true → SecAt h (sa s) s t (sec0 s t t) ∧ 3 ≤ sa s ∧ sa s + 6 ≤ h.length) ∧ (∀ s s', E s = true → E s' = true → s ≠ s' → sa s + 6 ≤ sa s' ∨ sa s' + 6 ≤ sa s) ∧ h.length = 3 + 6 * c ∧ mm_w h ≤ 30 + 40 * c
section C9
variable {z : mm_Z} {h h' : mm_H}
theorem InstAt.same {a cap : Nat} {p : List Nat} {w l : Bool} (x : InstAt h a cap p w l) (e : ∀ q, q < a + 2 → h'[q]? = h[q]?) : InstAt h' a cap p w l := by
  obtain ⟨h1, h2, arr, h3, h4⟩ := x
  exact ⟨by rw [e _ (by omega)]; exact h1, h2, arr, by rw [e _ (by omega)]; exact h3, h4⟩
theorem SecAt.same {a s t b : Nat} {g : Sg} (x : SecAt h a s t g) (e : ∀ q, q < b → h'[q]? = h[q]?) (hb : a + 6 ≤ b) : SecAt h' a s t g := by
  obtain ⟨h1, h2, h3, h4, h5⟩ := x
  exact ⟨by rw [e _ (by omega)]; exact h1, h2.same fun q hq => e q (by omega), h3.same fun q hq => e q (by omega), by rw [e _ (by omega)]; exact h4, h5⟩
theorem PW.step (d : Nat) {n t c s : Nat} {E : Nat → Bool} {sa : Nat → Nat} (hP : PW n t h E sa c) (hn : SecNo s t) (hs : s < 10 + n) (hE : E s = false) :
    ∃ h1, mm_cal z (d + 5) 34 [.ref h.length, .int (nI s), .int (nI (lo s)), .int (nI (up s)), .int (nI t)] (h ++ [(1, mm_dv 1)]) (.returned none, h1) ∧ (h1[2]? = some (13, rng (10 + n) fun s => if E s then .ref (sa s) else .null)) ∧ (∃ fs, h1[h.length]? = some (1, fs)) ∧ PW n t (mm_upd h1 2 s (.ref h.length)) (upf E s true) (upf sa s h.length) (c + 1) := by
  obtain ⟨p0, p1, p2, p3, p4, p5, p6⟩ := hP
  have h8 := hn.2.2
  obtain ⟨h1, hc, hS, g1, g2, g3⟩ := c_secInit (z := z) d hn (h := h ++ [(1, mm_dv 1)]) (a := h.length) (by simp) (app_end rfl _)
  have e : ∀ q, q < h.length → h1[q]? = h[q]? := fun q hq => by rw [g3 q hq, app_ne hq]
  have e2 : h1[2]? = some (13, rng (10 + n) fun s => if E s then .ref (sa s) else .null) := by rw [e 2 (by omega)]; exact p2
  have l1 : h1.length = h.length + 6 := by rw [g1]; simp
  have o : Off 2 3 h1 (mm_upd h1 2 s (.ref h.length)) := Off.upd (Nat.le_refl _) (by omega)
  refine ⟨h1, hc, e2, ⟨_, hS.1⟩, by rw [o.2.2 _ (by omega), e _ (by omega)]; exact p0, by rw [o.2.2 _ (by omega), e _ (by omega)]; exact p1, ?_, fun s' hs' => ?_, fun a b ha hb hab => ?_, by rw [o.1, l1]; omega, ?_⟩
  · rw [mm_upd_at e2, rng_set]
    show some (13, rng (10 + n) _) = some (13, rng (10 + n) _)
    congr 3
    funext j
    unfold upf
    by_cases q : j = s
    · rw [if_pos q, if_pos q, if_pos rfl, if_pos q]
    · rw [if_neg q, if_neg q, if_neg q]
  · by_cases q : s' = s
    · subst q
      rw [upf_at]
      exact ⟨hS.off o (by omega), by omega, by rw [o.1, l1]; omega⟩
    · rw [upf_ne _ _ q] at hs' ⊢
      obtain ⟨a1, a2, a3⟩ := p3 s' hs'
      exact ⟨(a1.same e a3).off o (by omega), a2, by rw [o.1, l1]; omega⟩
  · by_cases qa : a = s
    · by_cases qb : b = s
      · exact absurd (qa.trans qb.symm) hab
      · rw [upf_ne _ _ qb] at hb
        have := (p3 b hb).2.2
        right
        rw [upf_ne _ _ qb, qa, upf_at]
        exact this
    · rw [upf_ne _ _ qa] at ha
      have ha2 := (p3 a ha).2.2
      by_cases qb : b = s
      · left
        rw [upf_ne _ _ qa, qb, upf_at]
        exact ha2
      · rw [upf_ne _ _ qb] at hb
        rw [upf_ne _ _ qa, upf_ne _ _ qb]
        exact p4 a b ha hb hab
  · rw [o.2.1, g2, mm_w_push]
    have : (mm_dv 1).length = 7 := rfl
    rw [this]
    omega
theorem c_init1 (d : Nat) {n t : Nat} {a1 a2 a3 : Int32} (n2 : 2 ≤ n) (n6 : n ≤ 6) (t8 : t ≤ 8) : ∀ (r i : Nat) (h : mm_H) (E : Nat → Bool) (sa : Nat → Nat), i + r = n - 1 → PW n t h E sa i → (∀ s, E s = decide (s < i)) →
    ∃ h' E' sa', PW n t h' E' sa' (n - 1) ∧ (∀ s, E' s = decide (s < n - 1)) ∧ ∀ R, mm_Ev z (mm_cal z (d + 5)) 0 (111, [.val (.ref 0), .val (.int a1), .val (.int a2), .val (.int a3), .val (.int (nI t)), .val (.int (nI (n - 1)))], [], h') R → mm_Ev z (mm_cal z (d + 5)) 0 (70, [.val (.ref 0), .val (.int a1), .val (.int a2), .val (.int a3), .val (.int (nI t)), .val (.int (nI i))], [], h) R
  | 0, i, h, E, sa, hi, hP, hE => by
    have hit : i = n - 1 := by omega
    subst hit
    refine ⟨h, E, sa, hP, hE, fun R k => ?_⟩
    have h0 := hP.1
    refine ev_go at_0_70 rfl ?_
    refine ev_go at_0_72 rfl ?_
    refine ev_get at_0_73 h0 rfl ?_
    refine ev_ic (nI 1) at_0_76 (by decide) ?_
    refine ev_go at_0_77 rfl ?_
    refine ev_top (congrArg Value.int (pk_sub (show 1 ≤ n by omega))) ?_
    refine ev_icmp_ge at_0_78 (fun _ => ?_) (fun hc => absurd (nI_le (by omega) (by omega)) hc)
    exact k
  | r + 1, i, h, E, sa, hi, hP, hE => by
    have hn : SecNo i t := ⟨by omega, by omega, t8⟩
    obtain ⟨h1, hc, q2, ⟨fs, q3⟩, hP1⟩ := hP.step (z := z) d hn (by omega) (by rw [hE]; exact decide_eq_false (by omega))
    have hlo : lo i = i := if_pos (by omega)
    have hup : up i = i + 1 := if_pos (by omega)
    rw [hlo, hup] at hc
    obtain ⟨h', E', sa', a1', a2', a3'⟩ := c_init1 d n2 n6 t8 r (i + 1) _ _ _ (by omega) hP1 (fun s => by
      unfold upf
      by_cases q : s = i
      · rw [if_pos q, decide_eq_true (by omega)]
      · rw [if_neg q, hE]
        by_cases q2 : s < i
        · rw [decide_eq_true q2, decide_eq_true (by omega)]
        · rw [decide_eq_false q2, decide_eq_false (by omega)])
    refine ⟨h', E', sa', a1', a2', fun R k => ?_⟩
    have h0 := hP.1
    refine ev_go at_0_70 rfl ?_
    refine ev_go at_0_72 rfl ?_
    refine ev_get at_0_73 h0 rfl ?_
    refine ev_ic (nI 1) at_0_76 (by decide) ?_
    refine ev_go at_0_77 rfl ?_
    refine ev_top (congrArg Value.int (pk_sub (show 1 ≤ n by omega))) ?_
    refine ev_icmp_ge at_0_78 (fun hc => absurd hc (nI_ge (by omega) (by omega))) (fun _ => ?_)
    refine ev_go at_0_81 rfl ?_
    refine ev_get at_0_82 h0 rfl ?_
    refine ev_go at_0_85 rfl ?_
    refine ev_newL rfl at_0_87 (by decide) ?_
    refine ev_go at_0_90 rfl ?_
    refine ev_go at_0_91 rfl ?_
    refine ev_go at_0_93 rfl ?_
    refine ev_go at_0_95 rfl ?_
    refine ev_ic (nI 1) at_0_97 (by decide) ?_
    refine ev_go at_0_98 rfl ?_
    first | refine ev_top (congrArg Value.int (nI_add _ _)) ?_ | skip
    refine ev_go at_0_99 rfl ?_
    refine ev_callI (as := [_, _, _, _]) at_0_101 (by decide) rfl rfl (by simp [mm_wt, Value.category]) rfl hc ?_
    refine ev_aast at_0_104 q2 q3 (by decide) (by omega) (by rw [rng_len]; omega) ?_
    refine ev_inc at_0_105 rfl ?_
    refine ev_go at_0_108 rfl ?_
    exact a3' R k
theorem c_init2 (d : Nat) {n t : Nat} {a1 a2 a3 : Int32} (n2 : 2 ≤ n) (n6 : n ≤ 6) (t8 : t ≤ 8) : ∀ (r b c : Nat) (h : mm_H) (E : Nat → Bool) (sa : Nat → Nat), 1 ≤ b → b + r = n - 1 → PW n t h E sa c → c + r ≤ 9 → (∀ s, E s = (decide (s < n - 1) || (decide (11 ≤ s) && decide (s < 10 + b) && moF a3 (s - 10)))) →
    ∃ h' E' sa' c', PW n t h' E' sa' c' ∧ c' ≤ 9 ∧ (∀ s, E' s = (decide (s < n - 1) || (decide (11 ≤ s) && decide (s < 10 + (n - 1)) && moF a3 (s - 10)))) ∧ ∀ R, (∀ v, mm_Ev z (mm_cal z (d + 5)) 0 (173, [.val (.ref 0), .val (.int a1), .val (.int a2), .val (.int a3), .val (.int (nI t)), .val (.int v)], [], h') R) → mm_Ev z (mm_cal z (d + 5)) 0 (114, [.val (.ref 0), .val (.int a1), .val (.int a2), .val (.int a3), .val (.int (nI t)), .val (.int (nI b))], [], h) R
  | 0, b, c, h, E, sa, hb, hi, hP, hc9, hE => by
    have hit : b = n - 1 := by omega
    subst hit
    refine ⟨h, E, sa, c, hP, by omega, hE, fun R k => ?_⟩
    have h0 := hP.1
    refine ev_go at_0_114 rfl ?_
    refine ev_go at_0_116 rfl ?_
    refine ev_get at_0_117 h0 rfl ?_
    refine ev_ic (nI 1) at_0_120 (by decide) ?_
    refine ev_go at_0_121 rfl ?_
    refine ev_top (congrArg Value.int (pk_sub (show 1 ≤ n by omega))) ?_
    refine ev_icmp_ge at_0_122 (fun _ => ?_) (fun hc => absurd (nI_le (by omega) (by omega)) hc)
    exact k _
  | r + 1, b, c, h, E, sa, hb, hi, hP, hc9, hE => by
    have h0 := hP.1
    cases hmo : moF a3 b with
    | false =>
      obtain ⟨h', E', sa', c', a1', a2', a3', a4'⟩ := c_init2 d n2 n6 t8 r (b + 1) c h E sa (by omega) (by omega) hP (by omega) (fun s => by
        rw [hE]
        by_cases q : s = 10 + b
        · subst q
          rw [Nat.add_sub_cancel_left, hmo, Bool.and_false, Bool.and_false]
        · congr 3
          by_cases q2 : s < 10 + b
          · rw [decide_eq_true q2, decide_eq_true (by omega)]
          · rw [decide_eq_false q2, decide_eq_false (by omega)])
      refine ⟨h', E', sa', c', a1', a2', a3', fun R k => ?_⟩
      have hmo2 : ¬ (a3 >>> (nI b &&& 31) &&& nI 1 = nI 1) := of_decide_eq_false hmo
      refine ev_go at_0_114 rfl ?_
      refine ev_go at_0_116 rfl ?_
      refine ev_get at_0_117 h0 rfl ?_
      refine ev_ic (nI 1) at_0_120 (by decide) ?_
      refine ev_go at_0_121 rfl ?_
      refine ev_top (congrArg Value.int (pk_sub (show 1 ≤ n by omega))) ?_
      refine ev_icmp_ge at_0_122 (fun hc => absurd hc (nI_ge (by omega) (by omega))) (fun _ => ?_)
      refine ev_go at_0_125 rfl ?_
      refine ev_go at_0_126 rfl ?_
      refine ev_go at_0_128 rfl ?_
      refine ev_ic (nI 1) at_0_129 (by decide) ?_
      refine ev_go at_0_130 rfl ?_
      refine ev_ic (nI 1) at_0_131 (by decide) ?_
      refine ev_icmp_ne at_0_132 (fun _ => ?_) (fun hc => absurd hc hmo2)
      refine ev_inc at_0_167 rfl ?_
      refine ev_go at_0_170 rfl ?_
      exact a4' R k
    | true =>
      have hn : SecNo (10 + b) t := ⟨by omega, by omega, t8⟩
      obtain ⟨h1, hc, q2, ⟨fs, q3⟩, hP1⟩ := hP.step (z := z) d hn (by omega) (by rw [hE, decide_eq_false (by omega), decide_eq_false (by omega : ¬ 10 + b < 10 + b), Bool.and_false, Bool.false_and]; rfl)
      have hlo : lo (10 + b) = b - 1 := by unfold lo; rw [if_neg (by omega)]; omega
      have hup : up (10 + b) = b + 1 := by unfold up; rw [if_neg (by omega)]; omega
      rw [hlo, hup] at hc
      obtain ⟨h', E', sa', c', a1', a2', a3', a4'⟩ := c_init2 d n2 n6 t8 r (b + 1) (c + 1) _ _ _ (by omega) (by omega) hP1 (by omega) (fun s => by
        unfold upf
        by_cases q : s = 10 + b
        · rw [if_pos q]
          subst q
          rw [Nat.add_sub_cancel_left, hmo, decide_eq_true (by omega : 11 ≤ 10 + b), decide_eq_true (by omega : 10 + b < 10 + (b + 1)), Bool.and_true, Bool.and_true, Bool.or_true]
        · rw [if_neg q, hE]
          congr 3
          by_cases q2 : s < 10 + b
          · rw [decide_eq_true q2, decide_eq_true (by omega)]
          · rw [decide_eq_false q2, decide_eq_false (by omega)])
      refine ⟨h', E', sa', c', a1', a2', a3', fun R k => ?_⟩
      have hmo2 : a3 >>> (nI b &&& 31) &&& nI 1 = nI 1 := of_decide_eq_true hmo
      refine ev_go at_0_114 rfl ?_
      refine ev_go at_0_116 rfl ?_
      refine ev_get at_0_117 h0 rfl ?_
      refine ev_ic (nI 1) at_0_120 (by decide) ?_
      refine ev_go at_0_121 rfl ?_
      refine ev_top (congrArg Value.int (pk_sub (show 1 ≤ n by omega))) ?_
      refine ev_icmp_ge at_0_122 (fun hc => absurd hc (nI_ge (by omega) (by omega))) (fun _ => ?_)
      refine ev_go at_0_125 rfl ?_
      refine ev_go at_0_126 rfl ?_
      refine ev_go at_0_128 rfl ?_
      refine ev_ic (nI 1) at_0_129 (by decide) ?_
      refine ev_go at_0_130 rfl ?_
      refine ev_ic (nI 1) at_0_131 (by decide) ?_
      refine ev_icmp_ne at_0_132 (fun hc => absurd hmo2 hc) (fun _ => ?_)
      refine ev_go at_0_135 rfl ?_
      refine ev_get at_0_136 h0 rfl ?_
      refine ev_bi (nI 10) at_0_139 (by decide) ?_
      refine ev_go at_0_141 rfl ?_
      refine ev_go at_0_143 rfl ?_
      first | refine ev_top (congrArg Value.int (nI_add _ _)) ?_ | skip
      refine ev_newL rfl at_0_144 (by decide) ?_
      refine ev_go at_0_147 rfl ?_
      refine ev_bi (nI 10) at_0_148 (by decide) ?_
      refine ev_go at_0_150 rfl ?_
      refine ev_go at_0_152 rfl ?_
      first | refine ev_top (congrArg Value.int (nI_add _ _)) ?_ | skip
      refine ev_go at_0_153 rfl ?_
      refine ev_ic (nI 1) at_0_155 (by decide) ?_
      refine ev_go at_0_156 rfl ?_
      refine ev_top (congrArg Value.int (pk_sub (show 1 ≤ b by omega))) ?_
      refine ev_go at_0_157 rfl ?_
      refine ev_ic (nI 1) at_0_159 (by decide) ?_
      refine ev_go at_0_160 rfl ?_
      first | refine ev_top (congrArg Value.int (nI_add _ _)) ?_ | skip
      refine ev_go at_0_161 rfl ?_
      refine ev_callI (as := [_, _, _, _]) at_0_163 (by decide) rfl rfl (by simp [mm_wt, Value.category]) rfl hc ?_
      refine ev_aast at_0_166 q2 q3 (by decide) (by omega) (by rw [rng_len]; omega) ?_
      refine ev_inc at_0_167 rfl ?_
      refine ev_go at_0_170 rfl ?_
      exact a4' R k
theorem c_init3 (d : Nat) {tb n : Nat} {hb : mm_H} {l1 l2 l3 l4 : Int32} (htb : 0 < tb) (h0 : hb[0]? = some (0, [.int (nI n), .ref 1, .ref 2, .ref tb])) : ∀ (r i : Nat) (h : mm_H), i + r = 8 → (∀ q, q < tb → h[q]? = hb[q]?) → h[tb]? = some (14, rng 8 fun j => if j < i then .ref (tb + 1 + j) else .null) → (∀ j, j < i → TrAt h (tb + 1 + j) (false, none, none, none, none)) → h.length = tb + 1 + i →
    ∃ h', mm_Ev z (mm_cal z (d + 5)) 0 (185, [.val (.ref 0), .val (.int l1), .val (.int l2), .val (.int l3), .val (.int l4), .val (.int (nI i))], [], h) (.returned none, h') ∧ (∀ q, q < tb → h'[q]? = hb[q]?) ∧ h'[tb]? = some (14, rng 8 fun j => .ref (tb + 1 + j)) ∧ (∀ j, j < 8 → TrAt h' (tb + 1 + j) (false, none, none, none, none)) ∧ h'.length = tb + 9 ∧ mm_w h' = mm_w h + 5 * r
  | 0, i, h, hi, a1, a2, a3, a4 => by
    have hit : i = 8 := by omega
    subst hit
    refine ⟨h, ?_, a1, ?_, a3, a4, rfl⟩
    refine ev_go at_0_185 rfl ?_
    refine ev_bi (nI 8) at_0_187 (by decide) ?_
    refine ev_icmp_ge at_0_189 (fun _ => ?_) (fun hc => absurd (nI_le (by omega) (by omega)) hc)
    refine ev_end at_0_212 rfl ?_
    rfl
    rw [a2]
    rfl
  | r + 1, i, h, hi, a1, a2, a3, a4 => by
    obtain ⟨h1, hc, hT, o1⟩ := c_trInit (z := z) (d + 4) (h := h ++ [(3, mm_dv 3)]) (a := tb + 1 + i) (app_end a4 _)
    have e1 : h1[tb]? = some (14, rng 8 fun j => if j < i then .ref (tb + 1 + j) else .null) := by rw [o1.2.2 _ (by omega), app_ne (by omega)]; exact a2
    have o2 : Off tb (tb + 1) h1 (mm_upd h1 tb i (.ref (tb + 1 + i))) := Off.upd (Nat.le_refl _) (by omega)
    have z0 : h[0]? = some (0, [.int (nI n), .ref 1, .ref 2, .ref tb]) := by rw [a1 0 htb]; exact h0
    obtain ⟨h', b1, b2, b3, b4, b5, b6⟩ := c_init3 d htb h0 r (i + 1) (mm_upd h1 tb i (.ref (tb + 1 + i))) (by omega)
      (fun q hq => by rw [o2.2.2 _ (by omega), o1.2.2 _ (by omega), app_ne (by omega)]; exact a1 q hq)
      (by
        rw [mm_upd_at e1, rng_set]
        show some (14, rng 8 _) = some (14, rng 8 _)
        congr 3
        funext j
        unfold upf
        by_cases q : j = i
        · rw [if_pos q, if_pos (by omega), q]
        · rw [if_neg q]
          dsimp only
          by_cases q2 : j < i
          · rw [if_pos q2, if_pos (by omega)]
          · rw [if_neg q2, if_neg (by omega)])
      (fun j hj => by
        unfold TrAt
        rw [o2.2.2 _ (by omega)]
        by_cases q : j = i
        · subst q; exact hT
        · rw [o1.2.2 _ (by omega), app_ne (by omega)]
          exact a3 j (by omega))
      (by rw [o2.1, o1.1, List.length_append, a4]; rfl)
    refine ⟨h', ?_, b2, b3, b4, b5, by rw [b6, o2.2.1, o1.2.1, mm_w_push]; show mm_w h + 5 + 5 * r = _; omega⟩
    refine ev_go at_0_185 rfl ?_
    refine ev_bi (nI 8) at_0_187 (by decide) ?_
    refine ev_icmp_ge at_0_189 (fun hc => absurd hc (nI_ge (by omega) (by omega))) (fun _ => ?_)
    refine ev_go at_0_192 rfl ?_
    refine ev_get at_0_193 z0 rfl ?_
    refine ev_go at_0_196 rfl ?_
    refine ev_newL a4 at_0_198 (by decide) ?_
    refine ev_go at_0_201 rfl ?_
    refine ev_callI (as := []) at_0_202 (by decide) rfl rfl (by simp [mm_wt, Value.category]) rfl hc ?_
    refine ev_aast at_0_205 e1 hT (by decide) (by omega) (by rw [rng_len]; omega) ?_
    refine ev_inc at_0_206 rfl ?_
    refine ev_go at_0_209 rfl ?_
    exact b1
/-- the class's first state -/
def w0 (t : Nat) : Cs := (fun _ => false, fun s => sec0 s t t, fun _ => (false, none, none, none, none))
theorem rng_rep (n : Nat) (v : Value) : List.replicate n v = rng n fun _ => v := by
  unfold rng
  rw [List.map_const', List.length_range]
theorem c_init43 (d : Nat) {n t : Nat} {a1 a2 a3 : Int32} {v5 : Slot} (hv5 : v5 = .unset) (n2 : 2 ≤ n) (n6 : n ≤ 6) (t4 : 4 ≤ t) (t8 : t ≤ 8) (hl : h.length = 1) (hw : mm_w h = 4) (h0 : h[0]? = some (0, [.int (nI n), .null, .null, .null])) :
    ∃ h' K, mm_Ev z (mm_cal z (d + 5)) 0 (43, [.val (.ref 0), .val (.int a1), .val (.int a2), .val (.int a3), .val (.int (nI t)), v5], [], h) (.returned none, h') ∧ CW K h' (w0 t) ∧ K.n = n ∧ K.t = t ∧ K.mo = moF a3 ∧ h'.length = K.tb + 9 ∧ K.tb ≤ 57 ∧ mm_w h' ≤ 500 := by
  have e1 := app_at h0 [(11, List.replicate n (mm_zero 11))]
  have e2 := mm_upd_at e1 1 (.ref 1)
  generalize hA : mm_upd (h ++ [(11, List.replicate n (mm_zero 11))]) 0 1 (.ref 1) = hA' at e2
  have oA : Off 0 1 (h ++ [(11, List.replicate n (mm_zero 11))]) hA' := by rw [← hA]; exact Off.upd (Nat.le_refl _) (by omega)
  have lA : hA'.length = 2 := by rw [oA.1, List.length_append, hl]; rfl
  have e3 := app_at e2 [(13, List.replicate (10 + n) (mm_zero 13))]
  have e4 := mm_upd_at e3 2 (.ref 2)
  generalize hB : mm_upd (hA' ++ [(13, List.replicate (10 + n) (mm_zero 13))]) 0 2 (.ref 2) = hB' at e4
  have oB : Off 0 1 (hA' ++ [(13, List.replicate (10 + n) (mm_zero 13))]) hB' := by rw [← hB]; exact Off.upd (Nat.le_refl _) (by omega)
  have lB : hB'.length = 3 := by rw [oB.1, List.length_append, lA]; rfl
  have hP : PW n t hB' (fun s => decide (s < 0)) (fun _ => 0) 0 := by
    refine ⟨e4, ?_, ?_, fun s hs => absurd (of_decide_eq_true hs) (by omega), fun s s' hs => absurd (of_decide_eq_true hs) (by omega), lB, ?_⟩
    · rw [oB.2.2 _ (by omega), app_ne (by omega), oA.2.2 _ (by omega), app_end hl, rng_rep]; rfl
    · rw [oB.2.2 _ (by omega), app_end lA, rng_rep]; rfl
    · rw [oB.2.1, mm_w_push, oA.2.1, mm_w_push, hw]; simp; omega
  obtain ⟨hC, EC, saC, pC1, pC2, kC⟩ := c_init1 (z := z) (a1 := a1) (a2 := a2) (a3 := a3) d n2 n6 t8 (n - 1) 0 hB' _ _ (by omega) hP (fun s => rfl)
  obtain ⟨hD, ED, saD, c, pD1, pD2, pD3, kD⟩ := c_init2 (z := z) (a1 := a1) (a2 := a2) (a3 := a3) d n2 n6 t8 (n - 2) 1 (n - 1) hC EC saC (by omega) (by omega) pC1 (by omega) (fun s => by
    rw [pC2]
    by_cases q : 11 ≤ s
    · rw [decide_eq_false (by omega : ¬ s < 10 + 1), Bool.and_false, Bool.false_and, Bool.or_false]
    · rw [decide_eq_false q, Bool.false_and, Bool.false_and, Bool.or_false])
  obtain ⟨d0, d1, d2, d3, d4, d5, d6⟩ := pD1
  have f1 := app_at d0 [(14, List.replicate 8 (mm_zero 14))]
  have f2 := mm_upd_at f1 3 (.ref hD.length)
  generalize hE : mm_upd (hD ++ [(14, List.replicate 8 (mm_zero 14))]) 0 3 (.ref hD.length) = hE' at f2
  have oE : Off 0 1 (hD ++ [(14, List.replicate 8 (mm_zero 14))]) hE' := by rw [← hE]; exact Off.upd (Nat.le_refl _) (by omega)
  obtain ⟨hF, kF, g1, g2, g3, g4, g5⟩ := c_init3 (z := z) (n := n) (hb := hE') (l1 := a1) (l2 := a2) (l3 := a3) (l4 := nI t) d (tb := hD.length) (by omega) f2 8 0 hE' (by omega) (fun _ _ => rfl)
    (by rw [oE.2.2 _ (by omega), app_end rfl, rng_rep]; rfl) (fun j hj => absurd hj (by omega)) (by rw [oE.1, List.length_append]; rfl)
  have en : ∀ q, 0 < q → q < hD.length → hF[q]? = hD[q]? := fun q h1 h2 => by rw [g1 q h2, oE.2.2 _ (by omega), app_ne h2]
  have hex : ∀ s, Cf.ex (n, t, moF a3, saD, hD.length) s = ED s := fun s => by
    rw [pD3]
    unfold Cf.ex
    show (decide (s + 1 < n) || (decide (11 ≤ s) && decide (s + 1 < 10 + n) && moF a3 (s - 10))) = _
    rw [show (decide (s + 1 < n)) = decide (s < n - 1) from decide_eq_decide.mpr (by omega), show (decide (s + 1 < 10 + n)) = decide (s < 10 + (n - 1)) from decide_eq_decide.mpr (by omega)]
  refine ⟨hF, (n, t, moF a3, saD, hD.length), ?_, ⟨⟨n2, n6, t4, t8, fun s hs => ?_, fun s s' hs hs' hne => ?_⟩, ?_, ?_, ?_, g2, fun s hs => ?_, g3⟩, rfl, rfl, rfl, g4, ?_, ?_⟩
  · subst hv5
    refine ev_go at_0_43 rfl ?_
    refine ev_go at_0_44 rfl ?_
    refine ev_get at_0_45 h0 rfl ?_
    refine ev_newaL hl (Or.inl ⟨_, rfl⟩) at_0_48 (by omega) ?_
    refine ev_put at_0_50 e1 (by simp) (by first | rfl | exact fits_b _) ?_
    rw [hA]
    refine ev_go at_0_53 rfl ?_
    refine ev_bi (nI 10) at_0_54 (by decide) ?_
    refine ev_go at_0_56 rfl ?_
    refine ev_get at_0_57 e2 rfl ?_
    refine ev_go at_0_60 rfl ?_
    first | refine ev_top (congrArg Value.int (nI_add _ _)) ?_ | skip
    refine ev_newaL lA (Or.inr ⟨_, rfl⟩) at_0_61 (by omega) ?_
    refine ev_put at_0_64 e3 (by simp) (by first | rfl | exact fits_b _) ?_
    rw [hB]
    refine ev_ic (nI 0) at_0_67 (by decide) ?_
    refine ev_go at_0_68 rfl ?_
    refine kC _ ?_
    refine ev_ic (nI 1) at_0_111 (by decide) ?_
    refine ev_go at_0_112 rfl ?_
    refine kD _ (fun v => ?_)
    refine ev_go at_0_173 rfl ?_
    refine ev_bi (nI 8) at_0_174 (by decide) ?_
    refine ev_newaL rfl (Or.inr ⟨_, rfl⟩) at_0_176 (by omega) ?_
    refine ev_put at_0_179 f1 (by simp) rfl ?_
    rw [hE]
    refine ev_ic (nI 0) at_0_182 (by decide) ?_
    refine ev_go at_0_183 rfl ?_
    exact kF
  · rw [hex] at hs
    exact (d3 s hs).2
  · rw [hex] at hs hs'
    exact d4 s s' hs hs' hne
  · rw [g1 0 (by omega)]; exact f2
  · rw [en 1 (by omega) (by omega)]; exact d1
  · rw [en 2 (by omega) (by omega), d2]
    congr 3
    funext s
    rw [hex]
  · rw [hex] at hs
    obtain ⟨a1', a2', a3'⟩ := d3 s hs
    have hx : SecAt hF (saD s) s t (sec0 s t t) := by
      obtain ⟨x1, ⟨y1, y2, y3, y4, y5⟩, ⟨z1, z2, z3, z4, z5⟩, x4, x5⟩ := a1'
      exact ⟨by rw [en _ (by omega) (by omega)]; exact x1, ⟨by rw [en _ (by omega) (by omega)]; exact y1, y2, y3, by rw [en _ (by omega) (by omega)]; exact y4, y5⟩, ⟨by rw [en _ (by omega) (by omega)]; exact z1, z2, z3, by rw [en _ (by omega) (by omega)]; exact z4, z5⟩, by rw [en _ (by omega) (by omega)]; exact x4, x5⟩
    exact hx
  · show hD.length ≤ 57; omega
  · rw [g5, oE.2.1, mm_w_push]; show mm_w hD + 8 + 40 ≤ 500; omega
theorem c_init24 (d : Nat) {n : Nat} {a1 a2 a3 : Int32} {v4 v5 : Slot} (hv4 : v4 = .unset) (hv5 : v5 = .unset) (n2 : 2 ≤ n) (n6 : n ≤ 6) (hl : h.length = 1) (hw : mm_w h = 4) (h0 : h[0]? = some (0, [.int (nI n), .null, .null, .null])) :
    ∃ h' K, mm_Ev z (mm_cal z (d + 5)) 0 (24, [.val (.ref 0), .val (.int a1), .val (.int a2), .val (.int a3), v4, v5], [], h) (.returned none, h') ∧ CW K h' (w0 (tN a2)) ∧ K.n = n ∧ K.t = tN a2 ∧ K.mo = moF a3 ∧ h'.length = K.tb + 9 ∧ K.tb ≤ 57 ∧ mm_w h' ≤ 500 := by
  unfold tN
  by_cases c1 : a2 < nI 4
  · rw [if_pos c1]
    obtain ⟨h', K, k, rest⟩ := c_init43 (z := z) (t := 6) (a1 := a1) (a2 := a2) (a3 := a3) d hv5 n2 n6 (by omega) (by omega) hl hw h0
    refine ⟨h', K, ?_, rest⟩
    subst hv4 hv5
    refine ev_go at_0_24 rfl ?_
    refine ev_ic (nI 4) at_0_25 (by decide) ?_
    refine ev_icmp_lt at_0_26 (fun _ => ?_) (fun hc => absurd c1 hc)
    refine ev_bi (nI 6) at_0_39 (by decide) ?_
    refine ev_go at_0_41 rfl ?_
    exact k
  · rw [if_neg c1]
    by_cases c2 : nI 8 < a2
    · rw [if_pos c2]
      obtain ⟨h', K, k, rest⟩ := c_init43 (z := z) (t := 6) (a1 := a1) (a2 := a2) (a3 := a3) d hv5 n2 n6 (by omega) (by omega) hl hw h0
      refine ⟨h', K, ?_, rest⟩
      subst hv4 hv5
      refine ev_go at_0_24 rfl ?_
      refine ev_ic (nI 4) at_0_25 (by decide) ?_
      refine ev_icmp_lt at_0_26 (fun hc => absurd hc c1) (fun _ => ?_)
      refine ev_go at_0_29 rfl ?_
      refine ev_bi (nI 8) at_0_30 (by decide) ?_
      refine ev_icmp_gt at_0_32 (fun _ => ?_) (fun hc => absurd c2 hc)
      refine ev_bi (nI 6) at_0_39 (by decide) ?_
      refine ev_go at_0_41 rfl ?_
      exact k
    · rw [if_neg c2]
      have c0 : ¬ a2 < 0 := fun q => c1 (Int32.lt_trans q (by decide))
      obtain ⟨t, ht, rfl⟩ := nI_of c0
      rw [nI_clamp ht]
      obtain ⟨h', K, k, rest⟩ := c_init43 (z := z) (t := t) (a1 := a1) (a2 := nI t) (a3 := a3) d hv5 n2 n6 (Nat.not_lt.mp fun q => c1 (nI_lt q (by omega))) (Nat.not_lt.mp fun q => c2 (nI_lt q ht)) hl hw h0
      refine ⟨h', K, ?_, rest⟩
      subst hv4 hv5
      refine ev_go at_0_24 rfl ?_
      refine ev_ic (nI 4) at_0_25 (by decide) ?_
      refine ev_icmp_lt at_0_26 (fun hc => absurd hc c1) (fun _ => ?_)
      refine ev_go at_0_29 rfl ?_
      refine ev_bi (nI 8) at_0_30 (by decide) ?_
      refine ev_icmp_gt at_0_32 (fun hc => absurd hc c2) (fun _ => ?_)
      refine ev_go at_0_35 rfl ?_
      refine ev_go at_0_36 rfl ?_
      refine ev_go at_0_41 rfl ?_
      exact k
theorem c_init (d : Nat) (a1 a2 a3 : Int32) (hl : h.length = 1) (hw : mm_w h = 4) (h0 : h[0]? = some (0, mm_dv 0)) :
    ∃ h' K, mm_cal z (d + 6) 0 [.ref 0, .int a1, .int a2, .int a3] h (.returned none, h') ∧ CW K h' (w0 (tN a2)) ∧ K.n = nN a1 ∧ K.t = tN a2 ∧ K.mo = moF a3 ∧ h'.length = K.tb + 9 ∧ K.tb ≤ 57 ∧ mm_w h' ≤ 500 := by
  change h[0]? = some (0, [.int 0, .null, .null, .null]) at h0
  have big : ∀ n, 2 ≤ n → n ≤ 6 → _ := fun n n2 n6 => c_init24 (z := z) (a1 := a1) (a2 := a2) (a3 := a3) d rfl rfl n2 n6 (h := mm_upd h 0 0 (.int (nI n))) (by rw [mm_upd_len, hl]) (by rw [mm_w_upd, hw]) (by rw [mm_upd_at h0]; rfl)
  unfold nN
  by_cases c1 : a1 < nI 2
  · rw [if_pos c1]
    obtain ⟨h', K, k, rest⟩ := big 4 (by omega) (by omega)
    refine ⟨h', K, ?_, rest⟩
    refine mm_cal_of ?_
    refine ev_go at_0_0 rfl ?_
    refine ev_go at_0_1 rfl ?_
    refine ev_go at_0_4 rfl ?_
    refine ev_go at_0_5 rfl ?_
    refine ev_ic (nI 2) at_0_6 (by decide) ?_
    refine ev_icmp_lt at_0_7 (fun _ => ?_) (fun hc => absurd c1 hc)
    refine ev_ic (nI 4) at_0_20 (by decide) ?_
    refine ev_put at_0_21 h0 (by simp) (by first | rfl | exact fits_b _) ?_
    exact k
  · rw [if_neg c1]
    by_cases c2 : nI 6 < a1
    · rw [if_pos c2]
      obtain ⟨h', K, k, rest⟩ := big 4 (by omega) (by omega)
      refine ⟨h', K, ?_, rest⟩
      refine mm_cal_of ?_
      refine ev_go at_0_0 rfl ?_
      refine ev_go at_0_1 rfl ?_
      refine ev_go at_0_4 rfl ?_
      refine ev_go at_0_5 rfl ?_
      refine ev_ic (nI 2) at_0_6 (by decide) ?_
      refine ev_icmp_lt at_0_7 (fun hc => absurd hc c1) (fun _ => ?_)
      refine ev_go at_0_10 rfl ?_
      refine ev_bi (nI 6) at_0_11 (by decide) ?_
      refine ev_icmp_gt at_0_13 (fun _ => ?_) (fun hc => absurd c2 hc)
      refine ev_ic (nI 4) at_0_20 (by decide) ?_
      refine ev_put at_0_21 h0 (by simp) (by first | rfl | exact fits_b _) ?_
      exact k
    · rw [if_neg c2]
      have c0 : ¬ a1 < 0 := fun q => c1 (Int32.lt_trans q (by decide))
      obtain ⟨n, hn, he⟩ := nI_of c0
      have hcl : a1.toNatClampNeg = n := by rw [he, nI_clamp hn]
      rw [hcl]
      obtain ⟨h', K, k, rest⟩ := big n (Nat.not_lt.mp fun q => c1 (by rw [he]; exact nI_lt q (by omega))) (Nat.not_lt.mp fun q => c2 (by rw [he]; exact nI_lt q hn))
      refine ⟨h', K, ?_, rest⟩
      refine mm_cal_of ?_
      refine ev_go at_0_0 rfl ?_
      refine ev_go at_0_1 rfl ?_
      refine ev_go at_0_4 rfl ?_
      refine ev_go at_0_5 rfl ?_
      refine ev_ic (nI 2) at_0_6 (by decide) ?_
      refine ev_icmp_lt at_0_7 (fun hc => absurd hc c1) (fun _ => ?_)
      refine ev_go at_0_10 rfl ?_
      refine ev_bi (nI 6) at_0_11 (by decide) ?_
      refine ev_icmp_gt at_0_13 (fun hc => absurd hc c2) (fun _ => ?_)
      refine ev_go at_0_16 rfl ?_
      refine ev_go at_0_17 rfl ?_
      refine ev_top (congrArg Value.int he) ?_
      refine ev_put at_0_21 h0 (by simp) (by first | rfl | exact fits_b _) ?_
      exact k
end C9
