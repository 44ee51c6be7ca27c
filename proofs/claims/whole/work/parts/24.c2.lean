/-! THE CLASS's WORLD, and its private methods -/
def oI (q : Option Nat) : Int32 := match q with
  | some k => nI k
  | none => -1
/-- a train: known, its box, its section, its goal, its tablet -/
abbrev Tg : Type := Bool × Option Nat × Option Nat × Option Nat × Option Nat
def TrAt (h : mm_H) (a : Nat) (g : Tg) : Prop := h[a]? = some (3, [.int (bI g.1), .int (oI g.2.1), .int (oI g.2.2.1), .int (oI g.2.2.2.1), .int (oI g.2.2.2.2)])
/-- the line's shape: boxes, tablets, which boxes may switch out; where its sections and its trains lie -/
abbrev Cf : Type := Nat × Nat × (Nat → Bool) × (Nat → Nat) × Nat
abbrev Cf.n (K : Cf) : Nat := K.1
abbrev Cf.t (K : Cf) : Nat := K.2.1
abbrev Cf.mo (K : Cf) : Nat → Bool := K.2.2.1
abbrev Cf.sa (K : Cf) : Nat → Nat := K.2.2.2.1
abbrev Cf.tb (K : Cf) : Nat := K.2.2.2.2
/-- is there a section with this number? -/
def Cf.ex (K : Cf) (s : Nat) : Bool := decide (s + 1 < K.n) || (decide (11 ≤ s) && decide (s + 1 < 10 + K.n) && K.mo (s - 10))
def Cf.ok (K : Cf) : Prop := 2 ≤ K.n ∧ K.n ≤ 6 ∧ 4 ≤ K.t ∧ K.t ≤ 8 ∧ (∀ s, K.ex s = true → 3 ≤ K.sa s ∧ K.sa s + 6 ≤ K.tb) ∧ ∀ s s', K.ex s = true → K.ex s' = true → s ≠ s' → K.sa s + 6 ≤ K.sa s' ∨ K.sa s' + 6 ≤ K.sa s
theorem Cf.no {K : Cf} (hK : K.ok) {s : Nat} (h : K.ex s = true) : SecNo s K.t ∧ s < 10 + K.n ∧ lo s < up s ∧ up s < K.n ∧ (s < 10 → s + 1 < K.n) ∧ (10 ≤ s → 11 ≤ s ∧ s + 1 < 10 + K.n ∧ K.mo (s - 10) = true) := by
  obtain ⟨h1, h2, h3, h4, -⟩ := hK
  unfold Cf.ex at h
  simp only [Bool.or_eq_true, Bool.and_eq_true, decide_eq_true_eq] at h
  unfold SecNo lo up
  rcases h with h | ⟨⟨h5, h6⟩, h7⟩
  · rw [if_pos (by omega), if_pos (by omega)]
    refine ⟨⟨by omega, by omega, h4⟩, by omega, by omega, by omega, fun _ => h, fun q => by omega⟩
  · rw [if_neg (by omega), if_neg (by omega)]
    refine ⟨⟨by omega, by omega, h4⟩, by omega, by omega, by omega, fun q => by omega, fun _ => ⟨h5, h6, h7⟩⟩
/-- the state: which boxes are out; the sections; the trains -/
abbrev Cs : Type := (Nat → Bool) × (Nat → Sg) × (Nat → Tg)
def rng (n : Nat) (f : Nat → Value) : List Value := (List.range n).map f
theorem rng_at {n i : Nat} (f : Nat → Value) (hi : i < n) : (rng n f)[i]? = some (f i) := by unfold rng; simp [hi]
theorem rng_len (n : Nat) (f : Nat → Value) : (rng n f).length = n := by unfold rng; simp
def upf {α : Type} (f : Nat → α) (k : Nat) (v : α) : Nat → α := fun j => if j = k then v else f j
theorem upf_at {α : Type} (f : Nat → α) (k : Nat) (v : α) : upf f k v k = v := if_pos rfl
theorem upf_ne {α : Type} (f : Nat → α) {k j : Nat} (v : α) (h : j ≠ k) : upf f k v j = f j := if_neg h
theorem rng_set (n i : Nat) (f : Nat → Value) (v : Value) : (rng n f).set i v = rng n (upf f i v) := by
  apply List.ext_getElem?
  intro j
  unfold rng
  by_cases hj : j < n
  · by_cases hij : i = j
    · subst hij
      rw [List.getElem?_set_self (by simpa using hj)]
      simp [hj, upf]
    · rw [List.getElem?_set_ne hij]
      simp [hj, upf, Ne.symm hij]
  · rw [List.getElem?_eq_none (by simpa using Nat.not_lt.mp hj), List.getElem?_eq_none (by simpa using Nat.not_lt.mp hj)]
def CW (K : Cf) (h : mm_H) (w : Cs) : Prop :=
  K.ok ∧ h[0]? = some (0, [.int (nI K.n), .ref 1, .ref 2, .ref K.tb]) ∧ h[1]? = some (11, rng K.n fun b => .int (bI (w.1 b))) ∧
  h[2]? = some (13, rng (10 + K.n) fun s => if K.ex s then .ref (K.sa s) else .null) ∧ h[K.tb]? = some (14, rng 8 fun i => .ref (K.tb + 1 + i)) ∧
  (∀ s, K.ex s = true → SecAt h (K.sa s) s K.t (w.2.1 s)) ∧ ∀ i, i < 8 → TrAt h (K.tb + 1 + i) (w.2.2 i)
/-- the exception e, behind these cells -/
abbrev xh (h : mm_H) (e : Nat) : mm_H := h ++ [(20 + e, List.replicate 6 .null)]
/-- is it a box, a box that is out, a section, an end of a section, a tablet? -/
def bxB (n : Nat) (b : Int32) : Bool := decide (¬ b < 0) && decide (¬ nI n ≤ b)
def otB (n : Nat) (out : Nat → Bool) (b : Int32) : Bool := bxB n b && out b.toNatClampNeg
def scB (K : Cf) (s : Int32) : Bool := decide (¬ s < 0) && decide (¬ nI (10 + K.n) ≤ s) && K.ex s.toNatClampNeg
def edB (K : Cf) (s b : Int32) : Bool := scB K s && (decide (b = nI (lo s.toNatClampNeg)) || decide (b = nI (up s.toNatClampNeg)))
def tbB (K : Cf) (x : Int32) : Bool := decide (¬ x < 0) && scB K (x / nI 100) && decide (x.toNatClampNeg % 100 < K.t)
def tnB (i : Int32) : Bool := decide (¬ i < 0) && decide (i < nI 8)
theorem bxB_t {n : Nat} (hn : n < 2 ^ 31) {b : Int32} (h : bxB n b = true) : ∃ k, k < n ∧ b = nI k := by
  unfold bxB at h
  simp only [Bool.and_eq_true, decide_eq_true_eq] at h
  obtain ⟨k, hk, rfl⟩ := nI_of h.1
  refine ⟨k, Nat.not_le.mp fun q => h.2 (nI_le q hk), rfl⟩
theorem bxB_nI {n k : Nat} (hn : n < 2 ^ 31) (hk : k < 2 ^ 31) : bxB n (nI k) = decide (k < n) := by
  unfold bxB
  rw [decide_eq_true (nI_pos hk), Bool.true_and]
  by_cases h : k < n
  · rw [decide_eq_true (nI_ge h hn), decide_eq_true h]
  · rw [decide_eq_false (fun q => q (nI_le (Nat.not_lt.mp h) hk)), decide_eq_false h]
theorem otB_nI {n k : Nat} {out : Nat → Bool} (hn : n < 2 ^ 31) (hk : k < 2 ^ 31) : otB n out (nI k) = (decide (k < n) && out k) := by unfold otB; rw [bxB_nI hn hk, nI_clamp hk]
theorem scB_t {K : Cf} (hK : K.ok) {s : Int32} (h : scB K s = true) : ∃ k, K.ex k = true ∧ s = nI k := by
  unfold scB at h
  simp only [Bool.and_eq_true, decide_eq_true_eq] at h
  obtain ⟨k, hk, rfl⟩ := nI_of h.1.1
  rw [nI_clamp hk] at h
  exact ⟨k, h.2, rfl⟩
theorem scB_nI {K : Cf} (hK : K.ok) {k : Nat} (hk : k < 2 ^ 31) : scB K (nI k) = K.ex k := by
  unfold scB
  rw [nI_clamp hk, decide_eq_true (nI_pos hk), Bool.true_and]
  cases he : K.ex k with
  | false => rw [Bool.and_false]
  | true =>
    obtain ⟨-, h2, -⟩ := Cf.no hK he
    have := hK.2.1
    rw [decide_eq_true (nI_ge h2 (by omega))]
    rfl
theorem edB_t {K : Cf} (hK : K.ok) {s b : Int32} (h : edB K s b = true) : ∃ k e, K.ex k = true ∧ s = nI k ∧ b = nI (eb k e) := by
  unfold edB at h
  rw [Bool.and_eq_true] at h
  obtain ⟨k, hk, rfl⟩ := scB_t hK h.1
  have h15 := (Cf.no hK hk).1.1
  rw [nI_clamp (by omega)] at h
  simp only [Bool.or_eq_true, decide_eq_true_eq] at h
  rcases h.2 with h | h
  · exact ⟨k, false, hk, rfl, h⟩
  · exact ⟨k, true, hk, rfl, h⟩
theorem edB_nI {K : Cf} (hK : K.ok) {k : Nat} (hk : K.ex k = true) (e : Bool) : edB K (nI k) (nI (eb k e)) = true := by
  have h15 := (Cf.no hK hk).1.1
  unfold edB
  rw [scB_nI hK (by omega), hk, nI_clamp (by omega)]
  cases e
  · show (true && (decide (nI (lo k) = nI (lo k)) || _)) = true
    rw [decide_eq_true rfl]; rfl
  · show (true && (_ || decide (nI (up k) = nI (up k)))) = true
    rw [decide_eq_true rfl, Bool.or_true]; rfl
theorem tbB_t {K : Cf} (hK : K.ok) {x : Int32} (h : tbB K x = true) : ∃ k i, K.ex k = true ∧ i < K.t ∧ x = nI (k * 100 + i) := by
  unfold tbB at h
  simp only [Bool.and_eq_true, decide_eq_true_eq] at h
  obtain ⟨⟨h1, h2⟩, h3⟩ := h
  obtain ⟨m, hm, rfl⟩ := nI_of h1
  rw [pk_div hm (by omega) (by omega)] at h2
  rw [nI_clamp hm] at h3
  obtain ⟨k, hk, he⟩ := scB_t hK h2
  have h15 := (Cf.no hK hk).1.1
  have hkm : m / 100 = k := (nI_eq (by omega) (by omega)).mp he
  exact ⟨k, m % 100, hk, h3, by rw [← hkm]; congr 1; omega⟩
theorem tbB_nI {K : Cf} (hK : K.ok) {m : Nat} (hm : m < 2 ^ 31) : tbB K (nI m) = (K.ex (m / 100) && decide (m % 100 < K.t)) := by
  unfold tbB
  rw [decide_eq_true (nI_pos hm), pk_div hm (by omega) (by omega), scB_nI hK (by omega), nI_clamp hm]; rfl
theorem tnB_t {i : Int32} (h : tnB i = true) : ∃ k, k < 8 ∧ i = nI k := by
  unfold tnB at h
  simp only [Bool.and_eq_true, decide_eq_true_eq] at h
  obtain ⟨k, hk, rfl⟩ := nI_of h.1
  exact ⟨k, (nI_ltI hk (by omega)).mp h.2, rfl⟩
theorem tnB_nI {k : Nat} (hk : k < 8) : tnB (nI k) = true := by
  unfold tnB
  rw [decide_eq_true (nI_pos (by omega)), decide_eq_true (nI_lt hk (by omega))]; rfl
section C2
variable {z : mm_Z} {h : mm_H} {K : Cf} {w : Cs}
theorem b01 {b : Bool} (hb : b = true) : (Outcome.returned (some (Value.int (bI b))), h) = (Outcome.returned (some (Value.int (nI 1))), h) := by rw [hb]; rfl
theorem b00 {b : Bool} (hb : b = false) : (Outcome.returned (some (Value.int (bI b))), h) = (Outcome.returned (some (Value.int (nI 0))), h) := by rw [hb]; rfl
theorem c_isBox (d : Nat) (hW : CW K h w) (b : Int32) : mm_cal z (d + 1) 9 [.ref 0, .int b] h (.returned (some (.int (bI (bxB K.n b)))), h) := by
  obtain ⟨hK, h0, -⟩ := hW
  refine mm_cal_of ?_
  refine ev_go at_9_0 rfl ?_
  refine ev_if_lt at_9_1 (fun hc1 => ?_) (fun hc1 => ?_)
  · skip
    refine ev_ic (nI 0) at_9_16 (by decide) ?_
    refine ev_iret at_9_17 (by first | exact Or.inl rfl | exact Or.inr (Or.inl rfl) | exact Or.inr (Or.inr rfl) | exact Or.inr (bI_01 _)) ?_
    first | (refine b00 ?_; simp [bxB, hc1]; done) | exact b01 (by unfold bxB; rw [decide_eq_true hc1, decide_eq_true hc9]; rfl) | exact b00 (by unfold bxB; rw [decide_eq_false (not_not_intro hc9), Bool.and_false])
  · skip
    refine ev_go at_9_4 rfl ?_
    refine ev_go at_9_5 rfl ?_
    refine ev_get at_9_6 (by assumption) rfl ?_
    refine ev_icmp_ge at_9_9 (fun hc9 => ?_) (fun hc9 => ?_)
    · skip
      refine ev_ic (nI 0) at_9_16 (by decide) ?_
      refine ev_iret at_9_17 (by first | exact Or.inl rfl | exact Or.inr (Or.inl rfl) | exact Or.inr (Or.inr rfl) | exact Or.inr (bI_01 _)) ?_
      first | (refine b00 ?_; simp [bxB, hc1]; done) | exact b01 (by unfold bxB; rw [decide_eq_true hc1, decide_eq_true hc9]; rfl) | exact b00 (by unfold bxB; rw [decide_eq_false (not_not_intro hc9), Bool.and_false])
    · skip
      refine ev_ic (nI 1) at_9_12 (by decide) ?_
      refine ev_go at_9_13 rfl ?_
      refine ev_iret at_9_17 (by first | exact Or.inl rfl | exact Or.inr (Or.inl rfl) | exact Or.inr (Or.inr rfl) | exact Or.inr (bI_01 _)) ?_
      first | (refine b00 ?_; simp [bxB, hc1]; done) | exact b01 (by unfold bxB; rw [decide_eq_true hc1, decide_eq_true hc9]; rfl) | exact b00 (by unfold bxB; rw [decide_eq_false (not_not_intro hc9), Bool.and_false])
theorem c_isOut (d : Nat) (hW : CW K h w) (b : Int32) : mm_cal z (d + 2) 8 [.ref 0, .int b] h (.returned (some (.int (bI (otB K.n w.1 b)))), h) := by
  have hB := c_isBox (z := z) d hW b
  obtain ⟨hK, h0, h1, -⟩ := hW
  have hn := hK.2.1
  refine mm_cal_of ?_
  cases hb : bxB K.n b with
  | false =>
    rw [hb] at hB
    refine ev_go at_8_0 rfl ?_
    refine ev_go at_8_1 rfl ?_
    refine ev_callV (as := [_]) at_8_2 rfl rfl (by simp [mm_wt, Value.category]) rfl (by assumption) hB ?_
    refine ev_ifb_eq at_8_5 (fun _ => ?_) (fun hc => nomatch hc)
    refine ev_ic (nI 0) at_8_21 (by decide) ?_
    refine ev_iret at_8_22 (by first | exact Or.inl rfl | exact Or.inr (Or.inl rfl) | exact Or.inr (Or.inr rfl) | exact Or.inr (bI_01 _)) ?_
    exact b00 (by simp [otB, hb])
  | true =>
    rw [hb] at hB
    obtain ⟨k, hk, rfl⟩ := bxB_t (by omega) hb
    have hv := rng_at (n := K.n) (fun b => .int (bI (w.1 b))) hk
    refine ev_go at_8_0 rfl ?_
    refine ev_go at_8_1 rfl ?_
    refine ev_callV (as := [_]) at_8_2 rfl rfl (by simp [mm_wt, Value.category]) rfl (by assumption) hB ?_
    refine ev_ifb_eq at_8_5 (fun hc => nomatch hc) (fun _ => ?_)
    refine ev_go at_8_8 rfl ?_
    refine ev_get at_8_9 (by assumption) rfl ?_
    refine ev_go at_8_12 rfl ?_
    refine ev_zald at_8_13 (by assumption) (by omega) hv ?_
    first | refine ev_ifb_eq at_8_14 (fun hc14 => ?_) (fun hc14 => ?_) | refine ev_if_eq at_8_14 (fun hc14 => ?_) (fun hc14 => ?_)
    · skip
      refine ev_ic (nI 0) at_8_21 (by decide) ?_
      refine ev_iret at_8_22 (by first | exact Or.inl rfl | exact Or.inr (Or.inl rfl) | exact Or.inr (Or.inr rfl) | exact Or.inr (bI_01 _)) ?_
      first | exact b01 (by rw [otB_nI (by omega) (by omega), decide_eq_true hk, hc14]; rfl) | exact b00 (by rw [otB_nI (by omega) (by omega), decide_eq_true hk, hc14]; rfl)
    · skip
      refine ev_ic (nI 1) at_8_17 (by decide) ?_
      refine ev_go at_8_18 rfl ?_
      refine ev_iret at_8_22 (by first | exact Or.inl rfl | exact Or.inr (Or.inl rfl) | exact Or.inr (Or.inr rfl) | exact Or.inr (bI_01 _)) ?_
      first | exact b01 (by rw [otB_nI (by omega) (by omega), decide_eq_true hk, hc14]; rfl) | exact b00 (by rw [otB_nI (by omega) (by omega), decide_eq_true hk, hc14]; rfl)
theorem c_isSection (d : Nat) (hW : CW K h w) (s : Int32) : mm_cal z (d + 1) 4 [.ref 0, .int s] h (.returned (some (.int (bI (scB K s)))), h) := by
  obtain ⟨hK, h0, -, h2, -⟩ := hW
  have hn := hK.2.1
  refine mm_cal_of ?_
  refine ev_go at_4_0 rfl ?_
  refine ev_if_lt at_4_1 (fun hc1 => ?_) (fun hc1 => ?_)
  · skip
    refine ev_ic (nI 0) at_4_26 (by decide) ?_
    refine ev_iret at_4_27 (by first | exact Or.inl rfl | exact Or.inr (Or.inl rfl) | exact Or.inr (Or.inr rfl) | exact Or.inr (bI_01 _)) ?_
    first | (refine b00 ?_; simp [scB, hc1]; done) | (rw [rng_len] at hc10; exact b00 (by unfold scB; rw [decide_eq_false (not_not_intro hc10), Bool.and_false, Bool.false_and]))
  · skip
    refine ev_go at_4_4 rfl ?_
    refine ev_go at_4_5 rfl ?_
    refine ev_get at_4_6 (by assumption) rfl ?_
    refine ev_alen at_4_9 (by assumption) (by decide) ?_
    refine ev_icmp_ge at_4_10 (fun hc10 => ?_) (fun hc10 => ?_)
    · skip
      refine ev_ic (nI 0) at_4_26 (by decide) ?_
      refine ev_iret at_4_27 (by first | exact Or.inl rfl | exact Or.inr (Or.inl rfl) | exact Or.inr (Or.inr rfl) | exact Or.inr (bI_01 _)) ?_
      first | (refine b00 ?_; simp [scB, hc1]; done) | (rw [rng_len] at hc10; exact b00 (by unfold scB; rw [decide_eq_false (not_not_intro hc10), Bool.and_false, Bool.false_and]))
    · skip
      rw [rng_len] at hc10
      obtain ⟨k, hk, rfl⟩ := nI_of hc1
      have hkn : k < 10 + K.n := Nat.not_le.mp fun q => hc10 (nI_le q hk)
      have hv := rng_at (n := 10 + K.n) (fun s => if K.ex s then Value.ref (K.sa s) else .null) hkn
      refine ev_go at_4_13 rfl ?_
      refine ev_get at_4_14 (by assumption) rfl ?_
      refine ev_go at_4_17 rfl ?_
      refine ev_aald at_4_18 (by assumption) (by decide) (by omega) hv ?_
      cases he : K.ex k with
      | true =>
        rw [if_pos rfl]
        refine ev_go at_4_19 rfl ?_
        refine ev_ic (nI 1) at_4_22 (by decide) ?_
        refine ev_go at_4_23 rfl ?_
        refine ev_iret at_4_27 (Or.inr (Or.inr rfl)) ?_
        exact b01 (by rw [scB_nI hK hk, he])
      | false =>
        rw [if_neg (by decide)]
        refine ev_go at_4_19 rfl ?_
        refine ev_ic (nI 0) at_4_26 (by decide) ?_
        refine ev_iret at_4_27 (Or.inr (Or.inl rfl)) ?_
        exact b00 (by rw [scB_nI hK hk, he])
theorem c_sectionNumbered (d : Nat) (hW : CW K h w) {k : Nat} (hk : K.ex k = true) : mm_cal z (d + 2) 3 [.ref 0, .int (nI k)] h (.returned (some (.ref (K.sa k))), h) := by
  have hB := c_isSection (z := z) d hW (nI k)
  obtain ⟨hK, h0, -, h2, -⟩ := hW
  obtain ⟨n1, n2, -⟩ := Cf.no hK hk
  have hn := hK.2.1
  rw [scB_nI hK (by omega), hk] at hB
  have hv := rng_at (n := 10 + K.n) (fun s => if K.ex s then Value.ref (K.sa s) else .null) n2
  rw [if_pos hk] at hv
  refine mm_cal_of ?_
  refine ev_go at_3_0 rfl ?_
  refine ev_go at_3_1 rfl ?_
  refine ev_callV (as := [_]) at_3_2 rfl rfl (by simp [mm_wt, Value.category]) rfl (by assumption) hB ?_
  refine ev_ifb_ne at_3_5 (fun _ => ?_) (fun hc => nomatch hc)
  refine ev_go at_3_18 rfl ?_
  refine ev_get at_3_19 (by assumption) rfl ?_
  refine ev_go at_3_22 rfl ?_
  refine ev_aald at_3_23 (by assumption) (by decide) (by omega) hv ?_
  refine ev_end at_3_24 rfl ?_
  rfl
theorem x_sectionNumbered (d : Nat) (hW : CW K h w) {s : Int32} (hs : scB K s = false) : mm_cal z (d + 2) 3 [.ref 0, .int s] h (.threw 0, xh h 0) := by
  have hB := c_isSection (z := z) d hW s
  obtain ⟨hK, h0, -⟩ := hW
  rw [hs] at hB
  refine mm_cal_of ?_
  refine ev_go at_3_0 rfl ?_
  refine ev_go at_3_1 rfl ?_
  refine ev_callV (as := [_]) at_3_2 rfl rfl (by simp [mm_wt, Value.category]) rfl (by assumption) hB ?_
  refine ev_ifb_ne at_3_5 (fun hc => nomatch hc) (fun _ => ?_)
  refine ev_throw (e := 0) at_3_8 (by simp [mm_wt, Value.category]) ?_
  rfl
theorem CW.sec (hW : CW K h w) {k : Nat} (hk : K.ex k = true) : SecAt h (K.sa k) k K.t (w.2.1 k) ∧ SecNo k K.t := ⟨hW.2.2.2.2.2.1 k hk, (Cf.no hW.1 hk).1⟩
theorem c_sectionEndingAt (d : Nat) (hW : CW K h w) {k : Nat} (hk : K.ex k = true) (e : Bool) : mm_cal z (d + 3) 2 [.ref 0, .int (nI k), .int (nI (eb k e))] h (.returned (some (.ref (K.sa k))), h) := by
  have hA := c_sectionNumbered (z := z) d hW hk
  obtain ⟨hS, hn⟩ := hW.sec hk
  have hB := c_hasEnd (z := z) (d + 1) hS (nI (eb k e))
  have hbt : (decide (nI (eb k e) = nI (lo k)) || decide (nI (eb k e) = nI (up k))) = true := by
    cases e
    · show (decide (nI (lo k) = nI (lo k)) || _) = true
      rw [decide_eq_true rfl]; rfl
    · show (_ || decide (nI (up k) = nI (up k))) = true
      rw [decide_eq_true rfl, Bool.or_true]
  rw [hbt] at hB
  have h0 := hW.2.1
  have hq := hS.1
  refine mm_cal_of ?_
  refine ev_go at_2_0 rfl ?_
  refine ev_go at_2_1 rfl ?_
  refine ev_callV (as := [_]) at_2_2 rfl rfl (by simp [mm_wt, Value.category]) rfl (by assumption) hA ?_
  refine ev_go at_2_5 rfl ?_
  refine ev_go at_2_6 rfl ?_
  refine ev_go at_2_7 rfl ?_
  refine ev_callV (as := [_]) at_2_8 rfl rfl (by simp [mm_wt, Value.category]) rfl hq hB ?_
  refine ev_ifb_ne at_2_11 (fun _ => ?_) (fun hc => nomatch hc)
  refine ev_go at_2_24 rfl ?_
  refine ev_end at_2_25 rfl ?_
  rfl
theorem x_sectionEndingAt (d : Nat) (hW : CW K h w) {s b : Int32} (hs : edB K s b = false) : mm_cal z (d + 3) 2 [.ref 0, .int s, .int b] h (.threw 0, xh h 0) := by
  have h0 := hW.2.1
  refine mm_cal_of ?_
  cases hsc : scB K s with
  | false =>
    have hA := x_sectionNumbered (z := z) d hW hsc
    refine ev_go at_2_0 rfl ?_
    refine ev_go at_2_1 rfl ?_
    exact ev_thrV (as := [_]) at_2_2 rfl rfl (by simp [mm_wt]) rfl h0 hA (by decide +kernel) (by decide +kernel) rfl
  | true =>
    obtain ⟨k, hk, rfl⟩ := scB_t hW.1 hsc
    have hA := c_sectionNumbered (z := z) d hW hk
    obtain ⟨hS, hn⟩ := hW.sec hk
    have hB := c_hasEnd (z := z) (d + 1) hS b
    have hbf : (decide (b = nI (lo k)) || decide (b = nI (up k))) = false := by
      have h15 := hn.1
      unfold edB at hs
      rw [hsc, Bool.true_and, nI_clamp (by omega)] at hs
      exact hs
    rw [hbf] at hB
    have hq := hS.1
    refine ev_go at_2_0 rfl ?_
    refine ev_go at_2_1 rfl ?_
    refine ev_callV (as := [_]) at_2_2 rfl rfl (by simp [mm_wt, Value.category]) rfl (by assumption) hA ?_
    refine ev_go at_2_5 rfl ?_
    refine ev_go at_2_6 rfl ?_
    refine ev_go at_2_7 rfl ?_
    refine ev_callV (as := [_]) at_2_8 rfl rfl (by simp [mm_wt, Value.category]) rfl hq hB ?_
    refine ev_ifb_ne at_2_11 (fun hc => nomatch hc) (fun _ => ?_)
    refine ev_throw (e := 0) at_2_14 (by simp [mm_wt, Value.category]) ?_
    rfl
theorem c_sectionOfTablet (d : Nat) (hW : CW K h w) {k i : Nat} (hk : K.ex k = true) (hi : i < K.t) : mm_cal z (d + 3) 11 [.ref 0, .int (nI (k * 100 + i))] h (.returned (some (.ref (K.sa k))), h) := by
  have hA := c_sectionNumbered (z := z) d hW hk
  obtain ⟨hS, hn⟩ := hW.sec hk
  have h15 := hn.1
  have h8 := hn.2.2
  have hB := c_hasTablet (z := z) d hS hn (k * 100 + i) (by omega) (by omega)
  rw [Nat.add_sub_cancel_left, decide_eq_true hi] at hB
  have h0 := hW.2.1
  have hq := hS.1
  have hd : (k * 100 + i) / 100 = k := by omega
  refine mm_cal_of ?_
  refine ev_go at_11_0 rfl ?_
  refine ev_if_ge at_11_1 (fun _ => ?_) (fun hc => absurd (nI_pos' (by omega)) hc)
  refine ev_go at_11_14 rfl ?_
  refine ev_go at_11_15 rfl ?_
  refine ev_bi (nI 100) at_11_16 (by decide) ?_
  refine ev_idiv at_11_18 (by decide) ?_
  refine ev_top (congrArg Value.int (show nI (k * 100 + i) / nI 100 = nI k by rw [pk_div (by omega) (by omega) (by omega), hd])) ?_
  refine ev_callV (as := [_]) at_11_19 rfl rfl (by simp [mm_wt, Value.category]) rfl (by assumption) hA ?_
  refine ev_go at_11_22 rfl ?_
  refine ev_go at_11_23 rfl ?_
  refine ev_go at_11_24 rfl ?_
  refine ev_callV (as := [_]) at_11_25 rfl rfl (by simp [mm_wt, Value.category]) rfl hq hB ?_
  refine ev_ifb_ne at_11_28 (fun _ => ?_) (fun hc => nomatch hc)
  refine ev_go at_11_41 rfl ?_
  refine ev_end at_11_42 rfl ?_
  rfl
theorem x_sectionOfTablet (d : Nat) (hW : CW K h w) {x : Int32} (hx : tbB K x = false) : mm_cal z (d + 3) 11 [.ref 0, .int x] h (.threw 0, xh h 0) := by
  have h0 := hW.2.1
  refine mm_cal_of ?_
  by_cases hneg : x < 0
  · skip
    refine ev_go at_11_0 rfl ?_
    refine ev_if_ge at_11_1 (fun hc => absurd hneg (Int32.not_lt.mpr hc)) (fun _ => ?_)
    refine ev_throw (e := 0) at_11_4 (by simp [mm_wt, Value.category]) ?_
    rfl
  · obtain ⟨m, hm, rfl⟩ := nI_of hneg
    rw [tbB_nI hW.1 hm] at hx
    refine ev_go at_11_0 rfl ?_
    refine ev_if_ge at_11_1 (fun _ => ?_) (fun hc => absurd (nI_pos' hm) hc)
    refine ev_go at_11_14 rfl ?_
    refine ev_go at_11_15 rfl ?_
    refine ev_bi (nI 100) at_11_16 (by decide) ?_
    refine ev_idiv at_11_18 (by decide) ?_
    refine ev_top (congrArg Value.int (pk_div (by omega) (by omega) (by omega))) ?_
    cases hk : K.ex (m / 100) with
    | false =>
      have hA := x_sectionNumbered (z := z) d hW (s := nI (m / 100)) (by rw [scB_nI hW.1 (by omega)]; exact hk)
      exact ev_thrV (as := [_]) at_11_19 rfl rfl (by simp [mm_wt]) rfl h0 hA (by decide +kernel) (by decide +kernel) rfl
    | true =>
      have hA := c_sectionNumbered (z := z) d hW hk
      obtain ⟨hS, hn⟩ := hW.sec hk
      have hB := c_hasTablet (z := z) d hS hn m (by omega) hm
      rw [hk, Bool.true_and] at hx
      have e1 : m - m / 100 * 100 = m % 100 := by omega
      rw [e1, hx] at hB
      have hq := hS.1
      refine ev_callV (as := [_]) at_11_19 rfl rfl (by simp [mm_wt, Value.category]) rfl (by assumption) hA ?_
      refine ev_go at_11_22 rfl ?_
      refine ev_go at_11_23 rfl ?_
      refine ev_go at_11_24 rfl ?_
      refine ev_callV (as := [_]) at_11_25 rfl rfl (by simp [mm_wt, Value.category]) rfl hq hB ?_
      refine ev_ifb_ne at_11_28 (fun hc => nomatch hc) (fun _ => ?_)
      refine ev_throw (e := 0) at_11_31 (by simp [mm_wt, Value.category]) ?_
      rfl
theorem CW.tr (hW : CW K h w) {i : Nat} (hi : i < 8) : TrAt h (K.tb + 1 + i) (w.2.2 i) := hW.2.2.2.2.2.2 i hi
theorem c_trainNumbered (d : Nat) (hW : CW K h w) {i : Nat} (hi : i < 8) : mm_cal z (d + 1) 14 [.ref 0, .int (nI i)] h (.returned (some (.ref (K.tb + 1 + i))), h) := by
  obtain ⟨hK, h0, -, -, h3, -⟩ := hW
  have hv := rng_at (n := 8) (fun i => Value.ref (K.tb + 1 + i)) hi
  refine mm_cal_of ?_
  refine ev_go at_14_0 rfl ?_
  refine ev_if_lt at_14_1 (fun hc => absurd hc (nI_pos (by omega))) (fun _ => ?_)
  refine ev_go at_14_4 rfl ?_
  refine ev_bi (nI 8) at_14_5 (by decide) ?_
  refine ev_icmp_lt at_14_7 (fun _ => ?_) (fun hc => absurd (nI_lt hi (by omega)) hc)
  refine ev_go at_14_20 rfl ?_
  refine ev_get at_14_21 (by assumption) rfl ?_
  refine ev_go at_14_24 rfl ?_
  refine ev_aald at_14_25 (by assumption) (by decide) (by omega) hv ?_
  refine ev_end at_14_26 rfl ?_
  rfl
theorem x_trainNumbered (d : Nat) (hW : CW K h w) {i : Int32} (hi : tnB i = false) : mm_cal z (d + 1) 14 [.ref 0, .int i] h (.threw 0, xh h 0) := by
  refine mm_cal_of ?_
  by_cases hneg : i < 0
  · skip
    refine ev_go at_14_0 rfl ?_
    refine ev_if_lt at_14_1 (fun _ => ?_) (fun hc => absurd hneg hc)
    refine ev_throw (e := 0) at_14_10 (by simp [mm_wt, Value.category]) ?_
    rfl
  · have h8 : ¬ i < nI 8 := fun q => by unfold tnB at hi; rw [decide_eq_true hneg, decide_eq_true q] at hi; cases hi
    refine ev_go at_14_0 rfl ?_
    refine ev_if_lt at_14_1 (fun hc => absurd hc hneg) (fun _ => ?_)
    refine ev_go at_14_4 rfl ?_
    refine ev_bi (nI 8) at_14_5 (by decide) ?_
    refine ev_icmp_lt at_14_7 (fun hc => absurd hc h8) (fun _ => ?_)
    refine ev_throw (e := 0) at_14_10 (by simp [mm_wt, Value.category]) ?_
    rfl
/-- a known train -/
def knB (w : Cs) (i : Int32) : Bool := tnB i && (w.2.2 i.toNatClampNeg).1
theorem knB_t {i : Int32} (h : knB w i = true) : ∃ k, k < 8 ∧ i = nI k ∧ (w.2.2 k).1 = true := by
  unfold knB at h
  rw [Bool.and_eq_true] at h
  obtain ⟨k, hk, rfl⟩ := tnB_t h.1
  rw [nI_clamp (by omega)] at h
  exact ⟨k, hk, rfl, h.2⟩
theorem c_knownTrain (d : Nat) (hW : CW K h w) {i : Nat} (hi : i < 8) (hkn : (w.2.2 i).1 = true) : mm_cal z (d + 2) 17 [.ref 0, .int (nI i)] h (.returned (some (.ref (K.tb + 1 + i))), h) := by
  have hA := c_trainNumbered (z := z) d hW hi
  have h0 := hW.2.1
  have hT := hW.tr hi
  unfold TrAt at hT
  rw [hkn] at hT
  refine mm_cal_of ?_
  refine ev_go at_17_0 rfl ?_
  refine ev_go at_17_1 rfl ?_
  refine ev_callV (as := [_]) at_17_2 rfl rfl (by simp [mm_wt, Value.category]) rfl (by assumption) hA ?_
  refine ev_go at_17_5 rfl ?_
  refine ev_go at_17_6 rfl ?_
  refine ev_get at_17_7 (by assumption) rfl ?_
  refine ev_ifb_ne at_17_10 (fun _ => ?_) (fun hc => nomatch hc)
  refine ev_go at_17_23 rfl ?_
  refine ev_end at_17_24 rfl ?_
  rfl
theorem x_knownTrain (d : Nat) (hW : CW K h w) {i : Int32} (hi : knB w i = false) : mm_cal z (d + 2) 17 [.ref 0, .int i] h (.threw 0, xh h 0) := by
  have h0 := hW.2.1
  refine mm_cal_of ?_
  cases htn : tnB i with
  | false =>
    have hA := x_trainNumbered (z := z) d hW htn
    refine ev_go at_17_0 rfl ?_
    refine ev_go at_17_1 rfl ?_
    exact ev_thrV (as := [_]) at_17_2 rfl rfl (by simp [mm_wt]) rfl h0 hA (by decide +kernel) (by decide +kernel) rfl
  | true =>
    obtain ⟨k, hk, rfl⟩ := tnB_t htn
    have hA := c_trainNumbered (z := z) d hW hk
    have hT := hW.tr hk
    unfold knB at hi
    rw [htn, Bool.true_and, nI_clamp (by omega)] at hi
    unfold TrAt at hT
    rw [hi] at hT
    refine ev_go at_17_0 rfl ?_
    refine ev_go at_17_1 rfl ?_
    refine ev_callV (as := [_]) at_17_2 rfl rfl (by simp [mm_wt, Value.category]) rfl (by assumption) hA ?_
    refine ev_go at_17_5 rfl ?_
    refine ev_go at_17_6 rfl ?_
    refine ev_get at_17_7 (by assumption) rfl ?_
    refine ev_ifb_ne at_17_10 (fun hc => nomatch hc) (fun _ => ?_)
    refine ev_throw (e := 0) at_17_13 (by simp [mm_wt, Value.category]) ?_
    rfl
theorem c_checkBox (d : Nat) (hW : CW K h w) {b : Int32} (hb : bxB K.n b = true) : mm_cal z (d + 2) 15 [.ref 0, .int b] h (.returned none, h) := by
  have hA := c_isBox (z := z) d hW b
  rw [hb] at hA
  have h0 := hW.2.1
  refine mm_cal_of ?_
  refine ev_go at_15_0 rfl ?_
  refine ev_go at_15_1 rfl ?_
  refine ev_callV (as := [_]) at_15_2 rfl rfl (by simp [mm_wt, Value.category]) rfl (by assumption) hA ?_
  refine ev_ifb_ne at_15_5 (fun _ => ?_) (fun hc => nomatch hc)
  refine ev_end at_15_18 rfl ?_
  rfl
theorem x_checkBox (d : Nat) (hW : CW K h w) {b : Int32} (hb : bxB K.n b = false) : mm_cal z (d + 2) 15 [.ref 0, .int b] h (.threw 0, xh h 0) := by
  have hA := c_isBox (z := z) d hW b
  rw [hb] at hA
  have h0 := hW.2.1
  refine mm_cal_of ?_
  refine ev_go at_15_0 rfl ?_
  refine ev_go at_15_1 rfl ?_
  refine ev_callV (as := [_]) at_15_2 rfl rfl (by simp [mm_wt, Value.category]) rfl (by assumption) hA ?_
  refine ev_ifb_ne at_15_5 (fun hc => nomatch hc) (fun _ => ?_)
  refine ev_throw (e := 0) at_15_8 (by simp [mm_wt, Value.category]) ?_
  rfl
theorem c_maySwitchOut (d : Nat) (hW : CW K h w) {b : Nat} (hb : b < 100) : mm_cal z (d + 2) 24 [.ref 0, .int (nI b)] h (.returned (some (.int (bI (K.ex (10 + b))))), h) := by
  have hA := c_isSection (z := z) d hW (nI (10 + b))
  rw [scB_nI hW.1 (by omega)] at hA
  have h0 := hW.2.1
  refine mm_cal_of ?_
  refine ev_go at_24_0 rfl ?_
  refine ev_bi (nI 10) at_24_1 (by decide) ?_
  refine ev_go at_24_3 rfl ?_
  refine ev_go at_24_4 rfl ?_
  first | refine ev_top (congrArg Value.int (nI_add _ _)) ?_ | skip
  refine ev_callV (as := [_]) at_24_5 rfl rfl (by simp [mm_wt, Value.category]) rfl (by assumption) hA ?_
  refine ev_iret at_24_8 (by first | exact Or.inl rfl | exact Or.inr (Or.inl rfl) | exact Or.inr (Or.inr rfl) | exact Or.inr (bI_01 _)) ?_
  rfl
def lkB (K : Cf) (w : Cs) (k : Nat) : Bool := if k < 10 then w.1 (lo k) || w.1 (up k) else !w.1 (k - 10)
theorem c_isLocked (d : Nat) (hW : CW K h w) {k : Nat} (hk : K.ex k = true) : mm_cal z (d + 3) 7 [.ref 0, .ref (K.sa k)] h (.returned (some (.int (bI (lkB K w k)))), h) := by
  have h0 := hW.2.1
  obtain ⟨hS, hn⟩ := hW.sec hk
  have hq := hS.1
  obtain ⟨-, n2, n3, n4, n5, n6⟩ := Cf.no hW.1 hk
  have hn6 := hW.1.2.1
  refine mm_cal_of ?_
  by_cases h10 : k < 10
  · have hA := c_isOut (z := z) d hW (nI (lo k))
    have hB := c_isOut (z := z) d hW (nI (up k))
    rw [otB_nI (by omega) (by omega), decide_eq_true (by omega), Bool.true_and] at hA hB
    have hl : lkB K w k = (w.1 (lo k) || w.1 (up k)) := if_pos h10
    refine ev_go at_7_0 rfl ?_
    refine ev_get at_7_1 hq rfl ?_
    refine ev_bi (nI 10) at_7_4 (by decide) ?_
    refine ev_icmp_lt at_7_6 (fun _ => ?_) (fun hc => absurd (nI_lt h10 (by omega)) hc)
    refine ev_go at_7_29 rfl ?_
    refine ev_go at_7_30 rfl ?_
    refine ev_get at_7_31 hq rfl ?_
    refine ev_callV (as := [_]) at_7_34 rfl rfl (by simp [mm_wt, Value.category]) rfl (by assumption) hA ?_
    first | refine ev_ifb_ne at_7_37 (fun hc37 => ?_) (fun hc37 => ?_) | refine ev_if_ne at_7_37 (fun hc37 => ?_) (fun hc37 => ?_)
    · skip
      refine ev_ic (nI 1) at_7_51 (by decide) ?_
      refine ev_go at_7_52 rfl ?_
      refine ev_iret at_7_56 (by first | exact Or.inl rfl | exact Or.inr (Or.inl rfl) | exact Or.inr (Or.inr rfl) | exact Or.inr (bI_01 _)) ?_
      first | exact b01 (by rw [hl, hc37]; rfl) | exact b01 (by rw [hl, hc37, hc48]; rfl) | exact b00 (by rw [hl, hc37, hc48]; rfl)
    · skip
      refine ev_go at_7_40 rfl ?_
      refine ev_go at_7_41 rfl ?_
      refine ev_get at_7_42 hq rfl ?_
      refine ev_callV (as := [_]) at_7_45 rfl rfl (by simp [mm_wt, Value.category]) rfl (by assumption) hB ?_
      first | refine ev_ifb_eq at_7_48 (fun hc48 => ?_) (fun hc48 => ?_) | refine ev_if_eq at_7_48 (fun hc48 => ?_) (fun hc48 => ?_)
      · skip
        refine ev_ic (nI 0) at_7_55 (by decide) ?_
        refine ev_iret at_7_56 (by first | exact Or.inl rfl | exact Or.inr (Or.inl rfl) | exact Or.inr (Or.inr rfl) | exact Or.inr (bI_01 _)) ?_
        first | exact b01 (by rw [hl, hc37]; rfl) | exact b01 (by rw [hl, hc37, hc48]; rfl) | exact b00 (by rw [hl, hc37, hc48]; rfl)
      · skip
        refine ev_ic (nI 1) at_7_51 (by decide) ?_
        refine ev_go at_7_52 rfl ?_
        refine ev_iret at_7_56 (by first | exact Or.inl rfl | exact Or.inr (Or.inl rfl) | exact Or.inr (Or.inr rfl) | exact Or.inr (bI_01 _)) ?_
        first | exact b01 (by rw [hl, hc37]; rfl) | exact b01 (by rw [hl, hc37, hc48]; rfl) | exact b00 (by rw [hl, hc37, hc48]; rfl)
  · have hA := c_isOut (z := z) d hW (nI (k - 10))
    rw [otB_nI (by omega) (by omega), decide_eq_true (by omega), Bool.true_and] at hA
    have hl : lkB K w k = !w.1 (k - 10) := if_neg h10
    refine ev_go at_7_0 rfl ?_
    refine ev_get at_7_1 hq rfl ?_
    refine ev_bi (nI 10) at_7_4 (by decide) ?_
    refine ev_icmp_lt at_7_6 (fun hc => absurd hc (nI_nlt (by omega) (by omega))) (fun _ => ?_)
    refine ev_go at_7_9 rfl ?_
    refine ev_go at_7_10 rfl ?_
    refine ev_get at_7_11 hq rfl ?_
    refine ev_bi (nI 10) at_7_14 (by decide) ?_
    refine ev_go at_7_16 rfl ?_
    first | refine ev_top (congrArg Value.int (pk_sub (by omega))) ?_ | skip
    refine ev_callV (as := [_]) at_7_17 rfl rfl (by simp [mm_wt, Value.category]) rfl (by assumption) hA ?_
    first | refine ev_ifb_ne at_7_20 (fun hc20 => ?_) (fun hc20 => ?_) | refine ev_if_ne at_7_20 (fun hc20 => ?_) (fun hc20 => ?_)
    · skip
      refine ev_ic (nI 0) at_7_27 (by decide) ?_
      refine ev_iret at_7_28 (by first | exact Or.inl rfl | exact Or.inr (Or.inl rfl) | exact Or.inr (Or.inr rfl) | exact Or.inr (bI_01 _)) ?_
      first | exact b01 (by rw [hl, hc20]; rfl) | exact b00 (by rw [hl, hc20]; rfl)
    · skip
      refine ev_ic (nI 1) at_7_23 (by decide) ?_
      refine ev_go at_7_24 rfl ?_
      refine ev_iret at_7_28 (by first | exact Or.inl rfl | exact Or.inr (Or.inl rfl) | exact Or.inr (Or.inr rfl) | exact Or.inr (bI_01 _)) ?_
      first | exact b01 (by rw [hl, hc20]; rfl) | exact b00 (by rw [hl, hc20]; rfl)
theorem c_trainAt (d : Nat) (hW : CW K h w) {p : Nat} (hp : 20 ≤ p) (hp2 : p < 28) : mm_cal z (d + 1) 12 [.ref 0, .int (nI p)] h (.returned (some (.ref (K.tb + 1 + (p - 20)))), h) := by
  obtain ⟨hK, h0, -, -, h3, -⟩ := hW
  have hv := rng_at (n := 8) (fun i => Value.ref (K.tb + 1 + i)) (show p - 20 < 8 by omega)
  refine mm_cal_of ?_
  refine ev_go at_12_0 rfl ?_
  refine ev_bi (nI 20) at_12_1 (by decide) ?_
  refine ev_go at_12_3 rfl ?_
  first | refine ev_top (congrArg Value.int (pk_sub (by omega))) ?_ | skip
  refine ev_go at_12_4 rfl ?_
  refine ev_go at_12_5 rfl ?_
  refine ev_if_lt at_12_6 (fun hc => absurd hc (nI_pos (by omega))) (fun _ => ?_)
  refine ev_go at_12_9 rfl ?_
  refine ev_bi (nI 8) at_12_10 (by decide) ?_
  refine ev_icmp_ge at_12_12 (fun hc => absurd hc (nI_ge (by omega) (by omega))) (fun _ => ?_)
  refine ev_go at_12_15 rfl ?_
  refine ev_get at_12_16 (by assumption) rfl ?_
  refine ev_go at_12_19 rfl ?_
  refine ev_aald at_12_20 (by assumption) (by decide) (by omega) hv ?_
  refine ev_go at_12_21 rfl ?_
  refine ev_end at_12_25 rfl ?_
  rfl
theorem n_trainAt (d : Nat) {p : Nat} (hp : p < 20) : mm_cal z (d + 1) 12 [.ref 0, .int (nI p)] h (.returned (some .null), h) := by
  refine mm_cal_of ?_
  refine ev_go at_12_0 rfl ?_
  refine ev_bi (nI 20) at_12_1 (by decide) ?_
  refine ev_go at_12_3 rfl ?_
  refine ev_go at_12_4 rfl ?_
  refine ev_go at_12_5 rfl ?_
  refine ev_if_lt at_12_6 (fun _ => ?_) (fun hc => absurd (pk_sneg (by omega) hp) hc)
  refine ev_go at_12_24 rfl ?_
  refine ev_end at_12_25 rfl ?_
  rfl
def wrB (w : Cs) (b : Nat) : Bool := !(w.2.1 (b - 1)).2.2.2 || (!(w.2.1 b).2.2.2 || !(w.2.1 (10 + b)).2.2.2)
theorem c_wireBrokenAround (d : Nat) (hW : CW K h w) {b : Nat} (hb : K.ex (10 + b) = true) : mm_cal z (d + 3) 25 [.ref 0, .int (nI b)] h (.returned (some (.int (bI (wrB w b)))), h) := by
  have h0 := hW.2.1
  obtain ⟨-, n2, n3, n4, n5, n6⟩ := Cf.no hW.1 hb
  obtain ⟨m1, m2, m3⟩ := n6 (by omega)
  have e1 : K.ex (b - 1) = true := by unfold Cf.ex; rw [decide_eq_true (by omega)]; rfl
  have e2 : K.ex b = true := by unfold Cf.ex; rw [decide_eq_true (by omega)]; rfl
  have hA := c_sectionNumbered (z := z) d hW e1
  have hB := c_sectionNumbered (z := z) d hW e2
  have hC := c_sectionNumbered (z := z) d hW hb
  have q1 := (hW.sec e1).1.1
  have q2 := (hW.sec e2).1.1
  have q3 := (hW.sec hb).1.1
  refine mm_cal_of ?_
  refine ev_go at_25_0 rfl ?_
  refine ev_go at_25_1 rfl ?_
  refine ev_ic (nI 1) at_25_2 (by decide) ?_
  refine ev_go at_25_3 rfl ?_
  refine ev_top (congrArg Value.int (pk_sub (by omega))) ?_
  refine ev_callV (as := [_]) at_25_4 rfl rfl (by simp [mm_wt, Value.category]) rfl (by assumption) hA ?_
  refine ev_get at_25_7 q1 rfl ?_
  first | refine ev_ifb_eq at_25_10 (fun hc10 => ?_) (fun hc10 => ?_) | refine ev_if_eq at_25_10 (fun hc10 => ?_) (fun hc10 => ?_)
  · skip
    refine ev_ic (nI 1) at_25_38 (by decide) ?_
    refine ev_go at_25_39 rfl ?_
    refine ev_iret at_25_43 (by first | exact Or.inl rfl | exact Or.inr (Or.inl rfl) | exact Or.inr (Or.inr rfl) | exact Or.inr (bI_01 _)) ?_
    unfold wrB
    first | exact b01 (by rw [hc10]; rfl) | exact b01 (by rw [hc10, hc21]; rfl) | exact b01 (by rw [hc10, hc21, hc35]; rfl) | exact b00 (by rw [hc10, hc21, hc35]; rfl)
  · skip
    refine ev_go at_25_13 rfl ?_
    refine ev_go at_25_14 rfl ?_
    refine ev_callV (as := [_]) at_25_15 rfl rfl (by simp [mm_wt, Value.category]) rfl (by assumption) hB ?_
    refine ev_get at_25_18 q2 rfl ?_
    first | refine ev_ifb_eq at_25_21 (fun hc21 => ?_) (fun hc21 => ?_) | refine ev_if_eq at_25_21 (fun hc21 => ?_) (fun hc21 => ?_)
    · skip
      refine ev_ic (nI 1) at_25_38 (by decide) ?_
      refine ev_go at_25_39 rfl ?_
      refine ev_iret at_25_43 (by first | exact Or.inl rfl | exact Or.inr (Or.inl rfl) | exact Or.inr (Or.inr rfl) | exact Or.inr (bI_01 _)) ?_
      unfold wrB
      first | exact b01 (by rw [hc10]; rfl) | exact b01 (by rw [hc10, hc21]; rfl) | exact b01 (by rw [hc10, hc21, hc35]; rfl) | exact b00 (by rw [hc10, hc21, hc35]; rfl)
    · skip
      refine ev_go at_25_24 rfl ?_
      refine ev_bi (nI 10) at_25_25 (by decide) ?_
      refine ev_go at_25_27 rfl ?_
      refine ev_go at_25_28 rfl ?_
      first | refine ev_top (congrArg Value.int (nI_add _ _)) ?_ | skip
      refine ev_callV (as := [_]) at_25_29 rfl rfl (by simp [mm_wt, Value.category]) rfl (by assumption) hC ?_
      refine ev_get at_25_32 q3 rfl ?_
      first | refine ev_ifb_ne at_25_35 (fun hc35 => ?_) (fun hc35 => ?_) | refine ev_if_ne at_25_35 (fun hc35 => ?_) (fun hc35 => ?_)
      · skip
        refine ev_ic (nI 0) at_25_42 (by decide) ?_
        refine ev_iret at_25_43 (by first | exact Or.inl rfl | exact Or.inr (Or.inl rfl) | exact Or.inr (Or.inr rfl) | exact Or.inr (bI_01 _)) ?_
        unfold wrB
        first | exact b01 (by rw [hc10]; rfl) | exact b01 (by rw [hc10, hc21]; rfl) | exact b01 (by rw [hc10, hc21, hc35]; rfl) | exact b00 (by rw [hc10, hc21, hc35]; rfl)
      · skip
        refine ev_ic (nI 1) at_25_38 (by decide) ?_
        refine ev_go at_25_39 rfl ?_
        refine ev_iret at_25_43 (by first | exact Or.inl rfl | exact Or.inr (Or.inl rfl) | exact Or.inr (Or.inr rfl) | exact Or.inr (bI_01 _)) ?_
        unfold wrB
        first | exact b01 (by rw [hc10]; rfl) | exact b01 (by rw [hc10, hc21]; rfl) | exact b01 (by rw [hc10, hc21, hc35]; rfl) | exact b00 (by rw [hc10, hc21, hc35]; rfl)
end C2
