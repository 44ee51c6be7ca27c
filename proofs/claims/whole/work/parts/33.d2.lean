/-! THE REFERENCE's LOOPS: isInPhase, lying, topmost, aboard -/
section D2
variable {z : mm_Z} {h h' : mm_H} {K : Cf} {a : Nat} {c : Int32} {m : Md}
theorem d_phaseLoop (d : Nat) (hM : MAt K a h c m) (hB : MB m) {s : Nat} (hs : s < 15) : ∀ (r i : Nat) (acc b : Bool), i + r = K.t → (b = true ↔ acc = true ∧ ∀ j, i ≤ j → j < K.t → m.pl (8 * s + j) < 2) →
    mm_Ev z (mm_cal z d) 62 (7, [.val (.ref a), .val (.int (nI s)), .val (.int (bI acc)), .val (.int (nI (8 * s + i)))], [], h) (.returned (some (.int (bI b))), h)
  | 0, i, acc, b, hi, hb => by
    have ht := hM.1.2.2.2.1
    have h0 := hM.2.1
    have hab : b = acc := by
      cases hx : acc with
      | true => exact hb.mpr ⟨hx, fun j h1 h2 => by omega⟩
      | false =>
        cases hy : b with
        | false => rfl
        | true => have := (hb.mp hy).1; rw [hx] at this; cases this
    subst hab
    refine ev_go at_62_7 rfl ?_
    refine ev_bi (nI 8) at_62_8 (by decide) ?_
    refine ev_go at_62_10 rfl ?_
    refine ev_go at_62_11 rfl ?_
    first | refine ev_top (congrArg Value.int (pk_mul _ _)) ?_ | skip
    refine ev_go at_62_12 rfl ?_
    refine ev_get at_62_13 h0 rfl ?_
    refine ev_go at_62_16 rfl ?_
    first | refine ev_top (congrArg Value.int (nI_add _ _)) ?_ | skip
    refine ev_icmp_ge at_62_17 (fun _ => ?_) (fun hc => absurd (nI_le (by omega) (by omega)) hc)
    refine ev_go at_62_46 rfl ?_
    refine ev_iret at_62_47 (by first | exact Or.inl rfl | exact Or.inr (Or.inl rfl) | exact Or.inr (Or.inr rfl) | exact Or.inr (bI_01 _)) ?_
    rfl
  | r + 1, i, acc, b, hi, hb => by
    have ht := hM.1.2.2.2.1
    have h0 := hM.2.1
    have h7 := hM.a7
    have hv := rng_at (n := 120) (fun b => Value.int (nI (m.pl b))) (show 8 * s + i < 120 by omega)
    have hpb := hB.1 (8 * s + i)
    refine ev_go at_62_7 rfl ?_
    refine ev_bi (nI 8) at_62_8 (by decide) ?_
    refine ev_go at_62_10 rfl ?_
    refine ev_go at_62_11 rfl ?_
    first | refine ev_top (congrArg Value.int (pk_mul _ _)) ?_ | skip
    refine ev_go at_62_12 rfl ?_
    refine ev_get at_62_13 h0 rfl ?_
    refine ev_go at_62_16 rfl ?_
    first | refine ev_top (congrArg Value.int (nI_add _ _)) ?_ | skip
    refine ev_icmp_ge at_62_17 (fun hc => absurd hc (nI_ge (by omega) (by omega))) (fun _ => ?_)
    refine ev_go at_62_20 rfl ?_
    first | refine ev_ifb_eq at_62_21 (fun hc21 => ?_) (fun hc21 => ?_) | refine ev_if_eq at_62_21 (fun hc21 => ?_) (fun hc21 => ?_)
    · skip
      refine ev_ic (nI 0) at_62_38 (by decide) ?_
      refine ev_go at_62_39 rfl ?_
      refine ev_inc at_62_40 rfl ?_
      refine ev_go at_62_43 rfl ?_
      exact d_phaseLoop d hM hB hs r (i + 1) false b (by omega) (hb.trans ⟨fun q => absurd q (fun q => by
        first
          | exact absurd (q.1.symm.trans hc21) (by decide)
          | exact absurd (q.2 i (by omega) (by omega)) (Nat.not_lt.mpr ((nI_leI (by omega) (by omega)).mp hc31))), fun q => absurd q.1 (by decide)⟩)
    · skip
      refine ev_go at_62_24 rfl ?_
      refine ev_get at_62_25 h0 rfl ?_
      refine ev_go at_62_28 rfl ?_
      refine ev_iald at_62_29 h7 (by omega) hv ?_
      refine ev_ic (nI 2) at_62_30 (by decide) ?_
      refine ev_icmp_ge at_62_31 (fun hc31 => ?_) (fun hc31 => ?_)
      · skip
        refine ev_ic (nI 0) at_62_38 (by decide) ?_
        refine ev_go at_62_39 rfl ?_
        refine ev_inc at_62_40 rfl ?_
        refine ev_go at_62_43 rfl ?_
        exact d_phaseLoop d hM hB hs r (i + 1) false b (by omega) (hb.trans ⟨fun q => absurd q (fun q => by
          first
            | exact absurd (q.1.symm.trans hc21) (by decide)
            | exact absurd (q.2 i (by omega) (by omega)) (Nat.not_lt.mpr ((nI_leI (by omega) (by omega)).mp hc31))), fun q => absurd q.1 (by decide)⟩)
      · skip
        refine ev_ic (nI 1) at_62_34 (by decide) ?_
        refine ev_go at_62_35 rfl ?_
        refine ev_go at_62_39 rfl ?_
        refine ev_inc at_62_40 rfl ?_
        refine ev_go at_62_43 rfl ?_
        exact d_phaseLoop d hM hB hs r (i + 1) true b (by omega) (hb.trans ⟨fun q => ⟨rfl, fun j h1 h2 => q.2 j (by omega) h2⟩, fun q => ⟨hc21, fun j h1 h2 => by
          by_cases hji : j = i
          · rw [hji]; exact Nat.not_le.mp fun q2 => hc31 (nI_le q2 (by omega))
          · exact q.2 j (by omega) h2⟩⟩)
theorem d_isInPhase (d : Nat) (hM : MAt K a h c m) (hB : MB m) {s : Nat} (hs : s < 15) {b : Bool} (hb : b = true ↔ ∀ j, j < K.t → m.pl (8 * s + j) < 2) : mm_cal z (d + 1) 62 [.ref a, .int (nI s)] h (.returned (some (.int (bI b))), h) := by
  refine mm_cal_of ?_
  refine ev_ic (nI 1) at_62_0 (by decide) ?_
  refine ev_go at_62_1 rfl ?_
  refine ev_bi (nI 8) at_62_2 (by decide) ?_
  refine ev_go at_62_4 rfl ?_
  refine ev_go at_62_5 rfl ?_
  first | refine ev_top (congrArg Value.int (pk_mul _ _)) ?_ | skip
  refine ev_go at_62_6 rfl ?_
  exact d_phaseLoop d hM hB hs K.t 0 true b (by omega) (hb.trans ⟨fun q => ⟨rfl, fun j _ h2 => q j h2⟩, fun q j h2 => q.2 j (by omega) h2⟩)
/-- the tablets of a section that lie at an end -/
def Ly (K : Cf) (m : Md) (s : Nat) (e : Bool) (q : List Nat) : Prop := ∀ i, i ∈ q ↔ i < K.t ∧ m.pl (8 * s + i) = eN e
theorem flt_step (i : Nat) : ∀ (q : List Nat), q.Nodup → (q.filter fun j => decide (i ≤ j)).length = (q.filter fun j => decide (i + 1 ≤ j)).length + (if i ∈ q then 1 else 0)
  | [], _ => by simp
  | x :: q, hq => by
    have hx := List.nodup_cons.mp hq
    have ih := flt_step i q hx.2
    by_cases h1 : x = i
    · subst h1
      rw [List.filter_cons_of_pos (by simp), List.filter_cons_of_neg (by simp), if_pos (by simp), List.length_cons, ih, if_neg hx.1]
    · by_cases h2 : i < x
      · rw [List.filter_cons_of_pos (by simp; omega), List.filter_cons_of_pos (by simp; omega), List.length_cons, List.length_cons, ih]
        by_cases h3 : i ∈ q
        · rw [if_pos h3, if_pos (by simp [h3])]
        · rw [if_neg h3, if_neg (by simp [h3]; omega)]
      · rw [List.filter_cons_of_neg (by simp; omega), List.filter_cons_of_neg (by simp; omega), ih]
        by_cases h3 : i ∈ q
        · rw [if_pos h3, if_pos (by simp [h3])]
        · rw [if_neg h3, if_neg (by simp [h3]; omega)]
theorem eN_lt (e : Bool) : eN e < 2 := by cases e <;> decide
theorem nodup_le : ∀ (t : Nat) (l : List Nat), l.Nodup → (∀ x ∈ l, x < t) → l.length ≤ t
  | 0, l, _, h2 => by
    cases l with
    | nil => simp
    | cons x l => exact absurd (h2 x (by simp)) (by omega)
  | t + 1, l, h1, h2 => by
    have e := nodup_le t (l.erase t) (h1.erase t) (fun x hx => by
      have h3 := (h1.mem_erase_iff).mp hx
      have := h2 x h3.2
      omega)
    have := List.length_erase (a := t) (l := l)
    split at this <;> omega
theorem d_lyingLoop (d : Nat) (hM : MAt K a h c m) (hB : MB m) {s : Nat} (hs : s < 15) {e : Bool} {q : List Nat} (hq : Ly K m s e q) (hnd : q.Nodup) : ∀ (r i n : Nat), i + r = K.t → n + (q.filter fun j => decide (i ≤ j)).length = q.length →
    mm_Ev z (mm_cal z d) 78 (8, [.val (.ref a), .val (.int (nI s)), .val (.int (nI (eN e))), .val (.int (nI n)), .val (.int (nI (8 * s + i)))], [], h) (.returned (some (.int (nI q.length))), h)
  | 0, i, n, hi, hn => by
    have ht := hM.1.2.2.2.1
    have h0 := hM.2.1
    have hf : (q.filter fun j => decide (i ≤ j)) = [] := by
      rw [List.filter_eq_nil_iff]
      intro j hj
      have := ((hq j).mp hj).1
      simp; omega
    rw [hf] at hn
    have hn2 : n = q.length := by simpa using hn
    subst hn2
    refine ev_go at_78_8 rfl ?_
    refine ev_bi (nI 8) at_78_10 (by decide) ?_
    refine ev_go at_78_12 rfl ?_
    refine ev_go at_78_13 rfl ?_
    first | refine ev_top (congrArg Value.int (pk_mul _ _)) ?_ | skip
    refine ev_go at_78_14 rfl ?_
    refine ev_get at_78_15 h0 rfl ?_
    refine ev_go at_78_18 rfl ?_
    first | refine ev_top (congrArg Value.int (nI_add _ _)) ?_ | skip
    refine ev_icmp_ge at_78_19 (fun _ => ?_) (fun hc => absurd (nI_le (by omega) (by omega)) hc)
    refine ev_go at_78_47 rfl ?_
    refine ev_iret at_78_48 (by first | exact Or.inl rfl | exact Or.inr (Or.inl rfl) | exact Or.inr (Or.inr rfl) | exact Or.inr (bI_01 _)) ?_
    rfl
  | r + 1, i, n, hi, hn => by
    have ht := hM.1.2.2.2.1
    have h0 := hM.2.1
    have h7 := hM.a7
    have hv := rng_at (n := 120) (fun b => Value.int (nI (m.pl b))) (show 8 * s + i < 120 by omega)
    have hpb := hB.1 (8 * s + i)
    have he := eN_lt e
    have hst := flt_step i q hnd
    refine ev_go at_78_8 rfl ?_
    refine ev_bi (nI 8) at_78_10 (by decide) ?_
    refine ev_go at_78_12 rfl ?_
    refine ev_go at_78_13 rfl ?_
    first | refine ev_top (congrArg Value.int (pk_mul _ _)) ?_ | skip
    refine ev_go at_78_14 rfl ?_
    refine ev_get at_78_15 h0 rfl ?_
    refine ev_go at_78_18 rfl ?_
    first | refine ev_top (congrArg Value.int (nI_add _ _)) ?_ | skip
    refine ev_icmp_ge at_78_19 (fun hc => absurd hc (nI_ge (by omega) (by omega))) (fun _ => ?_)
    refine ev_go at_78_22 rfl ?_
    refine ev_go at_78_23 rfl ?_
    refine ev_get at_78_24 h0 rfl ?_
    refine ev_go at_78_27 rfl ?_
    refine ev_iald at_78_29 h7 (by omega) hv ?_
    refine ev_go at_78_30 rfl ?_
    refine ev_icmp_ne at_78_31 (fun hc31 => ?_) (fun hc31 => ?_)
    · skip
      have hmem : ¬ i ∈ q := fun x => hc31 (by rw [((hq i).mp x).2])
      rw [if_neg hmem] at hst
      refine ev_ic (nI 0) at_78_38 (by decide) ?_
      refine ev_go at_78_39 rfl ?_
      refine ev_top (congrArg Value.int (nI_add _ _)) ?_
      refine ev_go at_78_40 rfl ?_
      refine ev_inc at_78_41 rfl ?_
      refine ev_go at_78_44 rfl ?_
      exact d_lyingLoop d hM hB hs hq hnd r (i + 1) _ (by omega) (by omega)
    · skip
      have hmem : i ∈ q := (hq i).mpr ⟨by omega, (nI_eq (by omega) (by omega)).mp hc31⟩
      rw [if_pos hmem] at hst
      refine ev_ic (nI 1) at_78_34 (by decide) ?_
      refine ev_go at_78_35 rfl ?_
      refine ev_go at_78_39 rfl ?_
      refine ev_top (congrArg Value.int (nI_add _ _)) ?_
      refine ev_go at_78_40 rfl ?_
      refine ev_inc at_78_41 rfl ?_
      refine ev_go at_78_44 rfl ?_
      exact d_lyingLoop d hM hB hs hq hnd r (i + 1) _ (by omega) (by omega)
theorem d_lying (d : Nat) (hM : MAt K a h c m) (hB : MB m) {s : Nat} (hs : s < 15) {e : Bool} {q : List Nat} (hq : Ly K m s e q) (hnd : q.Nodup) : mm_cal z (d + 1) 78 [.ref a, .int (nI s), .int (nI (eN e))] h (.returned (some (.int (nI q.length))), h) := by
  have hf : (q.filter fun j => decide (0 ≤ j)) = q := by rw [List.filter_eq_self]; intro j _; simp
  refine mm_cal_of ?_
  refine ev_ic (nI 0) at_78_0 (by decide) ?_
  refine ev_go at_78_1 rfl ?_
  refine ev_bi (nI 8) at_78_2 (by decide) ?_
  refine ev_go at_78_4 rfl ?_
  refine ev_go at_78_5 rfl ?_
  first | refine ev_top (congrArg Value.int (pk_mul _ _)) ?_ | skip
  refine ev_go at_78_6 rfl ?_
  exact d_lyingLoop d hM hB hs hq hnd K.t 0 0 (by omega) (by rw [hf]; omega)
/-- the uppermost among the first i -/
def Tp (m : Md) (s : Nat) (q : List Nat) (i : Nat) (top : Option Nat) : Prop := match top with
  | none => ∀ j ∈ q, i ≤ j
  | some k => k < i ∧ k ∈ q ∧ ∀ j ∈ q, j < i → m.si (8 * s + j) ≤ m.si (8 * s + k)
theorem Tp.last {s : Nat} {q : List Nat} {t : Nat} {top : Option Nat} (hT : Tp m s q t top) (hl : ∀ j ∈ q, j < t) (hp : q.Pairwise fun i j => m.si (8 * s + i) < m.si (8 * s + j)) : top = q.getLast? := by
  cases hg : q.getLast? with
  | none =>
    rw [List.getLast?_eq_none_iff] at hg
    subst hg
    cases top with
    | none => rfl
    | some k => exact absurd hT.2.1 (by simp)
  | some x =>
    obtain ⟨ys, rfl⟩ := List.getLast?_eq_some_iff.mp hg
    cases top with
    | none => exact absurd (hT x (by simp)) (by have := hl x (by simp); omega)
    | some k =>
      obtain ⟨h1, h2, h3⟩ := hT
      have h4 := h3 x (by simp) (hl x (by simp))
      rw [List.pairwise_append] at hp
      simp only [List.mem_append, List.mem_singleton] at h2
      rcases h2 with h2 | h2
      · have := hp.2.2 k h2 x (by simp)
        omega
      · rw [h2]
def oS (s : Nat) (q : Option Nat) : Int32 := oI (q.map (8 * s + ·))
theorem d_topLoop (d : Nat) (hM : MAt K a h c m) (hB : MB m) {s : Nat} (hs : s < 15) {e : Bool} {q : List Nat} (hq : Ly K m s e q) (hp : q.Pairwise fun i j => m.si (8 * s + i) < m.si (8 * s + j)) : ∀ (r i : Nat) (top : Option Nat), i + r = K.t → Tp m s q i top →
    mm_Ev z (mm_cal z d) 61 (8, [.val (.ref a), .val (.int (nI s)), .val (.int (nI (eN e))), .val (.int (oS s top)), .val (.int (nI (8 * s + i)))], [], h) (.returned (some (.int (oS s q.getLast?))), h)
  | 0, i, top, hi, hT => by
    have ht := hM.1.2.2.2.1
    have h0 := hM.2.1
    have hit : i = K.t := by omega
    rw [hit] at hT
    have := hT.last (fun j hj => ((hq j).mp hj).1) hp
    subst this
    refine ev_go at_61_8 rfl ?_
    refine ev_bi (nI 8) at_61_10 (by decide) ?_
    refine ev_go at_61_12 rfl ?_
    refine ev_go at_61_13 rfl ?_
    first | refine ev_top (congrArg Value.int (pk_mul _ _)) ?_ | skip
    refine ev_go at_61_14 rfl ?_
    refine ev_get at_61_15 h0 rfl ?_
    refine ev_go at_61_18 rfl ?_
    first | refine ev_top (congrArg Value.int (nI_add _ _)) ?_ | skip
    refine ev_icmp_ge at_61_19 (fun _ => ?_) (fun hc => absurd (nI_le (by omega) (by omega)) hc)
    refine ev_go at_61_66 rfl ?_
    refine ev_iret at_61_67 (by first | exact Or.inl rfl | exact Or.inr (Or.inl rfl) | exact Or.inr (Or.inr rfl) | exact Or.inr (bI_01 _)) ?_
    rfl
  | r + 1, i, top, hi, hT => by
    have ht := hM.1.2.2.2.1
    have h0 := hM.2.1
    have h7 := hM.a7
    have h8 := hM.a8
    have hv := rng_at (n := 120) (fun b => Value.int (nI (m.pl b))) (show 8 * s + i < 120 by omega)
    have hv2 := rng_at (n := 120) (fun b => Value.int (nI (m.si b))) (show 8 * s + i < 120 by omega)
    have hpb := hB.1 (8 * s + i)
    have hsb := hB.2.1 (8 * s + i)
    have htm := hB.2.2.2
    have he := eN_lt e
    by_cases hmem : i ∈ q
    · have hpe := ((hq i).mp hmem).2
      cases top with
      | none =>
        have hT' : Tp m s q (i + 1) (some i) := ⟨by omega, hmem, fun j hj hji => by
          have := hT j hj
          have hj2 : j = i := by omega
          rw [hj2]
          exact Nat.le_refl _⟩
        refine ev_go at_61_8 rfl ?_
        refine ev_bi (nI 8) at_61_10 (by decide) ?_
        refine ev_go at_61_12 rfl ?_
        refine ev_go at_61_13 rfl ?_
        first | refine ev_top (congrArg Value.int (pk_mul _ _)) ?_ | skip
        refine ev_go at_61_14 rfl ?_
        refine ev_get at_61_15 h0 rfl ?_
        refine ev_go at_61_18 rfl ?_
        first | refine ev_top (congrArg Value.int (nI_add _ _)) ?_ | skip
        refine ev_icmp_ge at_61_19 (fun hc => absurd hc (nI_ge (by omega) (by omega))) (fun _ => ?_)
        refine ev_go at_61_22 rfl ?_
        refine ev_get at_61_23 h0 rfl ?_
        refine ev_go at_61_26 rfl ?_
        refine ev_iald at_61_28 h7 (by omega) hv ?_
        refine ev_go at_61_29 rfl ?_
        refine ev_icmp_ne at_61_30 (fun hc => absurd (by rw [hpe]) hc) (fun _ => ?_)
        refine ev_go at_61_33 rfl ?_
        refine ev_if_lt at_61_34 (fun _ => ?_) (fun hc => absurd (show (-1 : Int32) < 0 by decide) hc)
        refine ev_go at_61_53 rfl ?_
        refine ev_go at_61_55 rfl ?_
        refine ev_go at_61_59 rfl ?_
        refine ev_inc at_61_60 rfl ?_
        refine ev_go at_61_63 rfl ?_
        exact d_topLoop d hM hB hs hq hp r (i + 1) (some i) (by omega) hT'
      | some k =>
        obtain ⟨k1, k2, k3⟩ := hT
        have hv3 := rng_at (n := 120) (fun b => Value.int (nI (m.si b))) (show 8 * s + k < 120 by omega)
        have hsk := hB.2.1 (8 * s + k)
        have o34 : ¬ oS s (some k) < 0 := nI_pos (by show 8 * s + k < 2 ^ 31; omega)
        by_cases hle : m.si (8 * s + i) ≤ m.si (8 * s + k)
        · have hT' : Tp m s q (i + 1) (some k) := ⟨by omega, k2, fun j hj hji => by
            by_cases hj2 : j = i
            · rw [hj2]; exact hle
            · exact k3 j hj (by omega)⟩
          refine ev_go at_61_8 rfl ?_
          refine ev_bi (nI 8) at_61_10 (by decide) ?_
          refine ev_go at_61_12 rfl ?_
          refine ev_go at_61_13 rfl ?_
          first | refine ev_top (congrArg Value.int (pk_mul _ _)) ?_ | skip
          refine ev_go at_61_14 rfl ?_
          refine ev_get at_61_15 h0 rfl ?_
          refine ev_go at_61_18 rfl ?_
          first | refine ev_top (congrArg Value.int (nI_add _ _)) ?_ | skip
          refine ev_icmp_ge at_61_19 (fun hc => absurd hc (nI_ge (by omega) (by omega))) (fun _ => ?_)
          refine ev_go at_61_22 rfl ?_
          refine ev_get at_61_23 h0 rfl ?_
          refine ev_go at_61_26 rfl ?_
          refine ev_iald at_61_28 h7 (by omega) hv ?_
          refine ev_go at_61_29 rfl ?_
          refine ev_icmp_ne at_61_30 (fun hc => absurd (by rw [hpe]) hc) (fun _ => ?_)
          refine ev_go at_61_33 rfl ?_
          refine ev_if_lt at_61_34 (fun hc => absurd hc o34) (fun _ => ?_)
          refine ev_go at_61_37 rfl ?_
          refine ev_get at_61_38 h0 rfl ?_
          refine ev_go at_61_41 rfl ?_
          refine ev_iald at_61_43 h8 (by omega) hv2 ?_
          refine ev_go at_61_44 rfl ?_
          refine ev_get at_61_45 h0 rfl ?_
          refine ev_go at_61_48 rfl ?_
          refine ev_top (show Value.int (oS s (some k)) = Value.int (nI (8 * s + k)) from rfl) ?_
          refine ev_iald at_61_49 h8 (by omega) hv3 ?_
          refine ev_icmp_le at_61_50 (fun _ => ?_) (fun hc => absurd (nI_le hle (by omega)) hc)
          refine ev_go at_61_58 rfl ?_
          refine ev_go at_61_59 rfl ?_
          refine ev_inc at_61_60 rfl ?_
          refine ev_go at_61_63 rfl ?_
          exact d_topLoop d hM hB hs hq hp r (i + 1) (some k) (by omega) hT'
        · have hT' : Tp m s q (i + 1) (some i) := ⟨by omega, hmem, fun j hj hji => by
            by_cases hj2 : j = i
            · rw [hj2]; exact Nat.le_refl _
            · have := k3 j hj (by omega); omega⟩
          refine ev_go at_61_8 rfl ?_
          refine ev_bi (nI 8) at_61_10 (by decide) ?_
          refine ev_go at_61_12 rfl ?_
          refine ev_go at_61_13 rfl ?_
          first | refine ev_top (congrArg Value.int (pk_mul _ _)) ?_ | skip
          refine ev_go at_61_14 rfl ?_
          refine ev_get at_61_15 h0 rfl ?_
          refine ev_go at_61_18 rfl ?_
          first | refine ev_top (congrArg Value.int (nI_add _ _)) ?_ | skip
          refine ev_icmp_ge at_61_19 (fun hc => absurd hc (nI_ge (by omega) (by omega))) (fun _ => ?_)
          refine ev_go at_61_22 rfl ?_
          refine ev_get at_61_23 h0 rfl ?_
          refine ev_go at_61_26 rfl ?_
          refine ev_iald at_61_28 h7 (by omega) hv ?_
          refine ev_go at_61_29 rfl ?_
          refine ev_icmp_ne at_61_30 (fun hc => absurd (by rw [hpe]) hc) (fun _ => ?_)
          refine ev_go at_61_33 rfl ?_
          refine ev_if_lt at_61_34 (fun hc => absurd hc o34) (fun _ => ?_)
          refine ev_go at_61_37 rfl ?_
          refine ev_get at_61_38 h0 rfl ?_
          refine ev_go at_61_41 rfl ?_
          refine ev_iald at_61_43 h8 (by omega) hv2 ?_
          refine ev_go at_61_44 rfl ?_
          refine ev_get at_61_45 h0 rfl ?_
          refine ev_go at_61_48 rfl ?_
          refine ev_top (show Value.int (oS s (some k)) = Value.int (nI (8 * s + k)) from rfl) ?_
          refine ev_iald at_61_49 h8 (by omega) hv3 ?_
          refine ev_icmp_le at_61_50 (fun hc => absurd hc (nI_ge (by omega) (by omega))) (fun _ => ?_)
          refine ev_go at_61_53 rfl ?_
          refine ev_go at_61_55 rfl ?_
          refine ev_go at_61_59 rfl ?_
          refine ev_inc at_61_60 rfl ?_
          refine ev_go at_61_63 rfl ?_
          exact d_topLoop d hM hB hs hq hp r (i + 1) (some i) (by omega) hT'
    · have hpe : m.pl (8 * s + i) ≠ eN e := fun x => hmem ((hq i).mpr ⟨by omega, x⟩)
      have hT' : Tp m s q (i + 1) top := by
        cases top with
        | none =>
          intro j hj
          have h1 := hT j hj
          have h2 : j ≠ i := fun x => hmem (x ▸ hj)
          omega
        | some k =>
          refine ⟨by have := hT.1; omega, hT.2.1, fun j hj hji => hT.2.2 j hj ?_⟩
          have h2 : j ≠ i := fun x => hmem (x ▸ hj)
          omega
      refine ev_go at_61_8 rfl ?_
      refine ev_bi (nI 8) at_61_10 (by decide) ?_
      refine ev_go at_61_12 rfl ?_
      refine ev_go at_61_13 rfl ?_
      first | refine ev_top (congrArg Value.int (pk_mul _ _)) ?_ | skip
      refine ev_go at_61_14 rfl ?_
      refine ev_get at_61_15 h0 rfl ?_
      refine ev_go at_61_18 rfl ?_
      first | refine ev_top (congrArg Value.int (nI_add _ _)) ?_ | skip
      refine ev_icmp_ge at_61_19 (fun hc => absurd hc (nI_ge (by omega) (by omega))) (fun _ => ?_)
      refine ev_go at_61_22 rfl ?_
      refine ev_get at_61_23 h0 rfl ?_
      refine ev_go at_61_26 rfl ?_
      refine ev_iald at_61_28 h7 (by omega) hv ?_
      refine ev_go at_61_29 rfl ?_
      refine ev_icmp_ne at_61_30 (fun _ => ?_) (fun hc => absurd hc (ni_ne (by omega) (by omega) hpe))
      refine ev_go at_61_58 rfl ?_
      refine ev_go at_61_59 rfl ?_
      refine ev_inc at_61_60 rfl ?_
      refine ev_go at_61_63 rfl ?_
      exact d_topLoop d hM hB hs hq hp r (i + 1) top (by omega) hT'
theorem d_topmost (d : Nat) (hM : MAt K a h c m) (hB : MB m) {s : Nat} (hs : s < 15) {e : Bool} {q : List Nat} (hq : Ly K m s e q) (hp : q.Pairwise fun i j => m.si (8 * s + i) < m.si (8 * s + j)) : mm_cal z (d + 1) 61 [.ref a, .int (nI s), .int (nI (eN e))] h (.returned (some (.int (oS s q.getLast?))), h) := by
  refine mm_cal_of ?_
  refine ev_ic (-1) at_61_0 (by decide) ?_
  refine ev_go at_61_1 rfl ?_
  refine ev_bi (nI 8) at_61_2 (by decide) ?_
  refine ev_go at_61_4 rfl ?_
  refine ev_go at_61_5 rfl ?_
  first | refine ev_top (congrArg Value.int (pk_mul _ _)) ?_ | skip
  refine ev_go at_61_6 rfl ?_
  exact d_topLoop d hM hB hs hq hp K.t 0 none (by omega) (fun j _ => by omega)
/-- the tablet aboard a train -/
def Ab (m : Md) (i : Nat) (tab : Option Nat) : Prop := ∀ k, k < 120 → (m.pl k = 20 + i ↔ tab = some k)
def fdB (tab : Option Nat) (k : Nat) : Option Nat := match tab with
  | some x => if x < k then some x else none
  | none => none
theorem d_aboardLoop (d : Nat) (hM : MAt K a h c m) (hB : MB m) {i : Nat} (hi : i < 8) {tab : Option Nat} (hA : Ab m i tab) (ht : ∀ k, tab = some k → k < 120) : ∀ (r k : Nat), k + r = 120 →
    mm_Ev z (mm_cal z d) 71 (4, [.val (.ref a), .val (.int (nI i)), .val (.int (oI (fdB tab k))), .val (.int (nI k))], [], h) (.returned (some (.int (oI tab))), h)
  | 0, k, hk => by
    have hk2 : k = 120 := by omega
    subst hk2
    have hf : fdB tab 120 = tab := by
      cases tab with
      | none => rfl
      | some x => exact if_pos (ht x rfl)
    rw [hf]
    refine ev_go at_71_4 rfl ?_
    refine ev_bi (nI 120) at_71_5 (by decide) ?_
    refine ev_icmp_ge at_71_7 (fun _ => ?_) (fun hc => absurd (nI_le (by omega) (by omega)) hc)
    refine ev_go at_71_35 rfl ?_
    refine ev_iret at_71_36 (by first | exact Or.inl rfl | exact Or.inr (Or.inl rfl) | exact Or.inr (Or.inr rfl) | exact Or.inr (bI_01 _)) ?_
    rfl
  | r + 1, k, hk => by
    have h0 := hM.2.1
    have h7 := hM.a7
    have hv := rng_at (n := 120) (fun b => Value.int (nI (m.pl b))) (show k < 120 by omega)
    have hpb := hB.1 k
    have hAk := hA k (by omega)
    by_cases hx : m.pl k = 20 + i
    · have hf : fdB tab (k + 1) = some k := by rw [hAk.mp hx]; exact if_pos (by omega)
      have ih := d_aboardLoop d hM hB hi hA ht r (k + 1) (by omega)
      rw [hf] at ih
      refine ev_go at_71_4 rfl ?_
      refine ev_bi (nI 120) at_71_5 (by decide) ?_
      refine ev_icmp_ge at_71_7 (fun hc => absurd hc (nI_ge (by omega) (by omega))) (fun _ => ?_)
      refine ev_go at_71_10 rfl ?_
      refine ev_get at_71_11 h0 rfl ?_
      refine ev_go at_71_14 rfl ?_
      refine ev_iald at_71_15 h7 (by omega) hv ?_
      refine ev_bi (nI 20) at_71_16 (by decide) ?_
      refine ev_go at_71_18 rfl ?_
      refine ev_go at_71_19 rfl ?_
      first | refine ev_top (congrArg Value.int (nI_add _ _)) ?_ | skip
      refine ev_icmp_ne at_71_20 (fun hc => absurd (by rw [hx]) hc) (fun _ => ?_)
      refine ev_go at_71_23 rfl ?_
      refine ev_go at_71_24 rfl ?_
      refine ev_go at_71_28 rfl ?_
      refine ev_inc at_71_29 rfl ?_
      refine ev_go at_71_32 rfl ?_
      exact ih
    · have hf : fdB tab (k + 1) = fdB tab k := by
        cases tab with
        | none => rfl
        | some x =>
          have hxk : x ≠ k := fun y => hx (hAk.mpr (by rw [y]))
          show (if x < k + 1 then some x else none) = if x < k then some x else none
          by_cases h2 : x < k
          · rw [if_pos h2, if_pos (by omega)]
          · rw [if_neg h2, if_neg (by omega)]
      have ih := d_aboardLoop d hM hB hi hA ht r (k + 1) (by omega)
      rw [hf] at ih
      refine ev_go at_71_4 rfl ?_
      refine ev_bi (nI 120) at_71_5 (by decide) ?_
      refine ev_icmp_ge at_71_7 (fun hc => absurd hc (nI_ge (by omega) (by omega))) (fun _ => ?_)
      refine ev_go at_71_10 rfl ?_
      refine ev_get at_71_11 h0 rfl ?_
      refine ev_go at_71_14 rfl ?_
      refine ev_iald at_71_15 h7 (by omega) hv ?_
      refine ev_bi (nI 20) at_71_16 (by decide) ?_
      refine ev_go at_71_18 rfl ?_
      refine ev_go at_71_19 rfl ?_
      first | refine ev_top (congrArg Value.int (nI_add _ _)) ?_ | skip
      refine ev_icmp_ne at_71_20 (fun _ => ?_) (fun hc => absurd hc (ni_ne (by omega) (by omega) hx))
      refine ev_go at_71_27 rfl ?_
      refine ev_go at_71_28 rfl ?_
      refine ev_inc at_71_29 rfl ?_
      refine ev_go at_71_32 rfl ?_
      exact ih
theorem d_aboard (d : Nat) (hM : MAt K a h c m) (hB : MB m) {i : Nat} (hi : i < 8) {tab : Option Nat} (hA : Ab m i tab) (ht : ∀ k, tab = some k → k < 120) : mm_cal z (d + 1) 71 [.ref a, .int (nI i)] h (.returned (some (.int (oI tab))), h) := by
  have ih := d_aboardLoop (z := z) d hM hB hi hA ht 120 0 (by omega)
  have hf : fdB tab 0 = none := by
    cases tab with
    | none => rfl
    | some x =>
      show (if x < 0 then some x else none) = none
      exact if_neg (Nat.not_lt_zero x)
  rw [hf] at ih
  refine mm_cal_of ?_
  refine ev_ic (-1) at_71_0 (by decide) ?_
  refine ev_go at_71_1 rfl ?_
  refine ev_ic (nI 0) at_71_2 (by decide) ?_
  refine ev_go at_71_3 rfl ?_
  exact ih
end D2
