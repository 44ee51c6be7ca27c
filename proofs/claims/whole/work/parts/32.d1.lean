/-! THE REFERENCE's WORLD, and its private methods -/
/-- time, out, broken, held, turns, at, since, known, boxOf, inside -/
abbrev Md : Type := Nat × (Nat → Bool) × (Nat → Bool) × (Nat → Bool) × (Nat → Nat) × (Nat → Nat) × (Nat → Nat) × (Nat → Bool) × (Nat → Nat) × (Nat → Option Nat)
abbrev Md.tm (m : Md) : Nat := m.1
abbrev Md.io (m : Md) : Nat → Bool := m.2.1
abbrev Md.bk (m : Md) : Nat → Bool := m.2.2.1
abbrev Md.hd (m : Md) : Nat → Bool := m.2.2.2.1
abbrev Md.tu (m : Md) : Nat → Nat := m.2.2.2.2.1
abbrev Md.pl (m : Md) : Nat → Nat := m.2.2.2.2.2.1
abbrev Md.si (m : Md) : Nat → Nat := m.2.2.2.2.2.2.1
abbrev Md.kn (m : Md) : Nat → Bool := m.2.2.2.2.2.2.2.1
abbrev Md.bx (m : Md) : Nat → Nat := m.2.2.2.2.2.2.2.2.1
abbrev Md.ins (m : Md) : Nat → Option Nat := m.2.2.2.2.2.2.2.2.2
abbrev Md.sIo (m : Md) (b : Nat) (v : Bool) : Md := (m.tm, upf m.io b v, m.bk, m.hd, m.tu, m.pl, m.si, m.kn, m.bx, m.ins)
abbrev Md.sBk (m : Md) (b : Nat) (v : Bool) : Md := (m.tm, m.io, upf m.bk b v, m.hd, m.tu, m.pl, m.si, m.kn, m.bx, m.ins)
abbrev Md.sHd (m : Md) (b : Nat) (v : Bool) : Md := (m.tm, m.io, m.bk, upf m.hd b v, m.tu, m.pl, m.si, m.kn, m.bx, m.ins)
abbrev Md.sTu (m : Md) (b : Nat) (v : Nat) : Md := (m.tm, m.io, m.bk, m.hd, upf m.tu b v, m.pl, m.si, m.kn, m.bx, m.ins)
abbrev Md.sPl (m : Md) (b : Nat) (v : Nat) : Md := (m.tm, m.io, m.bk, m.hd, m.tu, upf m.pl b v, m.si, m.kn, m.bx, m.ins)
abbrev Md.sSi (m : Md) (b : Nat) (v : Nat) : Md := (m.tm, m.io, m.bk, m.hd, m.tu, m.pl, upf m.si b v, m.kn, m.bx, m.ins)
abbrev Md.sTm (m : Md) (v : Nat) : Md := (v, m.io, m.bk, m.hd, m.tu, m.pl, m.si, m.kn, m.bx, m.ins)
abbrev Md.sKn (m : Md) (b : Nat) (v : Bool) : Md := (m.tm, m.io, m.bk, m.hd, m.tu, m.pl, m.si, upf m.kn b v, m.bx, m.ins)
abbrev Md.sBx (m : Md) (b : Nat) (v : Nat) : Md := (m.tm, m.io, m.bk, m.hd, m.tu, m.pl, m.si, m.kn, upf m.bx b v, m.ins)
abbrev Md.sIn (m : Md) (b : Nat) (v : Option Nat) : Md := (m.tm, m.io, m.bk, m.hd, m.tu, m.pl, m.si, m.kn, m.bx, upf m.ins b v)
abbrev Md.goes (m : Md) (k v : Nat) : Md := ((m.sPl k v).sSi k m.tm).sTm (m.tm + 1)
def Mk : Nat → Nat × Nat
  | 1 => (11, 6)
  | 2 => (11, 6)
  | 3 => (11, 15)
  | 4 => (11, 15)
  | 5 => (11, 30)
  | 6 => (10, 30)
  | 7 => (10, 120)
  | 8 => (10, 120)
  | 9 => (11, 8)
  | 10 => (10, 8)
  | _ => (10, 8)
def Mv (K : Cf) (m : Md) : Nat → Nat → Value
  | 1 => fun b => .int (bI (K.ex (10 + b)))
  | 2 => fun b => .int (bI (m.io b))
  | 3 => fun b => .int (bI (K.ex b))
  | 4 => fun b => .int (bI (m.bk b))
  | 5 => fun b => .int (bI (m.hd b))
  | 6 => fun b => .int (nI (m.tu b))
  | 7 => fun b => .int (nI (m.pl b))
  | 8 => fun b => .int (nI (m.si b))
  | 9 => fun b => .int (bI (m.kn b))
  | 10 => fun b => .int (nI (m.bx b))
  | _ => fun b => .int (oI (m.ins b))
def Mo (K : Cf) (a : Nat) (c : Int32) (tm : Nat) : List Value := [.int (nI K.n), .int (nI K.t), .int c, .int (nI tm), .ref (a + 1), .ref (a + 2), .ref (a + 3), .ref (a + 4), .ref (a + 5), .ref (a + 6), .ref (a + 7), .ref (a + 8), .ref (a + 9), .ref (a + 10), .ref (a + 11)]
def MAt (K : Cf) (a : Nat) (h : mm_H) (c : Int32) (m : Md) : Prop := K.ok ∧ h[a]? = some (4, Mo K a c m.tm) ∧ ∀ q, 1 ≤ q → q ≤ 11 → h[a + q]? = some ((Mk q).1, rng (Mk q).2 (Mv K m q))
/-- bounds of the reference's numbers -/
def MB (m : Md) : Prop := (∀ k, m.pl k < 100) ∧ (∀ k, m.si k < m.tm) ∧ (∀ k, m.tu k ≤ m.tm) ∧ m.tm < 2 ^ 30
section D1
variable {z : mm_Z} {h h' : mm_H} {K : Cf} {a : Nat} {c : Int32} {m : Md}
theorem MAt.off {b b' : Nat} (hM : MAt K a h c m) (o : Off b b' h h') (hd : b' ≤ a ∨ a + 12 ≤ b) : MAt K a h' c m := by
  obtain ⟨hK, h0, h1⟩ := hM
  exact ⟨hK, by rw [o.2.2 _ (by omega)]; exact h0, fun q q1 q2 => by rw [o.2.2 _ (by omega)]; exact h1 q q1 q2⟩
theorem MAt.app (hM : MAt K a h c m) (l : mm_H) : MAt K a (h ++ l) c m := ⟨hM.1, app_at hM.2.1 l, fun q q1 q2 => app_at (hM.2.2 q q1 q2) l⟩
theorem CW.off {w : Cs} {b b' : Nat} (hW : CW K h w) (o : Off b b' h h') (hb : K.tb + 9 ≤ b) : CW K h' w := by
  obtain ⟨hK, h0, h1, h2, h3, h4, h5⟩ := hW
  have e0 : K.ex 0 = true := by unfold Cf.ex; rw [decide_eq_true (by have := hK.1; omega)]; rfl
  obtain ⟨a1, a2⟩ := hK.2.2.2.2.1 0 e0
  refine ⟨hK, by rw [o.2.2 _ (by omega)]; exact h0, by rw [o.2.2 _ (by omega)]; exact h1, by rw [o.2.2 _ (by omega)]; exact h2, by rw [o.2.2 _ (by omega)]; exact h3, fun s hs => ?_, fun i hi => ?_⟩
  · have := hK.2.2.2.2.1 s hs
    exact (h4 s hs).off o (by omega)
  · show h'[_]? = _
    rw [o.2.2 _ (by omega)]; exact h5 i hi
theorem MAt.a1 (hM : MAt K a h c m) : h[a + 1]? = some (11, rng 6 fun b => .int (bI (K.ex (10 + b)))) := hM.2.2 1 (by omega) (by omega)
theorem MAt.a2 (hM : MAt K a h c m) : h[a + 2]? = some (11, rng 6 fun b => .int (bI (m.io b))) := hM.2.2 2 (by omega) (by omega)
theorem MAt.a3 (hM : MAt K a h c m) : h[a + 3]? = some (11, rng 15 fun b => .int (bI (K.ex b))) := hM.2.2 3 (by omega) (by omega)
theorem MAt.a4 (hM : MAt K a h c m) : h[a + 4]? = some (11, rng 15 fun b => .int (bI (m.bk b))) := hM.2.2 4 (by omega) (by omega)
theorem MAt.a5 (hM : MAt K a h c m) : h[a + 5]? = some (11, rng 30 fun b => .int (bI (m.hd b))) := hM.2.2 5 (by omega) (by omega)
theorem MAt.a6 (hM : MAt K a h c m) : h[a + 6]? = some (10, rng 30 fun b => .int (nI (m.tu b))) := hM.2.2 6 (by omega) (by omega)
theorem MAt.a7 (hM : MAt K a h c m) : h[a + 7]? = some (10, rng 120 fun b => .int (nI (m.pl b))) := hM.2.2 7 (by omega) (by omega)
theorem MAt.a8 (hM : MAt K a h c m) : h[a + 8]? = some (10, rng 120 fun b => .int (nI (m.si b))) := hM.2.2 8 (by omega) (by omega)
theorem MAt.a9 (hM : MAt K a h c m) : h[a + 9]? = some (11, rng 8 fun b => .int (bI (m.kn b))) := hM.2.2 9 (by omega) (by omega)
theorem MAt.a10 (hM : MAt K a h c m) : h[a + 10]? = some (10, rng 8 fun b => .int (nI (m.bx b))) := hM.2.2 10 (by omega) (by omega)
theorem MAt.a11 (hM : MAt K a h c m) : h[a + 11]? = some (10, rng 8 fun b => .int (oI (m.ins b))) := hM.2.2 11 (by omega) (by omega)
theorem MAt.setC (hM : MAt K a h c m) (c' : Int32) : MAt K a (mm_upd h a 2 (.int c')) c' m ∧ Off a (a + 12) h (mm_upd h a 2 (.int c')) := by
  refine ⟨⟨hM.1, by rw [mm_upd_at hM.2.1]; rfl, fun q q1 q2 => by rw [mm_upd_ne (by omega)]; exact hM.2.2 q q1 q2⟩, Off.upd (Nat.le_refl _) (by omega)⟩
theorem MAt.setTm (hM : MAt K a h c m) (v : Nat) : MAt K a (mm_upd h a 3 (.int (nI v))) c (m.sTm v) ∧ Off a (a + 12) h (mm_upd h a 3 (.int (nI v))) := by
  refine ⟨⟨hM.1, by rw [mm_upd_at hM.2.1]; rfl, fun q q1 q2 => ?_⟩, Off.upd (Nat.le_refl _) (by omega)⟩
  rw [mm_upd_ne (by omega), hM.2.2 q q1 q2]
  rfl
theorem MAt.upd (hM : MAt K a h c m) {q : Nat} (q1 : 1 ≤ q) (q2 : q ≤ 11) (i : Nat) (v : Value) {m' : Md} (ht : m'.tm = m.tm) (hs : Mv K m' q = upf (Mv K m q) i v) (hn : ∀ r, 1 ≤ r → r ≤ 11 → r ≠ q → Mv K m' r = Mv K m r) : MAt K a (mm_upd h (a + q) i v) c m' ∧ Off a (a + 12) h (mm_upd h (a + q) i v) := by
  refine ⟨⟨hM.1, by rw [mm_upd_ne (by omega), ht]; exact hM.2.1, fun r r1 r2 => ?_⟩, Off.upd (by omega) (by omega)⟩
  by_cases hrq : r = q
  · subst hrq
    rw [mm_upd_at (hM.2.2 r r1 r2), rng_set, hs]
  · rw [mm_upd_ne (by omega), hn r r1 r2 hrq]; exact hM.2.2 r r1 r2
theorem r11 {q : Nat} {P : Nat → Prop} (q1 : 1 ≤ q) (q2 : q ≤ 11) (h1 : P 1) (h2 : P 2) (h3 : P 3) (h4 : P 4) (h5 : P 5) (h6 : P 6) (h7 : P 7) (h8 : P 8) (h9 : P 9) (h10 : P 10) (h11 : P 11) : P q := by
  rcases (by omega : q = 1 ∨ q = 2 ∨ q = 3 ∨ q = 4 ∨ q = 5 ∨ q = 6 ∨ q = 7 ∨ q = 8 ∨ q = 9 ∨ q = 10 ∨ q = 11) with e | e | e | e | e | e | e | e | e | e | e <;> subst e <;> assumption
theorem MAt.sIo (hM : MAt K a h c m) (i : Nat) (v : Bool) : MAt K a (mm_upd h (a + 2) i (.int (bI v))) c (m.sIo i v) ∧ Off a (a + 12) h (mm_upd h (a + 2) i (.int (bI v))) := by
  refine hM.upd (q := 2) (by omega) (by omega) i _ rfl ?_ (fun r r1 r2 => r11 (P := fun r => r ≠ 2 → Mv K (m.sIo i v) r = Mv K m r) r1 r2 (fun _ => rfl) (fun x => absurd rfl x) (fun _ => rfl) (fun _ => rfl) (fun _ => rfl) (fun _ => rfl) (fun _ => rfl) (fun _ => rfl) (fun _ => rfl) (fun _ => rfl) (fun _ => rfl))
  funext j
  show Value.int (bI (upf _ i v j)) = upf _ i _ j
  unfold upf
  split <;> rfl
theorem MAt.sBk (hM : MAt K a h c m) (i : Nat) (v : Bool) : MAt K a (mm_upd h (a + 4) i (.int (bI v))) c (m.sBk i v) ∧ Off a (a + 12) h (mm_upd h (a + 4) i (.int (bI v))) := by
  refine hM.upd (q := 4) (by omega) (by omega) i _ rfl ?_ (fun r r1 r2 => r11 (P := fun r => r ≠ 4 → Mv K (m.sBk i v) r = Mv K m r) r1 r2 (fun _ => rfl) (fun _ => rfl) (fun _ => rfl) (fun x => absurd rfl x) (fun _ => rfl) (fun _ => rfl) (fun _ => rfl) (fun _ => rfl) (fun _ => rfl) (fun _ => rfl) (fun _ => rfl))
  funext j
  show Value.int (bI (upf _ i v j)) = upf _ i _ j
  unfold upf
  split <;> rfl
theorem MAt.sHd (hM : MAt K a h c m) (i : Nat) (v : Bool) : MAt K a (mm_upd h (a + 5) i (.int (bI v))) c (m.sHd i v) ∧ Off a (a + 12) h (mm_upd h (a + 5) i (.int (bI v))) := by
  refine hM.upd (q := 5) (by omega) (by omega) i _ rfl ?_ (fun r r1 r2 => r11 (P := fun r => r ≠ 5 → Mv K (m.sHd i v) r = Mv K m r) r1 r2 (fun _ => rfl) (fun _ => rfl) (fun _ => rfl) (fun _ => rfl) (fun x => absurd rfl x) (fun _ => rfl) (fun _ => rfl) (fun _ => rfl) (fun _ => rfl) (fun _ => rfl) (fun _ => rfl))
  funext j
  show Value.int (bI (upf _ i v j)) = upf _ i _ j
  unfold upf
  split <;> rfl
theorem MAt.sTu (hM : MAt K a h c m) (i : Nat) (v : Nat) : MAt K a (mm_upd h (a + 6) i (.int (nI v))) c (m.sTu i v) ∧ Off a (a + 12) h (mm_upd h (a + 6) i (.int (nI v))) := by
  refine hM.upd (q := 6) (by omega) (by omega) i _ rfl ?_ (fun r r1 r2 => r11 (P := fun r => r ≠ 6 → Mv K (m.sTu i v) r = Mv K m r) r1 r2 (fun _ => rfl) (fun _ => rfl) (fun _ => rfl) (fun _ => rfl) (fun _ => rfl) (fun x => absurd rfl x) (fun _ => rfl) (fun _ => rfl) (fun _ => rfl) (fun _ => rfl) (fun _ => rfl))
  funext j
  show Value.int (nI (upf _ i v j)) = upf _ i _ j
  unfold upf
  split <;> rfl
theorem MAt.sPl (hM : MAt K a h c m) (i : Nat) (v : Nat) : MAt K a (mm_upd h (a + 7) i (.int (nI v))) c (m.sPl i v) ∧ Off a (a + 12) h (mm_upd h (a + 7) i (.int (nI v))) := by
  refine hM.upd (q := 7) (by omega) (by omega) i _ rfl ?_ (fun r r1 r2 => r11 (P := fun r => r ≠ 7 → Mv K (m.sPl i v) r = Mv K m r) r1 r2 (fun _ => rfl) (fun _ => rfl) (fun _ => rfl) (fun _ => rfl) (fun _ => rfl) (fun _ => rfl) (fun x => absurd rfl x) (fun _ => rfl) (fun _ => rfl) (fun _ => rfl) (fun _ => rfl))
  funext j
  show Value.int (nI (upf _ i v j)) = upf _ i _ j
  unfold upf
  split <;> rfl
theorem MAt.sSi (hM : MAt K a h c m) (i : Nat) (v : Nat) : MAt K a (mm_upd h (a + 8) i (.int (nI v))) c (m.sSi i v) ∧ Off a (a + 12) h (mm_upd h (a + 8) i (.int (nI v))) := by
  refine hM.upd (q := 8) (by omega) (by omega) i _ rfl ?_ (fun r r1 r2 => r11 (P := fun r => r ≠ 8 → Mv K (m.sSi i v) r = Mv K m r) r1 r2 (fun _ => rfl) (fun _ => rfl) (fun _ => rfl) (fun _ => rfl) (fun _ => rfl) (fun _ => rfl) (fun _ => rfl) (fun x => absurd rfl x) (fun _ => rfl) (fun _ => rfl) (fun _ => rfl))
  funext j
  show Value.int (nI (upf _ i v j)) = upf _ i _ j
  unfold upf
  split <;> rfl
theorem MAt.sKn (hM : MAt K a h c m) (i : Nat) (v : Bool) : MAt K a (mm_upd h (a + 9) i (.int (bI v))) c (m.sKn i v) ∧ Off a (a + 12) h (mm_upd h (a + 9) i (.int (bI v))) := by
  refine hM.upd (q := 9) (by omega) (by omega) i _ rfl ?_ (fun r r1 r2 => r11 (P := fun r => r ≠ 9 → Mv K (m.sKn i v) r = Mv K m r) r1 r2 (fun _ => rfl) (fun _ => rfl) (fun _ => rfl) (fun _ => rfl) (fun _ => rfl) (fun _ => rfl) (fun _ => rfl) (fun _ => rfl) (fun x => absurd rfl x) (fun _ => rfl) (fun _ => rfl))
  funext j
  show Value.int (bI (upf _ i v j)) = upf _ i _ j
  unfold upf
  split <;> rfl
theorem MAt.sBx (hM : MAt K a h c m) (i : Nat) (v : Nat) : MAt K a (mm_upd h (a + 10) i (.int (nI v))) c (m.sBx i v) ∧ Off a (a + 12) h (mm_upd h (a + 10) i (.int (nI v))) := by
  refine hM.upd (q := 10) (by omega) (by omega) i _ rfl ?_ (fun r r1 r2 => r11 (P := fun r => r ≠ 10 → Mv K (m.sBx i v) r = Mv K m r) r1 r2 (fun _ => rfl) (fun _ => rfl) (fun _ => rfl) (fun _ => rfl) (fun _ => rfl) (fun _ => rfl) (fun _ => rfl) (fun _ => rfl) (fun _ => rfl) (fun x => absurd rfl x) (fun _ => rfl))
  funext j
  show Value.int (nI (upf _ i v j)) = upf _ i _ j
  unfold upf
  split <;> rfl
theorem MAt.sIn (hM : MAt K a h c m) (i : Nat) (v : (Option Nat)) : MAt K a (mm_upd h (a + 11) i (.int (oI v))) c (m.sIn i v) ∧ Off a (a + 12) h (mm_upd h (a + 11) i (.int (oI v))) := by
  refine hM.upd (q := 11) (by omega) (by omega) i _ rfl ?_ (fun r r1 r2 => r11 (P := fun r => r ≠ 11 → Mv K (m.sIn i v) r = Mv K m r) r1 r2 (fun _ => rfl) (fun _ => rfl) (fun _ => rfl) (fun _ => rfl) (fun _ => rfl) (fun _ => rfl) (fun _ => rfl) (fun _ => rfl) (fun _ => rfl) (fun _ => rfl) (fun x => absurd rfl x))
  funext j
  show Value.int (oI (upf _ i v j)) = upf _ i _ j
  unfold upf
  split <;> rfl
theorem d_isBox (d : Nat) (hM : MAt K a h c m) (b : Int32) : mm_cal z (d + 1) 54 [.ref a, .int b] h (.returned (some (.int (bI (bxB K.n b)))), h) := by
  have h0 := hM.2.1
  refine mm_cal_of ?_
  refine ev_go at_54_0 rfl ?_
  refine ev_if_lt at_54_1 (fun hc1 => ?_) (fun hc1 => ?_)
  · skip
    refine ev_ic (nI 0) at_54_16 (by decide) ?_
    refine ev_iret at_54_17 (by first | exact Or.inl rfl | exact Or.inr (Or.inl rfl) | exact Or.inr (Or.inr rfl) | exact Or.inr (bI_01 _)) ?_
    first | (refine b00 ?_; simp [bxB, hc1]; done) | exact b01 (by unfold bxB; rw [decide_eq_true hc1, decide_eq_true hc9]; rfl) | exact b00 (by unfold bxB; rw [decide_eq_false (not_not_intro hc9), Bool.and_false])
  · skip
    refine ev_go at_54_4 rfl ?_
    refine ev_go at_54_5 rfl ?_
    refine ev_get at_54_6 (by assumption) rfl ?_
    refine ev_icmp_ge at_54_9 (fun hc9 => ?_) (fun hc9 => ?_)
    · skip
      refine ev_ic (nI 0) at_54_16 (by decide) ?_
      refine ev_iret at_54_17 (by first | exact Or.inl rfl | exact Or.inr (Or.inl rfl) | exact Or.inr (Or.inr rfl) | exact Or.inr (bI_01 _)) ?_
      first | (refine b00 ?_; simp [bxB, hc1]; done) | exact b01 (by unfold bxB; rw [decide_eq_true hc1, decide_eq_true hc9]; rfl) | exact b00 (by unfold bxB; rw [decide_eq_false (not_not_intro hc9), Bool.and_false])
    · skip
      refine ev_ic (nI 1) at_54_12 (by decide) ?_
      refine ev_go at_54_13 rfl ?_
      refine ev_iret at_54_17 (by first | exact Or.inl rfl | exact Or.inr (Or.inl rfl) | exact Or.inr (Or.inr rfl) | exact Or.inr (bI_01 _)) ?_
      first | (refine b00 ?_; simp [bxB, hc1]; done) | exact b01 (by unfold bxB; rw [decide_eq_true hc1, decide_eq_true hc9]; rfl) | exact b00 (by unfold bxB; rw [decide_eq_false (not_not_intro hc9), Bool.and_false])
theorem d_isSection (d : Nat) (hM : MAt K a h c m) (s : Int32) : mm_cal z (d + 1) 55 [.ref a, .int s] h (.returned (some (.int (bI (scB K s)))), h) := by
  have h0 := hM.2.1
  have h3 := hM.a3
  have hK := hM.1
  refine mm_cal_of ?_
  refine ev_go at_55_0 rfl ?_
  refine ev_if_lt at_55_1 (fun hc1 => ?_) (fun hc1 => ?_)
  · skip
    refine ev_ic (nI 0) at_55_23 (by decide) ?_
    refine ev_iret at_55_24 (by first | exact Or.inl rfl | exact Or.inr (Or.inl rfl) | exact Or.inr (Or.inr rfl) | exact Or.inr (bI_01 _)) ?_
    first
      | exact b01 (by rw [scB_nI hK (by omega), hc16])
      | exact b00 (by rw [scB_nI hK (by omega), hc16])
      | (refine b00 ?_; simp [scB, hc1]; done)
      | (refine b00 ?_
         obtain ⟨k, hk, rfl⟩ := nI_of hc1
         rw [scB_nI hK hk]
         cases he : K.ex k with
         | false => rfl
         | true => exact absurd (nI_lt (Cf.no hK he).1.1 (by omega)) (Int32.not_lt.mpr hc7))
  · skip
    refine ev_go at_55_4 rfl ?_
    refine ev_bi (nI 15) at_55_5 (by decide) ?_
    refine ev_icmp_ge at_55_7 (fun hc7 => ?_) (fun hc7 => ?_)
    · skip
      refine ev_ic (nI 0) at_55_23 (by decide) ?_
      refine ev_iret at_55_24 (by first | exact Or.inl rfl | exact Or.inr (Or.inl rfl) | exact Or.inr (Or.inr rfl) | exact Or.inr (bI_01 _)) ?_
      first
        | exact b01 (by rw [scB_nI hK (by omega), hc16])
        | exact b00 (by rw [scB_nI hK (by omega), hc16])
        | (refine b00 ?_; simp [scB, hc1]; done)
        | (refine b00 ?_
           obtain ⟨k, hk, rfl⟩ := nI_of hc1
           rw [scB_nI hK hk]
           cases he : K.ex k with
           | false => rfl
           | true => exact absurd (nI_lt (Cf.no hK he).1.1 (by omega)) (Int32.not_lt.mpr hc7))
    · skip
      obtain ⟨k, hk, rfl⟩ := nI_of hc1
      have hk15 : k < 15 := Nat.not_le.mp fun q => hc7 (nI_le q hk)
      have hv := rng_at (n := 15) (fun s => Value.int (bI (K.ex s))) hk15
      refine ev_go at_55_10 rfl ?_
      refine ev_get at_55_11 h0 rfl ?_
      refine ev_go at_55_14 rfl ?_
      refine ev_zald at_55_15 h3 (by omega) hv ?_
      first | refine ev_ifb_eq at_55_16 (fun hc16 => ?_) (fun hc16 => ?_) | refine ev_if_eq at_55_16 (fun hc16 => ?_) (fun hc16 => ?_)
      · skip
        refine ev_ic (nI 0) at_55_23 (by decide) ?_
        refine ev_iret at_55_24 (by first | exact Or.inl rfl | exact Or.inr (Or.inl rfl) | exact Or.inr (Or.inr rfl) | exact Or.inr (bI_01 _)) ?_
        first
          | exact b01 (by rw [scB_nI hK (by omega), hc16])
          | exact b00 (by rw [scB_nI hK (by omega), hc16])
          | (refine b00 ?_; simp [scB, hc1]; done)
          | (refine b00 ?_
             obtain ⟨k, hk, rfl⟩ := nI_of hc1
             rw [scB_nI hK hk]
             cases he : K.ex k with
             | false => rfl
             | true => exact absurd (nI_lt (Cf.no hK he).1.1 (by omega)) (Int32.not_lt.mpr hc7))
      · skip
        refine ev_ic (nI 1) at_55_19 (by decide) ?_
        refine ev_go at_55_20 rfl ?_
        refine ev_iret at_55_24 (by first | exact Or.inl rfl | exact Or.inr (Or.inl rfl) | exact Or.inr (Or.inr rfl) | exact Or.inr (bI_01 _)) ?_
        first
          | exact b01 (by rw [scB_nI hK (by omega), hc16])
          | exact b00 (by rw [scB_nI hK (by omega), hc16])
          | (refine b00 ?_; simp [scB, hc1]; done)
          | (refine b00 ?_
             obtain ⟨k, hk, rfl⟩ := nI_of hc1
             rw [scB_nI hK hk]
             cases he : K.ex k with
             | false => rfl
             | true => exact absurd (nI_lt (Cf.no hK he).1.1 (by omega)) (Int32.not_lt.mpr hc7))
theorem d_lower (d : Nat) {k : Nat} (hk : K.ok) (he : K.ex k = true) : mm_cal z (d + 1) 56 [.int (nI k)] h (.returned (some (.int (nI (lo k)))), h) := by
  obtain ⟨n1, n2, n3, n4, n5, n6⟩ := Cf.no hk he
  have h15 := n1.1
  refine mm_cal_of ?_
  by_cases h10 : k < 10
  · have hl : lo k = k := if_pos h10
    refine ev_go at_56_0 rfl ?_
    refine ev_bi (nI 10) at_56_1 (by decide) ?_
    refine ev_icmp_ge at_56_3 (fun hc => absurd hc (nI_ge h10 (by omega))) (fun _ => ?_)
    refine ev_go at_56_6 rfl ?_
    refine ev_go at_56_7 rfl ?_
    refine ev_iret at_56_14 (by first | exact Or.inl rfl | exact Or.inr (Or.inl rfl) | exact Or.inr (Or.inr rfl) | exact Or.inr (bI_01 _)) ?_
    rw [hl]
  · have hl : lo k = k - 11 := if_neg h10
    have h11 := (n6 (by omega)).1
    refine ev_go at_56_0 rfl ?_
    refine ev_bi (nI 10) at_56_1 (by decide) ?_
    refine ev_icmp_ge at_56_3 (fun _ => ?_) (fun hc => absurd (nI_le (by omega) (by omega)) hc)
    refine ev_go at_56_10 rfl ?_
    refine ev_bi (nI 11) at_56_11 (by decide) ?_
    refine ev_go at_56_13 rfl ?_
    first | refine ev_top (congrArg Value.int (pk_sub (by omega))) ?_ | skip
    refine ev_iret at_56_14 (by first | exact Or.inl rfl | exact Or.inr (Or.inl rfl) | exact Or.inr (Or.inr rfl) | exact Or.inr (bI_01 _)) ?_
    rw [hl]
theorem d_upper (d : Nat) {k : Nat} (hk : K.ok) (he : K.ex k = true) : mm_cal z (d + 1) 57 [.int (nI k)] h (.returned (some (.int (nI (up k)))), h) := by
  obtain ⟨n1, n2, n3, n4, n5, n6⟩ := Cf.no hk he
  have h15 := n1.1
  refine mm_cal_of ?_
  by_cases h10 : k < 10
  · have hl : up k = k + 1 := if_pos h10
    refine ev_go at_57_0 rfl ?_
    refine ev_bi (nI 10) at_57_1 (by decide) ?_
    refine ev_icmp_ge at_57_3 (fun hc => absurd hc (nI_ge h10 (by omega))) (fun _ => ?_)
    refine ev_go at_57_6 rfl ?_
    refine ev_ic (nI 1) at_57_7 (by decide) ?_
    refine ev_go at_57_8 rfl ?_
    first | refine ev_top (congrArg Value.int (nI_add _ _)) ?_ | skip
    refine ev_go at_57_9 rfl ?_
    refine ev_iret at_57_16 (by first | exact Or.inl rfl | exact Or.inr (Or.inl rfl) | exact Or.inr (Or.inr rfl) | exact Or.inr (bI_01 _)) ?_
    rw [hl]
  · have hl : up k = k - 9 := if_neg h10
    have h11 := (n6 (by omega)).1
    refine ev_go at_57_0 rfl ?_
    refine ev_bi (nI 10) at_57_1 (by decide) ?_
    refine ev_icmp_ge at_57_3 (fun _ => ?_) (fun hc => absurd (nI_le (by omega) (by omega)) hc)
    refine ev_go at_57_12 rfl ?_
    refine ev_bi (nI 9) at_57_13 (by decide) ?_
    refine ev_go at_57_15 rfl ?_
    first | refine ev_top (congrArg Value.int (pk_sub (by omega))) ?_ | skip
    refine ev_iret at_57_16 (by first | exact Or.inl rfl | exact Or.inr (Or.inl rfl) | exact Or.inr (Or.inr rfl) | exact Or.inr (bI_01 _)) ?_
    rw [hl]
theorem edB_bx (hK : K.ok) {s b : Int32} (h : edB K s b = true) : bxB K.n b = true ∧ scB K s = true := by
  obtain ⟨k, e, hk, rfl, rfl⟩ := edB_t hK h
  obtain ⟨n1, n2, n3, n4, -⟩ := Cf.no hK hk
  have := hK.2.1
  have h15 := n1.1
  refine ⟨?_, by rw [scB_nI hK (by omega)]; exact hk⟩
  have : eb k e < K.n := by unfold eb; split <;> omega
  rw [bxB_nI (by omega) (by omega)]
  exact decide_eq_true this
theorem d_isEnd (d : Nat) (hM : MAt K a h c m) (b s : Int32) : mm_cal z (d + 2) 53 [.ref a, .int b, .int s] h (.returned (some (.int (bI (edB K s b)))), h) := by
  have h0 := hM.2.1
  have hK := hM.1
  have hA := d_isBox (z := z) d hM b
  have hB := d_isSection (z := z) d hM s
  refine mm_cal_of ?_
  cases hb : bxB K.n b with
  | false =>
    rw [hb] at hA
    have hf : edB K s b = false := by
      cases hx : edB K s b with
      | false => rfl
      | true => rw [(edB_bx hK hx).1] at hb; cases hb
    refine ev_go at_53_0 rfl ?_
    refine ev_go at_53_1 rfl ?_
    refine ev_callV (as := [_]) at_53_2 rfl rfl (by simp [mm_wt, Value.category]) rfl h0 hA ?_
    refine ev_ifb_eq at_53_5 (fun _ => ?_) (fun hc => nomatch hc)
    refine ev_ic (nI 0) at_53_36 (by decide) ?_
    refine ev_iret at_53_37 (by first | exact Or.inl rfl | exact Or.inr (Or.inl rfl) | exact Or.inr (Or.inr rfl) | exact Or.inr (bI_01 _)) ?_
    exact b00 hf
  | true =>
    rw [hb] at hA
    cases hs : scB K s with
    | false =>
      rw [hs] at hB
      have hf : edB K s b = false := by unfold edB; rw [hs]; rfl
      refine ev_go at_53_0 rfl ?_
      refine ev_go at_53_1 rfl ?_
      refine ev_callV (as := [_]) at_53_2 rfl rfl (by simp [mm_wt, Value.category]) rfl h0 hA ?_
      refine ev_ifb_eq at_53_5 (fun hc => nomatch hc) (fun _ => ?_)
      refine ev_go at_53_8 rfl ?_
      refine ev_go at_53_9 rfl ?_
      refine ev_callV (as := [_]) at_53_10 rfl rfl (by simp [mm_wt, Value.category]) rfl h0 hB ?_
      refine ev_ifb_eq at_53_13 (fun _ => ?_) (fun hc => nomatch hc)
      refine ev_ic (nI 0) at_53_36 (by decide) ?_
      refine ev_iret at_53_37 (by first | exact Or.inl rfl | exact Or.inr (Or.inl rfl) | exact Or.inr (Or.inr rfl) | exact Or.inr (bI_01 _)) ?_
      exact b00 hf
    | true =>
      rw [hs] at hB
      obtain ⟨k, hk, rfl⟩ := scB_t hK hs
      have h15 := (Cf.no hK hk).1.1
      have hC := d_lower (z := z) (h := h) d hK hk
      have hD := d_upper (z := z) (h := h) d hK hk
      have hf : edB K (nI k) b = (decide (b = nI (lo k)) || decide (b = nI (up k))) := by unfold edB; rw [hs, nI_clamp (by omega)]; rfl
      refine ev_go at_53_0 rfl ?_
      refine ev_go at_53_1 rfl ?_
      refine ev_callV (as := [_]) at_53_2 rfl rfl (by simp [mm_wt, Value.category]) rfl h0 hA ?_
      refine ev_ifb_eq at_53_5 (fun hc => nomatch hc) (fun _ => ?_)
      refine ev_go at_53_8 rfl ?_
      refine ev_go at_53_9 rfl ?_
      refine ev_callV (as := [_]) at_53_10 rfl rfl (by simp [mm_wt, Value.category]) rfl h0 hB ?_
      refine ev_ifb_eq at_53_13 (fun hc => nomatch hc) (fun _ => ?_)
      refine ev_go at_53_16 rfl ?_
      refine ev_go at_53_17 rfl ?_
      refine ev_callS (as := [_]) at_53_18 (by decide) rfl rfl (by simp [mm_wt, Value.category]) rfl hC ?_
      refine ev_icmp_eq at_53_21 (fun hc21 => ?_) (fun hc21 => ?_)
      · skip
        refine ev_ic (nI 1) at_53_32 (by decide) ?_
        refine ev_go at_53_33 rfl ?_
        refine ev_iret at_53_37 (by first | exact Or.inl rfl | exact Or.inr (Or.inl rfl) | exact Or.inr (Or.inr rfl) | exact Or.inr (bI_01 _)) ?_
        rw [hf]
        first | exact b01 (by rw [decide_eq_true hc21]; rfl) | exact b01 (by rw [decide_eq_true hc29, Bool.or_true]) | exact b00 (by rw [decide_eq_false hc21, decide_eq_false hc29]; rfl)
      · skip
        refine ev_go at_53_24 rfl ?_
        refine ev_go at_53_25 rfl ?_
        refine ev_callS (as := [_]) at_53_26 (by decide) rfl rfl (by simp [mm_wt, Value.category]) rfl hD ?_
        refine ev_icmp_ne at_53_29 (fun hc29 => ?_) (fun hc29 => ?_)
        · skip
          refine ev_ic (nI 0) at_53_36 (by decide) ?_
          refine ev_iret at_53_37 (by first | exact Or.inl rfl | exact Or.inr (Or.inl rfl) | exact Or.inr (Or.inr rfl) | exact Or.inr (bI_01 _)) ?_
          rw [hf]
          first | exact b01 (by rw [decide_eq_true hc21]; rfl) | exact b01 (by rw [decide_eq_true hc29, Bool.or_true]) | exact b00 (by rw [decide_eq_false hc21, decide_eq_false hc29]; rfl)
        · skip
          refine ev_ic (nI 1) at_53_32 (by decide) ?_
          refine ev_go at_53_33 rfl ?_
          refine ev_iret at_53_37 (by first | exact Or.inl rfl | exact Or.inr (Or.inl rfl) | exact Or.inr (Or.inr rfl) | exact Or.inr (bI_01 _)) ?_
          rw [hf]
          first | exact b01 (by rw [decide_eq_true hc21]; rfl) | exact b01 (by rw [decide_eq_true hc29, Bool.or_true]) | exact b00 (by rw [decide_eq_false hc21, decide_eq_false hc29]; rfl)
theorem d_end (d : Nat) {k : Nat} (hK : K.ok) (hk : K.ex k = true) (e : Bool) : mm_cal z (d + 2) 58 [.int (nI (eb k e)), .int (nI k)] h (.returned (some (.int (nI (eN e)))), h) := by
  obtain ⟨n1, n2, n3, n4, -⟩ := Cf.no hK hk
  have := hK.2.1
  have hC := d_lower (z := z) (h := h) d hK hk
  refine mm_cal_of ?_
  cases e
  · skip
    refine ev_go at_58_0 rfl ?_
    refine ev_go at_58_1 rfl ?_
    refine ev_callS (as := [_]) at_58_2 (by decide) rfl rfl (by simp [mm_wt, Value.category]) rfl hC ?_
    refine ev_icmp_ne at_58_5 (fun hc => absurd rfl hc) (fun _ => ?_)
    refine ev_ic (nI 0) at_58_8 (by decide) ?_
    refine ev_go at_58_9 rfl ?_
    refine ev_iret at_58_13 (by first | exact Or.inl rfl | exact Or.inr (Or.inl rfl) | exact Or.inr (Or.inr rfl) | exact Or.inr (bI_01 _)) ?_
    rfl
  · skip
    refine ev_go at_58_0 rfl ?_
    refine ev_go at_58_1 rfl ?_
    refine ev_callS (as := [_]) at_58_2 (by decide) rfl rfl (by simp [mm_wt, Value.category]) rfl hC ?_
    refine ev_icmp_ne at_58_5 (fun _ => ?_) (fun hc => absurd hc (fun q => by have q2 : up k = lo k := (nI_eq (by omega) (by omega)).mp q; omega))
    refine ev_ic (nI 1) at_58_12 (by decide) ?_
    refine ev_iret at_58_13 (by first | exact Or.inl rfl | exact Or.inr (Or.inl rfl) | exact Or.inr (Or.inr rfl) | exact Or.inr (bI_01 _)) ?_
    rfl
theorem d_isTablet (d : Nat) (hM : MAt K a h c m) (x : Int32) : mm_cal z (d + 2) 66 [.ref a, .int x] h (.returned (some (.int (bI (tbB K x)))), h) := by
  have h0 := hM.2.1
  have hK := hM.1
  have ht := hK.2.2.2.1
  refine mm_cal_of ?_
  by_cases hneg : x < 0
  · have hf : tbB K x = false := by unfold tbB; rw [decide_eq_false (not_not_intro hneg)]; rfl
    refine ev_go at_66_0 rfl ?_
    refine ev_if_lt at_66_1 (fun _ => ?_) (fun hc => absurd hneg hc)
    refine ev_ic (nI 0) at_66_30 (by decide) ?_
    refine ev_iret at_66_31 (by first | exact Or.inl rfl | exact Or.inr (Or.inl rfl) | exact Or.inr (Or.inr rfl) | exact Or.inr (bI_01 _)) ?_
    exact b00 hf
  · obtain ⟨k, hk, rfl⟩ := nI_of hneg
    have hB := d_isSection (z := z) d hM (nI (k / 100))
    rw [scB_nI hK (by omega)] at hB
    have hf := tbB_nI hK hk
    refine ev_go at_66_0 rfl ?_
    refine ev_if_lt at_66_1 (fun hc => absurd hc hneg) (fun _ => ?_)
    refine ev_go at_66_4 rfl ?_
    refine ev_bi (nI 100) at_66_5 (by decide) ?_
    refine ev_irem at_66_7 (by decide) ?_
    first | refine ev_top (congrArg Value.int (pk_rem (by omega) (by omega) (by omega))) ?_ | skip
    refine ev_go at_66_8 rfl ?_
    refine ev_get at_66_9 h0 rfl ?_
    refine ev_icmp_ge at_66_12 (fun hc12 => ?_) (fun hc12 => ?_)
    · skip
      refine ev_ic (nI 0) at_66_30 (by decide) ?_
      refine ev_iret at_66_31 (by first | exact Or.inl rfl | exact Or.inr (Or.inl rfl) | exact Or.inr (Or.inr rfl) | exact Or.inr (bI_01 _)) ?_
      rw [hf]
      first
        | exact b01 (by rw [hc23, decide_eq_true (Nat.not_le.mp fun q => hc12 (nI_le q (by omega)))]; rfl)
        | exact b00 (by rw [hc23]; rfl)
        | exact b00 (by rw [decide_eq_false (Nat.not_lt.mpr ((nI_leI (by omega) (by omega)).mp hc12)), Bool.and_false])
    · skip
      refine ev_go at_66_15 rfl ?_
      refine ev_go at_66_16 rfl ?_
      refine ev_bi (nI 100) at_66_17 (by decide) ?_
      refine ev_idiv at_66_19 (by decide) ?_
      first | refine ev_top (congrArg Value.int (pk_div (by omega) (by omega) (by omega))) ?_ | skip
      refine ev_callV (as := [_]) at_66_20 rfl rfl (by simp [mm_wt, Value.category]) rfl h0 hB ?_
      first | refine ev_ifb_eq at_66_23 (fun hc23 => ?_) (fun hc23 => ?_) | refine ev_if_eq at_66_23 (fun hc23 => ?_) (fun hc23 => ?_)
      · skip
        refine ev_ic (nI 0) at_66_30 (by decide) ?_
        refine ev_iret at_66_31 (by first | exact Or.inl rfl | exact Or.inr (Or.inl rfl) | exact Or.inr (Or.inr rfl) | exact Or.inr (bI_01 _)) ?_
        rw [hf]
        first
          | exact b01 (by rw [hc23, decide_eq_true (Nat.not_le.mp fun q => hc12 (nI_le q (by omega)))]; rfl)
          | exact b00 (by rw [hc23]; rfl)
          | exact b00 (by rw [decide_eq_false (Nat.not_lt.mpr ((nI_leI (by omega) (by omega)).mp hc12)), Bool.and_false])
      · skip
        refine ev_ic (nI 1) at_66_26 (by decide) ?_
        refine ev_go at_66_27 rfl ?_
        refine ev_iret at_66_31 (by first | exact Or.inl rfl | exact Or.inr (Or.inl rfl) | exact Or.inr (Or.inr rfl) | exact Or.inr (bI_01 _)) ?_
        rw [hf]
        first
          | exact b01 (by rw [hc23, decide_eq_true (Nat.not_le.mp fun q => hc12 (nI_le q (by omega)))]; rfl)
          | exact b00 (by rw [hc23]; rfl)
          | exact b00 (by rw [decide_eq_false (Nat.not_lt.mpr ((nI_leI (by omega) (by omega)).mp hc12)), Bool.and_false])
theorem d_index (d : Nat) {k i : Nat} (hk : k < 15) (hi : i < 100) : mm_cal z (d + 1) 67 [.int (nI (k * 100 + i))] h (.returned (some (.int (nI (8 * k + i)))), h) := by
  have e1 : (k * 100 + i) / 100 = k := by omega
  have e2 : (k * 100 + i) % 100 = i := by omega
  refine mm_cal_of ?_
  refine ev_bi (nI 8) at_67_0 (by decide) ?_
  refine ev_go at_67_2 rfl ?_
  refine ev_bi (nI 100) at_67_3 (by decide) ?_
  refine ev_idiv at_67_5 (by decide) ?_
  refine ev_top (congrArg Value.int (show nI (k * 100 + i) / nI 100 = nI k by rw [pk_div (by omega) (by omega) (by omega), e1])) ?_
  refine ev_go at_67_6 rfl ?_
  first | refine ev_top (congrArg Value.int (pk_mul _ _)) ?_ | skip
  refine ev_go at_67_7 rfl ?_
  refine ev_bi (nI 100) at_67_8 (by decide) ?_
  refine ev_irem at_67_10 (by decide) ?_
  refine ev_top (congrArg Value.int (show nI (k * 100 + i) - nI (k * 100 + i) / nI 100 * nI 100 = nI i by rw [pk_rem (by omega) (by omega) (by omega), e2])) ?_
  refine ev_go at_67_11 rfl ?_
  first | refine ev_top (congrArg Value.int (nI_add _ _)) ?_ | skip
  refine ev_iret at_67_12 (by first | exact Or.inl rfl | exact Or.inr (Or.inl rfl) | exact Or.inr (Or.inr rfl) | exact Or.inr (bI_01 _)) ?_
  rfl
def kmB (m : Md) (i : Int32) : Bool := tnB i && m.kn i.toNatClampNeg
theorem d_isKnown (d : Nat) (hM : MAt K a h c m) (i : Int32) : mm_cal z (d + 1) 70 [.ref a, .int i] h (.returned (some (.int (bI (kmB m i)))), h) := by
  have h0 := hM.2.1
  have h9 := hM.a9
  refine mm_cal_of ?_
  refine ev_go at_70_0 rfl ?_
  refine ev_if_lt at_70_1 (fun hc1 => ?_) (fun hc1 => ?_)
  · skip
    refine ev_ic (nI 0) at_70_23 (by decide) ?_
    refine ev_iret at_70_24 (by first | exact Or.inl rfl | exact Or.inr (Or.inl rfl) | exact Or.inr (Or.inr rfl) | exact Or.inr (bI_01 _)) ?_
    first
      | exact b01 (by unfold kmB; rw [tnB_nI hk8, nI_clamp (by omega), hc16]; rfl)
      | exact b00 (by unfold kmB; rw [nI_clamp (by omega), hc16, Bool.and_false])
      | (refine b00 ?_; simp [kmB, tnB, hc1]; done)
      | exact b00 (by unfold kmB tnB; rw [decide_eq_false (Int32.not_lt.mpr hc7), Bool.and_false]; rfl)
  · skip
    refine ev_go at_70_4 rfl ?_
    refine ev_bi (nI 8) at_70_5 (by decide) ?_
    refine ev_icmp_ge at_70_7 (fun hc7 => ?_) (fun hc7 => ?_)
    · skip
      refine ev_ic (nI 0) at_70_23 (by decide) ?_
      refine ev_iret at_70_24 (by first | exact Or.inl rfl | exact Or.inr (Or.inl rfl) | exact Or.inr (Or.inr rfl) | exact Or.inr (bI_01 _)) ?_
      first
        | exact b01 (by unfold kmB; rw [tnB_nI hk8, nI_clamp (by omega), hc16]; rfl)
        | exact b00 (by unfold kmB; rw [nI_clamp (by omega), hc16, Bool.and_false])
        | (refine b00 ?_; simp [kmB, tnB, hc1]; done)
        | exact b00 (by unfold kmB tnB; rw [decide_eq_false (Int32.not_lt.mpr hc7), Bool.and_false]; rfl)
    · skip
      obtain ⟨k, hk, rfl⟩ := nI_of hc1
      have hk8 : k < 8 := Nat.not_le.mp fun q => hc7 (nI_le q hk)
      have hv := rng_at (n := 8) (fun s => Value.int (bI (m.kn s))) hk8
      refine ev_go at_70_10 rfl ?_
      refine ev_get at_70_11 h0 rfl ?_
      refine ev_go at_70_14 rfl ?_
      refine ev_zald at_70_15 h9 (by omega) hv ?_
      first | refine ev_ifb_eq at_70_16 (fun hc16 => ?_) (fun hc16 => ?_) | refine ev_if_eq at_70_16 (fun hc16 => ?_) (fun hc16 => ?_)
      · skip
        refine ev_ic (nI 0) at_70_23 (by decide) ?_
        refine ev_iret at_70_24 (by first | exact Or.inl rfl | exact Or.inr (Or.inl rfl) | exact Or.inr (Or.inr rfl) | exact Or.inr (bI_01 _)) ?_
        first
          | exact b01 (by unfold kmB; rw [tnB_nI hk8, nI_clamp (by omega), hc16]; rfl)
          | exact b00 (by unfold kmB; rw [nI_clamp (by omega), hc16, Bool.and_false])
          | (refine b00 ?_; simp [kmB, tnB, hc1]; done)
          | exact b00 (by unfold kmB tnB; rw [decide_eq_false (Int32.not_lt.mpr hc7), Bool.and_false]; rfl)
      · skip
        refine ev_ic (nI 1) at_70_19 (by decide) ?_
        refine ev_go at_70_20 rfl ?_
        refine ev_iret at_70_24 (by first | exact Or.inl rfl | exact Or.inr (Or.inl rfl) | exact Or.inr (Or.inr rfl) | exact Or.inr (bI_01 _)) ?_
        first
          | exact b01 (by unfold kmB; rw [tnB_nI hk8, nI_clamp (by omega), hc16]; rfl)
          | exact b00 (by unfold kmB; rw [nI_clamp (by omega), hc16, Bool.and_false])
          | (refine b00 ?_; simp [kmB, tnB, hc1]; done)
          | exact b00 (by unfold kmB tnB; rw [decide_eq_false (Int32.not_lt.mpr hc7), Bool.and_false]; rfl)
def lmB (m : Md) (k : Nat) : Bool := if k < 10 then m.io k || m.io (k + 1) else !m.io (k - 10)
theorem d_isLocked (d : Nat) (hM : MAt K a h c m) {k : Nat} (hk : K.ex k = true) : mm_cal z (d + 1) 63 [.ref a, .int (nI k)] h (.returned (some (.int (bI (lmB m k)))), h) := by
  have h0 := hM.2.1
  have h2 := hM.a2
  have hK := hM.1
  obtain ⟨n1, n2, n3, n4, n5, n6⟩ := Cf.no hK hk
  have hn := hK.2.1
  have h15 := n1.1
  refine mm_cal_of ?_
  by_cases h10 : k < 10
  · have := n5 h10
    have hv := rng_at (n := 6) (fun s => Value.int (bI (m.io s))) (show k < 6 by omega)
    have hv2 := rng_at (n := 6) (fun s => Value.int (bI (m.io s))) (show k + 1 < 6 by omega)
    have hl : lmB m k = (m.io k || m.io (k + 1)) := if_pos h10
    refine ev_go at_63_0 rfl ?_
    refine ev_bi (nI 10) at_63_1 (by decide) ?_
    refine ev_icmp_ge at_63_3 (fun hc => absurd hc (nI_ge h10 (by omega))) (fun _ => ?_)
    refine ev_go at_63_6 rfl ?_
    refine ev_get at_63_7 h0 rfl ?_
    refine ev_go at_63_10 rfl ?_
    refine ev_zald at_63_11 h2 (by omega) hv ?_
    first | refine ev_ifb_ne at_63_12 (fun hc12 => ?_) (fun hc12 => ?_) | refine ev_if_ne at_63_12 (fun hc12 => ?_) (fun hc12 => ?_)
    · skip
      refine ev_ic (nI 1) at_63_26 (by decide) ?_
      refine ev_go at_63_27 rfl ?_
      refine ev_iret at_63_51 (by first | exact Or.inl rfl | exact Or.inr (Or.inl rfl) | exact Or.inr (Or.inr rfl) | exact Or.inr (bI_01 _)) ?_
      first | exact b01 (by rw [hl, hc12]; rfl) | exact b01 (by rw [hl, hc12, hc23]; rfl) | exact b00 (by rw [hl, hc12, hc23]; rfl)
    · skip
      refine ev_go at_63_15 rfl ?_
      refine ev_get at_63_16 h0 rfl ?_
      refine ev_go at_63_19 rfl ?_
      refine ev_ic (nI 1) at_63_20 (by decide) ?_
      refine ev_go at_63_21 rfl ?_
      first | refine ev_top (congrArg Value.int (nI_add _ _)) ?_ | skip
      refine ev_zald at_63_22 h2 (by omega) hv2 ?_
      first | refine ev_ifb_eq at_63_23 (fun hc23 => ?_) (fun hc23 => ?_) | refine ev_if_eq at_63_23 (fun hc23 => ?_) (fun hc23 => ?_)
      · skip
        refine ev_ic (nI 0) at_63_30 (by decide) ?_
        refine ev_go at_63_31 rfl ?_
        refine ev_iret at_63_51 (by first | exact Or.inl rfl | exact Or.inr (Or.inl rfl) | exact Or.inr (Or.inr rfl) | exact Or.inr (bI_01 _)) ?_
        first | exact b01 (by rw [hl, hc12]; rfl) | exact b01 (by rw [hl, hc12, hc23]; rfl) | exact b00 (by rw [hl, hc12, hc23]; rfl)
      · skip
        refine ev_ic (nI 1) at_63_26 (by decide) ?_
        refine ev_go at_63_27 rfl ?_
        refine ev_iret at_63_51 (by first | exact Or.inl rfl | exact Or.inr (Or.inl rfl) | exact Or.inr (Or.inr rfl) | exact Or.inr (bI_01 _)) ?_
        first | exact b01 (by rw [hl, hc12]; rfl) | exact b01 (by rw [hl, hc12, hc23]; rfl) | exact b00 (by rw [hl, hc12, hc23]; rfl)
  · have := n6 (by omega)
    have hv := rng_at (n := 6) (fun s => Value.int (bI (m.io s))) (show k - 10 < 6 by omega)
    have hl : lmB m k = !m.io (k - 10) := if_neg h10
    refine ev_go at_63_0 rfl ?_
    refine ev_bi (nI 10) at_63_1 (by decide) ?_
    refine ev_icmp_ge at_63_3 (fun _ => ?_) (fun hc => absurd (nI_le (by omega) (by omega)) hc)
    refine ev_go at_63_34 rfl ?_
    refine ev_get at_63_35 h0 rfl ?_
    refine ev_go at_63_38 rfl ?_
    refine ev_bi (nI 10) at_63_39 (by decide) ?_
    refine ev_go at_63_41 rfl ?_
    first | refine ev_top (congrArg Value.int (pk_sub (by omega))) ?_ | skip
    refine ev_zald at_63_42 h2 (by omega) hv ?_
    first | refine ev_ifb_ne at_63_43 (fun hc43 => ?_) (fun hc43 => ?_) | refine ev_if_ne at_63_43 (fun hc43 => ?_) (fun hc43 => ?_)
    · skip
      refine ev_ic (nI 0) at_63_50 (by decide) ?_
      refine ev_iret at_63_51 (by first | exact Or.inl rfl | exact Or.inr (Or.inl rfl) | exact Or.inr (Or.inr rfl) | exact Or.inr (bI_01 _)) ?_
      first | exact b01 (by rw [hl, hc43]; rfl) | exact b00 (by rw [hl, hc43]; rfl)
    · skip
      refine ev_ic (nI 1) at_63_46 (by decide) ?_
      refine ev_go at_63_47 rfl ?_
      refine ev_iret at_63_51 (by first | exact Or.inl rfl | exact Or.inr (Or.inl rfl) | exact Or.inr (Or.inr rfl) | exact Or.inr (bI_01 _)) ?_
      first | exact b01 (by rw [hl, hc43]; rfl) | exact b00 (by rw [hl, hc43]; rfl)
theorem d_goes (d : Nat) (hM : MAt K a h c m) {k v : Nat} (hk : k < 120) : ∃ h', mm_cal z (d + 1) 64 [.ref a, .int (nI k), .int (nI v)] h (.returned none, h') ∧ MAt K a h' c (m.goes k v) ∧ Off a (a + 12) h h' := by
  have h0 := hM.2.1
  have h7 := hM.a7
  obtain ⟨m1, o1⟩ := hM.sPl k v
  have h01 := m1.2.1
  have h8 := m1.a8
  obtain ⟨m2, o2⟩ := m1.sSi k m.tm
  have h02 := m2.2.1
  obtain ⟨m3, o3⟩ := m2.setTm (m.tm + 1)
  refine ⟨_, ?_, m3, (o1.trans o2).trans o3⟩
  refine mm_cal_of ?_
  refine ev_go at_64_0 rfl ?_
  refine ev_get at_64_1 h0 rfl ?_
  refine ev_go at_64_4 rfl ?_
  refine ev_go at_64_5 rfl ?_
  refine ev_iast at_64_6 h7 (by omega) (by rw [rng_len]; exact hk) ?_
  refine ev_go at_64_7 rfl ?_
  refine ev_get at_64_8 h01 rfl ?_
  refine ev_go at_64_11 rfl ?_
  refine ev_go at_64_12 rfl ?_
  refine ev_get at_64_13 h01 rfl ?_
  refine ev_iast at_64_16 h8 (by omega) (by rw [rng_len]; exact hk) ?_
  refine ev_go at_64_17 rfl ?_
  refine ev_go at_64_18 rfl ?_
  refine ev_get at_64_19 h02 rfl ?_
  refine ev_ic (nI 1) at_64_22 (by decide) ?_
  refine ev_go at_64_23 rfl ?_
  first | refine ev_top (congrArg Value.int (nI_add _ _)) ?_ | skip
  refine ev_put at_64_24 h02 (by first | (simp; done) | (simp [Mo]; done)) (by first | rfl | exact fits_b _) ?_
  refine ev_end at_64_27 rfl ?_
  rfl
theorem d_thrown (d : Nat) (hM : MAt K a h c m) : mm_cal z (d + 1) 51 [.ref a] h (.returned (some (.int c)), h) := by
  have h0 := hM.2.1
  refine mm_cal_of ?_
  refine ev_go at_51_0 rfl ?_
  refine ev_get at_51_1 h0 rfl ?_
  refine ev_iret at_51_4 (by first | exact Or.inl rfl | exact Or.inr (Or.inl rfl) | exact Or.inr (Or.inr rfl) | exact Or.inr (bI_01 _)) ?_
  rfl
end D1
