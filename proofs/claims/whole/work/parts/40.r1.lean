/-! CLASS AND REFERENCE: one relation between their states -/
def SecR (K : Cf) (m : Md) (s : Nat) (g : Sg) : Prop :=
  m.bk s = !g.2.2.2 ∧ (∀ e, m.hd (2 * s + eN e) = (g.at e).2.2) ∧ (∀ e, decide (m.tu (2 * s + eN e) % 2 = 1) = (g.at e).2.1) ∧ (∀ i, i < K.t → g.2.2.1[i]? = some (m.pl (8 * s + i))) ∧
  (∀ e, ∃ q, (g.at e).1 = q.map (s * 100 + ·) ∧ Ly K m s e q ∧ q.Pairwise fun i j => m.si (8 * s + i) < m.si (8 * s + j)) ∧
  (((g.1.2.1 == g.2.1.2.1) = true ∧ ∀ i, i < K.t → m.pl (8 * s + i) < 2) ∨ ((g.1.2.1 == g.2.1.2.1) = false ∧ ∃ j, j < K.t ∧ 2 ≤ m.pl (8 * s + j) ∧ ∀ i, i < K.t → i ≠ j → m.pl (8 * s + i) < 2))
def TbR (K : Cf) (m : Md) (i : Nat) (x : Option Nat) : Prop := ∃ tab : Option Nat, Ab m i tab ∧ (∀ k, tab = some k → k < 120 ∧ K.ex (k / 8) = true ∧ k % 8 < K.t) ∧ x = tab.map fun k => k / 8 * 100 + k % 8
def PosR (K : Cf) (m : Md) (i : Nat) (g : Tg) : Prop :=
  (g = (false, none, none, none, none) ∧ m.ins i = none) ∨ (∃ b, b < K.n ∧ g.1 = true ∧ g.2.1 = some b ∧ g.2.2.1 = none ∧ g.2.2.2.1 = none ∧ m.ins i = none ∧ m.bx i = b) ∨
  ∃ s e, K.ex s = true ∧ g.1 = true ∧ g.2.1 = none ∧ g.2.2.1 = some s ∧ g.2.2.2.1 = some (eb s (!e)) ∧ m.ins i = some s ∧ m.bx i = eb s e
def TrR (K : Cf) (m : Md) (i : Nat) (g : Tg) : Prop := m.kn i = g.1 ∧ PosR K m i g ∧ TbR K m i g.2.2.2.2
def OutR (K : Cf) (w : Cs) (m : Md) : Prop := (∀ b, b < 6 → m.io b = w.1 b) ∧ ∀ b, w.1 b = true → K.ex (10 + b) = true ∧ w.1 (b - 1) = false ∧ w.1 (b + 1) = false
def NumR (m : Md) (T : Nat) : Prop := (∀ k, m.pl k < 28) ∧ (∀ k, m.si k < m.tm) ∧ (∀ k, m.tu k ≤ m.tm) ∧ m.tm ≤ T
def Rel (K : Cf) (w : Cs) (m : Md) (T : Nat) : Prop := K.ok ∧ NumR m T ∧ OutR K w m ∧ (∀ s, K.ex s = true → SecR K m s (w.2.1 s)) ∧ ∀ i, i < 8 → TrR K m i (w.2.2 i)
section R1
variable {K : Cf} {m m' : Md} {w : Cs} {T : Nat}
theorem Rel.mb (hR : Rel K w m T) (hT : T < 2 ^ 30) : MB m := ⟨fun k => Nat.lt_trans (hR.2.1.1 k) (by omega), hR.2.1.2.1, hR.2.1.2.2.1, Nat.lt_of_le_of_lt hR.2.1.2.2.2 hT⟩
theorem Rel.up (hR : Rel K w m T) {T' : Nat} (h : T ≤ T') : Rel K w m T' := ⟨hR.1, ⟨hR.2.1.1, hR.2.1.2.1, hR.2.1.2.2.1, Nat.le_trans hR.2.1.2.2.2 h⟩, hR.2.2⟩
theorem Ly.congr {s : Nat} {e : Bool} {q : List Nat} (h : Ly K m s e q) (hp : ∀ i, i < K.t → m'.pl (8 * s + i) = m.pl (8 * s + i)) : Ly K m' s e q := fun i =>
  ⟨fun hi => ⟨((h i).mp hi).1, by rw [hp i ((h i).mp hi).1]; exact ((h i).mp hi).2⟩, fun hi => (h i).mpr ⟨hi.1, by rw [← hp i hi.1]; exact hi.2⟩⟩
theorem pw_congr {s : Nat} {q : List Nat} (h : q.Pairwise fun i j => m.si (8 * s + i) < m.si (8 * s + j)) (hs : ∀ i, i ∈ q → m'.si (8 * s + i) = m.si (8 * s + i)) : q.Pairwise fun i j => m'.si (8 * s + i) < m'.si (8 * s + j) :=
  h.imp_of_mem fun ha hb x => by rw [hs _ ha, hs _ hb]; exact x
theorem SecR.congr {s : Nat} {g : Sg} (h : SecR K m s g) (h1 : m'.bk s = m.bk s) (h2 : ∀ e, m'.hd (2 * s + eN e) = m.hd (2 * s + eN e)) (h3 : ∀ e, m'.tu (2 * s + eN e) = m.tu (2 * s + eN e)) (h4 : ∀ i, i < K.t → m'.pl (8 * s + i) = m.pl (8 * s + i)) (h5 : ∀ i, i < K.t → m'.si (8 * s + i) = m.si (8 * s + i)) : SecR K m' s g := by
  obtain ⟨a1, a2, a3, a4, a5, a6⟩ := h
  refine ⟨by rw [h1]; exact a1, fun e => by rw [h2]; exact a2 e, fun e => by rw [h3]; exact a3 e, fun i hi => by rw [h4 i hi]; exact a4 i hi, fun e => ?_, ?_⟩
  · obtain ⟨q, q1, q2, q3⟩ := a5 e
    exact ⟨q, q1, q2.congr h4, pw_congr q3 fun i hi => h5 i ((q2 i).mp hi).1⟩
  · rcases a6 with ⟨b1, b2⟩ | ⟨b1, j, b2, b3, b4⟩
    · exact Or.inl ⟨b1, fun i hi => by rw [h4 i hi]; exact b2 i hi⟩
    · exact Or.inr ⟨b1, j, b2, by rw [h4 j b2]; exact b3, fun i hi hij => by rw [h4 i hi]; exact b4 i hi hij⟩
theorem TbR.congr {i : Nat} {x : Option Nat} (h : TbR K m i x) (hp : ∀ k, k < 120 → (m'.pl k = 20 + i ↔ m.pl k = 20 + i)) : TbR K m' i x := by
  obtain ⟨tab, t1, t2, t3⟩ := h
  exact ⟨tab, fun k hk => (hp k hk).trans (t1 k hk), t2, t3⟩
theorem PosR.congr {i : Nat} {g : Tg} (h : PosR K m i g) (h1 : m'.ins i = m.ins i) (h2 : m'.bx i = m.bx i) : PosR K m' i g := by
  unfold PosR at h ⊢
  rw [h1, h2]
  exact h
theorem TrR.congr {i : Nat} {g : Tg} (h : TrR K m i g) (h0 : m'.kn i = m.kn i) (h1 : m'.ins i = m.ins i) (h2 : m'.bx i = m.bx i) (hp : ∀ k, k < 120 → (m'.pl k = 20 + i ↔ m.pl k = 20 + i)) : TrR K m' i g :=
  ⟨h0.trans h.1, h.2.1.congr h1 h2, h.2.2.congr hp⟩
/-- a section's state alone has changed -/
theorem Rel.mkS (hR : Rel K w m T) {T' k : Nat} {g : Sg} (hN : NumR m' T') (ho : m'.io = m.io) (hk : SecR K m' k g) (hs : ∀ s, K.ex s = true → s ≠ k → SecR K m' s (w.2.1 s)) (ht : ∀ i, i < 8 → TrR K m' i (w.2.2 i)) : Rel K (setS w k g) m' T' := by
  refine ⟨hR.1, hN, ⟨fun b hb => by rw [ho]; exact hR.2.2.1.1 b hb, hR.2.2.1.2⟩, fun s hs' => ?_, ht⟩
  show SecR K m' s (upf w.2.1 k g s)
  by_cases q : s = k
  · subst q; rw [upf_at]; exact hk
  · rw [upf_ne _ _ q]; exact hs s hs' q
theorem nd_of {s : Nat} {q : List Nat} (h : q.Pairwise fun i j => m.si (8 * s + i) < m.si (8 * s + j)) : q.Nodup := h.imp fun x y => by rw [y] at x; omega
theorem eN_inj {e e' : Bool} (h : eN e = eN e') : e = e' := by cases e <;> cases e' <;> first | rfl | (exact absurd h (by decide))
theorem ix8 {s s' i j : Nat} (hi : i < 8) (hj : j < 8) (h : s' ≠ s) : 8 * s' + j ≠ 8 * s + i := by omega
theorem ix2 {s s' : Nat} (e e' : Bool) (h : s' ≠ s) : 2 * s' + eN e' ≠ 2 * s + eN e := by have := eN_lt e; have := eN_lt e'; omega
theorem ix2e {s : Nat} {e e' : Bool} (h : e' ≠ e) : 2 * s + eN e' ≠ 2 * s + eN e := fun x => h (eN_inj (by omega))
theorem Rel.plunge (hR : Rel K w m T) {k : Nat} (hk : K.ex k = true) (e v : Bool) : Rel K (setS w k ((w.2.1 k).with e (((w.2.1 k).at e).1, ((w.2.1 k).at e).2.1, v))) (m.sHd (2 * k + eN e) v) T := by
  refine hR.mkS hR.2.1 rfl ?_ (fun s hs hne => (hR.2.2.2.1 s hs).congr rfl (fun e' => upf_ne _ _ (ix2 e e' hne)) (fun _ => rfl) (fun _ _ => rfl) (fun _ _ => rfl)) (fun i hi => (hR.2.2.2.2 i hi).congr rfl rfl rfl fun _ _ => Iff.rfl)
  obtain ⟨a1, a2, a3, a4, a5, a6⟩ := hR.2.2.2.1 k hk
  generalize w.2.1 k = g at a1 a2 a3 a4 a5 a6
  have hat : ∀ e', ((g.with e ((g.at e).1, (g.at e).2.1, v)).at e').1 = (g.at e').1 ∧ ((g.with e ((g.at e).1, (g.at e).2.1, v)).at e').2.1 = (g.at e').2.1 := fun e' => by cases e <;> cases e' <;> exact ⟨rfl, rfl⟩
  refine ⟨by rw [Sg.with_pl]; exact a1, fun e' => ?_, fun e' => by rw [(hat e').2]; exact a3 e', by rw [Sg.with_pl]; exact a4, fun e' => by rw [(hat e').1]; exact a5 e', ?_⟩
  · by_cases q : e' = e
    · subst q; rw [Sg.at_with]; exact upf_at _ _ _
    · have : e' = !e := by cases e <;> cases e' <;> first | rfl | exact absurd rfl q
      subst this
      rw [Sg.at_with']
      exact (upf_ne _ _ (ix2e q)).trans (a2 _)
  · have h1 := (hat false).2
    have h2 := (hat true).2
    change (g.with e ((g.at e).1, (g.at e).2.1, v)).1.2.1 = g.1.2.1 at h1
    change (g.with e ((g.at e).1, (g.at e).2.1, v)).2.1.2.1 = g.2.1.2.1 at h2
    rw [h1, h2]
    exact a6
theorem Rel.wire (hR : Rel K w m T) {k : Nat} (hk : K.ex k = true) (v : Bool) : Rel K (setS w k ((w.2.1 k).1, (w.2.1 k).2.1, (w.2.1 k).2.2.1, v)) (m.sBk k (!v)) T := by
  refine hR.mkS hR.2.1 rfl ?_ (fun s hs hne => (hR.2.2.2.1 s hs).congr (upf_ne _ _ hne) (fun _ => rfl) (fun _ => rfl) (fun _ _ => rfl) (fun _ _ => rfl)) (fun i hi => (hR.2.2.2.2 i hi).congr rfl rfl rfl fun _ _ => Iff.rfl)
  obtain ⟨a1, a2, a3, a4, a5, a6⟩ := hR.2.2.2.1 k hk
  exact ⟨upf_at _ _ _, a2, a3, a4, a5, a6⟩
/-- the piles when one tablet goes -/
theorem pile_rm {s i v : Nat} {e : Bool} {q : List Nat} (h : Ly K m s e (q ++ [i])) (hp : (q ++ [i]).Pairwise fun i j => m.si (8 * s + i) < m.si (8 * s + j)) (hv : v ≠ eN e) (hm1 : m'.pl = upf m.pl (8 * s + i) v) (hm2 : m'.si = upf m.si (8 * s + i) m.tm) : Ly K m' s e q ∧ q.Pairwise fun i j => m'.si (8 * s + i) < m'.si (8 * s + j) := by
  have hnd := nd_of hp
  have hni : i ∉ q := by
    rw [List.nodup_append] at hnd
    exact fun hx => hnd.2.2 i hx i (by simp) rfl
  refine ⟨fun j => ?_, pw_congr (List.pairwise_append.mp hp).1 fun j hj => ?_⟩
  · rw [hm1]
    by_cases q1 : j = i
    · subst q1
      rw [upf_at]
      exact ⟨fun x => absurd x hni, fun x => absurd x.2 hv⟩
    · rw [upf_ne _ _ (by omega), ← h j]
      simp [q1]
  · rw [hm2, upf_ne _ _ (fun x => hni (by have : j = i := by omega
                                          rw [← this]; exact hj))]
theorem pile_add {s i : Nat} {e : Bool} {q : List Nat} (h : Ly K m s e q) (hp : q.Pairwise fun i j => m.si (8 * s + i) < m.si (8 * s + j)) (hi : i < K.t) (hv : m.pl (8 * s + i) ≠ eN e) (hsi : ∀ k, m.si k < m.tm) (hm1 : m'.pl = upf m.pl (8 * s + i) (eN e)) (hm2 : m'.si = upf m.si (8 * s + i) m.tm) : Ly K m' s e (q ++ [i]) ∧ (q ++ [i]).Pairwise fun i j => m'.si (8 * s + i) < m'.si (8 * s + j) := by
  have hni : i ∉ q := fun x => hv ((h i).mp x).2
  refine ⟨fun j => ?_, List.pairwise_append.mpr ⟨pw_congr hp fun j hj => ?_, by simp, fun j hj x hx => ?_⟩⟩
  · rw [hm1]
    by_cases q1 : j = i
    · subst q1
      rw [upf_at]
      simp [hi]
    · rw [upf_ne _ _ (by omega), ← h j]
      simp [q1]
  · rw [hm2, upf_ne _ _ (fun x => hni (by have : j = i := by omega
                                          rw [← this]; exact hj))]
  · have : x = i := by simpa using hx
    subst this
    rw [hm2, upf_at, upf_ne _ _ (fun y => hni (by have : j = x := by omega
                                                  rw [← this]; exact hj))]
    exact hsi _
theorem pile_keep {s i v : Nat} {e : Bool} {q : List Nat} (h : Ly K m s e q) (hp : q.Pairwise fun i j => m.si (8 * s + i) < m.si (8 * s + j)) (hv0 : m.pl (8 * s + i) ≠ eN e) (hv : v ≠ eN e) (hm1 : m'.pl = upf m.pl (8 * s + i) v) (hm2 : m'.si = upf m.si (8 * s + i) m.tm) : Ly K m' s e q ∧ q.Pairwise fun i j => m'.si (8 * s + i) < m'.si (8 * s + j) := by
  have hni : i ∉ q := fun x => hv0 ((h i).mp x).2
  refine ⟨fun j => ?_, pw_congr hp fun j hj => ?_⟩
  · rw [hm1]
    by_cases q1 : j = i
    · subst q1
      rw [upf_at]
      exact ⟨fun x => absurd x hni, fun x => absurd x.2 hv⟩
    · rw [upf_ne _ _ (by omega)]
      exact h j
  · rw [hm2, upf_ne _ _ (fun x => hni (by have : j = i := by omega
                                          rw [← this]; exact hj))]
theorem set_at {l : List Nat} {i v : Nat} {f : Nat → Nat} {t s : Nat} (h : ∀ j, j < t → l[j]? = some (f (8 * s + j))) (hi : i < t) : ∀ j, j < t → (l.set i v)[j]? = some (upf f (8 * s + i) v (8 * s + j)) := fun j hj => by
  by_cases q : j = i
  · subst q
    rw [List.getElem?_set_self (List.getElem?_eq_some_iff.mp (h j hj)).1, upf_at]
  · rw [List.getElem?_set_ne (fun x => q x.symm), upf_ne _ _ (by omega)]
    exact h j hj
theorem NumR.goes (h : NumR m T) {k v : Nat} (hv : v < 28) : NumR (m.goes k v) (T + 1) := by
  obtain ⟨a1, a2, a3, a4⟩ := h
  refine ⟨fun j => ?_, fun j => ?_, fun j => Nat.le_succ_of_le (a3 j), Nat.succ_le_succ a4⟩
  · show upf m.pl k v j < 28
    unfold upf; split
    · exact hv
    · exact a1 j
  · show upf m.si k m.tm j < m.tm + 1
    unfold upf; split
    · omega
    · have := a2 j; omega
theorem NumR.turn (h : NumR m T) {k v : Nat} (hv : v < 28) {j : Nat} : NumR ((m.goes k v).sTu j (m.tu j + 1)) (T + 1) := by
  obtain ⟨a1, a2, a3, a4⟩ := h.goes (k := k) hv
  refine ⟨a1, a2, fun i => ?_, a4⟩
  show upf m.tu j (m.tu j + 1) i ≤ m.tm + 1
  have h3 : ∀ i, m.tu i ≤ m.tm := h.2.2.1
  unfold upf; split
  · have := h3 j; omega
  · have := h3 i; omega
theorem odd_succ (n : Nat) : decide ((n + 1) % 2 = 1) = !decide (n % 2 = 1) := by
  by_cases h : n % 2 = 1
  · rw [decide_eq_true h, decide_eq_false (by omega)]; rfl
  · rw [decide_eq_false h, decide_eq_true (by omega)]; rfl
theorem bne_flip {a b : Bool} : ((!a) == b) = !(a == b) := by cases a <;> cases b <;> rfl
theorem bne_flip' {a b : Bool} : (a == !b) = !(a == b) := by cases a <;> cases b <;> rfl
/-- the wheels of a section whose wheel at an end has turned -/
theorem mv_ph (g : Sg) (e : Bool) (p : List Nat) (pl : List Nat) (l : Bool) : ((mv g e (p, !(g.at e).2.1, l) pl).1.2.1 == (mv g e (p, !(g.at e).2.1, l) pl).2.1.2.1) = !(g.1.2.1 == g.2.1.2.1) := by
  cases e
  · exact bne_flip
  · exact bne_flip'
theorem ne_not {e e' : Bool} (h : e' ≠ e) : e' = !e := by cases e <;> cases e' <;> first | rfl | exact absurd rfl h
end R1
