/-! CLASS AND REFERENCE: each change keeps the relation -/
section R2
variable {K : Cf} {m m' : Md} {w : Cs} {T : Nat}
theorem Rel.mkS2 {T' k : Nat} {g : Sg} (hK : K.ok) (hO : OutR K w m) (hN : NumR m' T') (ho : m'.io = m.io) (hk : SecR K m' k g) (hs : ∀ s, K.ex s = true → s ≠ k → SecR K m' s (w.2.1 s)) (ht : ∀ i, i < 8 → TrR K m' i (w.2.2 i)) : Rel K (setS w k g) m' T' := by
  refine ⟨hK, hN, ⟨fun b hb => by rw [ho]; exact hO.1 b hb, hO.2⟩, fun s hs' => ?_, ht⟩
  show SecR K m' s (upf w.2.1 k g s)
  by_cases q : s = k
  · subst q; rw [upf_at]; exact hk
  · rw [upf_ne _ _ q]; exact hs s hs' q
theorem Rel.mkT (hR : Rel K w m T) {i : Nat} {g : Tg} (hN : NumR m' T) (ho : m'.io = m.io) (hs : ∀ s, K.ex s = true → SecR K m' s (w.2.1 s)) (hi : TrR K m' i g) (ht : ∀ j, j < 8 → j ≠ i → TrR K m' j (w.2.2 j)) : Rel K (setT w i g) m' T := by
  refine ⟨hR.1, hN, ⟨fun b hb => by rw [ho]; exact hR.2.2.1.1 b hb, hR.2.2.1.2⟩, hs, fun j hj => ?_⟩
  show TrR K m' j (upf w.2.2 i g j)
  by_cases q : j = i
  · subst q; rw [upf_at]; exact hi
  · rw [upf_ne _ _ q]; exact ht j hj q
theorem tr_keep {k0 v i : Nat} (h1 : m.pl k0 ≠ 20 + i) (h2 : v ≠ 20 + i) (k : Nat) : upf m.pl k0 v k = 20 + i ↔ m.pl k = 20 + i := by
  unfold upf
  split
  · next q => subst q; exact ⟨fun x => absurd x h2, fun x => absurd x h1⟩
  · exact Iff.rfl
theorem SecR.else (h : Rel K w m T) {k i v s : Nat} (hs : K.ex s = true) (hne : s ≠ k) (hi : i < K.t) (j v' : Nat) (e : Bool) (hj : j = 2 * k + eN e) : SecR K ((m.goes (8 * k + i) v).sTu j v') s (w.2.1 s) := by
  have ht := h.1.2.2.2.1
  exact (h.2.2.2.1 s hs).congr rfl (fun _ => rfl) (fun e' => upf_ne _ _ (by rw [hj]; exact ix2 e e' hne)) (fun i' hi' => upf_ne _ _ (ix8 (by omega) (by omega) hne)) (fun i' hi' => upf_ne _ _ (ix8 (by omega) (by omega) hne))
theorem SecR.else' (h : Rel K w m T) {k i v s : Nat} (hs : K.ex s = true) (hne : s ≠ k) (hi : i < K.t) : SecR K (m.goes (8 * k + i) v) s (w.2.1 s) := by
  have ht := h.1.2.2.2.1
  exact (h.2.2.2.1 s hs).congr rfl (fun _ => rfl) (fun _ => rfl) (fun i' hi' => upf_ne _ _ (ix8 (by omega) (by omega) hne)) (fun i' hi' => upf_ne _ _ (ix8 (by omega) (by omega) hne))
theorem eb_lt (hK : K.ok) {k : Nat} (hk : K.ex k = true) (e : Bool) : eb k e < K.n ∧ eb k e < 6 := by
  obtain ⟨-, -, n3, n4, -⟩ := Cf.no hK hk
  have := hK.2.1
  unfold eb
  split <;> omega
theorem Rel.take (hR : Rel K w m T) {k i : Nat} (hk : K.ex k = true) (e : Bool) {q : List Nat} (hpile : ((w.2.1 k).at e).1 = (q ++ [i]).map (k * 100 + ·)) (hly : Ly K m k e (q ++ [i])) (hpw : (q ++ [i]).Pairwise fun i j => m.si (8 * k + i) < m.si (8 * k + j)) (hph : ((w.2.1 k).1.2.1 == (w.2.1 k).2.1.2.1) = true) :
    Rel K (setS w k (mv (w.2.1 k) e (q.map (k * 100 + ·), !((w.2.1 k).at e).2.1, ((w.2.1 k).at e).2.2) ((pls w k).set i (10 + eb k e)))) ((m.goes (8 * k + i) (10 + eb k e)).sTu (2 * k + eN e) (m.tu (2 * k + eN e) + 1)) (T + 1) := by
  have hK := hR.1
  obtain ⟨b1, b2⟩ := eb_lt hK hk e
  obtain ⟨hi, hpi⟩ := (hly i).mp (by simp)
  have he2 := eN_lt e
  have he3 := eN_lt (!e)
  refine Rel.mkS2 hK hR.2.2.1 (hR.2.1.turn (by omega)) rfl ?_ (fun s hs hne => SecR.else hR hs hne hi _ _ e rfl) (fun j hj => (hR.2.2.2.2 j hj).congr rfl rfl rfl fun k' _ => tr_keep (by omega) (by omega) k')
  obtain ⟨a1, a2, a3, a4, a5, a6⟩ := hR.2.2.2.1 k hk
  have hall : ∀ i, i < K.t → m.pl (8 * k + i) < 2 := by
    rcases a6 with x | x
    · exact x.2
    · rw [hph] at x; cases x.1
  refine ⟨a1, fun e' => ?_, fun e' => ?_, set_at a4 hi, fun e' => ?_, Or.inr ⟨by rw [mv_ph, hph]; rfl, i, hi, ?_, fun j hj hji => ?_⟩⟩
  · by_cases x : e' = e
    · subst x; rw [mv_at]; exact a2 _
    · rw [ne_not x, mv_at']; exact a2 _
  · by_cases x : e' = e
    · subst x
      rw [mv_at]
      show decide (upf m.tu _ _ _ % 2 = 1) = !((w.2.1 k).at e').2.1
      rw [upf_at, odd_succ, a3]
    · rw [ne_not x, mv_at']
      show decide (upf m.tu _ _ _ % 2 = 1) = _
      rw [upf_ne _ _ (ix2e (by cases e <;> decide))]
      exact a3 _
  · by_cases x : e' = e
    · subst x
      rw [mv_at]
      exact ⟨q, rfl, pile_rm (m' := (m.goes (8 * k + i) (10 + eb k e')).sTu (2 * k + eN e') (m.tu (2 * k + eN e') + 1)) hly hpw (by omega) rfl rfl⟩
    · rw [ne_not x, mv_at']
      obtain ⟨q', y1, y2, y3⟩ := a5 (!e)
      exact ⟨q', y1, pile_keep (m' := (m.goes (8 * k + i) (10 + eb k e)).sTu (2 * k + eN e) (m.tu (2 * k + eN e) + 1)) y2 y3 (by rw [hpi]; intro z; have := eN_inj z; cases e <;> cases this) (by omega) rfl rfl⟩
  · show 2 ≤ upf m.pl _ _ _
    rw [upf_at]; omega
  · show upf m.pl _ _ _ < 2
    rw [upf_ne _ _ (by omega)]
    exact hall j hj
theorem SecR.give (hR : Rel K w m T) {k i v : Nat} (hk : K.ex k = true) (e : Bool) (hi : i < K.t) (hv : m.pl (8 * k + i) = v) (hv2 : 2 ≤ v) :
    SecR K ((m.goes (8 * k + i) (eN e)).sTu (2 * k + eN e) (m.tu (2 * k + eN e) + 1)) k (mv (w.2.1 k) e (((w.2.1 k).at e).1 ++ [k * 100 + i], !((w.2.1 k).at e).2.1, ((w.2.1 k).at e).2.2) ((pls w k).set i (eN e))) := by
  obtain ⟨a1, a2, a3, a4, a5, a6⟩ := hR.2.2.2.1 k hk
  have he2 := eN_lt e
  have he3 := eN_lt (!e)
  have h6 : ((w.2.1 k).1.2.1 == (w.2.1 k).2.1.2.1) = false ∧ ∀ j, j < K.t → j ≠ i → m.pl (8 * k + j) < 2 := by
    rcases a6 with x | ⟨x, j, y1, y2, y3⟩
    · have := x.2 i hi; omega
    · refine ⟨x, ?_⟩
      have hij : i = j := by
        by_cases z : i = j
        · exact z
        · have := y3 i hi z; omega
      rw [hij]; exact y3
  refine ⟨a1, fun e' => ?_, fun e' => ?_, set_at a4 hi, fun e' => ?_, Or.inl ⟨by rw [mv_ph, h6.1]; rfl, fun j hj => ?_⟩⟩
  · by_cases x : e' = e
    · subst x; rw [mv_at]; exact a2 _
    · rw [ne_not x, mv_at']; exact a2 _
  · by_cases x : e' = e
    · subst x
      rw [mv_at]
      show decide (upf m.tu _ _ _ % 2 = 1) = !((w.2.1 k).at e').2.1
      rw [upf_at, odd_succ, a3]
    · rw [ne_not x, mv_at']
      show decide (upf m.tu _ _ _ % 2 = 1) = _
      rw [upf_ne _ _ (ix2e (by cases e <;> decide))]
      exact a3 _
  · by_cases x : e' = e
    · subst x
      rw [mv_at]
      obtain ⟨q', y1, y2, y3⟩ := a5 e'
      exact ⟨q' ++ [i], by rw [y1, List.map_append]; rfl, pile_add (m' := (m.goes (8 * k + i) (eN e')).sTu (2 * k + eN e') (m.tu (2 * k + eN e') + 1)) y2 y3 hi (by omega) hR.2.1.2.1 rfl rfl⟩
    · rw [ne_not x, mv_at']
      obtain ⟨q', y1, y2, y3⟩ := a5 (!e)
      exact ⟨q', y1, pile_keep (m' := (m.goes (8 * k + i) (eN e)).sTu (2 * k + eN e) (m.tu (2 * k + eN e) + 1)) y2 y3 (by omega) (by intro z; have := eN_inj z; cases e <;> cases this) rfl rfl⟩
  · show upf m.pl _ _ _ < 2
    by_cases x : j = i
    · subst x; rw [upf_at]; exact he2
    · rw [upf_ne _ _ (by omega)]; exact h6.2 j hj x
theorem Rel.giveH (hR : Rel K w m T) {k i v : Nat} (hk : K.ex k = true) (e : Bool) (hi : i < K.t) (hv : m.pl (8 * k + i) = v) (hv2 : 2 ≤ v) (hv3 : v < 20) :
    Rel K (setS w k (mv (w.2.1 k) e (((w.2.1 k).at e).1 ++ [k * 100 + i], !((w.2.1 k).at e).2.1, ((w.2.1 k).at e).2.2) ((pls w k).set i (eN e)))) ((m.goes (8 * k + i) (eN e)).sTu (2 * k + eN e) (m.tu (2 * k + eN e) + 1)) (T + 1) := by
  have he2 := eN_lt e
  exact Rel.mkS2 hR.1 hR.2.2.1 (hR.2.1.turn (by omega)) rfl (SecR.give hR hk e hi hv hv2) (fun s hs hne => SecR.else hR hs hne hi _ _ e rfl) (fun j hj => (hR.2.2.2.2 j hj).congr rfl rfl rfl fun k' _ => tr_keep (by omega) (by omega) k')
theorem Rel.giveT (hR : Rel K w m T) {k i j : Nat} (hk : K.ex k = true) (e : Bool) (hi : i < K.t) (hj : j < 8) (hv : m.pl (8 * k + i) = 20 + j) :
    Rel K (setS (setT w j ((w.2.2 j).1, (w.2.2 j).2.1, (w.2.2 j).2.2.1, (w.2.2 j).2.2.2.1, none)) k (mv (w.2.1 k) e (((w.2.1 k).at e).1 ++ [k * 100 + i], !((w.2.1 k).at e).2.1, ((w.2.1 k).at e).2.2) ((pls w k).set i (eN e)))) ((m.goes (8 * k + i) (eN e)).sTu (2 * k + eN e) (m.tu (2 * k + eN e) + 1)) (T + 1) := by
  have he2 := eN_lt e
  have h15 := (Cf.no hR.1 hk).1.1
  have h8 := hR.1.2.2.2.1
  refine Rel.mkS2 (w := setT w j ((w.2.2 j).1, (w.2.2 j).2.1, (w.2.2 j).2.2.1, (w.2.2 j).2.2.2.1, none)) (m := m) hR.1 hR.2.2.1 (hR.2.1.turn (by omega)) rfl (SecR.give hR hk e hi hv (by omega)) (fun s hs hne => SecR.else hR hs hne hi _ _ e rfl) (fun j' hj' => ?_)
  show TrR K _ j' (upf w.2.2 j _ j')
  by_cases x : j' = j
  · subst x
    rw [upf_at]
    obtain ⟨t1, t2, tab, t3, t4, t5⟩ := hR.2.2.2.2 j' hj'
    refine ⟨t1, ?_, none, fun k' hk' => ?_, fun _ y => (nomatch y), rfl⟩
    · rcases t2 with ⟨u, u2⟩ | u | u
      · exact Or.inl ⟨by rw [u], u2⟩
      · exact Or.inr (Or.inl u)
      · exact Or.inr (Or.inr u)
    · show upf m.pl (8 * k + i) (eN e) k' = 20 + j' ↔ _
      have htab := (t3 (8 * k + i) (by omega)).mp hv
      by_cases y : k' = 8 * k + i
      · subst y
        rw [upf_at]
        exact ⟨fun z => by omega, fun z => nomatch z⟩
      · rw [upf_ne _ _ y, t3 k' hk', htab]
        exact ⟨fun z => absurd (Option.some.inj z).symm y, fun z => nomatch z⟩
  · rw [upf_ne _ _ x]
    exact (hR.2.2.2.2 j' hj').congr rfl rfl rfl fun k' _ => tr_keep (by omega) (by omega) k'
/-- a tablet that is out goes elsewhere outside -/
theorem SecR.out (hR : Rel K w m T) {k i v : Nat} (hk : K.ex k = true) (hi : i < K.t) (hv0 : 2 ≤ m.pl (8 * k + i)) (hv : 2 ≤ v) : SecR K (m.goes (8 * k + i) v) k ((w.2.1 k).1, (w.2.1 k).2.1, (pls w k).set i v, (w.2.1 k).2.2.2) := by
  obtain ⟨a1, a2, a3, a4, a5, a6⟩ := hR.2.2.2.1 k hk
  refine ⟨a1, a2, a3, set_at a4 hi, fun e => ?_, ?_⟩
  · obtain ⟨q', y1, y2, y3⟩ := a5 e
    have := eN_lt e
    exact ⟨q', y1, pile_keep (m' := m.goes (8 * k + i) v) y2 y3 (by omega) (by omega) rfl rfl⟩
  · rcases a6 with x | ⟨x, j, y1, y2, y3⟩
    · have := x.2 i hi; omega
    · have hij : i = j := by
        by_cases z : i = j
        · exact z
        · have := y3 i hi z; omega
      subst hij
      refine Or.inr ⟨x, i, y1, ?_, fun j hj hji => ?_⟩
      · show 2 ≤ upf m.pl _ _ _
        rw [upf_at]; exact hv
      · show upf m.pl _ _ _ < 2
        rw [upf_ne _ _ (by omega)]
        exact y3 j hj hji
theorem Rel.hand (hR : Rel K w m T) {k j i b : Nat} (hk : K.ex k = true) (hj : j < K.t) (hi : i < 8) (hkn : (w.2.2 i).1 = true) (hb : (w.2.2 i).2.1 = some b) (hv : m.pl (8 * k + j) = 10 + b) (hb6 : b < 6) (htab : (w.2.2 i).2.2.2.2 = none) :
    Rel K (setP (setT w i (true, some b, (w.2.2 i).2.2.1, (w.2.2 i).2.2.2.1, some (k * 100 + j))) k j (20 + i)) (m.goes (8 * k + j) (20 + i)) (T + 1) := by
  have h15 := (Cf.no hR.1 hk).1.1
  have h8 := hR.1.2.2.2.1
  refine Rel.mkS2 (w := setT w i (true, some b, (w.2.2 i).2.2.1, (w.2.2 i).2.2.2.1, some (k * 100 + j))) (m := m) hR.1 hR.2.2.1 (hR.2.1.goes (by omega)) rfl (SecR.out hR hk hj (by omega) (by omega)) (fun s hs hne => SecR.else' hR hs hne hj) (fun i' hi' => ?_)
  show TrR K _ i' (upf w.2.2 i _ i')
  by_cases x : i' = i
  · subst x
    rw [upf_at]
    obtain ⟨t1, t2, tab, t3, t4, t5⟩ := hR.2.2.2.2 i' hi'
    rw [htab] at t5
    have htn : tab = none := by
      cases tab with
      | none => rfl
      | some y => cases t5
    subst htn
    refine ⟨by rw [← hkn]; exact t1, ?_, some (8 * k + j), fun k' hk' => ?_, fun k' y => ?_, ?_⟩
    · rcases t2 with ⟨u, u2⟩ | ⟨c, u1, u2, u3, u4, u5, u6, u7⟩ | ⟨s, e, u1, u2, u3, u4⟩
      · rw [u] at hkn; cases hkn
      · exact Or.inr (Or.inl ⟨c, u1, rfl, by rw [← hb]; exact u3, u4, u5, u6, u7⟩)
      · rw [hb] at u3; cases u3
    · show upf m.pl (8 * k + j) (20 + i') k' = 20 + i' ↔ _
      by_cases y : k' = 8 * k + j
      · subst y
        rw [upf_at]
        exact ⟨fun _ => rfl, fun _ => rfl⟩
      · rw [upf_ne _ _ y, t3 k' hk']
        exact ⟨fun z => (nomatch z), fun z => absurd (Option.some.inj z).symm y⟩
    · cases y
      rw [show (8 * k + j) / 8 = k by omega, show (8 * k + j) % 8 = j by omega]
      exact ⟨by omega, hk, hj⟩
    · show some (k * 100 + j) = some ((8 * k + j) / 8 * 100 + (8 * k + j) % 8)
      rw [show (8 * k + j) / 8 = k by omega, show (8 * k + j) % 8 = j by omega]
  · rw [upf_ne _ _ x]
    exact (hR.2.2.2.2 i' hi').congr rfl rfl rfl fun k' _ => tr_keep (by omega) (by omega) k'
theorem Rel.back (hR : Rel K w m T) {k j i b : Nat} (hk : K.ex k = true) (hj : j < K.t) (hi : i < 8) (hkn : (w.2.2 i).1 = true) (hb : (w.2.2 i).2.1 = some b) (hb6 : b < 6) (hv : m.pl (8 * k + j) = 20 + i) :
    Rel K (setP (setT w i (true, some b, (w.2.2 i).2.2.1, (w.2.2 i).2.2.2.1, none)) k j (10 + b)) (m.goes (8 * k + j) (10 + b)) (T + 1) := by
  have h15 := (Cf.no hR.1 hk).1.1
  have h8 := hR.1.2.2.2.1
  refine Rel.mkS2 (w := setT w i (true, some b, (w.2.2 i).2.2.1, (w.2.2 i).2.2.2.1, none)) (m := m) hR.1 hR.2.2.1 (hR.2.1.goes (by omega)) rfl (SecR.out hR hk hj (by omega) (by omega)) (fun s hs hne => SecR.else' hR hs hne hj) (fun i' hi' => ?_)
  show TrR K _ i' (upf w.2.2 i _ i')
  by_cases x : i' = i
  · subst x
    rw [upf_at]
    obtain ⟨t1, t2, tab, t3, t4, t5⟩ := hR.2.2.2.2 i' hi'
    have htab := (t3 (8 * k + j) (by omega)).mp hv
    refine ⟨by rw [← hkn]; exact t1, ?_, none, fun k' hk' => ?_, fun _ y => (nomatch y), rfl⟩
    · rcases t2 with ⟨u, u2⟩ | ⟨c, u1, u2, u3, u4, u5, u6, u7⟩ | ⟨s, e, u1, u2, u3, u4⟩
      · rw [u] at hkn; cases hkn
      · exact Or.inr (Or.inl ⟨c, u1, rfl, by rw [← hb]; exact u3, u4, u5, u6, u7⟩)
      · rw [hb] at u3; cases u3
    · show upf m.pl (8 * k + j) (10 + b) k' = 20 + i' ↔ _
      by_cases y : k' = 8 * k + j
      · subst y
        rw [upf_at]
        exact ⟨fun z => by omega, fun z => nomatch z⟩
      · rw [upf_ne _ _ y, t3 k' hk', htab]
        exact ⟨fun z => absurd (Option.some.inj z).symm y, fun z => nomatch z⟩
  · rw [upf_ne _ _ x]
    exact (hR.2.2.2.2 i' hi').congr rfl rfl rfl fun k' _ => tr_keep (by omega) (by omega) k'
theorem Rel.secs (hR : Rel K w m T) (h1 : m'.bk = m.bk) (h2 : m'.hd = m.hd) (h3 : m'.tu = m.tu) (h4 : m'.pl = m.pl) (h5 : m'.si = m.si) : ∀ s, K.ex s = true → SecR K m' s (w.2.1 s) := fun s hs =>
  (hR.2.2.2.1 s hs).congr (by rw [h1]) (fun _ => by rw [h2]) (fun _ => by rw [h3]) (fun _ _ => by rw [h4]) (fun _ _ => by rw [h5])
theorem Rel.train (hR : Rel K w m T) {i b : Nat} (hi : i < 8) (hb : b < K.n) (hkn : (w.2.2 i).1 = false) : Rel K (setT w i (true, some b, (w.2.2 i).2.2)) ((m.sKn i true).sBx i b) T := by
  refine hR.mkT hR.2.1 rfl (hR.secs rfl rfl rfl rfl rfl) ?_ (fun j hj hne => (hR.2.2.2.2 j hj).congr (upf_ne _ _ hne) rfl (upf_ne _ _ hne) fun _ _ => Iff.rfl)
  obtain ⟨t1, t2, t3⟩ := hR.2.2.2.2 i hi
  rcases t2 with ⟨u, u2⟩ | ⟨c, u1, u2, u3⟩ | ⟨s, e, u1, u2, u3⟩
  · refine ⟨upf_at _ _ _, Or.inr (Or.inl ⟨b, hb, rfl, rfl, by rw [u], by rw [u], u2, upf_at _ _ _⟩), ?_⟩
    exact t3.congr fun _ _ => Iff.rfl
  · rw [hkn] at u2; cases u2
  · rw [hkn] at u2; cases u2
theorem Rel.enter (hR : Rel K w m T) {i s : Nat} {x : Option Nat} (e : Bool) (hi : i < 8) (hs : K.ex s = true) (hkn : (w.2.2 i).1 = true) (hx : (w.2.2 i).2.2.2.2 = x) (hbx : m.bx i = eb s e) : Rel K (setT w i (true, none, some s, some (eb s (!e)), x)) (m.sIn i (some s)) T := by
  refine hR.mkT hR.2.1 rfl (hR.secs rfl rfl rfl rfl rfl) ?_ (fun j hj hne => (hR.2.2.2.2 j hj).congr rfl (upf_ne _ _ hne) rfl fun _ _ => Iff.rfl)
  obtain ⟨t1, t2, t3⟩ := hR.2.2.2.2 i hi
  rw [hx] at t3
  exact ⟨by rw [← hkn]; exact t1, Or.inr (Or.inr ⟨s, e, hs, rfl, rfl, rfl, rfl, upf_at _ _ _, hbx⟩), t3.congr fun _ _ => Iff.rfl⟩
theorem Rel.arrive (hR : Rel K w m T) {i b : Nat} {x : Option Nat} (hi : i < 8) (hb : b < K.n) (hkn : (w.2.2 i).1 = true) (hx : (w.2.2 i).2.2.2.2 = x) : Rel K (setT w i (true, some b, none, none, x)) ((m.sBx i b).sIn i none) T := by
  refine hR.mkT hR.2.1 rfl (hR.secs rfl rfl rfl rfl rfl) ?_ (fun j hj hne => (hR.2.2.2.2 j hj).congr rfl (upf_ne _ _ hne) (upf_ne _ _ hne) fun _ _ => Iff.rfl)
  obtain ⟨t1, t2, t3⟩ := hR.2.2.2.2 i hi
  rw [hx] at t3
  exact ⟨by rw [← hkn]; exact t1, Or.inr (Or.inl ⟨b, hb, rfl, rfl, rfl, rfl, upf_at _ _ _, upf_at _ _ _⟩), t3.congr fun _ _ => Iff.rfl⟩
theorem Rel.setO (hR : Rel K w m T) {b : Nat} {v : Bool} (hv : v = true → K.ex (10 + b) = true ∧ w.1 (b - 1) = false ∧ w.1 (b + 1) = false) : Rel K (setO w b v) (m.sIo b v) T := by
  refine ⟨hR.1, hR.2.1, ⟨fun j hj => ?_, fun j hj => ?_⟩, hR.secs rfl rfl rfl rfl rfl, fun i hi => (hR.2.2.2.2 i hi).congr rfl rfl rfl fun _ _ => Iff.rfl⟩
  · show upf m.io b v j = upf w.1 b v j
    unfold upf
    split
    · rfl
    · exact hR.2.2.1.1 j hj
  · change upf w.1 b v j = true at hj
    show _ ∧ upf w.1 b v (j - 1) = false ∧ upf w.1 b v (j + 1) = false
    by_cases x : j = b
    · subst x
      rw [upf_at] at hj
      obtain ⟨y1, y2, y3⟩ := hv hj
      obtain ⟨-, -, z1, -⟩ := Cf.around hR.1 y1
      exact ⟨y1, by rw [upf_ne _ _ (by omega)]; exact y2, by rw [upf_ne _ _ (by omega)]; exact y3⟩
    · rw [upf_ne _ _ x] at hj
      obtain ⟨y1, y2, y3⟩ := hR.2.2.1.2 j hj
      obtain ⟨-, -, z1, -⟩ := Cf.around hR.1 y1
      refine ⟨y1, ?_, ?_⟩
      · by_cases q : j - 1 = b
        · rw [q, upf_at]
          cases hvv : v with
          | false => rfl
          | true =>
            have := (hv hvv).2.2
            rw [show b + 1 = j by omega, hj] at this
            cases this
        · rw [upf_ne _ _ q]; exact y2
      · by_cases q : j + 1 = b
        · rw [q, upf_at]
          cases hvv : v with
          | false => rfl
          | true =>
            have := (hv hvv).2.1
            rw [show b - 1 = j by omega, hj] at this
            cases this
        · rw [upf_ne _ _ q]; exact y3
/-- one tablet carried -/
theorem Rel.cst (hR : Rel K w m T) {k i : Nat} (hk : K.ex k = true) (e : Bool) {q : List Nat} (hpile : ((w.2.1 k).at e).1 = (q ++ [i]).map (k * 100 + ·)) (hly : Ly K m k e (q ++ [i])) (hpw : (q ++ [i]).Pairwise fun i j => m.si (8 * k + i) < m.si (8 * k + j)) (hph : ((w.2.1 k).1.2.1 == (w.2.1 k).2.1.2.1) = true) :
    Rel K (setS w k (cst k e (w.2.1 k))) (m.goes (8 * k + i) (eN (!e))) (T + 1) := by
  have hK := hR.1
  obtain ⟨hi, hpi⟩ := (hly i).mp (by simp)
  have he2 := eN_lt e
  have he3 := eN_lt (!e)
  have hee : eN (!e) ≠ eN e := by intro z; have := eN_inj z; cases e <;> cases this
  refine Rel.mkS2 hK hR.2.2.1 (hR.2.1.goes (by omega)) rfl ?_ (fun s hs hne => SecR.else' hR hs hne hi) (fun j hj => (hR.2.2.2.2 j hj).congr rfl rfl rfl fun k' _ => tr_keep (by omega) (by omega) k')
  obtain ⟨a1, a2, a3, a4, a5, a6⟩ := hR.2.2.2.1 k hk
  have hq : ((w.2.1 k).at e).1 = q.map (k * 100 + ·) ++ [k * 100 + i] := by rw [hpile, List.map_append]; rfl
  rw [cst_eq hq]
  obtain ⟨q', y1, y2, y3⟩ := a5 (!e)
  generalize w.2.1 k = g at a1 a2 a3 a4 a6 hq y1 hph hpile
  have hall : ∀ i, i < K.t → m.pl (8 * k + i) < 2 := by
    rcases a6 with x | x
    · exact x.2
    · rw [hph] at x; cases x.1
  have hat : ∀ e', ((mv (g.with e (q.map (k * 100 + ·), (g.at e).2)) (!e) ((g.at (!e)).1 ++ [k * 100 + i], (g.at (!e)).2) (g.2.2.1.set i (eN (!e)))).at e').2 = (g.at e').2 := fun e' => by cases e <;> cases e' <;> rfl
  refine ⟨?_, fun e' => ?_, fun e' => ?_, set_at a4 hi, fun e' => ?_, Or.inl ⟨?_, fun j hj => ?_⟩⟩
  · show m.bk k = !(g.with e (q.map (k * 100 + ·), (g.at e).2)).2.2.2
    rw [Sg.with_pl]; exact a1
  · rw [hat]; exact a2 _
  · rw [hat]; exact a3 _
  · by_cases x : e' = e
    · subst x
      rw [mv_at'', Sg.at_with]
      exact ⟨q, rfl, pile_rm (m' := m.goes (8 * k + i) (eN (!e'))) hly hpw hee rfl rfl⟩
    · rw [ne_not x, mv_at]
      exact ⟨q' ++ [i], by rw [y1, List.map_append]; rfl, pile_add (m' := m.goes (8 * k + i) (eN (!e))) y2 y3 hi (by rw [hpi]; exact fun z => hee z.symm) hR.2.1.2.1 rfl rfl⟩
  · have h1 := congrArg Prod.fst (hat false)
    have h2 := congrArg Prod.fst (hat true)
    have h3 : ∀ G : Sg, (G.at false).2.1 = G.1.2.1 := fun _ => rfl
    have h4 : ∀ G : Sg, (G.at true).2.1 = G.2.1.2.1 := fun _ => rfl
    rw [← h3, ← h4]
    rw [h1, h2]
    exact hph
  · show upf m.pl _ _ _ < 2
    by_cases x : j = i
    · subst x; rw [upf_at]; exact he3
    · rw [upf_ne _ _ (by omega)]; exact hall j hj
end R2
