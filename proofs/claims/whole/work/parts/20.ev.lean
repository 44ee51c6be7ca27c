/-! THE SMALL MACHINE, WALKED: a row an instruction, goal first -/
def mm_Ev (z : mm_Z) (C : Nat → List Value → mm_H → mm_R → Prop) (j : Nat) (S : mm_S) (r : mm_R) : Prop := ∃ n, mm_run z C j n S r
def bI (b : Bool) : Int32 := if b then 1 else 0
theorem bI_t : bI true = 1 := rfl
theorem bI_f : bI false = 0 := rfl
theorem bI_eq0 {b : Bool} : bI b = 0 ↔ b = false := by cases b <;> decide
theorem bI_01 (b : Bool) : bI b = 0 ∨ bI b = 1 := by cases b <;> decide
section EV
variable {z : mm_Z} {C : Nat → List Value → mm_H → mm_R → Prop} {j pc n x y : Nat} {ls : List Slot} {st : List Value} {h : mm_H} {r : mm_R}
theorem ev_step {i : Instr} (ha : mm_at j pc = some (i, n, x, y)) : mm_step z j (pc, ls, st, h) = mm_exec z i n x y pc ls st h := by
  unfold mm_step
  simp only [ha]
theorem ev_go {i : Instr} {S : mm_S} (ha : mm_at j pc = some (i, n, x, y)) (hs : mm_exec z i n x y pc ls st h = some (.inl S)) (k : mm_Ev z C j S r) : mm_Ev z C j (pc, ls, st, h) r := by
  obtain ⟨m, hm⟩ := k
  refine ⟨m + 1, ?_⟩
  change mm_do C j pc (mm_run z C j m) r (mm_step z j (pc, ls, st, h))
  rw [ev_step ha, hs]
  exact hm
theorem ev_end {i : Instr} {r' : mm_R} (ha : mm_at j pc = some (i, n, x, y)) (hs : mm_exec z i n x y pc ls st h = some (.inr (.inl r'))) (hr : r = r') : mm_Ev z C j (pc, ls, st, h) r := by
  refine ⟨1, ?_⟩
  change mm_do C j pc (mm_run z C j 0) r (mm_step z j (pc, ls, st, h))
  rw [ev_step ha, hs]
  exact hr
theorem ev_cal {i : Instr} {q : Nat} {as rest : List Value} {v : Option Value} {h' : mm_H} (ha : mm_at j pc = some (i, n, x, y)) (hs : mm_exec z i n x y pc ls st h = some (.inr (.inr (q, as, n, ls, rest, h)))) (hc : C q as h (.returned v, h')) (k : mm_Ev z C j (n, ls, v.toList ++ rest, h') r) : mm_Ev z C j (pc, ls, st, h) r := by
  obtain ⟨m, hm⟩ := k
  refine ⟨m + 1, ?_⟩
  change mm_do C j pc (mm_run z C j m) r (mm_step z j (pc, ls, st, h))
  rw [ev_step ha, hs]
  exact ⟨_, _, hc, hm⟩
theorem ev_thr {i : Instr} {q : Nat} {as rest : List Value} {e : Nat} {h' : mm_H} (ha : mm_at j pc = some (i, n, x, y)) (hs : mm_exec z i n x y pc ls st h = some (.inr (.inr (q, as, n, ls, rest, h)))) (hc : C q as h (.threw e, h')) (hd : mm_hd j pc e = none) (hno : mm_no j pc = true) (hr : r = (.threw e, h')) : mm_Ev z C j (pc, ls, st, h) r := by
  refine ⟨1, ?_⟩
  change mm_do C j pc (mm_run z C j 0) r (mm_step z j (pc, ls, st, h))
  rw [ev_step ha, hs]
  refine ⟨_, _, hc, ?_⟩
  unfold mm_aft
  dsimp only
  rw [hd]
  exact ⟨hno, hr⟩
theorem ev_cat {i : Instr} {q : Nat} {as rest : List Value} {e t : Nat} {h' : mm_H} (ha : mm_at j pc = some (i, n, x, y)) (hs : mm_exec z i n x y pc ls st h = some (.inr (.inr (q, as, n, ls, rest, h)))) (hc : C q as h (.threw e, h')) (hd : mm_hd j pc e = some t) (k : mm_Ev z C j (t, ls, [.ref (h'.length - 1)], h') r) : mm_Ev z C j (pc, ls, st, h) r := by
  obtain ⟨m, hm⟩ := k
  refine ⟨m + 1, ?_⟩
  change mm_do C j pc (mm_run z C j m) r (mm_step z j (pc, ls, st, h))
  rw [ev_step ha, hs]
  refine ⟨_, _, hc, ?_⟩
  unfold mm_aft
  dsimp only
  rw [hd]
  exact hm
/-- what a call instruction asks of the stack -/
theorem ev_inv {as rest : List Value} (hst : st = as.reverse ++ rest) (hy : as.length = y) (hw : mm_wt rest ≤ 8) (hcat : as.all (fun v => v.category == 1) = true) : mm_inv n x y ls st h = some (.inr (.inr (x, as, n, ls, rest, h))) := by
  subst hst; subst hy
  have e1 : (as.reverse ++ rest).take as.length = as.reverse := by rw [← List.length_reverse, List.take_left']; rfl
  have e2 : (as.reverse ++ rest).drop as.length = rest := by rw [← List.length_reverse, List.drop_left']; rfl
  unfold mm_inv
  rw [e1, e2, List.reverse_reverse, if_pos]
  refine ⟨by simp, hw, ?_⟩
  rw [List.all_reverse]; exact hcat
theorem ev_invV {a : Nat} {as rest : List Value} {fs : List Value} (hq : h[a]? = some (mm_cls x, fs)) (hst : st = as.reverse ++ .ref a :: rest) (hy : as.length + 1 = y) (hw : mm_wt rest ≤ 8) (hcat : as.all (fun v => v.category == 1) = true) : mm_invV n x y ls st h = some (.inr (.inr (x, .ref a :: as, n, ls, rest, h))) := by
  have hst' : st = (Value.ref a :: as).reverse ++ rest := by rw [hst]; simp
  have e1 : (st.take y).reverse = .ref a :: as := by
    rw [hst', ← hy, show as.length + 1 = (Value.ref a :: as).reverse.length by simp, List.take_left', List.reverse_reverse]; rfl
  unfold mm_invV
  rw [e1]
  dsimp only
  rw [hq]
  dsimp only
  rw [if_pos rfl]
  exact ev_inv hst' (by simpa using hy) hw (by rw [List.all_cons, hcat]; rfl)
theorem ev_invI {a : Nat} {as rest : List Value} (hst : st = as.reverse ++ .ref a :: rest) (hy : as.length + 1 = y) (hw : mm_wt rest ≤ 8) (hcat : as.all (fun v => v.category == 1) = true) : mm_invI n x y ls st h = some (.inr (.inr (x, .ref a :: as, n, ls, rest, h))) := by
  have hst' : st = (Value.ref a :: as).reverse ++ rest := by rw [hst]; simp
  have e1 : (st.take y).reverse = .ref a :: as := by
    rw [hst', ← hy, show as.length + 1 = (Value.ref a :: as).reverse.length by simp, List.take_left', List.reverse_reverse]; rfl
  unfold mm_invI
  rw [e1]
  exact ev_inv hst' (by simpa using hy) hw (by rw [List.all_cons, hcat]; rfl)
theorem ev_if_eq {off : Int} {v : Int32} (ha : mm_at j pc = some (.ifCond .eq off, n, x, y)) (kt : v = 0 → mm_Ev z C j (x, ls, st, h) r) (kf : ¬ v = 0 → mm_Ev z C j (n, ls, st, h) r) : mm_Ev z C j (pc, ls, .int v :: st, h) r := by
  by_cases hc : v = 0
  · exact ev_go ha (show (if mm_cnd .eq v 0 = true then mm_go x ls st h else mm_go n ls st h) = some (.inl (x, ls, st, h)) by rw [if_pos (show mm_cnd .eq v 0 = true from decide_eq_true hc)]; rfl) (kt hc)
  · exact ev_go ha (show (if mm_cnd .eq v 0 = true then mm_go x ls st h else mm_go n ls st h) = some (.inl (n, ls, st, h)) by rw [if_neg (show ¬ mm_cnd .eq v 0 = true from fun q => hc (of_decide_eq_true q))]; rfl) (kf hc)
theorem ev_icmp_eq {off : Int} {v w : Int32} (ha : mm_at j pc = some (.if_icmp .eq off, n, x, y)) (kt : v = w → mm_Ev z C j (x, ls, st, h) r) (kf : ¬ v = w → mm_Ev z C j (n, ls, st, h) r) : mm_Ev z C j (pc, ls, .int w :: .int v :: st, h) r := by
  by_cases hc : v = w
  · exact ev_go ha (show (if mm_cnd .eq v w = true then mm_go x ls st h else mm_go n ls st h) = some (.inl (x, ls, st, h)) by rw [if_pos (show mm_cnd .eq v w = true from decide_eq_true hc)]; rfl) (kt hc)
  · exact ev_go ha (show (if mm_cnd .eq v w = true then mm_go x ls st h else mm_go n ls st h) = some (.inl (n, ls, st, h)) by rw [if_neg (show ¬ mm_cnd .eq v w = true from fun q => hc (of_decide_eq_true q))]; rfl) (kf hc)
theorem ev_if_ne {off : Int} {v : Int32} (ha : mm_at j pc = some (.ifCond .ne off, n, x, y)) (kt : ¬ v = 0 → mm_Ev z C j (x, ls, st, h) r) (kf : v = 0 → mm_Ev z C j (n, ls, st, h) r) : mm_Ev z C j (pc, ls, .int v :: st, h) r := by
  by_cases hc : ¬ v = 0
  · exact ev_go ha (show (if mm_cnd .ne v 0 = true then mm_go x ls st h else mm_go n ls st h) = some (.inl (x, ls, st, h)) by rw [if_pos (show mm_cnd .ne v 0 = true from decide_eq_true hc)]; rfl) (kt hc)
  · exact ev_go ha (show (if mm_cnd .ne v 0 = true then mm_go x ls st h else mm_go n ls st h) = some (.inl (n, ls, st, h)) by rw [if_neg (show ¬ mm_cnd .ne v 0 = true from fun q => hc (of_decide_eq_true q))]; rfl) (kf (Classical.not_not.mp hc))
theorem ev_icmp_ne {off : Int} {v w : Int32} (ha : mm_at j pc = some (.if_icmp .ne off, n, x, y)) (kt : ¬ v = w → mm_Ev z C j (x, ls, st, h) r) (kf : v = w → mm_Ev z C j (n, ls, st, h) r) : mm_Ev z C j (pc, ls, .int w :: .int v :: st, h) r := by
  by_cases hc : ¬ v = w
  · exact ev_go ha (show (if mm_cnd .ne v w = true then mm_go x ls st h else mm_go n ls st h) = some (.inl (x, ls, st, h)) by rw [if_pos (show mm_cnd .ne v w = true from decide_eq_true hc)]; rfl) (kt hc)
  · exact ev_go ha (show (if mm_cnd .ne v w = true then mm_go x ls st h else mm_go n ls st h) = some (.inl (n, ls, st, h)) by rw [if_neg (show ¬ mm_cnd .ne v w = true from fun q => hc (of_decide_eq_true q))]; rfl) (kf (Classical.not_not.mp hc))
theorem ev_if_lt {off : Int} {v : Int32} (ha : mm_at j pc = some (.ifCond .lt off, n, x, y)) (kt : v < 0 → mm_Ev z C j (x, ls, st, h) r) (kf : ¬ v < 0 → mm_Ev z C j (n, ls, st, h) r) : mm_Ev z C j (pc, ls, .int v :: st, h) r := by
  by_cases hc : v < 0
  · exact ev_go ha (show (if mm_cnd .lt v 0 = true then mm_go x ls st h else mm_go n ls st h) = some (.inl (x, ls, st, h)) by rw [if_pos (show mm_cnd .lt v 0 = true from decide_eq_true hc)]; rfl) (kt hc)
  · exact ev_go ha (show (if mm_cnd .lt v 0 = true then mm_go x ls st h else mm_go n ls st h) = some (.inl (n, ls, st, h)) by rw [if_neg (show ¬ mm_cnd .lt v 0 = true from fun q => hc (of_decide_eq_true q))]; rfl) (kf hc)
theorem ev_icmp_lt {off : Int} {v w : Int32} (ha : mm_at j pc = some (.if_icmp .lt off, n, x, y)) (kt : v < w → mm_Ev z C j (x, ls, st, h) r) (kf : ¬ v < w → mm_Ev z C j (n, ls, st, h) r) : mm_Ev z C j (pc, ls, .int w :: .int v :: st, h) r := by
  by_cases hc : v < w
  · exact ev_go ha (show (if mm_cnd .lt v w = true then mm_go x ls st h else mm_go n ls st h) = some (.inl (x, ls, st, h)) by rw [if_pos (show mm_cnd .lt v w = true from decide_eq_true hc)]; rfl) (kt hc)
  · exact ev_go ha (show (if mm_cnd .lt v w = true then mm_go x ls st h else mm_go n ls st h) = some (.inl (n, ls, st, h)) by rw [if_neg (show ¬ mm_cnd .lt v w = true from fun q => hc (of_decide_eq_true q))]; rfl) (kf hc)
theorem ev_if_ge {off : Int} {v : Int32} (ha : mm_at j pc = some (.ifCond .ge off, n, x, y)) (kt : 0 ≤ v → mm_Ev z C j (x, ls, st, h) r) (kf : ¬ 0 ≤ v → mm_Ev z C j (n, ls, st, h) r) : mm_Ev z C j (pc, ls, .int v :: st, h) r := by
  by_cases hc : 0 ≤ v
  · exact ev_go ha (show (if mm_cnd .ge v 0 = true then mm_go x ls st h else mm_go n ls st h) = some (.inl (x, ls, st, h)) by rw [if_pos (show mm_cnd .ge v 0 = true from decide_eq_true hc)]; rfl) (kt hc)
  · exact ev_go ha (show (if mm_cnd .ge v 0 = true then mm_go x ls st h else mm_go n ls st h) = some (.inl (n, ls, st, h)) by rw [if_neg (show ¬ mm_cnd .ge v 0 = true from fun q => hc (of_decide_eq_true q))]; rfl) (kf hc)
theorem ev_icmp_ge {off : Int} {v w : Int32} (ha : mm_at j pc = some (.if_icmp .ge off, n, x, y)) (kt : w ≤ v → mm_Ev z C j (x, ls, st, h) r) (kf : ¬ w ≤ v → mm_Ev z C j (n, ls, st, h) r) : mm_Ev z C j (pc, ls, .int w :: .int v :: st, h) r := by
  by_cases hc : w ≤ v
  · exact ev_go ha (show (if mm_cnd .ge v w = true then mm_go x ls st h else mm_go n ls st h) = some (.inl (x, ls, st, h)) by rw [if_pos (show mm_cnd .ge v w = true from decide_eq_true hc)]; rfl) (kt hc)
  · exact ev_go ha (show (if mm_cnd .ge v w = true then mm_go x ls st h else mm_go n ls st h) = some (.inl (n, ls, st, h)) by rw [if_neg (show ¬ mm_cnd .ge v w = true from fun q => hc (of_decide_eq_true q))]; rfl) (kf hc)
theorem ev_if_gt {off : Int} {v : Int32} (ha : mm_at j pc = some (.ifCond .gt off, n, x, y)) (kt : 0 < v → mm_Ev z C j (x, ls, st, h) r) (kf : ¬ 0 < v → mm_Ev z C j (n, ls, st, h) r) : mm_Ev z C j (pc, ls, .int v :: st, h) r := by
  by_cases hc : 0 < v
  · exact ev_go ha (show (if mm_cnd .gt v 0 = true then mm_go x ls st h else mm_go n ls st h) = some (.inl (x, ls, st, h)) by rw [if_pos (show mm_cnd .gt v 0 = true from decide_eq_true hc)]; rfl) (kt hc)
  · exact ev_go ha (show (if mm_cnd .gt v 0 = true then mm_go x ls st h else mm_go n ls st h) = some (.inl (n, ls, st, h)) by rw [if_neg (show ¬ mm_cnd .gt v 0 = true from fun q => hc (of_decide_eq_true q))]; rfl) (kf hc)
theorem ev_icmp_gt {off : Int} {v w : Int32} (ha : mm_at j pc = some (.if_icmp .gt off, n, x, y)) (kt : w < v → mm_Ev z C j (x, ls, st, h) r) (kf : ¬ w < v → mm_Ev z C j (n, ls, st, h) r) : mm_Ev z C j (pc, ls, .int w :: .int v :: st, h) r := by
  by_cases hc : w < v
  · exact ev_go ha (show (if mm_cnd .gt v w = true then mm_go x ls st h else mm_go n ls st h) = some (.inl (x, ls, st, h)) by rw [if_pos (show mm_cnd .gt v w = true from decide_eq_true hc)]; rfl) (kt hc)
  · exact ev_go ha (show (if mm_cnd .gt v w = true then mm_go x ls st h else mm_go n ls st h) = some (.inl (n, ls, st, h)) by rw [if_neg (show ¬ mm_cnd .gt v w = true from fun q => hc (of_decide_eq_true q))]; rfl) (kf hc)
theorem ev_if_le {off : Int} {v : Int32} (ha : mm_at j pc = some (.ifCond .le off, n, x, y)) (kt : v ≤ 0 → mm_Ev z C j (x, ls, st, h) r) (kf : ¬ v ≤ 0 → mm_Ev z C j (n, ls, st, h) r) : mm_Ev z C j (pc, ls, .int v :: st, h) r := by
  by_cases hc : v ≤ 0
  · exact ev_go ha (show (if mm_cnd .le v 0 = true then mm_go x ls st h else mm_go n ls st h) = some (.inl (x, ls, st, h)) by rw [if_pos (show mm_cnd .le v 0 = true from decide_eq_true hc)]; rfl) (kt hc)
  · exact ev_go ha (show (if mm_cnd .le v 0 = true then mm_go x ls st h else mm_go n ls st h) = some (.inl (n, ls, st, h)) by rw [if_neg (show ¬ mm_cnd .le v 0 = true from fun q => hc (of_decide_eq_true q))]; rfl) (kf hc)
theorem ev_icmp_le {off : Int} {v w : Int32} (ha : mm_at j pc = some (.if_icmp .le off, n, x, y)) (kt : v ≤ w → mm_Ev z C j (x, ls, st, h) r) (kf : ¬ v ≤ w → mm_Ev z C j (n, ls, st, h) r) : mm_Ev z C j (pc, ls, .int w :: .int v :: st, h) r := by
  by_cases hc : v ≤ w
  · exact ev_go ha (show (if mm_cnd .le v w = true then mm_go x ls st h else mm_go n ls st h) = some (.inl (x, ls, st, h)) by rw [if_pos (show mm_cnd .le v w = true from decide_eq_true hc)]; rfl) (kt hc)
  · exact ev_go ha (show (if mm_cnd .le v w = true then mm_go x ls st h else mm_go n ls st h) = some (.inl (n, ls, st, h)) by rw [if_neg (show ¬ mm_cnd .le v w = true from fun q => hc (of_decide_eq_true q))]; rfl) (kf hc)
theorem ev_ifb_eq {off : Int} {b : Bool} (ha : mm_at j pc = some (.ifCond .eq off, n, x, y)) (kt : b = false → mm_Ev z C j (x, ls, st, h) r) (kf : b = true → mm_Ev z C j (n, ls, st, h) r) : mm_Ev z C j (pc, ls, .int (bI b) :: st, h) r := by
  cases b
  · exact ev_if_eq ha (fun _ => kt rfl) (fun hc => absurd rfl hc)
  · exact ev_if_eq ha (fun hc => absurd hc (by decide)) (fun _ => kf rfl)
theorem ev_ifb_ne {off : Int} {b : Bool} (ha : mm_at j pc = some (.ifCond .ne off, n, x, y)) (kt : b = true → mm_Ev z C j (x, ls, st, h) r) (kf : b = false → mm_Ev z C j (n, ls, st, h) r) : mm_Ev z C j (pc, ls, .int (bI b) :: st, h) r := by
  cases b
  · exact ev_if_ne ha (fun hc => absurd rfl hc) (fun _ => kf rfl)
  · exact ev_if_ne ha (fun _ => kt rfl) (fun hc => absurd hc (by decide))
theorem ev_ic {i : Int} (v : Int32) (ha : mm_at j pc = some (.iconst i, n, x, y)) (hv : Int32.ofInt i = v) (k : mm_Ev z C j (n, ls, .int v :: st, h) r) : mm_Ev z C j (pc, ls, st, h) r := by
  subst hv; exact ev_go ha rfl k
theorem ev_bi {i : Int} (v : Int32) (ha : mm_at j pc = some (.bipush i, n, x, y)) (hv : (Int8.ofInt i).toInt32 = v) (k : mm_Ev z C j (n, ls, .int v :: st, h) r) : mm_Ev z C j (pc, ls, st, h) r := by
  subst hv; exact ev_go ha rfl k
theorem ev_idiv {v w : Int32} (ha : mm_at j pc = some (.idiv, n, x, y)) (hw : ¬ w = 0) (k : mm_Ev z C j (n, ls, .int (v / w) :: st, h) r) : mm_Ev z C j (pc, ls, .int w :: .int v :: st, h) r :=
  ev_go ha (by simp only [mm_exec, mm_bin]; rw [if_neg hw]; rfl) k
theorem ev_irem {v w : Int32} (ha : mm_at j pc = some (.irem, n, x, y)) (hw : ¬ w = 0) (k : mm_Ev z C j (n, ls, .int (v - v / w * w) :: st, h) r) : mm_Ev z C j (pc, ls, .int w :: .int v :: st, h) r :=
  ev_go ha (by simp only [mm_exec, mm_bin]; rw [if_neg hw]; rfl) k
/-- the value on top, by another name -/
theorem ev_top {v w : Value} (hv : v = w) (k : mm_Ev z C j (pc, ls, w :: st, h) r) : mm_Ev z C j (pc, ls, v :: st, h) r := by
  subst hv; exact k
theorem ev_get {idx a : Nat} {fs : List Value} {v : Value} (ha : mm_at j pc = some (.getfield idx, n, x, y)) (hq : h[a]? = some (x, fs)) (hv : fs[y]? = some v) (k : mm_Ev z C j (n, ls, v :: st, h) r) : mm_Ev z C j (pc, ls, .ref a :: st, h) r :=
  ev_go ha (by simp only [mm_exec, mm_get, hq, hv]; rw [if_pos trivial]; rfl) k
theorem ev_put {idx a : Nat} {fs : List Value} {v : Value} (ha : mm_at j pc = some (.putfield idx, n, x, y)) (hq : h[a]? = some (x, fs)) (hy : y < fs.length) (hf : mm_fits (mm_ft x y) v = true) (k : mm_Ev z C j (n, ls, st, mm_upd h a y v) r) : mm_Ev z C j (pc, ls, v :: .ref a :: st, h) r :=
  ev_go ha (by simp only [mm_exec, mm_put, hq]; rw [if_pos ⟨trivial, hy, hf⟩]; rfl) k
theorem ev_el {lo hi a i : Nat} {kd : Nat} {vs : List Value} {v : Value} (hq : h[a]? = some (kd, vs)) (hlo : lo ≤ kd) (hhi : kd < hi) (hi31 : i < 2 ^ 31) (hv : vs[i]? = some v) : mm_el lo hi h a (nI i) = some v := by
  unfold mm_el
  rw [hq]
  dsimp only
  rw [if_pos ⟨hlo, hhi, nI_pos hi31⟩, nI_clamp hi31]
  exact hv
theorem ev_iald {a i : Nat} {vs : List Value} {v : Value} (ha : mm_at j pc = some (.iaload, n, x, y)) (hq : h[a]? = some (10, vs)) (hi31 : i < 2 ^ 31) (hv : vs[i]? = some v) (k : mm_Ev z C j (n, ls, v :: st, h) r) : mm_Ev z C j (pc, ls, .int (nI i) :: .ref a :: st, h) r :=
  ev_go ha (by simp only [mm_exec, mm_iald, ev_el hq (Nat.le_refl 10) (by decide : 10 < 11) hi31 hv]; rfl) k
theorem ev_zald {a i : Nat} {vs : List Value} {v : Value} (ha : mm_at j pc = some (.baload, n, x, y)) (hq : h[a]? = some (11, vs)) (hi31 : i < 2 ^ 31) (hv : vs[i]? = some v) (k : mm_Ev z C j (n, ls, v :: st, h) r) : mm_Ev z C j (pc, ls, .int (nI i) :: .ref a :: st, h) r :=
  ev_go ha (by simp only [mm_exec, mm_ald, ev_el hq (Nat.le_refl 11) (by decide : 11 < 12) hi31 hv]; rfl) k
theorem ev_lald {a i : Nat} {vs : List Value} {v : Value} (ha : mm_at j pc = some (.laload, n, x, y)) (hq : h[a]? = some (12, vs)) (hi31 : i < 2 ^ 31) (hv : vs[i]? = some v) (k : mm_Ev z C j (n, ls, v :: st, h) r) : mm_Ev z C j (pc, ls, .int (nI i) :: .ref a :: st, h) r :=
  ev_go ha (by simp only [mm_exec, mm_ald, ev_el hq (Nat.le_refl 12) (by decide : 12 < 13) hi31 hv]; rfl) k
theorem ev_aald {a i kd : Nat} {vs : List Value} {v : Value} (ha : mm_at j pc = some (.aaload, n, x, y)) (hq : h[a]? = some (kd, vs)) (hk : 13 ≤ kd ∧ kd < 15) (hi31 : i < 2 ^ 31) (hv : vs[i]? = some v) (k : mm_Ev z C j (n, ls, v :: st, h) r) : mm_Ev z C j (pc, ls, .int (nI i) :: .ref a :: st, h) r :=
  ev_go ha (by simp only [mm_exec, mm_ald, ev_el hq hk.1 hk.2 hi31 hv]; rfl) k
theorem ev_iast {a i : Nat} {vs : List Value} {v : Int32} (ha : mm_at j pc = some (.iastore, n, x, y)) (hq : h[a]? = some (10, vs)) (hi31 : i < 2 ^ 31) (hi : i < vs.length) (k : mm_Ev z C j (n, ls, st, mm_upd h a i (.int v)) r) : mm_Ev z C j (pc, ls, .int v :: .int (nI i) :: .ref a :: st, h) r :=
  ev_go ha (by simp only [mm_exec, mm_iast, ev_el hq (Nat.le_refl 10) (by decide : 10 < 11) hi31 (List.getElem?_eq_getElem hi), nI_clamp hi31]; rfl) k
theorem ev_zast {a i : Nat} {vs : List Value} {v : Int32} (ha : mm_at j pc = some (.bastore, n, x, y)) (hq : h[a]? = some (11, vs)) (hi31 : i < 2 ^ 31) (hi : i < vs.length) (hv : v = 0 ∨ v = 1) (k : mm_Ev z C j (n, ls, st, mm_upd h a i (.int v)) r) : mm_Ev z C j (pc, ls, .int v :: .int (nI i) :: .ref a :: st, h) r :=
  ev_go ha (by simp only [mm_exec, mm_zast, ev_el hq (Nat.le_refl 11) (by decide : 11 < 12) hi31 (List.getElem?_eq_getElem hi), nI_clamp hi31]; rw [if_pos hv]; rfl) k
theorem ev_last {a i : Nat} {vs : List Value} {v : Int64} (ha : mm_at j pc = some (.lastore, n, x, y)) (hq : h[a]? = some (12, vs)) (hi31 : i < 2 ^ 31) (hi : i < vs.length) (k : mm_Ev z C j (n, ls, st, mm_upd h a i (.long v)) r) : mm_Ev z C j (pc, ls, .long v :: .int (nI i) :: .ref a :: st, h) r :=
  ev_go ha (by simp only [mm_exec, mm_last, ev_el hq (Nat.le_refl 12) (by decide : 12 < 13) hi31 (List.getElem?_eq_getElem hi), nI_clamp hi31]; rfl) k
theorem ev_aast {a i v kd : Nat} {vs fs : List Value} (ha : mm_at j pc = some (.aastore, n, x, y)) (hq : h[a]? = some (kd, vs)) (hv : h[v]? = some (mm_comp kd, fs)) (hk : 13 ≤ kd ∧ kd < 15) (hi31 : i < 2 ^ 31) (hi : i < vs.length) (k : mm_Ev z C j (n, ls, st, mm_upd h a i (.ref v)) r) : mm_Ev z C j (pc, ls, .ref v :: .int (nI i) :: .ref a :: st, h) r :=
  ev_go ha (by simp only [mm_exec, mm_aast, hq, hv, nI_clamp hi31]; rw [if_pos ⟨hk.1, hk.2, nI_pos hi31, hi, trivial⟩]; rfl) k
theorem ev_alen {a kd : Nat} {vs : List Value} (ha : mm_at j pc = some (.arraylength, n, x, y)) (hq : h[a]? = some (kd, vs)) (hk : 10 ≤ kd ∧ kd < 15) (k : mm_Ev z C j (n, ls, .int (nI vs.length) :: st, h) r) : mm_Ev z C j (pc, ls, .ref a :: st, h) r :=
  ev_go ha (by simp only [mm_exec, mm_alen, hq]; rw [if_pos hk]; rfl) k
theorem ev_newa {i : Instr} {m : Nat} (hi : (∃ t, i = .newarray t) ∨ ∃ t, i = .anewarray t) (ha : mm_at j pc = some (i, n, x, y)) (hm : m ≤ 1000) (k : mm_Ev z C j (n, ls, .ref h.length :: st, h ++ [(x, List.replicate m (mm_zero x))]) r) : mm_Ev z C j (pc, ls, .int (nI m) :: st, h) r := by
  have h31 : m < 2 ^ 31 := by omega
  refine ev_go ha ?_ k
  rcases hi with ⟨t, rfl⟩ | ⟨t, rfl⟩ <;>
    (simp only [mm_exec, mm_newa, nI_clamp h31]; rw [if_pos ⟨nI_pos h31, by omega⟩]; rfl)
theorem ev_new {idx : Nat} (ha : mm_at j pc = some (.new idx, n, x, y)) (hx : x < 10) (k : mm_Ev z C j (n, ls, .ref h.length :: st, h ++ [(x, mm_dv x)]) r) : mm_Ev z C j (pc, ls, st, h) r :=
  ev_go ha (by simp only [mm_exec, mm_new]; rw [if_pos hx]; rfl) k
/-- a throw of the exception e -/
theorem ev_throw {idx e : Nat} (ha : mm_at j pc = some (.new idx, n, 20 + e, y)) (hw : mm_wt st ≤ 8) (hr : r = (.threw e, h ++ [(20 + e, List.replicate 6 .null)])) : mm_Ev z C j (pc, ls, st, h) r :=
  ev_end ha (by simp only [mm_exec, mm_new]; rw [if_neg (by omega), if_pos ⟨by omega, hw⟩, Nat.add_sub_cancel_left]) hr
theorem ev_iret {v : Int32} (ha : mm_at j pc = some (.ireturn, n, x, y)) (hx : x = 1 ∨ v = 0 ∨ v = 1) (hr : r = (.returned (some (.int v)), h)) : mm_Ev z C j (pc, ls, [.int v], h) r :=
  ev_end ha (by simp only [mm_exec, mm_iret]; rw [if_pos hx]) hr
theorem ev_callV {idx a : Nat} {as rest fs : List Value} {v : Option Value} {h' : mm_H} (ha : mm_at j pc = some (.invokevirtual idx, n, x, y)) (hst : st = as.reverse ++ .ref a :: rest) (hy : as.length + 1 = y) (hw : mm_wt rest ≤ 8) (hcat : as.all (fun v => v.category == 1) = true) (hq : h[a]? = some (mm_cls x, fs)) (hc : C x (.ref a :: as) h (.returned v, h')) (k : mm_Ev z C j (n, ls, v.toList ++ rest, h') r) : mm_Ev z C j (pc, ls, st, h) r :=
  ev_cal ha (ev_invV hq hst hy hw hcat) hc k
theorem ev_callI {idx a : Nat} {as rest : List Value} {v : Option Value} {h' : mm_H} (ha : mm_at j pc = some (.invokespecial idx, n, x, y)) (hx : ¬ x = 1000) (hst : st = as.reverse ++ .ref a :: rest) (hy : as.length + 1 = y) (hw : mm_wt rest ≤ 8) (hcat : as.all (fun v => v.category == 1) = true) (hc : C x (.ref a :: as) h (.returned v, h')) (k : mm_Ev z C j (n, ls, v.toList ++ rest, h') r) : mm_Ev z C j (pc, ls, st, h) r :=
  ev_cal ha (by simp only [mm_exec]; rw [if_neg hx]; exact ev_invI hst hy hw hcat) hc k
theorem ev_callS {idx : Nat} {as rest : List Value} {v : Option Value} {h' : mm_H} (ha : mm_at j pc = some (.invokestatic idx, n, x, y)) (hx : ¬ x = 1001 ∧ ¬ x = 1002) (hst : st = as.reverse ++ rest) (hy : as.length = y) (hw : mm_wt rest ≤ 8) (hcat : as.all (fun v => v.category == 1) = true) (hc : C x as h (.returned v, h')) (k : mm_Ev z C j (n, ls, v.toList ++ rest, h') r) : mm_Ev z C j (pc, ls, st, h) r :=
  ev_cal ha (by simp only [mm_exec]; rw [if_neg hx.1, if_neg hx.2]; exact ev_inv hst hy hw hcat) hc k
theorem ev_thrV {idx a e : Nat} {as rest fs : List Value} {h' : mm_H} (ha : mm_at j pc = some (.invokevirtual idx, n, x, y)) (hst : st = as.reverse ++ .ref a :: rest) (hy : as.length + 1 = y) (hw : mm_wt rest ≤ 8) (hcat : as.all (fun v => v.category == 1) = true) (hq : h[a]? = some (mm_cls x, fs)) (hc : C x (.ref a :: as) h (.threw e, h')) (hd : mm_hd j pc e = none) (hno : mm_no j pc = true) (hr : r = (.threw e, h')) : mm_Ev z C j (pc, ls, st, h) r :=
  ev_thr ha (ev_invV hq hst hy hw hcat) hc hd hno hr
theorem ev_catV {idx a e t : Nat} {as rest fs : List Value} {h' : mm_H} (ha : mm_at j pc = some (.invokevirtual idx, n, x, y)) (hst : st = as.reverse ++ .ref a :: rest) (hy : as.length + 1 = y) (hw : mm_wt rest ≤ 8) (hcat : as.all (fun v => v.category == 1) = true) (hq : h[a]? = some (mm_cls x, fs)) (hc : C x (.ref a :: as) h (.threw e, h')) (hd : mm_hd j pc e = some t) (k : mm_Ev z C j (t, ls, [.ref (h'.length - 1)], h') r) : mm_Ev z C j (pc, ls, st, h) r :=
  ev_cat ha (ev_invV hq hst hy hw hcat) hc hd k
end EV
/-- a method's run, from its entry -/
theorem mm_cal_of {z : mm_Z} {d j : Nat} {as : List Value} {h : mm_H} {r : mm_R} (k : mm_Ev z (mm_cal z d) j (0, mm_loc j as, [], h) r) : mm_cal z (d + 1) j as h r := k
theorem mm_upd_at {h : mm_H} {a : Nat} {q : mm_C} (hq : h[a]? = some q) (i : Nat) (v : Value) : (mm_upd h a i v)[a]? = some (q.1, q.2.set i v) := by
  rw [mm_upd_eq hq, List.getElem?_set_self (List.getElem?_eq_some_iff.mp hq).1]
theorem mm_upd_ne {h : mm_H} {a b : Nat} (hab : a ≠ b) (i : Nat) (v : Value) : (mm_upd h a i v)[b]? = h[b]? := by
  unfold mm_upd
  split
  · exact List.getElem?_set_ne hab
  · rfl
theorem fits_b (b : Bool) : mm_fits .boolean (.int (bI b)) = true := by cases b <;> decide
