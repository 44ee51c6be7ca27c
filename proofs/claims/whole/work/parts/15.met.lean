/-! EVERY METHOD OF THE PROGRAM, AT EVERY DEPTH -/
theorem mm_ht_chk : ∀ j, j < 105 → ((mm_ht j).all fun q => decide (q.1.2.2.2 ≠ 0) && decide (q.2 < 4) && decide (q.1.2.2.2 < 100000) && mm_lcT.contains (mm_key j q.1.2.2.2, 20 + q.2)) = true := by decide +kernel
theorem mm_ht_ok {j : Nat} (hj : j < 105) : ∀ q ∈ mm_ht j, q.1.2.2.2 ≠ 0 ∧ q.2 < 4 ∧ Cond.classLink (mm_on (mm_cls j)) q.1.2.2.2 (mm_xn q.2) ∈ mm_ws := by
  intro q hq
  have h1 := List.all_eq_true.mp (mm_ht_chk j hj) q hq
  simp only [Bool.and_eq_true, decide_eq_true_eq] at h1
  obtain ⟨⟨⟨h2, h3⟩, h4⟩, h5⟩ := h1
  have hw := mm_lcT_ok _ (List.contains_iff_mem.mp h5)
  dsimp only at hw
  rw [(mm_key_d j _ h4).1, (mm_key_d j _ h4).2] at hw
  refine ⟨h2, h3, ?_⟩
  have : mm_cn (20 + q.2) = mm_xn q.2 := by
    unfold mm_cn
    rw [if_neg (by omega), Nat.add_sub_cancel_left]
  rw [← this]
  exact hw
theorem mm_entry (N : mm_N) (m : MethodId) (j : Nat) (as : List Value) (hcat : as.all (fun v => v.category == 1) = true) : entryFrame m (as.map (mm_v N)).toArray (mm_ml j) = mm_F N m 0 (mm_loc j as) [] := by
  rw [entry_eq m (as.map (mm_v N)) (fun v hv => by
    obtain ⟨w, hw, rfl⟩ := List.mem_map.mp hv
    rw [mm_cat]
    simpa using List.all_eq_true.mp hcat w hw) (mm_ml j)]
  show F0 m 0 _ [] = F0 m 0 (mm_L N (mm_loc j as)) []
  congr 1
  unfold mm_L mm_loc
  simp [mm_sl, Function.comp_def]
theorem mm_loc_len {j : Nat} {as : List Value} (h : as.length ≤ mm_ml j) : (mm_loc j as).length = mm_ml j := by
  unfold mm_loc
  simp
  omega
set_option maxHeartbeats 1000000 in
theorem mm_met {l : Launch} {N : mm_N} (hl : l.stackTraces = false) : ∀ (d j : Nat) (as : List Value) (h : mm_H) (r : mm_R), j < 104 → mm_cal N.z d j as h r → as.all (fun v => v.category == 1) = true → as.length ≤ mm_ml j → mm_Met l N d j as h r
  | 0, _, _, _, _, _, hc, _, _ => False.elim hc
  | d + 1, j, as, h, r, hj, hcal, hcat, hlen => by
    obtain ⟨n, hrun⟩ := hcal
    obtain ⟨hcw, -, -, hplain, -, -, hnc⟩ := mm_lk_ok j hj
    refine MetFree.of_bodyS (code := mm_bs j) (maxLocals := mm_ml j) (ret := mm_rt j) hplain ?_ ?_
    · intro args s m hpre hn
      obtain ⟨m', meth, c, hn', h1, h2, h3, h4, h5, h6, -, -⟩ := mm_cw_spec (atoms_spec (ws := mm_ws) hpre _ hcw)
      cases hn.symm.trans hn'
      exact ⟨meth, c, h1, h2, h3, h4, h5, h6⟩
    · intro p e s m args below meth c s₁ B hml hPc _
      obtain ⟨rfl, hG, hP⟩ := hPc
      have hts : ∀ w ∈ mm_ws, w.before (as.map (mm_v N)).toArray s = true := atoms_spec (ws := mm_ws) B.pre
      have X₀ := Stand.of_body B
      have hh0 : s₁.heap = s.heap := by rw [B.state]; rfl
      obtain ⟨m', meth', c', hn', h1, h2, -, -, -, -, htab, -⟩ := mm_cw_spec (hts _ hcw)
      cases B.named.symm.trans hn'
      cases X₀.method.symm.trans h1
      cases X₀.code.symm.trans h2
      have hown : s.vm.findClass (mm_nm j).cls = some m.cls := findClass_of_methodNamed B.named
      rw [hnc] at hown
      have F : mm_Fx p l (mm_room (d + 1) (r.2.length - h.length) (mm_w r.2 - mm_w h)) s m (as.map (mm_v N)).toArray meth c N d j :=
        ⟨B.exec, B.bytes, hml, hown, hts, B.returns, B.notSynchronized, (name_of_methodNamed B.named X₀.method).1, htab, mm_ht_ok (by omega), hG, hl, by show 6 + d ≤ 5 + (d + 1); omega, by show 262 + 30 * d ≤ 232 + 30 * (d + 1); omega⟩
      have w := mm_frame (e := e) (below := below) F (mm_met hl d) (h0 := h) n (0, mm_loc j as, [], h) r hrun (Nat.le_refl _) (Nat.le_refl _) s.heap [] 0 0 hP (Nat.sub_self _).symm (Nat.sub_self _).symm mm_le.rfl (fun q hq => nomatch hq) (mm_loc_len hlen)
      rw [mm_entry N m j as hcat]
      obtain ⟨t, a1, o, b1, b2, b3⟩ := w s₁ hh0 X₀
      exact ⟨t, o, a1, b1, b2, b3⟩
