theorem am_fg {mi : am_I} {pc : Nat} {ls : am_L} {stk : List am_V} {K : am_K} {M : am_M} {Q : am_Q} (i : Nat) (k : am_At mi pc (ls.set i none) stk K M Q) : am_At mi pc ls stk K M Q := by
  intro p l e s m args below meth c Z A D G0 K0 M0 G H locs rl hS hY hL hk hR
  refine k p l e s m args below meth c Z A D G0 K0 M0 G H locs rl hS hY ⟨by rw [List.length_set]; exact hL.1, hL.2.1, hL.2.2.1, fun j v hj => hL.2.2.2 j v ?_⟩ hk hR
  by_cases hji : j = i
  · subst hji
    rw [List.getElem?_set] at hj
    split at hj
    · split at hj <;> cases hj
    · exact hj
  · rw [List.getElem?_set_ne (fun q => hji q.symm)] at hj
    exact hj
theorem s_lcif_eq {mi : am_I} {pc : Nat} {ls : am_L} {stk : List am_V} {K : am_K} {M : am_M} {Q : am_Q} {x y : Int} {off : Int} {tgt : Nat} (hd1 : decode (am_cc mi) pc = .ok (.lcmp, 1)) (hd2 : decode (am_cc mi) (pc + 1) = .ok (.ifCond .eq off, 3)) (ht : ((pc + 1 : Nat) : Int) + off = (tgt : Int)) (k1 : x = y → am_At mi tgt ls stk K M Q) (k2 : ¬ x = y → am_At mi (pc + 4) ls stk K M Q) : am_At mi pc ls (vl y :: vl x :: stk) K M Q := by
  refine s_lcmp hd1 (s_if_eq hd2 ht (fun h => k1 ?_) (fun h => k2 ?_))
  all_goals
    split at h
    · omega
    · split at h <;> omega
theorem s_lcif_ne {mi : am_I} {pc : Nat} {ls : am_L} {stk : List am_V} {K : am_K} {M : am_M} {Q : am_Q} {x y : Int} {off : Int} {tgt : Nat} (hd1 : decode (am_cc mi) pc = .ok (.lcmp, 1)) (hd2 : decode (am_cc mi) (pc + 1) = .ok (.ifCond .ne off, 3)) (ht : ((pc + 1 : Nat) : Int) + off = (tgt : Int)) (k1 : ¬ x = y → am_At mi tgt ls stk K M Q) (k2 : x = y → am_At mi (pc + 4) ls stk K M Q) : am_At mi pc ls (vl y :: vl x :: stk) K M Q := by
  refine s_lcmp hd1 (s_if_ne hd2 ht (fun h => k1 ?_) (fun h => k2 ?_))
  all_goals
    split at h
    · omega
    · split at h <;> omega
theorem s_lcif_lt {mi : am_I} {pc : Nat} {ls : am_L} {stk : List am_V} {K : am_K} {M : am_M} {Q : am_Q} {x y : Int} {off : Int} {tgt : Nat} (hd1 : decode (am_cc mi) pc = .ok (.lcmp, 1)) (hd2 : decode (am_cc mi) (pc + 1) = .ok (.ifCond .lt off, 3)) (ht : ((pc + 1 : Nat) : Int) + off = (tgt : Int)) (k1 : x < y → am_At mi tgt ls stk K M Q) (k2 : ¬ x < y → am_At mi (pc + 4) ls stk K M Q) : am_At mi pc ls (vl y :: vl x :: stk) K M Q := by
  refine s_lcmp hd1 (s_if_lt hd2 ht (fun h => k1 ?_) (fun h => k2 ?_))
  all_goals
    split at h
    · omega
    · split at h <;> omega
theorem s_lcif_ge {mi : am_I} {pc : Nat} {ls : am_L} {stk : List am_V} {K : am_K} {M : am_M} {Q : am_Q} {x y : Int} {off : Int} {tgt : Nat} (hd1 : decode (am_cc mi) pc = .ok (.lcmp, 1)) (hd2 : decode (am_cc mi) (pc + 1) = .ok (.ifCond .ge off, 3)) (ht : ((pc + 1 : Nat) : Int) + off = (tgt : Int)) (k1 : y ≤ x → am_At mi tgt ls stk K M Q) (k2 : ¬ y ≤ x → am_At mi (pc + 4) ls stk K M Q) : am_At mi pc ls (vl y :: vl x :: stk) K M Q := by
  refine s_lcmp hd1 (s_if_ge hd2 ht (fun h => k1 ?_) (fun h => k2 ?_))
  all_goals
    split at h
    · omega
    · split at h <;> omega
theorem s_lcif_gt {mi : am_I} {pc : Nat} {ls : am_L} {stk : List am_V} {K : am_K} {M : am_M} {Q : am_Q} {x y : Int} {off : Int} {tgt : Nat} (hd1 : decode (am_cc mi) pc = .ok (.lcmp, 1)) (hd2 : decode (am_cc mi) (pc + 1) = .ok (.ifCond .gt off, 3)) (ht : ((pc + 1 : Nat) : Int) + off = (tgt : Int)) (k1 : y < x → am_At mi tgt ls stk K M Q) (k2 : ¬ y < x → am_At mi (pc + 4) ls stk K M Q) : am_At mi pc ls (vl y :: vl x :: stk) K M Q := by
  refine s_lcmp hd1 (s_if_gt hd2 ht (fun h => k1 ?_) (fun h => k2 ?_))
  all_goals
    split at h
    · omega
    · split at h <;> omega
theorem s_lcif_le {mi : am_I} {pc : Nat} {ls : am_L} {stk : List am_V} {K : am_K} {M : am_M} {Q : am_Q} {x y : Int} {off : Int} {tgt : Nat} (hd1 : decode (am_cc mi) pc = .ok (.lcmp, 1)) (hd2 : decode (am_cc mi) (pc + 1) = .ok (.ifCond .le off, 3)) (ht : ((pc + 1 : Nat) : Int) + off = (tgt : Int)) (k1 : x ≤ y → am_At mi tgt ls stk K M Q) (k2 : ¬ x ≤ y → am_At mi (pc + 4) ls stk K M Q) : am_At mi pc ls (vl y :: vl x :: stk) K M Q := by
  refine s_lcmp hd1 (s_if_le hd2 ht (fun h => k1 ?_) (fun h => k2 ?_))
  all_goals
    split at h
    · omega
    · split at h <;> omega
theorem lM_max : Cond.code Lib.Math.max.name Lib.Math.max.code 2 (some .int) ∈ am_tb ∧ Cond.static Lib.Math.max.name ∈ am_tb ∧ Cond.initialized "java/lang/Math" ∈ am_tb := ⟨am_ix 79 (by decide +kernel) rfl, lt_mJ_max, l0_mJ_max.2.1⟩
theorem lM_min : Cond.code Lib.Math.min.name Lib.Math.min.code 2 (some .int) ∈ am_tb ∧ Cond.static Lib.Math.min.name ∈ am_tb ∧ Cond.initialized "java/lang/Math" ∈ am_tb := ⟨am_ix 603 (by decide +kernel) rfl, lt_mJ_min, l0_mJ_min.2.1⟩
theorem lM_abs : Cond.code Lib.Math.abs.name Lib.Math.abs.code 1 (some .int) ∈ am_tb ∧ Cond.static Lib.Math.abs.name ∈ am_tb ∧ Cond.initialized "java/lang/Math" ∈ am_tb := ⟨am_ix 636 (by decide +kernel) rfl, lt_mJ_abs, l0_mJ_abs.2.1⟩
theorem s_mmax {mi : am_I} {pc idx : Nat} {ls : am_L} {stk : List am_V} {K : am_K} {M : am_M} {Q : am_Q} {x y : Int} (hd : decode (am_cc mi) pc = .ok (.invokestatic idx, 3)) (hl : Cond.methodLink (am_own mi) idx Lib.Math.max.name ∈ am_tb) (hcat : am_ct stk + 13 ≤ am_lo mi) (hfr : 1 ≤ am_fr mi) (k : am_At mi (pc + 3) ls (vi (if x < y then y else x) :: stk) K M Q) : am_At mi pc ls (vi y :: vi x :: stk) K M Q := by
  intro p l e s m args below meth c Z A D G0 K0 M0 G H locs rl hS hY hL hk hR
  obtain ⟨hy, hk⟩ := List.forall_mem_cons.mp hk
  obtain ⟨hx, hk⟩ := List.forall_mem_cons.mp hk
  have hts := hS.2.2.2.2.2.2.2.1
  have hn : am_i32 (if x < y then y else x) := by
    split
    · exact hy
    · exact hx
  have h := k _ _ _ _ _ _ _ _ _ _ _ _ _ _ _ _ _ _ _ hS hY hL (List.forall_mem_cons.mpr ⟨hn, hk⟩) hR
  refine va_mmax hS.1 hS.2.1 (by rw [hS.2.2.1]; exact hL.2.1.symm) hS.2.2.2.2.2.2.1 (hts _ hl) (hts _ lM_max.2.1) (hts _ lM_max.2.2) (hts _ lM_max.1) hfr (by rw [am_ct_eq]; exact hcat) hY.2.2.1 hY.2.2.2.1 hd ?_
  simp only [am_lt hx hy]
  rw [List.map_cons] at h
  by_cases hc : x < y
  · rw [if_pos hc] at h ⊢
    exact h
  · rw [if_neg hc] at h ⊢
    exact h
theorem s_mmin {mi : am_I} {pc idx : Nat} {ls : am_L} {stk : List am_V} {K : am_K} {M : am_M} {Q : am_Q} {x y : Int} (hd : decode (am_cc mi) pc = .ok (.invokestatic idx, 3)) (hl : Cond.methodLink (am_own mi) idx Lib.Math.min.name ∈ am_tb) (hcat : am_ct stk + 13 ≤ am_lo mi) (hfr : 1 ≤ am_fr mi) (k : am_At mi (pc + 3) ls (vi (if y < x then y else x) :: stk) K M Q) : am_At mi pc ls (vi y :: vi x :: stk) K M Q := by
  intro p l e s m args below meth c Z A D G0 K0 M0 G H locs rl hS hY hL hk hR
  obtain ⟨hy, hk⟩ := List.forall_mem_cons.mp hk
  obtain ⟨hx, hk⟩ := List.forall_mem_cons.mp hk
  have hts := hS.2.2.2.2.2.2.2.1
  have hn : am_i32 (if y < x then y else x) := by
    split
    · exact hy
    · exact hx
  have h := k _ _ _ _ _ _ _ _ _ _ _ _ _ _ _ _ _ _ _ hS hY hL (List.forall_mem_cons.mpr ⟨hn, hk⟩) hR
  refine va_mmin hS.1 hS.2.1 (by rw [hS.2.2.1]; exact hL.2.1.symm) hS.2.2.2.2.2.2.1 (hts _ hl) (hts _ lM_min.2.1) (hts _ lM_min.2.2) (hts _ lM_min.1) hfr (by rw [am_ct_eq]; exact hcat) hY.2.2.1 hY.2.2.2.1 hd ?_
  simp only [am_lt hy hx]
  rw [List.map_cons] at h
  by_cases hc : y < x
  · rw [if_pos hc] at h ⊢
    exact h
  · rw [if_neg hc] at h ⊢
    exact h
theorem s_mabs {mi : am_I} {pc idx : Nat} {ls : am_L} {stk : List am_V} {K : am_K} {M : am_M} {Q : am_Q} {x : Int} (hd : decode (am_cc mi) pc = .ok (.invokestatic idx, 3)) (hl : Cond.methodLink (am_own mi) idx Lib.Math.abs.name ∈ am_tb) (hcat : am_ct stk + 13 ≤ am_lo mi) (hfr : 1 ≤ am_fr mi) (hr : -2147483647 ≤ x) (k : am_At mi (pc + 3) ls (vi (if 0 ≤ x then x else -x) :: stk) K M Q) : am_At mi pc ls (vi x :: stk) K M Q := by
  intro p l e s m args below meth c Z A D G0 K0 M0 G H locs rl hS hY hL hk hR
  obtain ⟨hx, hk⟩ := List.forall_mem_cons.mp hk
  have hts := hS.2.2.2.2.2.2.2.1
  have hn : am_i32 (if 0 ≤ x then x else -x) := by
    have h1 := hx.1
    have h2 := hx.2
    split
    · exact hx
    · exact ⟨by omega, by omega⟩
  have h := k _ _ _ _ _ _ _ _ _ _ _ _ _ _ _ _ _ _ _ hS hY hL (List.forall_mem_cons.mpr ⟨hn, hk⟩) hR
  refine va_mabs hS.1 hS.2.1 (by rw [hS.2.2.1]; exact hL.2.1.symm) hS.2.2.2.2.2.2.1 (hts _ hl) (hts _ lM_abs.2.1) (hts _ lM_abs.2.2) (hts _ lM_abs.1) hfr (by rw [am_ct_eq]; exact hcat) hY.2.2.1 hY.2.2.2.1 hd ?_
  have hz : (0 : Int32) = Int32.ofInt 0 := rfl
  rw [hz, ← Int32.ofInt_sub]
  simp only [am_le am_i32_0 hx]
  rw [List.map_cons] at h
  by_cases hc : 0 ≤ x
  · rw [if_pos hc] at h ⊢
    exact h
  · rw [if_neg hc] at h ⊢
    rw [show (0 : Int) - x = -x by omega]
    exact h
