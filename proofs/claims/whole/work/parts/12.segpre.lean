theorem am_fg {mi : am_I} {pc : Nat} {ls : am_L} {stk : List am_V} {K : am_K} {M : am_M} {Q : am_Q} (i : Nat) (k : am_At mi pc (ls.set i none) stk K M Q) : am_At mi pc ls stk K M Q := by
  intro p l e s m args below meth c Z A D G0 K0 M0 G H locs rl hS hY hL hk hR
  refine k p l e s m args below meth c Z A D G0 K0 M0 G H locs rl hS hY ⟨by rw [List.length_set]; exact hL.1, hL.2.1, hL.2.2.1, fun j v hj => hL.2.2.2 j v ?_⟩ hk hR
  by_cases hji : j = i
  · subst hji
    rw [List.getElem?_set] at hj
    split at hj
    · split at hj <;> cases hj
    · exact hj
  · rw [List.getElem?_set_ne (fun q => hji q.symm)] at hj
    exact hj
theorem s_lcif_eq {mi : am_I} {pc : Nat} {ls : am_L} {stk : List am_V} {K : am_K} {M : am_M} {Q : am_Q} {x y : Int} {off : Int} {tgt : Nat} (hd1 : decode (am_cc mi) pc = .ok (.lcmp, 1)) (hd2 : decode (am_cc mi) (pc + 1) = .ok (.ifCond .eq off, 3)) (ht : ((pc + 1 : Nat) : Int) + off = (tgt : Int)) (k1 : x = y → am_At mi tgt ls stk K M Q) (k2 : ¬ x = y → am_At mi (pc + 4) ls stk K M Q) : am_At mi pc ls (vl y :: vl x :: stk) K M Q := by
  refine s_lcmp hd1 (s_if_eq hd2 ht (fun h => k1 ?_) (fun h => k2 ?_))
  all_goals
    split at h
    · omega
    · split at h <;> omega
theorem s_lcif_ne {mi : am_I} {pc : Nat} {ls : am_L} {stk : List am_V} {K : am_K} {M : am_M} {Q : am_Q} {x y : Int} {off : Int} {tgt : Nat} (hd1 : decode (am_cc mi) pc = .ok (.lcmp, 1)) (hd2 : decode (am_cc mi) (pc + 1) = .ok (.ifCond .ne off, 3)) (ht : ((pc + 1 : Nat) : Int) + off = (tgt : Int)) (k1 : ¬ x = y → am_At mi tgt ls stk K M Q) (k2 : x = y → am_At mi (pc + 4) ls stk K M Q) : am_At mi pc ls (vl y :: vl x :: stk) K M Q := by
  refine s_lcmp hd1 (s_if_ne hd2 ht (fun h => k1 ?_) (fun h => k2 ?_))
  all_goals
    split at h
    · omega
    · split at h <;> omega
theorem s_lcif_lt {mi : am_I} {pc : Nat} {ls : am_L} {stk : List am_V} {K : am_K} {M : am_M} {Q : am_Q} {x y : Int} {off : Int} {tgt : Nat} (hd1 : decode (am_cc mi) pc = .ok (.lcmp, 1)) (hd2 : decode (am_cc mi) (pc + 1) = .ok (.ifCond .lt off, 3)) (ht : ((pc + 1 : Nat) : Int) + off = (tgt : Int)) (k1 : x < y → am_At mi tgt ls stk K M Q) (k2 : ¬ x < y → am_At mi (pc + 4) ls stk K M Q) : am_At mi pc ls (vl y :: vl x :: stk) K M Q := by
  refine s_lcmp hd1 (s_if_lt hd2 ht (fun h => k1 ?_) (fun h => k2 ?_))
  all_goals
    split at h
    · omega
    · split at h <;> omega
theorem s_lcif_ge {mi : am_I} {pc : Nat} {ls : am_L} {stk : List am_V} {K : am_K} {M : am_M} {Q : am_Q} {x y : Int} {off : Int} {tgt : Nat} (hd1 : decode (am_cc mi) pc = .ok (.lcmp, 1)) (hd2 : decode (am_cc mi) (pc + 1) = .ok (.ifCond .ge off, 3)) (ht : ((pc + 1 : Nat) : Int) + off = (tgt : Int)) (k1 : y ≤ x → am_At mi tgt ls stk K M Q) (k2 : ¬ y ≤ x → am_At mi (pc + 4) ls stk K M Q) : am_At mi pc ls (vl y :: vl x :: stk) K M Q := by
  refine s_lcmp hd1 (s_if_ge hd2 ht (fun h => k1 ?_) (fun h => k2 ?_))
  all_goals
    split at h
    · omega
    · split at h <;> omega
theorem s_lcif_gt {mi : am_I} {pc : Nat} {ls : am_L} {stk : List am_V} {K : am_K} {M : am_M} {Q : am_Q} {x y : Int} {off : Int} {tgt : Nat} (hd1 : decode (am_cc mi) pc = .ok (.lcmp, 1)) (hd2 : decode (am_cc mi) (pc + 1) = .ok (.ifCond .gt off, 3)) (ht : ((pc + 1 : Nat) : Int) + off = (tgt : Int)) (k1 : y < x → am_At mi tgt ls stk K M Q) (k2 : ¬ y < x → am_At mi (pc + 4) ls stk K M Q) : am_At mi pc ls (vl y :: vl x :: stk) K M Q := by
  refine s_lcmp hd1 (s_if_gt hd2 ht (fun h => k1 ?_) (fun h => k2 ?_))
  all_goals
    split at h
    · omega
    · split at h <;> omega
theorem s_lcif_le {mi : am_I} {pc : Nat} {ls : am_L} {stk : List am_V} {K : am_K} {M : am_M} {Q : am_Q} {x y : Int} {off : Int} {tgt : Nat} (hd1 : decode (am_cc mi) pc = .ok (.lcmp, 1)) (hd2 : decode (am_cc mi) (pc + 1) = .ok (.ifCond .le off, 3)) (ht : ((pc + 1 : Nat) : Int) + off = (tgt : Int)) (k1 : x ≤ y → am_At mi tgt ls stk K M Q) (k2 : ¬ x ≤ y → am_At mi (pc + 4) ls stk K M Q) : am_At mi pc ls (vl y :: vl x :: stk) K M Q := by
  refine s_lcmp hd1 (s_if_le hd2 ht (fun h => k1 ?_) (fun h => k2 ?_))
  all_goals
    split at h
    · omega
    · split at h <;> omega
