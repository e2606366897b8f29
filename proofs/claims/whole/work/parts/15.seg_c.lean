theorem g2_state_0 {a1 a2 a3 a4 a5 : Int} {M : am_M} {Q : Option am_V → am_M → Prop} (h1 : -1 ≤ a1 ∧ a1 < 100000) (h2 : -1 ≤ a2 ∧ a2 < 100000) (h3 : -1 ≤ a3 ∧ a3 < 100000) (h4 : -1 ≤ a4 ∧ a4 < 100000) (k : Q none (am_up (am_up (am_up (am_up (am_up M 66 3 a1) 66 4 a2) 66 5 a3) 66 6 a4) 66 7 a5)) : am_AtN m2_state 0 [some (vr 66), some (vr a1), some (vr a2), some (vr a3), some (vr a4), some (vi a5)] [] KS M Q := by
  refine s_aload_n (show decode (am_cc m2_state) 0 = .ok (.aload_n 0, 1) by decide +kernel) rfl ?_
  refine s_aload_n (show decode (am_cc m2_state) 1 = .ok (.aload_n 1, 1) by decide +kernel) rfl ?_
  refine s_putf (k := 3) (x := a1) (ty0 := tyX2) (show decode (am_cc m2_state) 2 = .ok (.putfield 22, 3) by decide +kernel) kd66 (by decide) rfl jnX2 tyX2_ok nmX2 (by decide) lf_RX2_22 rfl (Or.inr (Or.inr ⟨rfl, ⟨_, rfl⟩, rfl, h1.1, h1.2⟩)) ?_
  refine s_aload_n (show decode (am_cc m2_state) 5 = .ok (.aload_n 0, 1) by decide +kernel) rfl ?_
  refine s_aload_n (show decode (am_cc m2_state) 6 = .ok (.aload_n 2, 1) by decide +kernel) rfl ?_
  refine s_putf (k := 4) (x := a2) (ty0 := tyX2) (show decode (am_cc m2_state) 7 = .ok (.putfield 26, 3) by decide +kernel) kd66 (by decide) rfl jnX2 tyX2_ok nmX2 (by decide) lf_RX2_26 rfl (Or.inr (Or.inr ⟨rfl, ⟨_, rfl⟩, rfl, h2.1, h2.2⟩)) ?_
  refine s_aload_n (show decode (am_cc m2_state) 10 = .ok (.aload_n 0, 1) by decide +kernel) rfl ?_
  refine s_aload_n (show decode (am_cc m2_state) 11 = .ok (.aload_n 3, 1) by decide +kernel) rfl ?_
  refine s_putf (k := 5) (x := a3) (ty0 := tyX2) (show decode (am_cc m2_state) 12 = .ok (.putfield 30, 3) by decide +kernel) kd66 (by decide) rfl jnX2 tyX2_ok nmX2 (by decide) lf_RX2_30 rfl (Or.inr (Or.inr ⟨rfl, ⟨_, rfl⟩, rfl, h3.1, h3.2⟩)) ?_
  refine s_aload_n (show decode (am_cc m2_state) 15 = .ok (.aload_n 0, 1) by decide +kernel) rfl ?_
  refine s_aload (show decode (am_cc m2_state) 16 = .ok (.aload 4, 2) by decide +kernel) rfl ?_
  refine s_putf (k := 6) (x := a4) (ty0 := tyX2) (show decode (am_cc m2_state) 18 = .ok (.putfield 33, 3) by decide +kernel) kd66 (by decide) rfl jnX2 tyX2_ok nmX2 (by decide) lf_RX2_33 rfl (Or.inr (Or.inr ⟨rfl, ⟨_, rfl⟩, rfl, h4.1, h4.2⟩)) ?_
  refine s_aload_n (show decode (am_cc m2_state) 21 = .ok (.aload_n 0, 1) by decide +kernel) rfl ?_
  refine s_iload (show decode (am_cc m2_state) 22 = .ok (.iload 5, 2) by decide +kernel) rfl ?_
  refine s_putf (k := 7) (x := a5) (ty0 := tyX2) (show decode (am_cc m2_state) 24 = .ok (.putfield 36, 3) by decide +kernel) kd66 (by decide) rfl jnX2 tyX2_ok nmX2 (by decide) lf_RX2_36 rfl (Or.inl ⟨rfl, rfl, rfl⟩) ?_
  exact s_return (show decode (am_cc m2_state) 27 = .ok (.return_, 1) by decide +kernel) rfl k
theorem g2_explore_0 {M : am_M} {Q : Option am_V → am_M → Prop} (k : am_CallN mJ_fill [vr 67, vi (-2)] KS M (fun r M' => am_AtN m2_explore 9 [some (vr 66), none, none, none] (r.toList ++ []) KS M' Q)) : am_AtN m2_explore 0 [some (vr 66), none, none, none] [] KS M Q := by
  refine s_aload_n (show decode (am_cc m2_explore) 0 = .ok (.aload_n 0, 1) by decide +kernel) rfl ?_
  refine s_getf (k := 0) (v := vr 67) (show decode (am_cc m2_explore) 1 = .ok (.getfield 9, 3) by decide +kernel) kd66 (by decide) rfl jnX2 (by decide) lf_RX2_9 rfl ?_
  refine s_bipush (show decode (am_cc m2_explore) 4 = .ok (.bipush (-2), 2) by decide +kernel) ⟨by decide, by decide⟩ (by decide) ?_
  exact n_callS (as := [vr 67, vi (-2)]) (stk := []) (show decode (am_cc m2_explore) 6 = .ok (.invokestatic 39, 3) by decide +kernel) lk_RX2_39 (by decide) (Nat.le_of_ble_eq_true rfl) ⟨rfl, rfl⟩ k
theorem g2_explore_9 {M : am_M} {Q : Option am_V → am_M → Prop} (k : am_CallN m2_meet [vr 66, vi 0, vi (-1)] KS (am_up M 66 2 0) (fun r M' => am_AtN m2_explore 20 [some (vr 66), none, none, none] (r.toList ++ []) KS M' Q)) : am_AtN m2_explore 9 [some (vr 66), none, none, none] [] KS M Q := by
  refine s_aload_n (show decode (am_cc m2_explore) 9 = .ok (.aload_n 0, 1) by decide +kernel) rfl ?_
  refine s_iconst (show decode (am_cc m2_explore) 10 = .ok (.iconst 0, 1) by decide +kernel) ⟨by decide, by decide⟩ ?_
  refine s_putf (k := 2) (x := 0) (ty0 := tyX2) (show decode (am_cc m2_explore) 11 = .ok (.putfield 18, 3) by decide +kernel) kd66 (by decide) rfl jnX2 tyX2_ok nmX2 (by decide) lf_RX2_18 rfl (Or.inl ⟨rfl, rfl, rfl⟩) ?_
  refine s_aload_n (show decode (am_cc m2_explore) 14 = .ok (.aload_n 0, 1) by decide +kernel) rfl ?_
  refine s_iconst (show decode (am_cc m2_explore) 15 = .ok (.iconst 0, 1) by decide +kernel) ⟨by decide, by decide⟩ ?_
  refine s_iconst (show decode (am_cc m2_explore) 16 = .ok (.iconst (-1), 1) by decide +kernel) ⟨by decide, by decide⟩ ?_
  exact n_callV (as := [vi 0, vi (-1)]) (stk := []) (show decode (am_cc m2_explore) 17 = .ok (.invokevirtual 45, 3) by decide +kernel) lk_RX2_45 kd66 (by decide) rfl rfl (by decide) (Nat.le_of_ble_eq_true rfl) ⟨rfl, rfl⟩ k
theorem g2_explore_20 {M : am_M} {Q : Option am_V → am_M → Prop} (k : am_AtN m2_explore 22 [some (vr 66), some (vi 0), none, none] [] KS M Q) : am_AtN m2_explore 20 [some (vr 66), none, none, none] [] KS M Q := by
  refine s_iconst (show decode (am_cc m2_explore) 20 = .ok (.iconst 0, 1) by decide +kernel) ⟨by decide, by decide⟩ ?_
  refine s_istore_n (show decode (am_cc m2_explore) 21 = .ok (.istore_n 1, 1) by decide +kernel) (by decide) ?_
  exact k
theorem g2_explore_22 {a1 : Int} {M : am_M} {Q : Option am_V → am_M → Prop} (k1 : M 66 2 ≤ a1 → am_AtN m2_explore 81 [some (vr 66), some (vi a1), none, none] [] KS M Q) (k2 : ¬ (M 66 2 ≤ a1) → am_AtN m2_explore 30 [some (vr 66), some (vi a1), none, none] [] KS M Q) : am_AtN m2_explore 22 [some (vr 66), some (vi a1), none, none] [] KS M Q := by
  refine s_iload_n (show decode (am_cc m2_explore) 22 = .ok (.iload_n 1, 1) by decide +kernel) rfl ?_
  refine s_aload_n (show decode (am_cc m2_explore) 23 = .ok (.aload_n 0, 1) by decide +kernel) rfl ?_
  refine s_getf (k := 2) (v := vi (M 66 2)) (show decode (am_cc m2_explore) 24 = .ok (.getfield 18, 3) by decide +kernel) kd66 (by decide) rfl jnX2 (by decide) lf_RX2_18 rfl ?_
  exact s_icmp_ge (tgt := 81) (show decode (am_cc m2_explore) 27 = .ok (.if_icmp .ge 54, 3) by decide +kernel) (by decide) k1 k2
theorem g2_explore_30 {a1 : Int} {M : am_M} {Q : Option am_V → am_M → Prop} (k1 : 1296 ≤ a1 → am_AtN m2_explore 81 [some (vr 66), some (vi a1), none, none] [] KS M Q) (k2 : ¬ (1296 ≤ a1) → am_AtN m2_explore 37 [some (vr 66), some (vi a1), none, none] [] KS M Q) : am_AtN m2_explore 30 [some (vr 66), some (vi a1), none, none] [] KS M Q := by
  refine s_iload_n (show decode (am_cc m2_explore) 30 = .ok (.iload_n 1, 1) by decide +kernel) rfl ?_
  refine s_sipush (show decode (am_cc m2_explore) 31 = .ok (.sipush 1296, 3) by decide +kernel) ⟨by decide, by decide⟩ (by decide) ?_
  exact s_icmp_ge (tgt := 81) (show decode (am_cc m2_explore) 34 = .ok (.if_icmp .ge 47, 3) by decide +kernel) (by decide) k1 k2
theorem g2_explore_37 {a1 : Int} {M : am_M} {Q : Option am_V → am_M → Prop} (h1 : 0 ≤ a1) (h2 : a1 < 1296) (k : am_AtN m2_explore 46 [some (vr 66), some (vi a1), some (vi (M 68 a1)), some (vi 0)] [] KS M Q) : am_AtN m2_explore 37 [some (vr 66), some (vi a1), none, none] [] KS M Q := by
  refine s_aload_n (show decode (am_cc m2_explore) 37 = .ok (.aload_n 0, 1) by decide +kernel) rfl ?_
  refine s_getf (k := 1) (v := vr 68) (show decode (am_cc m2_explore) 38 = .ok (.getfield 15, 3) by decide +kernel) kd66 (by decide) rfl jnX2 (by decide) lf_RX2_15 rfl ?_
  refine s_iload_n (show decode (am_cc m2_explore) 41 = .ok (.iload_n 1, 1) by decide +kernel) rfl ?_
  refine s_iaload (show decode (am_cc m2_explore) 42 = .ok (.iaload, 1) by decide +kernel) kd68 h1 h2 ?_
  refine s_istore_n (show decode (am_cc m2_explore) 43 = .ok (.istore_n 2, 1) by decide +kernel) (by decide) ?_
  refine s_iconst (show decode (am_cc m2_explore) 44 = .ok (.iconst 0, 1) by decide +kernel) ⟨by decide, by decide⟩ ?_
  refine s_istore_n (show decode (am_cc m2_explore) 45 = .ok (.istore_n 3, 1) by decide +kernel) (by decide) ?_
  exact k
theorem g2_explore_46 {a1 a2 a3 : Int} {M : am_M} {Q : Option am_V → am_M → Prop} (k1 : M 66 7 ≤ a3 → am_AtN m2_explore 75 [some (vr 66), some (vi a1), some (vi a2), some (vi a3)] [] KS M Q) (k2 : ¬ (M 66 7 ≤ a3) → am_AtN m2_explore 54 [some (vr 66), some (vi a1), some (vi a2), some (vi a3)] [] KS M Q) : am_AtN m2_explore 46 [some (vr 66), some (vi a1), some (vi a2), some (vi a3)] [] KS M Q := by
  refine s_iload_n (show decode (am_cc m2_explore) 46 = .ok (.iload_n 3, 1) by decide +kernel) rfl ?_
  refine s_aload_n (show decode (am_cc m2_explore) 47 = .ok (.aload_n 0, 1) by decide +kernel) rfl ?_
  refine s_getf (k := 7) (v := vi (M 66 7)) (show decode (am_cc m2_explore) 48 = .ok (.getfield 36, 3) by decide +kernel) kd66 (by decide) rfl jnX2 (by decide) lf_RX2_36 rfl ?_
  exact s_icmp_ge (tgt := 75) (show decode (am_cc m2_explore) 51 = .ok (.if_icmp .ge 24, 3) by decide +kernel) (by decide) k1 k2
theorem g2_explore_54 {a1 a2 a3 : Int} {M : am_M} {Q : Option am_V → am_M → Prop} (k : am_CallN m2_after [vr 66, vi a2, vi a3] KS M (fun r M' => am_AtN m2_explore 61 [some (vr 66), some (vi a1), some (vi a2), some (vi a3)] (r.toList ++ [vr 66]) KS M' Q)) : am_AtN m2_explore 54 [some (vr 66), some (vi a1), some (vi a2), some (vi a3)] [] KS M Q := by
  refine s_aload_n (show decode (am_cc m2_explore) 54 = .ok (.aload_n 0, 1) by decide +kernel) rfl ?_
  refine s_aload_n (show decode (am_cc m2_explore) 55 = .ok (.aload_n 0, 1) by decide +kernel) rfl ?_
  refine s_iload_n (show decode (am_cc m2_explore) 56 = .ok (.iload_n 2, 1) by decide +kernel) rfl ?_
  refine s_iload_n (show decode (am_cc m2_explore) 57 = .ok (.iload_n 3, 1) by decide +kernel) rfl ?_
  exact n_callV (as := [vi a2, vi a3]) (stk := [vr 66]) (show decode (am_cc m2_explore) 58 = .ok (.invokevirtual 49, 3) by decide +kernel) lk_RX2_49 kd66 (by decide) rfl rfl (by decide) (Nat.le_of_ble_eq_true rfl) ⟨rfl, rfl⟩ k
theorem g2_explore_61 {a1 a2 a3 t0 t1 : Int} {M : am_M} {Q : Option am_V → am_M → Prop} {r0 : List Int} (h1 : -2147483648 ≤ a2 * 4 ∧ a2 * 4 ≤ 2147483647) (h2 : -2147483648 ≤ (a2 * 4) + a3 ∧ (a2 * 4) + a3 ≤ 2147483647) (h3 : am_kd KS t0 = some (2, 8, r0)) (k : am_CallN m2_meet [vr t0, vi t1, vi ((a2 * 4) + a3)] KS M (fun r M' => am_AtN m2_explore 69 [some (vr 66), some (vi a1), some (vi a2), some (vi a3)] (r.toList ++ []) KS M' Q)) : am_AtN m2_explore 61 [some (vr 66), some (vi a1), some (vi a2), some (vi a3)] [vi t1, vr t0] KS M Q := by
  refine s_iload_n (show decode (am_cc m2_explore) 61 = .ok (.iload_n 2, 1) by decide +kernel) rfl ?_
  refine s_iconst (show decode (am_cc m2_explore) 62 = .ok (.iconst 4, 1) by decide +kernel) ⟨by decide, by decide⟩ ?_
  refine s_imul (show decode (am_cc m2_explore) 63 = .ok (.imul, 1) by decide +kernel) h1 ?_
  refine s_iload_n (show decode (am_cc m2_explore) 64 = .ok (.iload_n 3, 1) by decide +kernel) rfl ?_
  refine s_iadd (show decode (am_cc m2_explore) 65 = .ok (.iadd, 1) by decide +kernel) h2 ?_
  exact n_callV (as := [vi t1, vi ((a2 * 4) + a3)]) (stk := []) (show decode (am_cc m2_explore) 66 = .ok (.invokevirtual 45, 3) by decide +kernel) lk_RX2_45 h3 (by decide) rfl rfl (by decide) (Nat.le_of_ble_eq_true rfl) ⟨rfl, rfl⟩ k
theorem g2_explore_69 {a1 a2 a3 : Int} {M : am_M} {Q : Option am_V → am_M → Prop} (h1 : -2147483648 ≤ a3 + 1 ∧ a3 + 1 ≤ 2147483647) (k : am_AtN m2_explore 46 [some (vr 66), some (vi a1), some (vi a2), some (vi (a3 + 1))] [] KS M Q) : am_AtN m2_explore 69 [some (vr 66), some (vi a1), some (vi a2), some (vi a3)] [] KS M Q := by
  refine s_iinc (show decode (am_cc m2_explore) 69 = .ok (.iinc 3 1, 3) by decide +kernel) rfl (by decide) h1 ?_
  refine s_goto (tgt := 46) (show decode (am_cc m2_explore) 72 = .ok (.goto (-26), 3) by decide +kernel) (by decide) ?_
  exact k
theorem g2_explore_75 {a1 a2 a3 : Int} {M : am_M} {Q : Option am_V → am_M → Prop} (h1 : -2147483648 ≤ a1 + 1 ∧ a1 + 1 ≤ 2147483647) (k : am_AtN m2_explore 22 [some (vr 66), some (vi (a1 + 1)), none, none] [] KS M Q) : am_AtN m2_explore 75 [some (vr 66), some (vi a1), some (vi a2), some (vi a3)] [] KS M Q := by
  refine s_iinc (show decode (am_cc m2_explore) 75 = .ok (.iinc 1 1, 3) by decide +kernel) rfl (by decide) h1 ?_
  refine s_goto (tgt := 22) (show decode (am_cc m2_explore) 78 = .ok (.goto (-56), 3) by decide +kernel) (by decide) ?_
  refine am_fg 2 ?_
  refine am_fg 3 ?_
  exact k
theorem g2_explore_81 {a1 : Int} {M : am_M} {Q : Option am_V → am_M → Prop} (k : Q none M) : am_AtN m2_explore 81 [some (vr 66), some (vi a1), none, none] [] KS M Q := by
  exact s_return (show decode (am_cc m2_explore) 81 = .ok (.return_, 1) by decide +kernel) rfl k
theorem g2_meet_0 {a1 a2 : Int} {M : am_M} {Q : Option am_V → am_M → Prop} (k : am_CallN m8_within [vi a1, vi 1296] KS M (fun r M' => am_AtN m2_meet 7 [some (vr 66), some (vi a1), some (vi a2)] (r.toList ++ []) KS M' Q)) : am_AtN m2_meet 0 [some (vr 66), some (vi a1), some (vi a2)] [] KS M Q := by
  refine s_iload_n (show decode (am_cc m2_meet) 0 = .ok (.iload_n 1, 1) by decide +kernel) rfl ?_
  refine s_sipush (show decode (am_cc m2_meet) 1 = .ok (.sipush 1296, 3) by decide +kernel) ⟨by decide, by decide⟩ (by decide) ?_
  exact n_callN (as := [vi a1, vi 1296]) (stk := []) (show decode (am_cc m2_meet) 4 = .ok (.invokestatic 53, 3) by decide +kernel) lk_RX2_53 (by decide) (Nat.le_of_ble_eq_true rfl) ⟨rfl, rfl⟩ k
theorem g2_meet_7 {a1 a2 t0 : Int} {M : am_M} {Q : Option am_V → am_M → Prop} (k1 : t0 = 0 → am_AtN m2_meet 34 [some (vr 66), some (vi a1), some (vi a2)] [] KS M Q) (k2 : ¬ (t0 = 0) → am_AtN m2_meet 10 [some (vr 66), some (vi a1), some (vi a2)] [] KS M Q) : am_AtN m2_meet 7 [some (vr 66), some (vi a1), some (vi a2)] [vi t0] KS M Q := by
  exact s_if_eq (tgt := 34) (show decode (am_cc m2_meet) 7 = .ok (.ifCond .eq 27, 3) by decide +kernel) (by decide) k1 k2
theorem g2_meet_10 {a1 a2 : Int} {M : am_M} {Q : Option am_V → am_M → Prop} (h1 : 0 ≤ a1) (h2 : a1 < 1296) (k1 : ¬ M 67 a1 = -2 → am_AtN m2_meet 34 [some (vr 66), some (vi a1), some (vi a2)] [] KS M Q) (k2 : M 67 a1 = -2 → am_AtN m2_meet 21 [some (vr 66), some (vi a1), some (vi a2)] [] KS M Q) : am_AtN m2_meet 10 [some (vr 66), some (vi a1), some (vi a2)] [] KS M Q := by
  refine s_aload_n (show decode (am_cc m2_meet) 10 = .ok (.aload_n 0, 1) by decide +kernel) rfl ?_
  refine s_getf (k := 0) (v := vr 67) (show decode (am_cc m2_meet) 11 = .ok (.getfield 9, 3) by decide +kernel) kd66 (by decide) rfl jnX2 (by decide) lf_RX2_9 rfl ?_
  refine s_iload_n (show decode (am_cc m2_meet) 14 = .ok (.iload_n 1, 1) by decide +kernel) rfl ?_
  refine s_iaload (show decode (am_cc m2_meet) 15 = .ok (.iaload, 1) by decide +kernel) kd67 h1 h2 ?_
  refine s_bipush (show decode (am_cc m2_meet) 16 = .ok (.bipush (-2), 2) by decide +kernel) ⟨by decide, by decide⟩ (by decide) ?_
  exact s_icmp_ne (tgt := 34) (show decode (am_cc m2_meet) 18 = .ok (.if_icmp .ne 16, 3) by decide +kernel) (by decide) k1 k2
theorem g2_meet_21 {a1 a2 : Int} {M : am_M} {Q : Option am_V → am_M → Prop} (k : am_CallN m8_within [vi (M 66 2), vi 1296] KS M (fun r M' => am_AtN m2_meet 31 [some (vr 66), some (vi a1), some (vi a2)] (r.toList ++ []) KS M' Q)) : am_AtN m2_meet 21 [some (vr 66), some (vi a1), some (vi a2)] [] KS M Q := by
  refine s_aload_n (show decode (am_cc m2_meet) 21 = .ok (.aload_n 0, 1) by decide +kernel) rfl ?_
  refine s_getf (k := 2) (v := vi (M 66 2)) (show decode (am_cc m2_meet) 22 = .ok (.getfield 18, 3) by decide +kernel) kd66 (by decide) rfl jnX2 (by decide) lf_RX2_18 rfl ?_
  refine s_sipush (show decode (am_cc m2_meet) 25 = .ok (.sipush 1296, 3) by decide +kernel) ⟨by decide, by decide⟩ (by decide) ?_
  exact n_callN (as := [vi (M 66 2), vi 1296]) (stk := []) (show decode (am_cc m2_meet) 28 = .ok (.invokestatic 53, 3) by decide +kernel) lk_RX2_53 (by decide) (Nat.le_of_ble_eq_true rfl) ⟨rfl, rfl⟩ k
theorem g2_meet_31 {a1 a2 t0 : Int} {M : am_M} {Q : Option am_V → am_M → Prop} (k1 : ¬ t0 = 0 → am_AtN m2_meet 35 [some (vr 66), some (vi a1), some (vi a2)] [] KS M Q) (k2 : t0 = 0 → am_AtN m2_meet 34 [some (vr 66), some (vi a1), some (vi a2)] [] KS M Q) : am_AtN m2_meet 31 [some (vr 66), some (vi a1), some (vi a2)] [vi t0] KS M Q := by
  exact s_if_ne (tgt := 35) (show decode (am_cc m2_meet) 31 = .ok (.ifCond .ne 4, 3) by decide +kernel) (by decide) k1 k2
theorem g2_meet_34 {a1 a2 : Int} {M : am_M} {Q : Option am_V → am_M → Prop} (k : Q none M) : am_AtN m2_meet 34 [some (vr 66), some (vi a1), some (vi a2)] [] KS M Q := by
  exact s_return (show decode (am_cc m2_meet) 34 = .ok (.return_, 1) by decide +kernel) rfl k
theorem g2_meet_35 {a1 a2 : Int} {M : am_M} {Q : Option am_V → am_M → Prop} (h1 : 0 ≤ a1) (h2 : a1 < 1296) (h3 : 0 ≤ (am_up M 67 a1 a2) 66 2) (h4 : (am_up M 67 a1 a2) 66 2 < 1296) (h5 : -2147483648 ≤ ((am_up (am_up M 67 a1 a2) 68 ((am_up M 67 a1 a2) 66 2) a1) 66 2) + 1 ∧ ((am_up (am_up M 67 a1 a2) 68 ((am_up M 67 a1 a2) 66 2) a1) 66 2) + 1 ≤ 2147483647) (k : Q none (am_up (am_up (am_up M 67 a1 a2) 68 ((am_up M 67 a1 a2) 66 2) a1) 66 2 (((am_up (am_up M 67 a1 a2) 68 ((am_up M 67 a1 a2) 66 2) a1) 66 2) + 1))) : am_AtN m2_meet 35 [some (vr 66), some (vi a1), some (vi a2)] [] KS M Q := by
  refine s_aload_n (show decode (am_cc m2_meet) 35 = .ok (.aload_n 0, 1) by decide +kernel) rfl ?_
  refine s_getf (k := 0) (v := vr 67) (show decode (am_cc m2_meet) 36 = .ok (.getfield 9, 3) by decide +kernel) kd66 (by decide) rfl jnX2 (by decide) lf_RX2_9 rfl ?_
  refine s_iload_n (show decode (am_cc m2_meet) 39 = .ok (.iload_n 1, 1) by decide +kernel) rfl ?_
  refine s_iload_n (show decode (am_cc m2_meet) 40 = .ok (.iload_n 2, 1) by decide +kernel) rfl ?_
  refine s_iastore (show decode (am_cc m2_meet) 41 = .ok (.iastore, 1) by decide +kernel) kd67 h1 h2 ?_
  refine s_aload_n (show decode (am_cc m2_meet) 42 = .ok (.aload_n 0, 1) by decide +kernel) rfl ?_
  refine s_getf (k := 1) (v := vr 68) (show decode (am_cc m2_meet) 43 = .ok (.getfield 15, 3) by decide +kernel) kd66 (by decide) rfl jnX2 (by decide) lf_RX2_15 rfl ?_
  refine s_aload_n (show decode (am_cc m2_meet) 46 = .ok (.aload_n 0, 1) by decide +kernel) rfl ?_
  refine s_getf (k := 2) (v := vi ((am_up M 67 a1 a2) 66 2)) (show decode (am_cc m2_meet) 47 = .ok (.getfield 18, 3) by decide +kernel) kd66 (by decide) rfl jnX2 (by decide) lf_RX2_18 rfl ?_
  refine s_iload_n (show decode (am_cc m2_meet) 50 = .ok (.iload_n 1, 1) by decide +kernel) rfl ?_
  refine s_iastore (show decode (am_cc m2_meet) 51 = .ok (.iastore, 1) by decide +kernel) kd68 h3 h4 ?_
  refine s_aload_n (show decode (am_cc m2_meet) 52 = .ok (.aload_n 0, 1) by decide +kernel) rfl ?_
  refine s_dupr (show decode (am_cc m2_meet) 53 = .ok (.dup, 1) by decide +kernel) ?_
  refine s_getf (k := 2) (v := vi ((am_up (am_up M 67 a1 a2) 68 ((am_up M 67 a1 a2) 66 2) a1) 66 2)) (show decode (am_cc m2_meet) 54 = .ok (.getfield 18, 3) by decide +kernel) kd66 (by decide) rfl jnX2 (by decide) lf_RX2_18 rfl ?_
  refine s_iconst (show decode (am_cc m2_meet) 57 = .ok (.iconst 1, 1) by decide +kernel) ⟨by decide, by decide⟩ ?_
  refine s_iadd (show decode (am_cc m2_meet) 58 = .ok (.iadd, 1) by decide +kernel) h5 ?_
  refine s_putf (k := 2) (x := ((am_up (am_up M 67 a1 a2) 68 ((am_up M 67 a1 a2) 66 2) a1) 66 2) + 1) (ty0 := tyX2) (show decode (am_cc m2_meet) 59 = .ok (.putfield 18, 3) by decide +kernel) kd66 (by decide) rfl jnX2 tyX2_ok nmX2 (by decide) lf_RX2_18 rfl (Or.inl ⟨rfl, rfl, rfl⟩) ?_
  exact s_return (show decode (am_cc m2_meet) 62 = .ok (.return_, 1) by decide +kernel) rfl k
theorem g2_metPlaces_0 {M : am_M} {Q : Option am_V → am_M → Prop} (k : Q (some (vi (M 66 2))) M) : am_AtN m2_metPlaces 0 [some (vr 66)] [] KS M Q := by
  refine s_aload_n (show decode (am_cc m2_metPlaces) 0 = .ok (.aload_n 0, 1) by decide +kernel) rfl ?_
  refine s_getf (k := 2) (v := vi (M 66 2)) (show decode (am_cc m2_metPlaces) 1 = .ok (.getfield 18, 3) by decide +kernel) kd66 (by decide) rfl jnX2 (by decide) lf_RX2_18 rfl ?_
  exact s_ireturn (show decode (am_cc m2_metPlaces) 4 = .ok (.ireturn, 1) by decide +kernel) rfl k
theorem g2_isMet_0 {a1 : Int} {M : am_M} {Q : Option am_V → am_M → Prop} (k : am_CallN m8_within [vi a1, vi 1296] KS M (fun r M' => am_AtN m2_isMet 7 [some (vr 66), some (vi a1)] (r.toList ++ []) KS M' Q)) : am_AtN m2_isMet 0 [some (vr 66), some (vi a1)] [] KS M Q := by
  refine s_iload_n (show decode (am_cc m2_isMet) 0 = .ok (.iload_n 1, 1) by decide +kernel) rfl ?_
  refine s_sipush (show decode (am_cc m2_isMet) 1 = .ok (.sipush 1296, 3) by decide +kernel) ⟨by decide, by decide⟩ (by decide) ?_
  exact n_callN (as := [vi a1, vi 1296]) (stk := []) (show decode (am_cc m2_isMet) 4 = .ok (.invokestatic 53, 3) by decide +kernel) lk_RX2_53 (by decide) (Nat.le_of_ble_eq_true rfl) ⟨rfl, rfl⟩ k
theorem g2_isMet_7 {a1 t0 : Int} {M : am_M} {Q : Option am_V → am_M → Prop} (k1 : t0 = 0 → am_AtN m2_isMet 25 [some (vr 66), some (vi a1)] [] KS M Q) (k2 : ¬ (t0 = 0) → am_AtN m2_isMet 10 [some (vr 66), some (vi a1)] [] KS M Q) : am_AtN m2_isMet 7 [some (vr 66), some (vi a1)] [vi t0] KS M Q := by
  exact s_if_eq (tgt := 25) (show decode (am_cc m2_isMet) 7 = .ok (.ifCond .eq 18, 3) by decide +kernel) (by decide) k1 k2
theorem g2_isMet_10 {a1 : Int} {M : am_M} {Q : Option am_V → am_M → Prop} (h1 : 0 ≤ a1) (h2 : a1 < 1296) (k1 : M 67 a1 = -2 → am_AtN m2_isMet 25 [some (vr 66), some (vi a1)] [] KS M Q) (k2 : ¬ (M 67 a1 = -2) → am_AtN m2_isMet 21 [some (vr 66), some (vi a1)] [] KS M Q) : am_AtN m2_isMet 10 [some (vr 66), some (vi a1)] [] KS M Q := by
  refine s_aload_n (show decode (am_cc m2_isMet) 10 = .ok (.aload_n 0, 1) by decide +kernel) rfl ?_
  refine s_getf (k := 0) (v := vr 67) (show decode (am_cc m2_isMet) 11 = .ok (.getfield 9, 3) by decide +kernel) kd66 (by decide) rfl jnX2 (by decide) lf_RX2_9 rfl ?_
  refine s_iload_n (show decode (am_cc m2_isMet) 14 = .ok (.iload_n 1, 1) by decide +kernel) rfl ?_
  refine s_iaload (show decode (am_cc m2_isMet) 15 = .ok (.iaload, 1) by decide +kernel) kd67 h1 h2 ?_
  refine s_bipush (show decode (am_cc m2_isMet) 16 = .ok (.bipush (-2), 2) by decide +kernel) ⟨by decide, by decide⟩ (by decide) ?_
  exact s_icmp_eq (tgt := 25) (show decode (am_cc m2_isMet) 18 = .ok (.if_icmp .eq 7, 3) by decide +kernel) (by decide) k1 k2
theorem g2_isMet_21 {a1 : Int} {M : am_M} {Q : Option am_V → am_M → Prop} (k : am_AtN m2_isMet 26 [some (vr 66), some (vi a1)] [vi 1] KS M Q) : am_AtN m2_isMet 21 [some (vr 66), some (vi a1)] [] KS M Q := by
  refine s_iconst (show decode (am_cc m2_isMet) 21 = .ok (.iconst 1, 1) by decide +kernel) ⟨by decide, by decide⟩ ?_
  refine s_goto (tgt := 26) (show decode (am_cc m2_isMet) 22 = .ok (.goto 4, 3) by decide +kernel) (by decide) ?_
  exact k
theorem g2_isMet_25 {a1 : Int} {M : am_M} {Q : Option am_V → am_M → Prop} (k : am_AtN m2_isMet 26 [some (vr 66), some (vi a1)] [vi 0] KS M Q) : am_AtN m2_isMet 25 [some (vr 66), some (vi a1)] [] KS M Q := by
  refine s_iconst (show decode (am_cc m2_isMet) 25 = .ok (.iconst 0, 1) by decide +kernel) ⟨by decide, by decide⟩ ?_
  exact k
theorem g2_isMet_26 {a1 t0 : Int} {M : am_M} {Q : Option am_V → am_M → Prop} (h1 : t0 = 0 ∨ t0 = 1) (k : Q (some (vi t0)) M) : am_AtN m2_isMet 26 [some (vr 66), some (vi a1)] [vi t0] KS M Q := by
  exact s_zreturn (show decode (am_cc m2_isMet) 26 = .ok (.ireturn, 1) by decide +kernel) rfl h1 k
theorem g2_metByNumber_0 {a1 : Int} {M : am_M} {Q : Option am_V → am_M → Prop} (k : am_CallN m8_within [vi a1, vi (M 66 2)] KS M (fun r M' => am_AtN m2_metByNumber 8 [some (vr 66), some (vi a1), none, none] (r.toList ++ []) KS M' Q)) : am_AtN m2_metByNumber 0 [some (vr 66), some (vi a1), none, none] [] KS M Q := by
  refine s_iload_n (show decode (am_cc m2_metByNumber) 0 = .ok (.iload_n 1, 1) by decide +kernel) rfl ?_
  refine s_aload_n (show decode (am_cc m2_metByNumber) 1 = .ok (.aload_n 0, 1) by decide +kernel) rfl ?_
  refine s_getf (k := 2) (v := vi (M 66 2)) (show decode (am_cc m2_metByNumber) 2 = .ok (.getfield 18, 3) by decide +kernel) kd66 (by decide) rfl jnX2 (by decide) lf_RX2_18 rfl ?_
  exact n_callN (as := [vi a1, vi (M 66 2)]) (stk := []) (show decode (am_cc m2_metByNumber) 5 = .ok (.invokestatic 53, 3) by decide +kernel) lk_RX2_53 (by decide) (Nat.le_of_ble_eq_true rfl) ⟨rfl, rfl⟩ k
theorem g2_metByNumber_8 {a1 t0 : Int} {M : am_M} {Q : Option am_V → am_M → Prop} (k1 : ¬ t0 = 0 → am_AtN m2_metByNumber 14 [some (vr 66), some (vi a1), none, none] [] KS M Q) (k2 : t0 = 0 → am_AtN m2_metByNumber 11 [some (vr 66), some (vi a1), none, none] [] KS M Q) : am_AtN m2_metByNumber 8 [some (vr 66), some (vi a1), none, none] [vi t0] KS M Q := by
  exact s_if_ne (tgt := 14) (show decode (am_cc m2_metByNumber) 8 = .ok (.ifCond .ne 6, 3) by decide +kernel) (by decide) k1 k2
theorem g2_metByNumber_11 {a1 : Int} {M : am_M} {Q : Option am_V → am_M → Prop} (k : Q (some (vi (-9))) M) : am_AtN m2_metByNumber 11 [some (vr 66), some (vi a1), none, none] [] KS M Q := by
  refine s_bipush (show decode (am_cc m2_metByNumber) 11 = .ok (.bipush (-9), 2) by decide +kernel) ⟨by decide, by decide⟩ (by decide) ?_
  exact s_ireturn (show decode (am_cc m2_metByNumber) 13 = .ok (.ireturn, 1) by decide +kernel) rfl k
theorem g2_metByNumber_14 {a1 : Int} {M : am_M} {Q : Option am_V → am_M → Prop} (k : am_AtN m2_metByNumber 18 [some (vr 66), some (vi a1), some (vi a1), some (vi 0)] [] KS M Q) : am_AtN m2_metByNumber 14 [some (vr 66), some (vi a1), none, none] [] KS M Q := by
  refine s_iload_n (show decode (am_cc m2_metByNumber) 14 = .ok (.iload_n 1, 1) by decide +kernel) rfl ?_
  refine s_istore_n (show decode (am_cc m2_metByNumber) 15 = .ok (.istore_n 2, 1) by decide +kernel) (by decide) ?_
  refine s_iconst (show decode (am_cc m2_metByNumber) 16 = .ok (.iconst 0, 1) by decide +kernel) ⟨by decide, by decide⟩ ?_
  refine s_istore_n (show decode (am_cc m2_metByNumber) 17 = .ok (.istore_n 3, 1) by decide +kernel) (by decide) ?_
  exact k
theorem g2_metByNumber_18 {a1 a2 a3 : Int} {M : am_M} {Q : Option am_V → am_M → Prop} (k1 : 1296 ≤ a3 → am_AtN m2_metByNumber 54 [some (vr 66), some (vi a1), some (vi a2), some (vi a3)] [] KS M Q) (k2 : ¬ (1296 ≤ a3) → am_AtN m2_metByNumber 25 [some (vr 66), some (vi a1), some (vi a2), some (vi a3)] [] KS M Q) : am_AtN m2_metByNumber 18 [some (vr 66), some (vi a1), some (vi a2), some (vi a3)] [] KS M Q := by
  refine s_iload_n (show decode (am_cc m2_metByNumber) 18 = .ok (.iload_n 3, 1) by decide +kernel) rfl ?_
  refine s_sipush (show decode (am_cc m2_metByNumber) 19 = .ok (.sipush 1296, 3) by decide +kernel) ⟨by decide, by decide⟩ (by decide) ?_
  exact s_icmp_ge (tgt := 54) (show decode (am_cc m2_metByNumber) 22 = .ok (.if_icmp .ge 32, 3) by decide +kernel) (by decide) k1 k2
theorem g2_metByNumber_25 {a1 a2 a3 : Int} {M : am_M} {Q : Option am_V → am_M → Prop} (h1 : 0 ≤ a3) (h2 : a3 < 1296) (k1 : ¬ M 67 a3 = -2 → am_AtN m2_metByNumber 39 [some (vr 66), some (vi a1), some (vi a2), some (vi a3)] [] KS M Q) (k2 : M 67 a3 = -2 → am_AtN m2_metByNumber 36 [some (vr 66), some (vi a1), some (vi a2), some (vi a3)] [] KS M Q) : am_AtN m2_metByNumber 25 [some (vr 66), some (vi a1), some (vi a2), some (vi a3)] [] KS M Q := by
  refine s_aload_n (show decode (am_cc m2_metByNumber) 25 = .ok (.aload_n 0, 1) by decide +kernel) rfl ?_
  refine s_getf (k := 0) (v := vr 67) (show decode (am_cc m2_metByNumber) 26 = .ok (.getfield 9, 3) by decide +kernel) kd66 (by decide) rfl jnX2 (by decide) lf_RX2_9 rfl ?_
  refine s_iload_n (show decode (am_cc m2_metByNumber) 29 = .ok (.iload_n 3, 1) by decide +kernel) rfl ?_
  refine s_iaload (show decode (am_cc m2_metByNumber) 30 = .ok (.iaload, 1) by decide +kernel) kd67 h1 h2 ?_
  refine s_bipush (show decode (am_cc m2_metByNumber) 31 = .ok (.bipush (-2), 2) by decide +kernel) ⟨by decide, by decide⟩ (by decide) ?_
  exact s_icmp_ne (tgt := 39) (show decode (am_cc m2_metByNumber) 33 = .ok (.if_icmp .ne 6, 3) by decide +kernel) (by decide) k1 k2
theorem g2_metByNumber_36 {a1 a2 a3 : Int} {M : am_M} {Q : Option am_V → am_M → Prop} (k : am_AtN m2_metByNumber 48 [some (vr 66), some (vi a1), some (vi a2), some (vi a3)] [] KS M Q) : am_AtN m2_metByNumber 36 [some (vr 66), some (vi a1), some (vi a2), some (vi a3)] [] KS M Q := by
  refine s_goto (tgt := 48) (show decode (am_cc m2_metByNumber) 36 = .ok (.goto 12, 3) by decide +kernel) (by decide) ?_
  exact k
theorem g2_metByNumber_39 {a1 a2 a3 : Int} {M : am_M} {Q : Option am_V → am_M → Prop} (k1 : ¬ a2 = 0 → am_AtN m2_metByNumber 45 [some (vr 66), some (vi a1), some (vi a2), some (vi a3)] [] KS M Q) (k2 : a2 = 0 → am_AtN m2_metByNumber 43 [some (vr 66), some (vi a1), some (vi a2), some (vi a3)] [] KS M Q) : am_AtN m2_metByNumber 39 [some (vr 66), some (vi a1), some (vi a2), some (vi a3)] [] KS M Q := by
  refine s_iload_n (show decode (am_cc m2_metByNumber) 39 = .ok (.iload_n 2, 1) by decide +kernel) rfl ?_
  exact s_if_ne (tgt := 45) (show decode (am_cc m2_metByNumber) 40 = .ok (.ifCond .ne 5, 3) by decide +kernel) (by decide) k1 k2
theorem g2_metByNumber_43 {a1 a2 a3 : Int} {M : am_M} {Q : Option am_V → am_M → Prop} (k : Q (some (vi a3)) M) : am_AtN m2_metByNumber 43 [some (vr 66), some (vi a1), some (vi a2), some (vi a3)] [] KS M Q := by
  refine s_iload_n (show decode (am_cc m2_metByNumber) 43 = .ok (.iload_n 3, 1) by decide +kernel) rfl ?_
  exact s_ireturn (show decode (am_cc m2_metByNumber) 44 = .ok (.ireturn, 1) by decide +kernel) rfl k
theorem g2_metByNumber_45 {a1 a2 a3 : Int} {M : am_M} {Q : Option am_V → am_M → Prop} (h1 : -2147483648 ≤ a2 + (-1) ∧ a2 + (-1) ≤ 2147483647) (k : am_AtN m2_metByNumber 48 [some (vr 66), some (vi a1), some (vi (a2 + (-1))), some (vi a3)] [] KS M Q) : am_AtN m2_metByNumber 45 [some (vr 66), some (vi a1), some (vi a2), some (vi a3)] [] KS M Q := by
  refine s_iinc (show decode (am_cc m2_metByNumber) 45 = .ok (.iinc 2 (-1), 3) by decide +kernel) rfl (by decide) h1 ?_
  exact k
theorem g2_metByNumber_48 {a1 a2 a3 : Int} {M : am_M} {Q : Option am_V → am_M → Prop} (h1 : -2147483648 ≤ a3 + 1 ∧ a3 + 1 ≤ 2147483647) (k : am_AtN m2_metByNumber 18 [some (vr 66), some (vi a1), some (vi a2), some (vi (a3 + 1))] [] KS M Q) : am_AtN m2_metByNumber 48 [some (vr 66), some (vi a1), some (vi a2), some (vi a3)] [] KS M Q := by
  refine s_iinc (show decode (am_cc m2_metByNumber) 48 = .ok (.iinc 3 1, 3) by decide +kernel) rfl (by decide) h1 ?_
  refine s_goto (tgt := 18) (show decode (am_cc m2_metByNumber) 51 = .ok (.goto (-33), 3) by decide +kernel) (by decide) ?_
  exact k
theorem g2_metByNumber_54 {a1 a2 a3 : Int} {M : am_M} {Q : Option am_V → am_M → Prop} (k : Q (some (vi (-9))) M) : am_AtN m2_metByNumber 54 [some (vr 66), some (vi a1), some (vi a2), some (vi a3)] [] KS M Q := by
  refine s_bipush (show decode (am_cc m2_metByNumber) 54 = .ok (.bipush (-9), 2) by decide +kernel) ⟨by decide, by decide⟩ (by decide) ?_
  exact s_ireturn (show decode (am_cc m2_metByNumber) 56 = .ok (.ireturn, 1) by decide +kernel) rfl k
theorem g2_firstBad_0 {M : am_M} {Q : Option am_V → am_M → Prop} (k : am_AtN m2_firstBad 2 [some (vr 66), some (vi 0)] [] KS M Q) : am_AtN m2_firstBad 0 [some (vr 66), none] [] KS M Q := by
  refine s_iconst (show decode (am_cc m2_firstBad) 0 = .ok (.iconst 0, 1) by decide +kernel) ⟨by decide, by decide⟩ ?_
  refine s_istore_n (show decode (am_cc m2_firstBad) 1 = .ok (.istore_n 1, 1) by decide +kernel) (by decide) ?_
  exact k
theorem g2_firstBad_2 {a1 : Int} {M : am_M} {Q : Option am_V → am_M → Prop} (k1 : M 66 2 ≤ a1 → am_AtN m2_firstBad 43 [some (vr 66), some (vi a1)] [] KS M Q) (k2 : ¬ (M 66 2 ≤ a1) → am_AtN m2_firstBad 10 [some (vr 66), some (vi a1)] [] KS M Q) : am_AtN m2_firstBad 2 [some (vr 66), some (vi a1)] [] KS M Q := by
  refine s_iload_n (show decode (am_cc m2_firstBad) 2 = .ok (.iload_n 1, 1) by decide +kernel) rfl ?_
  refine s_aload_n (show decode (am_cc m2_firstBad) 3 = .ok (.aload_n 0, 1) by decide +kernel) rfl ?_
  refine s_getf (k := 2) (v := vi (M 66 2)) (show decode (am_cc m2_firstBad) 4 = .ok (.getfield 18, 3) by decide +kernel) kd66 (by decide) rfl jnX2 (by decide) lf_RX2_18 rfl ?_
  exact s_icmp_ge (tgt := 43) (show decode (am_cc m2_firstBad) 7 = .ok (.if_icmp .ge 36, 3) by decide +kernel) (by decide) k1 k2
theorem g2_firstBad_10 {a1 : Int} {M : am_M} {Q : Option am_V → am_M → Prop} (k1 : 1296 ≤ a1 → am_AtN m2_firstBad 43 [some (vr 66), some (vi a1)] [] KS M Q) (k2 : ¬ (1296 ≤ a1) → am_AtN m2_firstBad 17 [some (vr 66), some (vi a1)] [] KS M Q) : am_AtN m2_firstBad 10 [some (vr 66), some (vi a1)] [] KS M Q := by
  refine s_iload_n (show decode (am_cc m2_firstBad) 10 = .ok (.iload_n 1, 1) by decide +kernel) rfl ?_
  refine s_sipush (show decode (am_cc m2_firstBad) 11 = .ok (.sipush 1296, 3) by decide +kernel) ⟨by decide, by decide⟩ (by decide) ?_
  exact s_icmp_ge (tgt := 43) (show decode (am_cc m2_firstBad) 14 = .ok (.if_icmp .ge 29, 3) by decide +kernel) (by decide) k1 k2
theorem g2_firstBad_17 {a1 : Int} {M : am_M} {Q : Option am_V → am_M → Prop} (h1 : 0 ≤ a1) (h2 : a1 < 1296) (k : am_CallN m2_isBad [vr 66, vi (M 68 a1)] KS M (fun r M' => am_AtN m2_firstBad 27 [some (vr 66), some (vi a1)] (r.toList ++ []) KS M' Q)) : am_AtN m2_firstBad 17 [some (vr 66), some (vi a1)] [] KS M Q := by
  refine s_aload_n (show decode (am_cc m2_firstBad) 17 = .ok (.aload_n 0, 1) by decide +kernel) rfl ?_
  refine s_aload_n (show decode (am_cc m2_firstBad) 18 = .ok (.aload_n 0, 1) by decide +kernel) rfl ?_
  refine s_getf (k := 1) (v := vr 68) (show decode (am_cc m2_firstBad) 19 = .ok (.getfield 15, 3) by decide +kernel) kd66 (by decide) rfl jnX2 (by decide) lf_RX2_15 rfl ?_
  refine s_iload_n (show decode (am_cc m2_firstBad) 22 = .ok (.iload_n 1, 1) by decide +kernel) rfl ?_
  refine s_iaload (show decode (am_cc m2_firstBad) 23 = .ok (.iaload, 1) by decide +kernel) kd68 h1 h2 ?_
  exact n_callV (as := [vi (M 68 a1)]) (stk := []) (show decode (am_cc m2_firstBad) 24 = .ok (.invokevirtual 57, 3) by decide +kernel) lk_RX2_57 kd66 (by decide) rfl rfl (by decide) (Nat.le_of_ble_eq_true rfl) ⟨rfl, rfl⟩ k
theorem g2_firstBad_27 {a1 t0 : Int} {M : am_M} {Q : Option am_V → am_M → Prop} (k1 : t0 = 0 → am_AtN m2_firstBad 37 [some (vr 66), some (vi a1)] [] KS M Q) (k2 : ¬ (t0 = 0) → am_AtN m2_firstBad 30 [some (vr 66), some (vi a1)] [] KS M Q) : am_AtN m2_firstBad 27 [some (vr 66), some (vi a1)] [vi t0] KS M Q := by
  exact s_if_eq (tgt := 37) (show decode (am_cc m2_firstBad) 27 = .ok (.ifCond .eq 10, 3) by decide +kernel) (by decide) k1 k2
theorem g2_firstBad_30 {a1 : Int} {M : am_M} {Q : Option am_V → am_M → Prop} (h1 : 0 ≤ a1) (h2 : a1 < 1296) (k : Q (some (vi (M 68 a1))) M) : am_AtN m2_firstBad 30 [some (vr 66), some (vi a1)] [] KS M Q := by
  refine s_aload_n (show decode (am_cc m2_firstBad) 30 = .ok (.aload_n 0, 1) by decide +kernel) rfl ?_
  refine s_getf (k := 1) (v := vr 68) (show decode (am_cc m2_firstBad) 31 = .ok (.getfield 15, 3) by decide +kernel) kd66 (by decide) rfl jnX2 (by decide) lf_RX2_15 rfl ?_
  refine s_iload_n (show decode (am_cc m2_firstBad) 34 = .ok (.iload_n 1, 1) by decide +kernel) rfl ?_
  refine s_iaload (show decode (am_cc m2_firstBad) 35 = .ok (.iaload, 1) by decide +kernel) kd68 h1 h2 ?_
  exact s_ireturn (show decode (am_cc m2_firstBad) 36 = .ok (.ireturn, 1) by decide +kernel) rfl k
theorem g2_firstBad_37 {a1 : Int} {M : am_M} {Q : Option am_V → am_M → Prop} (h1 : -2147483648 ≤ a1 + 1 ∧ a1 + 1 ≤ 2147483647) (k : am_AtN m2_firstBad 2 [some (vr 66), some (vi (a1 + 1))] [] KS M Q) : am_AtN m2_firstBad 37 [some (vr 66), some (vi a1)] [] KS M Q := by
  refine s_iinc (show decode (am_cc m2_firstBad) 37 = .ok (.iinc 1 1, 3) by decide +kernel) rfl (by decide) h1 ?_
  refine s_goto (tgt := 2) (show decode (am_cc m2_firstBad) 40 = .ok (.goto (-38), 3) by decide +kernel) (by decide) ?_
  exact k
theorem g2_firstBad_43 {a1 : Int} {M : am_M} {Q : Option am_V → am_M → Prop} (k : Q (some (vi (-9))) M) : am_AtN m2_firstBad 43 [some (vr 66), some (vi a1)] [] KS M Q := by
  refine s_bipush (show decode (am_cc m2_firstBad) 43 = .ok (.bipush (-9), 2) by decide +kernel) ⟨by decide, by decide⟩ (by decide) ?_
  exact s_ireturn (show decode (am_cc m2_firstBad) 45 = .ok (.ireturn, 1) by decide +kernel) rfl k
theorem g2_pictureAt_0 {a1 : Int} {M : am_M} {Q : Option am_V → am_M → Prop} (k : am_CallN m2_firstBad [vr 66] KS M (fun r M' => am_AtN m2_pictureAt 4 [some (vr 66), some (vi a1), none, none, none, none] (r.toList ++ []) KS M' Q)) : am_AtN m2_pictureAt 0 [some (vr 66), some (vi a1), none, none, none, none] [] KS M Q := by
  refine s_aload_n (show decode (am_cc m2_pictureAt) 0 = .ok (.aload_n 0, 1) by decide +kernel) rfl ?_
  exact n_callV (as := []) (stk := []) (show decode (am_cc m2_pictureAt) 1 = .ok (.invokevirtual 61, 3) by decide +kernel) lk_RX2_61 kd66 (by decide) rfl rfl (by decide) (Nat.le_of_ble_eq_true rfl) ⟨rfl, rfl⟩ k
theorem g2_pictureAt_4 {a1 t0 : Int} {M : am_M} {Q : Option am_V → am_M → Prop} (k1 : ¬ t0 = -9 → am_AtN m2_pictureAt 14 [some (vr 66), some (vi a1), some (vi t0), none, none, none] [] KS M Q) (k2 : t0 = -9 → am_AtN m2_pictureAt 11 [some (vr 66), some (vi a1), some (vi t0), none, none, none] [] KS M Q) : am_AtN m2_pictureAt 4 [some (vr 66), some (vi a1), none, none, none, none] [vi t0] KS M Q := by
  refine s_istore_n (show decode (am_cc m2_pictureAt) 4 = .ok (.istore_n 2, 1) by decide +kernel) (by decide) ?_
  refine s_iload_n (show decode (am_cc m2_pictureAt) 5 = .ok (.iload_n 2, 1) by decide +kernel) rfl ?_
  refine s_bipush (show decode (am_cc m2_pictureAt) 6 = .ok (.bipush (-9), 2) by decide +kernel) ⟨by decide, by decide⟩ (by decide) ?_
  exact s_icmp_ne (tgt := 14) (show decode (am_cc m2_pictureAt) 8 = .ok (.if_icmp .ne 6, 3) by decide +kernel) (by decide) k1 k2
theorem g2_pictureAt_11 {a1 a2 : Int} {M : am_M} {Q : Option am_V → am_M → Prop} (k : Q (some (vi (-9))) M) : am_AtN m2_pictureAt 11 [some (vr 66), some (vi a1), some (vi a2), none, none, none] [] KS M Q := by
  refine s_bipush (show decode (am_cc m2_pictureAt) 11 = .ok (.bipush (-9), 2) by decide +kernel) ⟨by decide, by decide⟩ (by decide) ?_
  exact s_ireturn (show decode (am_cc m2_pictureAt) 13 = .ok (.ireturn, 1) by decide +kernel) rfl k
theorem g2_pictureAt_14 {a1 a2 : Int} {M : am_M} {Q : Option am_V → am_M → Prop} (k : am_CallN m2_wayLength [vr 66, vi a2] KS M (fun r M' => am_AtN m2_pictureAt 19 [some (vr 66), some (vi a1), some (vi a2), none, none, none] (r.toList ++ []) KS M' Q)) : am_AtN m2_pictureAt 14 [some (vr 66), some (vi a1), some (vi a2), none, none, none] [] KS M Q := by
  refine s_aload_n (show decode (am_cc m2_pictureAt) 14 = .ok (.aload_n 0, 1) by decide +kernel) rfl ?_
  refine s_iload_n (show decode (am_cc m2_pictureAt) 15 = .ok (.iload_n 2, 1) by decide +kernel) rfl ?_
  exact n_callV (as := [vi a2]) (stk := []) (show decode (am_cc m2_pictureAt) 16 = .ok (.invokevirtual 65, 3) by decide +kernel) lk_RX2_65 kd66 (by decide) rfl rfl (by decide) (Nat.le_of_ble_eq_true rfl) ⟨rfl, rfl⟩ k
theorem g2_pictureAt_19 {a1 a2 t0 : Int} {M : am_M} {Q : Option am_V → am_M → Prop} (k1 : ¬ a1 = -1 → am_AtN m2_pictureAt 27 [some (vr 66), some (vi a1), some (vi a2), some (vi t0), none, none] [] KS M Q) (k2 : a1 = -1 → am_AtN m2_pictureAt 25 [some (vr 66), some (vi a1), some (vi a2), some (vi t0), none, none] [] KS M Q) : am_AtN m2_pictureAt 19 [some (vr 66), some (vi a1), some (vi a2), none, none, none] [vi t0] KS M Q := by
  refine s_istore_n (show decode (am_cc m2_pictureAt) 19 = .ok (.istore_n 3, 1) by decide +kernel) (by decide) ?_
  refine s_iload_n (show decode (am_cc m2_pictureAt) 20 = .ok (.iload_n 1, 1) by decide +kernel) rfl ?_
  refine s_iconst (show decode (am_cc m2_pictureAt) 21 = .ok (.iconst (-1), 1) by decide +kernel) ⟨by decide, by decide⟩ ?_
  exact s_icmp_ne (tgt := 27) (show decode (am_cc m2_pictureAt) 22 = .ok (.if_icmp .ne 5, 3) by decide +kernel) (by decide) k1 k2
theorem g2_pictureAt_25 {a1 a2 a3 : Int} {M : am_M} {Q : Option am_V → am_M → Prop} (k : Q (some (vi a3)) M) : am_AtN m2_pictureAt 25 [some (vr 66), some (vi a1), some (vi a2), some (vi a3), none, none] [] KS M Q := by
  refine s_iload_n (show decode (am_cc m2_pictureAt) 25 = .ok (.iload_n 3, 1) by decide +kernel) rfl ?_
  exact s_ireturn (show decode (am_cc m2_pictureAt) 26 = .ok (.ireturn, 1) by decide +kernel) rfl k
theorem g2_pictureAt_27 {a1 a2 a3 : Int} {M : am_M} {Q : Option am_V → am_M → Prop} (k : am_CallN m8_within [vi a1, vi a3] KS M (fun r M' => am_AtN m2_pictureAt 32 [some (vr 66), some (vi a1), some (vi a2), some (vi a3), none, none] (r.toList ++ []) KS M' Q)) : am_AtN m2_pictureAt 27 [some (vr 66), some (vi a1), some (vi a2), some (vi a3), none, none] [] KS M Q := by
  refine s_iload_n (show decode (am_cc m2_pictureAt) 27 = .ok (.iload_n 1, 1) by decide +kernel) rfl ?_
  refine s_iload_n (show decode (am_cc m2_pictureAt) 28 = .ok (.iload_n 3, 1) by decide +kernel) rfl ?_
  exact n_callN (as := [vi a1, vi a3]) (stk := []) (show decode (am_cc m2_pictureAt) 29 = .ok (.invokestatic 53, 3) by decide +kernel) lk_RX2_53 (by decide) (Nat.le_of_ble_eq_true rfl) ⟨rfl, rfl⟩ k
theorem g2_pictureAt_32 {a1 a2 a3 t0 : Int} {M : am_M} {Q : Option am_V → am_M → Prop} (k1 : ¬ t0 = 0 → am_AtN m2_pictureAt 38 [some (vr 66), some (vi a1), some (vi a2), some (vi a3), none, none] [] KS M Q) (k2 : t0 = 0 → am_AtN m2_pictureAt 35 [some (vr 66), some (vi a1), some (vi a2), some (vi a3), none, none] [] KS M Q) : am_AtN m2_pictureAt 32 [some (vr 66), some (vi a1), some (vi a2), some (vi a3), none, none] [vi t0] KS M Q := by
  exact s_if_ne (tgt := 38) (show decode (am_cc m2_pictureAt) 32 = .ok (.ifCond .ne 6, 3) by decide +kernel) (by decide) k1 k2
theorem g2_pictureAt_35 {a1 a2 a3 : Int} {M : am_M} {Q : Option am_V → am_M → Prop} (k : Q (some (vi (-9))) M) : am_AtN m2_pictureAt 35 [some (vr 66), some (vi a1), some (vi a2), some (vi a3), none, none] [] KS M Q := by
  refine s_bipush (show decode (am_cc m2_pictureAt) 35 = .ok (.bipush (-9), 2) by decide +kernel) ⟨by decide, by decide⟩ (by decide) ?_
  exact s_ireturn (show decode (am_cc m2_pictureAt) 37 = .ok (.ireturn, 1) by decide +kernel) rfl k
theorem g2_pictureAt_38 {a1 a2 a3 : Int} {M : am_M} {Q : Option am_V → am_M → Prop} (h1 : -2147483648 ≤ a3 - 1 ∧ a3 - 1 ≤ 2147483647) (k : am_AtN m2_pictureAt 46 [some (vr 66), some (vi a1), some (vi a2), some (vi a3), some (vi a2), some (vi (a3 - 1))] [] KS M Q) : am_AtN m2_pictureAt 38 [some (vr 66), some (vi a1), some (vi a2), some (vi a3), none, none] [] KS M Q := by
  refine s_iload_n (show decode (am_cc m2_pictureAt) 38 = .ok (.iload_n 2, 1) by decide +kernel) rfl ?_
  refine s_istore (show decode (am_cc m2_pictureAt) 39 = .ok (.istore 4, 2) by decide +kernel) (by decide) ?_
  refine s_iload_n (show decode (am_cc m2_pictureAt) 41 = .ok (.iload_n 3, 1) by decide +kernel) rfl ?_
  refine s_iconst (show decode (am_cc m2_pictureAt) 42 = .ok (.iconst 1, 1) by decide +kernel) ⟨by decide, by decide⟩ ?_
  refine s_isub (show decode (am_cc m2_pictureAt) 43 = .ok (.isub, 1) by decide +kernel) h1 ?_
  refine s_istore (show decode (am_cc m2_pictureAt) 44 = .ok (.istore 5, 2) by decide +kernel) (by decide) ?_
  exact k
theorem g2_pictureAt_46 {a1 a2 a3 a4 a5 : Int} {M : am_M} {Q : Option am_V → am_M → Prop} (k1 : a5 ≤ a1 → am_AtN m2_pictureAt 68 [some (vr 66), some (vi a1), some (vi a2), some (vi a3), some (vi a4), some (vi a5)] [] KS M Q) (k2 : ¬ (a5 ≤ a1) → am_AtN m2_pictureAt 52 [some (vr 66), some (vi a1), some (vi a2), some (vi a3), some (vi a4), some (vi a5)] [] KS M Q) : am_AtN m2_pictureAt 46 [some (vr 66), some (vi a1), some (vi a2), some (vi a3), some (vi a4), some (vi a5)] [] KS M Q := by
  refine s_iload (show decode (am_cc m2_pictureAt) 46 = .ok (.iload 5, 2) by decide +kernel) rfl ?_
  refine s_iload_n (show decode (am_cc m2_pictureAt) 48 = .ok (.iload_n 1, 1) by decide +kernel) rfl ?_
  exact s_icmp_le (tgt := 68) (show decode (am_cc m2_pictureAt) 49 = .ok (.if_icmp .le 19, 3) by decide +kernel) (by decide) k1 k2
theorem g2_pictureAt_52 {a1 a2 a3 a4 a5 : Int} {M : am_M} {Q : Option am_V → am_M → Prop} (k : am_CallN m2_wayTo [vr 66, vi a4] KS M (fun r M' => am_AtN m2_pictureAt 58 [some (vr 66), some (vi a1), some (vi a2), some (vi a3), some (vi a4), some (vi a5)] (r.toList ++ []) KS M' Q)) : am_AtN m2_pictureAt 52 [some (vr 66), some (vi a1), some (vi a2), some (vi a3), some (vi a4), some (vi a5)] [] KS M Q := by
  refine s_aload_n (show decode (am_cc m2_pictureAt) 52 = .ok (.aload_n 0, 1) by decide +kernel) rfl ?_
  refine s_iload (show decode (am_cc m2_pictureAt) 53 = .ok (.iload 4, 2) by decide +kernel) rfl ?_
  exact n_callV (as := [vi a4]) (stk := []) (show decode (am_cc m2_pictureAt) 55 = .ok (.invokevirtual 69, 3) by decide +kernel) lk_RX2_69 kd66 (by decide) rfl rfl (by decide) (Nat.le_of_ble_eq_true rfl) ⟨rfl, rfl⟩ k
theorem g2_pictureAt_58 {a1 a2 a3 a4 a5 t0 : Int} {M : am_M} {Q : Option am_V → am_M → Prop} (h1 : 0 ≤ t0) (h2 : -2147483648 ≤ a5 + (-1) ∧ a5 + (-1) ≤ 2147483647) (k : am_AtN m2_pictureAt 46 [some (vr 66), some (vi a1), some (vi a2), some (vi a3), some (vi (t0 / 4)), some (vi (a5 + (-1)))] [] KS M Q) : am_AtN m2_pictureAt 58 [some (vr 66), some (vi a1), some (vi a2), some (vi a3), some (vi a4), some (vi a5)] [vi t0] KS M Q := by
  refine s_iconst (show decode (am_cc m2_pictureAt) 58 = .ok (.iconst 4, 1) by decide +kernel) ⟨by decide, by decide⟩ ?_
  refine s_idiv (show decode (am_cc m2_pictureAt) 59 = .ok (.idiv, 1) by decide +kernel) h1 (by decide) ?_
  refine s_istore (show decode (am_cc m2_pictureAt) 60 = .ok (.istore 4, 2) by decide +kernel) (by decide) ?_
  refine s_iinc (show decode (am_cc m2_pictureAt) 62 = .ok (.iinc 5 (-1), 3) by decide +kernel) rfl (by decide) h2 ?_
  refine s_goto (tgt := 46) (show decode (am_cc m2_pictureAt) 65 = .ok (.goto (-19), 3) by decide +kernel) (by decide) ?_
  exact k
theorem g2_pictureAt_68 {a1 a2 a3 a4 a5 : Int} {M : am_M} {Q : Option am_V → am_M → Prop} (k : am_CallN m2_wayTo [vr 66, vi a4] KS M (fun r M' => am_AtN m2_pictureAt 74 [some (vr 66), some (vi a1), some (vi a2), some (vi a3), some (vi a4), some (vi a5)] (r.toList ++ []) KS M' Q)) : am_AtN m2_pictureAt 68 [some (vr 66), some (vi a1), some (vi a2), some (vi a3), some (vi a4), some (vi a5)] [] KS M Q := by
  refine s_aload_n (show decode (am_cc m2_pictureAt) 68 = .ok (.aload_n 0, 1) by decide +kernel) rfl ?_
  refine s_iload (show decode (am_cc m2_pictureAt) 69 = .ok (.iload 4, 2) by decide +kernel) rfl ?_
  exact n_callV (as := [vi a4]) (stk := []) (show decode (am_cc m2_pictureAt) 71 = .ok (.invokevirtual 69, 3) by decide +kernel) lk_RX2_69 kd66 (by decide) rfl rfl (by decide) (Nat.le_of_ble_eq_true rfl) ⟨rfl, rfl⟩ k
theorem g2_pictureAt_74 {a1 a2 a3 a4 a5 t0 : Int} {M : am_M} {Q : Option am_V → am_M → Prop} (h1 : 0 ≤ t0) (k : Q (some (vi (t0 % 4))) M) : am_AtN m2_pictureAt 74 [some (vr 66), some (vi a1), some (vi a2), some (vi a3), some (vi a4), some (vi a5)] [vi t0] KS M Q := by
  refine s_iconst (show decode (am_cc m2_pictureAt) 74 = .ok (.iconst 4, 1) by decide +kernel) ⟨by decide, by decide⟩ ?_
  refine s_irem (show decode (am_cc m2_pictureAt) 75 = .ok (.irem, 1) by decide +kernel) h1 (by decide) ?_
  exact s_ireturn (show decode (am_cc m2_pictureAt) 76 = .ok (.ireturn, 1) by decide +kernel) rfl k
theorem g2_wayTo_0 {a1 : Int} {M : am_M} {Q : Option am_V → am_M → Prop} (k : am_CallN m8_within [vi a1, vi 1296] KS M (fun r M' => am_AtN m2_wayTo 7 [some (vr 66), some (vi a1)] (r.toList ++ []) KS M' Q)) : am_AtN m2_wayTo 0 [some (vr 66), some (vi a1)] [] KS M Q := by
  refine s_iload_n (show decode (am_cc m2_wayTo) 0 = .ok (.iload_n 1, 1) by decide +kernel) rfl ?_
  refine s_sipush (show decode (am_cc m2_wayTo) 1 = .ok (.sipush 1296, 3) by decide +kernel) ⟨by decide, by decide⟩ (by decide) ?_
  exact n_callN (as := [vi a1, vi 1296]) (stk := []) (show decode (am_cc m2_wayTo) 4 = .ok (.invokestatic 53, 3) by decide +kernel) lk_RX2_53 (by decide) (Nat.le_of_ble_eq_true rfl) ⟨rfl, rfl⟩ k
theorem g2_wayTo_7 {a1 t0 : Int} {M : am_M} {Q : Option am_V → am_M → Prop} (k1 : t0 = 0 → am_AtN m2_wayTo 19 [some (vr 66), some (vi a1)] [] KS M Q) (k2 : ¬ (t0 = 0) → am_AtN m2_wayTo 10 [some (vr 66), some (vi a1)] [] KS M Q) : am_AtN m2_wayTo 7 [some (vr 66), some (vi a1)] [vi t0] KS M Q := by
  exact s_if_eq (tgt := 19) (show decode (am_cc m2_wayTo) 7 = .ok (.ifCond .eq 12, 3) by decide +kernel) (by decide) k1 k2
theorem g2_wayTo_10 {a1 : Int} {M : am_M} {Q : Option am_V → am_M → Prop} (h1 : 0 ≤ a1) (h2 : a1 < 1296) (k : am_AtN m2_wayTo 21 [some (vr 66), some (vi a1)] [vi (M 67 a1)] KS M Q) : am_AtN m2_wayTo 10 [some (vr 66), some (vi a1)] [] KS M Q := by
  refine s_aload_n (show decode (am_cc m2_wayTo) 10 = .ok (.aload_n 0, 1) by decide +kernel) rfl ?_
  refine s_getf (k := 0) (v := vr 67) (show decode (am_cc m2_wayTo) 11 = .ok (.getfield 9, 3) by decide +kernel) kd66 (by decide) rfl jnX2 (by decide) lf_RX2_9 rfl ?_
  refine s_iload_n (show decode (am_cc m2_wayTo) 14 = .ok (.iload_n 1, 1) by decide +kernel) rfl ?_
  refine s_iaload (show decode (am_cc m2_wayTo) 15 = .ok (.iaload, 1) by decide +kernel) kd67 h1 h2 ?_
  refine s_goto (tgt := 21) (show decode (am_cc m2_wayTo) 16 = .ok (.goto 5, 3) by decide +kernel) (by decide) ?_
  exact k
theorem g2_wayTo_19 {a1 : Int} {M : am_M} {Q : Option am_V → am_M → Prop} (k : am_AtN m2_wayTo 21 [some (vr 66), some (vi a1)] [vi (-2)] KS M Q) : am_AtN m2_wayTo 19 [some (vr 66), some (vi a1)] [] KS M Q := by
  refine s_bipush (show decode (am_cc m2_wayTo) 19 = .ok (.bipush (-2), 2) by decide +kernel) ⟨by decide, by decide⟩ (by decide) ?_
  exact k
theorem g2_wayTo_21 {a1 t0 : Int} {M : am_M} {Q : Option am_V → am_M → Prop} (k : Q (some (vi t0)) M) : am_AtN m2_wayTo 21 [some (vr 66), some (vi a1)] [vi t0] KS M Q := by
  exact s_ireturn (show decode (am_cc m2_wayTo) 21 = .ok (.ireturn, 1) by decide +kernel) rfl k
theorem g2_wayLength_0 {a1 : Int} {M : am_M} {Q : Option am_V → am_M → Prop} (k : am_AtN m2_wayLength 4 [some (vr 66), some (vi a1), some (vi a1), some (vi 0), none] [] KS M Q) : am_AtN m2_wayLength 0 [some (vr 66), some (vi a1), none, none, none] [] KS M Q := by
  refine s_iload_n (show decode (am_cc m2_wayLength) 0 = .ok (.iload_n 1, 1) by decide +kernel) rfl ?_
  refine s_istore_n (show decode (am_cc m2_wayLength) 1 = .ok (.istore_n 2, 1) by decide +kernel) (by decide) ?_
  refine s_iconst (show decode (am_cc m2_wayLength) 2 = .ok (.iconst 0, 1) by decide +kernel) ⟨by decide, by decide⟩ ?_
  refine s_istore_n (show decode (am_cc m2_wayLength) 3 = .ok (.istore_n 3, 1) by decide +kernel) (by decide) ?_
  exact k
theorem g2_wayLength_4 {a1 a2 a3 : Int} {M : am_M} {Q : Option am_V → am_M → Prop} (k1 : 1296 ≤ a3 → am_AtN m2_wayLength 36 [some (vr 66), some (vi a1), some (vi a2), some (vi a3), none] [] KS M Q) (k2 : ¬ (1296 ≤ a3) → am_AtN m2_wayLength 11 [some (vr 66), some (vi a1), some (vi a2), some (vi a3), none] [] KS M Q) : am_AtN m2_wayLength 4 [some (vr 66), some (vi a1), some (vi a2), some (vi a3), none] [] KS M Q := by
  refine s_iload_n (show decode (am_cc m2_wayLength) 4 = .ok (.iload_n 3, 1) by decide +kernel) rfl ?_
  refine s_sipush (show decode (am_cc m2_wayLength) 5 = .ok (.sipush 1296, 3) by decide +kernel) ⟨by decide, by decide⟩ (by decide) ?_
  exact s_icmp_ge (tgt := 36) (show decode (am_cc m2_wayLength) 8 = .ok (.if_icmp .ge 28, 3) by decide +kernel) (by decide) k1 k2
theorem g2_wayLength_11 {a1 a2 a3 : Int} {M : am_M} {Q : Option am_V → am_M → Prop} (k : am_CallN m2_wayTo [vr 66, vi a2] KS M (fun r M' => am_AtN m2_wayLength 16 [some (vr 66), some (vi a1), some (vi a2), some (vi a3), none] (r.toList ++ []) KS M' Q)) : am_AtN m2_wayLength 11 [some (vr 66), some (vi a1), some (vi a2), some (vi a3), none] [] KS M Q := by
  refine s_aload_n (show decode (am_cc m2_wayLength) 11 = .ok (.aload_n 0, 1) by decide +kernel) rfl ?_
  refine s_iload_n (show decode (am_cc m2_wayLength) 12 = .ok (.iload_n 2, 1) by decide +kernel) rfl ?_
  exact n_callV (as := [vi a2]) (stk := []) (show decode (am_cc m2_wayLength) 13 = .ok (.invokevirtual 69, 3) by decide +kernel) lk_RX2_69 kd66 (by decide) rfl rfl (by decide) (Nat.le_of_ble_eq_true rfl) ⟨rfl, rfl⟩ k
theorem g2_wayLength_16 {a1 a2 a3 t0 : Int} {M : am_M} {Q : Option am_V → am_M → Prop} (k1 : 0 ≤ t0 → am_AtN m2_wayLength 25 [some (vr 66), some (vi a1), some (vi a2), some (vi a3), some (vi t0)] [] KS M Q) (k2 : ¬ (0 ≤ t0) → am_AtN m2_wayLength 23 [some (vr 66), some (vi a1), some (vi a2), some (vi a3), some (vi t0)] [] KS M Q) : am_AtN m2_wayLength 16 [some (vr 66), some (vi a1), some (vi a2), some (vi a3), none] [vi t0] KS M Q := by
  refine s_istore (show decode (am_cc m2_wayLength) 16 = .ok (.istore 4, 2) by decide +kernel) (by decide) ?_
  refine s_iload (show decode (am_cc m2_wayLength) 18 = .ok (.iload 4, 2) by decide +kernel) rfl ?_
  exact s_if_ge (tgt := 25) (show decode (am_cc m2_wayLength) 20 = .ok (.ifCond .ge 5, 3) by decide +kernel) (by decide) k1 k2
theorem g2_wayLength_23 {a1 a2 a3 a4 : Int} {M : am_M} {Q : Option am_V → am_M → Prop} (k : Q (some (vi a3)) M) : am_AtN m2_wayLength 23 [some (vr 66), some (vi a1), some (vi a2), some (vi a3), some (vi a4)] [] KS M Q := by
  refine s_iload_n (show decode (am_cc m2_wayLength) 23 = .ok (.iload_n 3, 1) by decide +kernel) rfl ?_
  exact s_ireturn (show decode (am_cc m2_wayLength) 24 = .ok (.ireturn, 1) by decide +kernel) rfl k
theorem g2_wayLength_25 {a1 a2 a3 a4 : Int} {M : am_M} {Q : Option am_V → am_M → Prop} (h1 : 0 ≤ a4) (h2 : -2147483648 ≤ a3 + 1 ∧ a3 + 1 ≤ 2147483647) (k : am_AtN m2_wayLength 4 [some (vr 66), some (vi a1), some (vi (a4 / 4)), some (vi (a3 + 1)), none] [] KS M Q) : am_AtN m2_wayLength 25 [some (vr 66), some (vi a1), some (vi a2), some (vi a3), some (vi a4)] [] KS M Q := by
  refine s_iload (show decode (am_cc m2_wayLength) 25 = .ok (.iload 4, 2) by decide +kernel) rfl ?_
  refine s_iconst (show decode (am_cc m2_wayLength) 27 = .ok (.iconst 4, 1) by decide +kernel) ⟨by decide, by decide⟩ ?_
  refine s_idiv (show decode (am_cc m2_wayLength) 28 = .ok (.idiv, 1) by decide +kernel) h1 (by decide) ?_
  refine s_istore_n (show decode (am_cc m2_wayLength) 29 = .ok (.istore_n 2, 1) by decide +kernel) (by decide) ?_
  refine s_iinc (show decode (am_cc m2_wayLength) 30 = .ok (.iinc 3 1, 3) by decide +kernel) rfl (by decide) h2 ?_
  refine s_goto (tgt := 4) (show decode (am_cc m2_wayLength) 33 = .ok (.goto (-29), 3) by decide +kernel) (by decide) ?_
  refine am_fg 4 ?_
  exact k
theorem g2_wayLength_36 {a1 a2 a3 : Int} {M : am_M} {Q : Option am_V → am_M → Prop} (k : Q (some (vi 1296)) M) : am_AtN m2_wayLength 36 [some (vr 66), some (vi a1), some (vi a2), some (vi a3), none] [] KS M Q := by
  refine s_sipush (show decode (am_cc m2_wayLength) 36 = .ok (.sipush 1296, 3) by decide +kernel) ⟨by decide, by decide⟩ (by decide) ?_
  exact s_ireturn (show decode (am_cc m2_wayLength) 39 = .ok (.ireturn, 1) by decide +kernel) rfl k
theorem g2_firstFault_0 {a1 : Int} {M : am_M} {Q : Option am_V → am_M → Prop} (k1 : a1 = -1 → am_AtN m2_firstFault 18 [some (vr 66), some (vr a1), none] [] KS M Q) (k2 : ¬ a1 = -1 → am_AtN m2_firstFault 4 [some (vr 66), some (vr a1), none] [] KS M Q) : am_AtN m2_firstFault 0 [some (vr 66), some (vr a1), none] [] KS M Q := by
  refine s_aload_n (show decode (am_cc m2_firstFault) 0 = .ok (.aload_n 1, 1) by decide +kernel) rfl ?_
  exact s_ifnull (tgt := 18) (show decode (am_cc m2_firstFault) 1 = .ok (.ifnull 17, 3) by decide +kernel) (by decide) k1 k2
theorem g2_firstFault_4 {a1 : Int} {M : am_M} {Q : Option am_V → am_M → Prop} {n0 : Nat} {q0 : List Int} (h1 : am_kd KS a1 = some (11, n0, q0)) (h2 : -2147483648 ≤ (n0 : Int) ∧ (n0 : Int) ≤ 2147483647) (k1 : ¬ (n0 : Int) = 1296 → am_AtN m2_firstFault 18 [some (vr 66), some (vr a1), none] [] KS M Q) (k2 : (n0 : Int) = 1296 → am_AtN m2_firstFault 12 [some (vr 66), some (vr a1), none] [] KS M Q) : am_AtN m2_firstFault 4 [some (vr 66), some (vr a1), none] [] KS M Q := by
  refine s_aload_n (show decode (am_cc m2_firstFault) 4 = .ok (.aload_n 1, 1) by decide +kernel) rfl ?_
  refine s_alen (show decode (am_cc m2_firstFault) 5 = .ok (.arraylength, 1) by decide +kernel) h1 rfl h2 ?_
  refine s_sipush (show decode (am_cc m2_firstFault) 6 = .ok (.sipush 1296, 3) by decide +kernel) ⟨by decide, by decide⟩ (by decide) ?_
  exact s_icmp_ne (tgt := 18) (show decode (am_cc m2_firstFault) 9 = .ok (.if_icmp .ne 9, 3) by decide +kernel) (by decide) k1 k2
theorem g2_firstFault_12 {a1 : Int} {M : am_M} {Q : Option am_V → am_M → Prop} {n0 : Nat} {q0 : List Int} (h1 : am_kd KS a1 = some (11, n0, q0)) (h2 : 0 < (n0 : Int)) (k1 : ¬ M a1 0 = 0 → am_AtN m2_firstFault 20 [some (vr 66), some (vr a1), none] [] KS M Q) (k2 : M a1 0 = 0 → am_AtN m2_firstFault 18 [some (vr 66), some (vr a1), none] [] KS M Q) : am_AtN m2_firstFault 12 [some (vr 66), some (vr a1), none] [] KS M Q := by
  refine s_aload_n (show decode (am_cc m2_firstFault) 12 = .ok (.aload_n 1, 1) by decide +kernel) rfl ?_
  refine s_iconst (show decode (am_cc m2_firstFault) 13 = .ok (.iconst 0, 1) by decide +kernel) ⟨by decide, by decide⟩ ?_
  refine s_iaload (show decode (am_cc m2_firstFault) 14 = .ok (.iaload, 1) by decide +kernel) h1 (by decide) h2 ?_
  exact s_if_ne (tgt := 20) (show decode (am_cc m2_firstFault) 15 = .ok (.ifCond .ne 5, 3) by decide +kernel) (by decide) k1 k2
theorem g2_firstFault_18 {a1 : Int} {M : am_M} {Q : Option am_V → am_M → Prop} (k : Q (some (vi 1)) M) : am_AtN m2_firstFault 18 [some (vr 66), some (vr a1), none] [] KS M Q := by
  refine s_iconst (show decode (am_cc m2_firstFault) 18 = .ok (.iconst 1, 1) by decide +kernel) ⟨by decide, by decide⟩ ?_
  exact s_ireturn (show decode (am_cc m2_firstFault) 19 = .ok (.ireturn, 1) by decide +kernel) rfl k
theorem g2_firstFault_20 {a1 : Int} {M : am_M} {Q : Option am_V → am_M → Prop} (k : am_AtN m2_firstFault 22 [some (vr 66), some (vr a1), some (vi 0)] [] KS M Q) : am_AtN m2_firstFault 20 [some (vr 66), some (vr a1), none] [] KS M Q := by
  refine s_iconst (show decode (am_cc m2_firstFault) 20 = .ok (.iconst 0, 1) by decide +kernel) ⟨by decide, by decide⟩ ?_
  refine s_istore_n (show decode (am_cc m2_firstFault) 21 = .ok (.istore_n 2, 1) by decide +kernel) (by decide) ?_
  exact k
theorem g2_firstFault_22 {a1 a2 : Int} {M : am_M} {Q : Option am_V → am_M → Prop} (k1 : 1296 ≤ a2 → am_AtN m2_firstFault 53 [some (vr 66), some (vr a1), some (vi a2)] [] KS M Q) (k2 : ¬ (1296 ≤ a2) → am_AtN m2_firstFault 29 [some (vr 66), some (vr a1), some (vi a2)] [] KS M Q) : am_AtN m2_firstFault 22 [some (vr 66), some (vr a1), some (vi a2)] [] KS M Q := by
  refine s_iload_n (show decode (am_cc m2_firstFault) 22 = .ok (.iload_n 2, 1) by decide +kernel) rfl ?_
  refine s_sipush (show decode (am_cc m2_firstFault) 23 = .ok (.sipush 1296, 3) by decide +kernel) ⟨by decide, by decide⟩ (by decide) ?_
  exact s_icmp_ge (tgt := 53) (show decode (am_cc m2_firstFault) 26 = .ok (.if_icmp .ge 27, 3) by decide +kernel) (by decide) k1 k2
theorem g2_firstFault_29 {a1 a2 : Int} {M : am_M} {Q : Option am_V → am_M → Prop} {n0 : Nat} {q0 : List Int} (h1 : am_kd KS a1 = some (11, n0, q0)) (h2 : 0 ≤ a2) (h3 : a2 < (n0 : Int)) (k1 : ¬ M a1 a2 = 1 → am_AtN m2_firstFault 47 [some (vr 66), some (vr a1), some (vi a2)] [] KS M Q) (k2 : M a1 a2 = 1 → am_AtN m2_firstFault 36 [some (vr 66), some (vr a1), some (vi a2)] [] KS M Q) : am_AtN m2_firstFault 29 [some (vr 66), some (vr a1), some (vi a2)] [] KS M Q := by
  refine s_aload_n (show decode (am_cc m2_firstFault) 29 = .ok (.aload_n 1, 1) by decide +kernel) rfl ?_
  refine s_iload_n (show decode (am_cc m2_firstFault) 30 = .ok (.iload_n 2, 1) by decide +kernel) rfl ?_
  refine s_iaload (show decode (am_cc m2_firstFault) 31 = .ok (.iaload, 1) by decide +kernel) h1 h2 h3 ?_
  refine s_iconst (show decode (am_cc m2_firstFault) 32 = .ok (.iconst 1, 1) by decide +kernel) ⟨by decide, by decide⟩ ?_
  exact s_icmp_ne (tgt := 47) (show decode (am_cc m2_firstFault) 33 = .ok (.if_icmp .ne 14, 3) by decide +kernel) (by decide) k1 k2
theorem g2_firstFault_36 {a1 a2 : Int} {M : am_M} {Q : Option am_V → am_M → Prop} (k : am_CallN m2_leadsOut [vr 66, vi a2, vr a1] KS M (fun r M' => am_AtN m2_firstFault 42 [some (vr 66), some (vr a1), some (vi a2)] (r.toList ++ []) KS M' Q)) : am_AtN m2_firstFault 36 [some (vr 66), some (vr a1), some (vi a2)] [] KS M Q := by
  refine s_aload_n (show decode (am_cc m2_firstFault) 36 = .ok (.aload_n 0, 1) by decide +kernel) rfl ?_
  refine s_iload_n (show decode (am_cc m2_firstFault) 37 = .ok (.iload_n 2, 1) by decide +kernel) rfl ?_
  refine s_aload_n (show decode (am_cc m2_firstFault) 38 = .ok (.aload_n 1, 1) by decide +kernel) rfl ?_
  exact n_callV (as := [vi a2, vr a1]) (stk := []) (show decode (am_cc m2_firstFault) 39 = .ok (.invokevirtual 72, 3) by decide +kernel) lk_RX2_72 kd66 (by decide) rfl rfl (by decide) (Nat.le_of_ble_eq_true rfl) ⟨rfl, rfl⟩ k
theorem g2_firstFault_42 {a1 a2 t0 : Int} {M : am_M} {Q : Option am_V → am_M → Prop} (k1 : t0 = 0 → am_AtN m2_firstFault 47 [some (vr 66), some (vr a1), some (vi a2)] [] KS M Q) (k2 : ¬ (t0 = 0) → am_AtN m2_firstFault 45 [some (vr 66), some (vr a1), some (vi a2)] [] KS M Q) : am_AtN m2_firstFault 42 [some (vr 66), some (vr a1), some (vi a2)] [vi t0] KS M Q := by
  exact s_if_eq (tgt := 47) (show decode (am_cc m2_firstFault) 42 = .ok (.ifCond .eq 5, 3) by decide +kernel) (by decide) k1 k2
theorem g2_firstFault_45 {a1 a2 : Int} {M : am_M} {Q : Option am_V → am_M → Prop} (k : Q (some (vi 2)) M) : am_AtN m2_firstFault 45 [some (vr 66), some (vr a1), some (vi a2)] [] KS M Q := by
  refine s_iconst (show decode (am_cc m2_firstFault) 45 = .ok (.iconst 2, 1) by decide +kernel) ⟨by decide, by decide⟩ ?_
  exact s_ireturn (show decode (am_cc m2_firstFault) 46 = .ok (.ireturn, 1) by decide +kernel) rfl k
theorem g2_firstFault_47 {a1 a2 : Int} {M : am_M} {Q : Option am_V → am_M → Prop} (h1 : -2147483648 ≤ a2 + 1 ∧ a2 + 1 ≤ 2147483647) (k : am_AtN m2_firstFault 22 [some (vr 66), some (vr a1), some (vi (a2 + 1))] [] KS M Q) : am_AtN m2_firstFault 47 [some (vr 66), some (vr a1), some (vi a2)] [] KS M Q := by
  refine s_iinc (show decode (am_cc m2_firstFault) 47 = .ok (.iinc 2 1, 3) by decide +kernel) rfl (by decide) h1 ?_
  refine s_goto (tgt := 22) (show decode (am_cc m2_firstFault) 50 = .ok (.goto (-28), 3) by decide +kernel) (by decide) ?_
  exact k
theorem g2_firstFault_53 {a1 a2 : Int} {M : am_M} {Q : Option am_V → am_M → Prop} (k : am_AtN m2_firstFault 55 [some (vr 66), some (vr a1), some (vi 0)] [] KS M Q) : am_AtN m2_firstFault 53 [some (vr 66), some (vr a1), some (vi a2)] [] KS M Q := by
  refine s_iconst (show decode (am_cc m2_firstFault) 53 = .ok (.iconst 0, 1) by decide +kernel) ⟨by decide, by decide⟩ ?_
  refine s_istore_n (show decode (am_cc m2_firstFault) 54 = .ok (.istore_n 2, 1) by decide +kernel) (by decide) ?_
  exact k
theorem g2_firstFault_55 {a1 a2 : Int} {M : am_M} {Q : Option am_V → am_M → Prop} (k1 : 1296 ≤ a2 → am_AtN m2_firstFault 85 [some (vr 66), some (vr a1), some (vi a2)] [] KS M Q) (k2 : ¬ (1296 ≤ a2) → am_AtN m2_firstFault 62 [some (vr 66), some (vr a1), some (vi a2)] [] KS M Q) : am_AtN m2_firstFault 55 [some (vr 66), some (vr a1), some (vi a2)] [] KS M Q := by
  refine s_iload_n (show decode (am_cc m2_firstFault) 55 = .ok (.iload_n 2, 1) by decide +kernel) rfl ?_
  refine s_sipush (show decode (am_cc m2_firstFault) 56 = .ok (.sipush 1296, 3) by decide +kernel) ⟨by decide, by decide⟩ (by decide) ?_
  exact s_icmp_ge (tgt := 85) (show decode (am_cc m2_firstFault) 59 = .ok (.if_icmp .ge 26, 3) by decide +kernel) (by decide) k1 k2
theorem g2_firstFault_62 {a1 a2 : Int} {M : am_M} {Q : Option am_V → am_M → Prop} {n0 : Nat} {q0 : List Int} (h1 : am_kd KS a1 = some (11, n0, q0)) (h2 : 0 ≤ a2) (h3 : a2 < (n0 : Int)) (k1 : ¬ M a1 a2 = 1 → am_AtN m2_firstFault 79 [some (vr 66), some (vr a1), some (vi a2)] [] KS M Q) (k2 : M a1 a2 = 1 → am_AtN m2_firstFault 69 [some (vr 66), some (vr a1), some (vi a2)] [] KS M Q) : am_AtN m2_firstFault 62 [some (vr 66), some (vr a1), some (vi a2)] [] KS M Q := by
  refine s_aload_n (show decode (am_cc m2_firstFault) 62 = .ok (.aload_n 1, 1) by decide +kernel) rfl ?_
  refine s_iload_n (show decode (am_cc m2_firstFault) 63 = .ok (.iload_n 2, 1) by decide +kernel) rfl ?_
  refine s_iaload (show decode (am_cc m2_firstFault) 64 = .ok (.iaload, 1) by decide +kernel) h1 h2 h3 ?_
  refine s_iconst (show decode (am_cc m2_firstFault) 65 = .ok (.iconst 1, 1) by decide +kernel) ⟨by decide, by decide⟩ ?_
  exact s_icmp_ne (tgt := 79) (show decode (am_cc m2_firstFault) 66 = .ok (.if_icmp .ne 13, 3) by decide +kernel) (by decide) k1 k2
theorem g2_firstFault_69 {a1 a2 : Int} {M : am_M} {Q : Option am_V → am_M → Prop} (k : am_CallN m2_isBad [vr 66, vi a2] KS M (fun r M' => am_AtN m2_firstFault 74 [some (vr 66), some (vr a1), some (vi a2)] (r.toList ++ []) KS M' Q)) : am_AtN m2_firstFault 69 [some (vr 66), some (vr a1), some (vi a2)] [] KS M Q := by
  refine s_aload_n (show decode (am_cc m2_firstFault) 69 = .ok (.aload_n 0, 1) by decide +kernel) rfl ?_
  refine s_iload_n (show decode (am_cc m2_firstFault) 70 = .ok (.iload_n 2, 1) by decide +kernel) rfl ?_
  exact n_callV (as := [vi a2]) (stk := []) (show decode (am_cc m2_firstFault) 71 = .ok (.invokevirtual 57, 3) by decide +kernel) lk_RX2_57 kd66 (by decide) rfl rfl (by decide) (Nat.le_of_ble_eq_true rfl) ⟨rfl, rfl⟩ k
theorem g2_firstFault_74 {a1 a2 t0 : Int} {M : am_M} {Q : Option am_V → am_M → Prop} (k1 : t0 = 0 → am_AtN m2_firstFault 79 [some (vr 66), some (vr a1), some (vi a2)] [] KS M Q) (k2 : ¬ (t0 = 0) → am_AtN m2_firstFault 77 [some (vr 66), some (vr a1), some (vi a2)] [] KS M Q) : am_AtN m2_firstFault 74 [some (vr 66), some (vr a1), some (vi a2)] [vi t0] KS M Q := by
  exact s_if_eq (tgt := 79) (show decode (am_cc m2_firstFault) 74 = .ok (.ifCond .eq 5, 3) by decide +kernel) (by decide) k1 k2
theorem g2_firstFault_77 {a1 a2 : Int} {M : am_M} {Q : Option am_V → am_M → Prop} (k : Q (some (vi 3)) M) : am_AtN m2_firstFault 77 [some (vr 66), some (vr a1), some (vi a2)] [] KS M Q := by
  refine s_iconst (show decode (am_cc m2_firstFault) 77 = .ok (.iconst 3, 1) by decide +kernel) ⟨by decide, by decide⟩ ?_
  exact s_ireturn (show decode (am_cc m2_firstFault) 78 = .ok (.ireturn, 1) by decide +kernel) rfl k
theorem g2_firstFault_79 {a1 a2 : Int} {M : am_M} {Q : Option am_V → am_M → Prop} (h1 : -2147483648 ≤ a2 + 1 ∧ a2 + 1 ≤ 2147483647) (k : am_AtN m2_firstFault 55 [some (vr 66), some (vr a1), some (vi (a2 + 1))] [] KS M Q) : am_AtN m2_firstFault 79 [some (vr 66), some (vr a1), some (vi a2)] [] KS M Q := by
  refine s_iinc (show decode (am_cc m2_firstFault) 79 = .ok (.iinc 2 1, 3) by decide +kernel) rfl (by decide) h1 ?_
  refine s_goto (tgt := 55) (show decode (am_cc m2_firstFault) 82 = .ok (.goto (-27), 3) by decide +kernel) (by decide) ?_
  exact k
theorem g2_firstFault_85 {a1 a2 : Int} {M : am_M} {Q : Option am_V → am_M → Prop} (k : Q (some (vi 0)) M) : am_AtN m2_firstFault 85 [some (vr 66), some (vr a1), some (vi a2)] [] KS M Q := by
  refine s_iconst (show decode (am_cc m2_firstFault) 85 = .ok (.iconst 0, 1) by decide +kernel) ⟨by decide, by decide⟩ ?_
  exact s_ireturn (show decode (am_cc m2_firstFault) 86 = .ok (.ireturn, 1) by decide +kernel) rfl k
theorem g2_leadsOut_0 {a1 a2 : Int} {M : am_M} {Q : Option am_V → am_M → Prop} (k : am_AtN m2_leadsOut 2 [some (vr 66), some (vi a1), some (vr a2), some (vi 0), none] [] KS M Q) : am_AtN m2_leadsOut 0 [some (vr 66), some (vi a1), some (vr a2), none, none] [] KS M Q := by
  refine s_iconst (show decode (am_cc m2_leadsOut) 0 = .ok (.iconst 0, 1) by decide +kernel) ⟨by decide, by decide⟩ ?_
  refine s_istore_n (show decode (am_cc m2_leadsOut) 1 = .ok (.istore_n 3, 1) by decide +kernel) (by decide) ?_
  exact k
theorem g2_leadsOut_2 {a1 a2 a3 : Int} {M : am_M} {Q : Option am_V → am_M → Prop} (k1 : M 66 7 ≤ a3 → am_AtN m2_leadsOut 43 [some (vr 66), some (vi a1), some (vr a2), some (vi a3), none] [] KS M Q) (k2 : ¬ (M 66 7 ≤ a3) → am_AtN m2_leadsOut 10 [some (vr 66), some (vi a1), some (vr a2), some (vi a3), none] [] KS M Q) : am_AtN m2_leadsOut 2 [some (vr 66), some (vi a1), some (vr a2), some (vi a3), none] [] KS M Q := by
  refine s_iload_n (show decode (am_cc m2_leadsOut) 2 = .ok (.iload_n 3, 1) by decide +kernel) rfl ?_
  refine s_aload_n (show decode (am_cc m2_leadsOut) 3 = .ok (.aload_n 0, 1) by decide +kernel) rfl ?_
  refine s_getf (k := 7) (v := vi (M 66 7)) (show decode (am_cc m2_leadsOut) 4 = .ok (.getfield 36, 3) by decide +kernel) kd66 (by decide) rfl jnX2 (by decide) lf_RX2_36 rfl ?_
  exact s_icmp_ge (tgt := 43) (show decode (am_cc m2_leadsOut) 7 = .ok (.if_icmp .ge 36, 3) by decide +kernel) (by decide) k1 k2
theorem g2_leadsOut_10 {a1 a2 a3 : Int} {M : am_M} {Q : Option am_V → am_M → Prop} (k : am_CallN m2_after [vr 66, vi a1, vi a3] KS M (fun r M' => am_AtN m2_leadsOut 16 [some (vr 66), some (vi a1), some (vr a2), some (vi a3), none] (r.toList ++ []) KS M' Q)) : am_AtN m2_leadsOut 10 [some (vr 66), some (vi a1), some (vr a2), some (vi a3), none] [] KS M Q := by
  refine s_aload_n (show decode (am_cc m2_leadsOut) 10 = .ok (.aload_n 0, 1) by decide +kernel) rfl ?_
  refine s_iload_n (show decode (am_cc m2_leadsOut) 11 = .ok (.iload_n 1, 1) by decide +kernel) rfl ?_
  refine s_iload_n (show decode (am_cc m2_leadsOut) 12 = .ok (.iload_n 3, 1) by decide +kernel) rfl ?_
  exact n_callV (as := [vi a1, vi a3]) (stk := []) (show decode (am_cc m2_leadsOut) 13 = .ok (.invokevirtual 49, 3) by decide +kernel) lk_RX2_49 kd66 (by decide) rfl rfl (by decide) (Nat.le_of_ble_eq_true rfl) ⟨rfl, rfl⟩ k
theorem g2_leadsOut_16 {a1 a2 a3 t0 : Int} {M : am_M} {Q : Option am_V → am_M → Prop} {n0 : Nat} {q0 : List Int} (h1 : am_kd KS a2 = some (11, n0, q0)) (h2 : -2147483648 ≤ (n0 : Int) ∧ (n0 : Int) ≤ 2147483647) (k : am_CallN m8_within [vi t0, vi (n0 : Int)] KS M (fun r M' => am_AtN m2_leadsOut 25 [some (vr 66), some (vi a1), some (vr a2), some (vi a3), some (vi t0)] (r.toList ++ []) KS M' Q)) : am_AtN m2_leadsOut 16 [some (vr 66), some (vi a1), some (vr a2), some (vi a3), none] [vi t0] KS M Q := by
  refine s_istore (show decode (am_cc m2_leadsOut) 16 = .ok (.istore 4, 2) by decide +kernel) (by decide) ?_
  refine s_iload (show decode (am_cc m2_leadsOut) 18 = .ok (.iload 4, 2) by decide +kernel) rfl ?_
  refine s_aload_n (show decode (am_cc m2_leadsOut) 20 = .ok (.aload_n 2, 1) by decide +kernel) rfl ?_
  refine s_alen (show decode (am_cc m2_leadsOut) 21 = .ok (.arraylength, 1) by decide +kernel) h1 rfl h2 ?_
  exact n_callN (as := [vi t0, vi (n0 : Int)]) (stk := []) (show decode (am_cc m2_leadsOut) 22 = .ok (.invokestatic 53, 3) by decide +kernel) lk_RX2_53 (by decide) (Nat.le_of_ble_eq_true rfl) ⟨rfl, rfl⟩ k
theorem g2_leadsOut_25 {a1 a2 a3 a4 t0 : Int} {M : am_M} {Q : Option am_V → am_M → Prop} (k1 : t0 = 0 → am_AtN m2_leadsOut 35 [some (vr 66), some (vi a1), some (vr a2), some (vi a3), some (vi a4)] [] KS M Q) (k2 : ¬ (t0 = 0) → am_AtN m2_leadsOut 28 [some (vr 66), some (vi a1), some (vr a2), some (vi a3), some (vi a4)] [] KS M Q) : am_AtN m2_leadsOut 25 [some (vr 66), some (vi a1), some (vr a2), some (vi a3), some (vi a4)] [vi t0] KS M Q := by
  exact s_if_eq (tgt := 35) (show decode (am_cc m2_leadsOut) 25 = .ok (.ifCond .eq 10, 3) by decide +kernel) (by decide) k1 k2
theorem g2_leadsOut_28 {a1 a2 a3 a4 : Int} {M : am_M} {Q : Option am_V → am_M → Prop} {n0 : Nat} {q0 : List Int} (h1 : am_kd KS a2 = some (11, n0, q0)) (h2 : 0 ≤ a4) (h3 : a4 < (n0 : Int)) (k1 : ¬ M a2 a4 = 0 → am_AtN m2_leadsOut 37 [some (vr 66), some (vi a1), some (vr a2), some (vi a3), some (vi a4)] [] KS M Q) (k2 : M a2 a4 = 0 → am_AtN m2_leadsOut 35 [some (vr 66), some (vi a1), some (vr a2), some (vi a3), some (vi a4)] [] KS M Q) : am_AtN m2_leadsOut 28 [some (vr 66), some (vi a1), some (vr a2), some (vi a3), some (vi a4)] [] KS M Q := by
  refine s_aload_n (show decode (am_cc m2_leadsOut) 28 = .ok (.aload_n 2, 1) by decide +kernel) rfl ?_
  refine s_iload (show decode (am_cc m2_leadsOut) 29 = .ok (.iload 4, 2) by decide +kernel) rfl ?_
  refine s_iaload (show decode (am_cc m2_leadsOut) 31 = .ok (.iaload, 1) by decide +kernel) h1 h2 h3 ?_
  exact s_if_ne (tgt := 37) (show decode (am_cc m2_leadsOut) 32 = .ok (.ifCond .ne 5, 3) by decide +kernel) (by decide) k1 k2
theorem g2_leadsOut_35 {a1 a2 a3 a4 : Int} {M : am_M} {Q : Option am_V → am_M → Prop} (k : Q (some (vi 1)) M) : am_AtN m2_leadsOut 35 [some (vr 66), some (vi a1), some (vr a2), some (vi a3), some (vi a4)] [] KS M Q := by
  refine s_iconst (show decode (am_cc m2_leadsOut) 35 = .ok (.iconst 1, 1) by decide +kernel) ⟨by decide, by decide⟩ ?_
  exact s_zreturn (show decode (am_cc m2_leadsOut) 36 = .ok (.ireturn, 1) by decide +kernel) rfl (by decide) k
theorem g2_leadsOut_37 {a1 a2 a3 a4 : Int} {M : am_M} {Q : Option am_V → am_M → Prop} (h1 : -2147483648 ≤ a3 + 1 ∧ a3 + 1 ≤ 2147483647) (k : am_AtN m2_leadsOut 2 [some (vr 66), some (vi a1), some (vr a2), some (vi (a3 + 1)), none] [] KS M Q) : am_AtN m2_leadsOut 37 [some (vr 66), some (vi a1), some (vr a2), some (vi a3), some (vi a4)] [] KS M Q := by
  refine s_iinc (show decode (am_cc m2_leadsOut) 37 = .ok (.iinc 3 1, 3) by decide +kernel) rfl (by decide) h1 ?_
  refine s_goto (tgt := 2) (show decode (am_cc m2_leadsOut) 40 = .ok (.goto (-38), 3) by decide +kernel) (by decide) ?_
  refine am_fg 4 ?_
  exact k
theorem g2_leadsOut_43 {a1 a2 a3 : Int} {M : am_M} {Q : Option am_V → am_M → Prop} (k : Q (some (vi 0)) M) : am_AtN m2_leadsOut 43 [some (vr 66), some (vi a1), some (vr a2), some (vi a3), none] [] KS M Q := by
  refine s_iconst (show decode (am_cc m2_leadsOut) 43 = .ok (.iconst 0, 1) by decide +kernel) ⟨by decide, by decide⟩ ?_
  exact s_zreturn (show decode (am_cc m2_leadsOut) 44 = .ok (.ireturn, 1) by decide +kernel) rfl (by decide) k
theorem g2_after_0 {a1 a2 : Int} {M : am_M} {Q : Option am_V → am_M → Prop} {r0 : List Int} (h1 : 0 ≤ a1) (h2 : 0 ≤ a1) (h3 : 0 ≤ a1 / 36) (h4 : 0 ≤ a1) (h5 : am_kd KS (M 66 4) = some (4, 3, r0)) (k : am_CallN m4_wordOf [vr (M 66 4), vi ((a1 / 36) % 6), vi a2] KS M (fun r M' => am_AtN m2_after 30 [some (vr 66), some (vi a1), some (vi a2), some (vi (a1 / 216)), some (vi ((a1 / 36) % 6)), none] (r.toList ++ [vi (a1 % 36), vr 66]) KS M' Q)) : am_AtN m2_after 0 [some (vr 66), some (vi a1), some (vi a2), none, none, none] [] KS M Q := by
  refine s_iload_n (show decode (am_cc m2_after) 0 = .ok (.iload_n 1, 1) by decide +kernel) rfl ?_
  refine s_sipush (show decode (am_cc m2_after) 1 = .ok (.sipush 216, 3) by decide +kernel) ⟨by decide, by decide⟩ (by decide) ?_
  refine s_idiv (show decode (am_cc m2_after) 4 = .ok (.idiv, 1) by decide +kernel) h1 (by decide) ?_
  refine s_istore_n (show decode (am_cc m2_after) 5 = .ok (.istore_n 3, 1) by decide +kernel) (by decide) ?_
  refine s_iload_n (show decode (am_cc m2_after) 6 = .ok (.iload_n 1, 1) by decide +kernel) rfl ?_
  refine s_bipush (show decode (am_cc m2_after) 7 = .ok (.bipush 36, 2) by decide +kernel) ⟨by decide, by decide⟩ (by decide) ?_
  refine s_idiv (show decode (am_cc m2_after) 9 = .ok (.idiv, 1) by decide +kernel) h2 (by decide) ?_
  refine s_bipush (show decode (am_cc m2_after) 10 = .ok (.bipush 6, 2) by decide +kernel) ⟨by decide, by decide⟩ (by decide) ?_
  refine s_irem (show decode (am_cc m2_after) 12 = .ok (.irem, 1) by decide +kernel) h3 (by decide) ?_
  refine s_istore (show decode (am_cc m2_after) 13 = .ok (.istore 4, 2) by decide +kernel) (by decide) ?_
  refine s_aload_n (show decode (am_cc m2_after) 15 = .ok (.aload_n 0, 1) by decide +kernel) rfl ?_
  refine s_iload_n (show decode (am_cc m2_after) 16 = .ok (.iload_n 1, 1) by decide +kernel) rfl ?_
  refine s_bipush (show decode (am_cc m2_after) 17 = .ok (.bipush 36, 2) by decide +kernel) ⟨by decide, by decide⟩ (by decide) ?_
  refine s_irem (show decode (am_cc m2_after) 19 = .ok (.irem, 1) by decide +kernel) h4 (by decide) ?_
  refine s_aload_n (show decode (am_cc m2_after) 20 = .ok (.aload_n 0, 1) by decide +kernel) rfl ?_
  refine s_getf (k := 4) (v := vr (M 66 4)) (show decode (am_cc m2_after) 21 = .ok (.getfield 26, 3) by decide +kernel) kd66 (by decide) rfl jnX2 (by decide) lf_RX2_26 rfl ?_
  refine s_iload (show decode (am_cc m2_after) 24 = .ok (.iload 4, 2) by decide +kernel) rfl ?_
  refine s_iload_n (show decode (am_cc m2_after) 26 = .ok (.iload_n 2, 1) by decide +kernel) rfl ?_
  exact n_callV (as := [vi ((a1 / 36) % 6), vi a2]) (stk := [vi (a1 % 36), vr 66]) (show decode (am_cc m2_after) 27 = .ok (.invokevirtual 76, 3) by decide +kernel) lk_RX2_76 h5 (by decide) rfl rfl (by decide) (Nat.le_of_ble_eq_true rfl) ⟨rfl, rfl⟩ k
theorem g2_after_30 {a1 a2 a3 a4 t0 t1 t2 : Int} {M : am_M} {Q : Option am_V → am_M → Prop} {r0 : List Int} (h1 : am_kd KS t0 = some (2, 8, r0)) (k : am_CallN m2_tailAfter [vr t0, vi t1, vi t2] KS M (fun r M' => am_AtN m2_after 33 [some (vr 66), some (vi a1), some (vi a2), some (vi a3), some (vi a4), none] (r.toList ++ []) KS M' Q)) : am_AtN m2_after 30 [some (vr 66), some (vi a1), some (vi a2), some (vi a3), some (vi a4), none] [vi t2, vi t1, vr t0] KS M Q := by
  exact n_callV (as := [vi t1, vi t2]) (stk := []) (show decode (am_cc m2_after) 30 = .ok (.invokevirtual 81, 3) by decide +kernel) lk_RX2_81 h1 (by decide) rfl rfl (by decide) (Nat.le_of_ble_eq_true rfl) ⟨rfl, rfl⟩ k
theorem g2_after_33 {a1 a2 a3 a4 t0 : Int} {M : am_M} {Q : Option am_V → am_M → Prop} {r0 : List Int} (h1 : am_kd KS (M 66 3) = some (6, 2, r0)) (k : am_CallN m6_nextOf [vr (M 66 3), vi a3, vi a2] KS M (fun r M' => am_AtN m2_after 44 [some (vr 66), some (vi a1), some (vi a2), some (vi a3), some (vi a4), some (vi t0)] (r.toList ++ []) KS M' Q)) : am_AtN m2_after 33 [some (vr 66), some (vi a1), some (vi a2), some (vi a3), some (vi a4), none] [vi t0] KS M Q := by
  refine s_istore (show decode (am_cc m2_after) 33 = .ok (.istore 5, 2) by decide +kernel) (by decide) ?_
  refine s_aload_n (show decode (am_cc m2_after) 35 = .ok (.aload_n 0, 1) by decide +kernel) rfl ?_
  refine s_getf (k := 3) (v := vr (M 66 3)) (show decode (am_cc m2_after) 36 = .ok (.getfield 22, 3) by decide +kernel) kd66 (by decide) rfl jnX2 (by decide) lf_RX2_22 rfl ?_
  refine s_iload_n (show decode (am_cc m2_after) 39 = .ok (.iload_n 3, 1) by decide +kernel) rfl ?_
  refine s_iload_n (show decode (am_cc m2_after) 40 = .ok (.iload_n 2, 1) by decide +kernel) rfl ?_
  exact n_callV (as := [vi a3, vi a2]) (stk := []) (show decode (am_cc m2_after) 41 = .ok (.invokevirtual 84, 3) by decide +kernel) lk_RX2_84 h1 (by decide) rfl rfl (by decide) (Nat.le_of_ble_eq_true rfl) ⟨rfl, rfl⟩ k
theorem g2_after_44 {a1 a2 a3 a4 a5 t0 : Int} {M : am_M} {Q : Option am_V → am_M → Prop} {r0 : List Int} (h1 : -2147483648 ≤ t0 * 216 ∧ t0 * 216 ≤ 2147483647) (h2 : am_kd KS (M 66 4) = some (4, 3, r0)) (k : am_CallN m4_nextOf [vr (M 66 4), vi a4, vi a2] KS M (fun r M' => am_AtN m2_after 58 [some (vr 66), some (vi a1), some (vi a2), some (vi a3), some (vi a4), some (vi a5)] (r.toList ++ [vi (t0 * 216)]) KS M' Q)) : am_AtN m2_after 44 [some (vr 66), some (vi a1), some (vi a2), some (vi a3), some (vi a4), some (vi a5)] [vi t0] KS M Q := by
  refine s_sipush (show decode (am_cc m2_after) 44 = .ok (.sipush 216, 3) by decide +kernel) ⟨by decide, by decide⟩ (by decide) ?_
  refine s_imul (show decode (am_cc m2_after) 47 = .ok (.imul, 1) by decide +kernel) h1 ?_
  refine s_aload_n (show decode (am_cc m2_after) 48 = .ok (.aload_n 0, 1) by decide +kernel) rfl ?_
  refine s_getf (k := 4) (v := vr (M 66 4)) (show decode (am_cc m2_after) 49 = .ok (.getfield 26, 3) by decide +kernel) kd66 (by decide) rfl jnX2 (by decide) lf_RX2_26 rfl ?_
  refine s_iload (show decode (am_cc m2_after) 52 = .ok (.iload 4, 2) by decide +kernel) rfl ?_
  refine s_iload_n (show decode (am_cc m2_after) 54 = .ok (.iload_n 2, 1) by decide +kernel) rfl ?_
  exact n_callV (as := [vi a4, vi a2]) (stk := [vi (t0 * 216)]) (show decode (am_cc m2_after) 55 = .ok (.invokevirtual 89, 3) by decide +kernel) lk_RX2_89 h2 (by decide) rfl rfl (by decide) (Nat.le_of_ble_eq_true rfl) ⟨rfl, rfl⟩ k
theorem g2_after_58 {a1 a2 a3 a4 a5 t0 t1 : Int} {M : am_M} {Q : Option am_V → am_M → Prop} (h1 : -2147483648 ≤ t1 * 36 ∧ t1 * 36 ≤ 2147483647) (h2 : -2147483648 ≤ t0 + (t1 * 36) ∧ t0 + (t1 * 36) ≤ 2147483647) (h3 : -2147483648 ≤ (t0 + (t1 * 36)) + a5 ∧ (t0 + (t1 * 36)) + a5 ≤ 2147483647) (k : Q (some (vi ((t0 + (t1 * 36)) + a5))) M) : am_AtN m2_after 58 [some (vr 66), some (vi a1), some (vi a2), some (vi a3), some (vi a4), some (vi a5)] [vi t1, vi t0] KS M Q := by
  refine s_bipush (show decode (am_cc m2_after) 58 = .ok (.bipush 36, 2) by decide +kernel) ⟨by decide, by decide⟩ (by decide) ?_
  refine s_imul (show decode (am_cc m2_after) 60 = .ok (.imul, 1) by decide +kernel) h1 ?_
  refine s_iadd (show decode (am_cc m2_after) 61 = .ok (.iadd, 1) by decide +kernel) h2 ?_
  refine s_iload (show decode (am_cc m2_after) 62 = .ok (.iload 5, 2) by decide +kernel) rfl ?_
  refine s_iadd (show decode (am_cc m2_after) 64 = .ok (.iadd, 1) by decide +kernel) h3 ?_
  exact s_ireturn (show decode (am_cc m2_after) 65 = .ok (.ireturn, 1) by decide +kernel) rfl k
theorem g2_tailAfter_0 {a1 a2 : Int} {M : am_M} {Q : Option am_V → am_M → Prop} (h1 : 0 ≤ a1) (h2 : 0 ≤ a1) (k1 : ¬ M 66 5 = -1 → am_AtN m2_tailAfter 34 [some (vr 66), some (vi a1), some (vi a2), some (vi (a1 / 6)), some (vi (a1 % 6)), none, none] [] KS M Q) (k2 : M 66 5 = -1 → am_AtN m2_tailAfter 18 [some (vr 66), some (vi a1), some (vi a2), some (vi (a1 / 6)), some (vi (a1 % 6)), none, none] [] KS M Q) : am_AtN m2_tailAfter 0 [some (vr 66), some (vi a1), some (vi a2), none, none, none, none] [] KS M Q := by
  refine s_iload_n (show decode (am_cc m2_tailAfter) 0 = .ok (.iload_n 1, 1) by decide +kernel) rfl ?_
  refine s_bipush (show decode (am_cc m2_tailAfter) 1 = .ok (.bipush 6, 2) by decide +kernel) ⟨by decide, by decide⟩ (by decide) ?_
  refine s_idiv (show decode (am_cc m2_tailAfter) 3 = .ok (.idiv, 1) by decide +kernel) h1 (by decide) ?_
  refine s_istore_n (show decode (am_cc m2_tailAfter) 4 = .ok (.istore_n 3, 1) by decide +kernel) (by decide) ?_
  refine s_iload_n (show decode (am_cc m2_tailAfter) 5 = .ok (.iload_n 1, 1) by decide +kernel) rfl ?_
  refine s_bipush (show decode (am_cc m2_tailAfter) 6 = .ok (.bipush 6, 2) by decide +kernel) ⟨by decide, by decide⟩ (by decide) ?_
  refine s_irem (show decode (am_cc m2_tailAfter) 8 = .ok (.irem, 1) by decide +kernel) h2 (by decide) ?_
  refine s_istore (show decode (am_cc m2_tailAfter) 9 = .ok (.istore 4, 2) by decide +kernel) (by decide) ?_
  refine s_aload_n (show decode (am_cc m2_tailAfter) 11 = .ok (.aload_n 0, 1) by decide +kernel) rfl ?_
  refine s_getf (k := 5) (v := vr (M 66 5)) (show decode (am_cc m2_tailAfter) 12 = .ok (.getfield 30, 3) by decide +kernel) kd66 (by decide) rfl jnX2 (by decide) lf_RX2_30 rfl ?_
  exact s_ifnonnull (tgt := 34) (show decode (am_cc m2_tailAfter) 15 = .ok (.ifnonnull 19, 3) by decide +kernel) (by decide) k1 k2
theorem g2_tailAfter_18 {a1 a2 a3 a4 : Int} {M : am_M} {Q : Option am_V → am_M → Prop} {r0 : List Int} (h1 : -2147483648 ≤ a3 * 6 ∧ a3 * 6 ≤ 2147483647) (h2 : am_kd KS (M 66 6) = some (6, 2, r0)) (k : am_CallN m6_afterWord [vr (M 66 6), vi a4, vi a2] KS M (fun r M' => am_AtN m2_tailAfter 32 [some (vr 66), some (vi a1), some (vi a2), some (vi a3), some (vi a4), none, none] (r.toList ++ [vi (a3 * 6)]) KS M' Q)) : am_AtN m2_tailAfter 18 [some (vr 66), some (vi a1), some (vi a2), some (vi a3), some (vi a4), none, none] [] KS M Q := by
  refine s_iload_n (show decode (am_cc m2_tailAfter) 18 = .ok (.iload_n 3, 1) by decide +kernel) rfl ?_
  refine s_bipush (show decode (am_cc m2_tailAfter) 19 = .ok (.bipush 6, 2) by decide +kernel) ⟨by decide, by decide⟩ (by decide) ?_
  refine s_imul (show decode (am_cc m2_tailAfter) 21 = .ok (.imul, 1) by decide +kernel) h1 ?_
  refine s_aload_n (show decode (am_cc m2_tailAfter) 22 = .ok (.aload_n 0, 1) by decide +kernel) rfl ?_
  refine s_getf (k := 6) (v := vr (M 66 6)) (show decode (am_cc m2_tailAfter) 23 = .ok (.getfield 33, 3) by decide +kernel) kd66 (by decide) rfl jnX2 (by decide) lf_RX2_33 rfl ?_
  refine s_iload (show decode (am_cc m2_tailAfter) 26 = .ok (.iload 4, 2) by decide +kernel) rfl ?_
  refine s_iload_n (show decode (am_cc m2_tailAfter) 28 = .ok (.iload_n 2, 1) by decide +kernel) rfl ?_
  exact n_callV (as := [vi a4, vi a2]) (stk := [vi (a3 * 6)]) (show decode (am_cc m2_tailAfter) 29 = .ok (.invokevirtual 90, 3) by decide +kernel) lk_RX2_90 h2 (by decide) rfl rfl (by decide) (Nat.le_of_ble_eq_true rfl) ⟨rfl, rfl⟩ k
theorem g2_tailAfter_32 {a1 a2 a3 a4 t0 t1 : Int} {M : am_M} {Q : Option am_V → am_M → Prop} (h1 : -2147483648 ≤ t0 + t1 ∧ t0 + t1 ≤ 2147483647) (k : Q (some (vi (t0 + t1))) M) : am_AtN m2_tailAfter 32 [some (vr 66), some (vi a1), some (vi a2), some (vi a3), some (vi a4), none, none] [vi t1, vi t0] KS M Q := by
  refine s_iadd (show decode (am_cc m2_tailAfter) 32 = .ok (.iadd, 1) by decide +kernel) h1 ?_
  exact s_ireturn (show decode (am_cc m2_tailAfter) 33 = .ok (.ireturn, 1) by decide +kernel) rfl k
theorem g2_tailAfter_34 {a1 a2 a3 a4 : Int} {M : am_M} {Q : Option am_V → am_M → Prop} (k : am_AtN m2_tailAfter 37 [some (vr 66), some (vi a1), some (vi a2), some (vi a3), some (vi a4), some (vi 0), none] [] KS M Q) : am_AtN m2_tailAfter 34 [some (vr 66), some (vi a1), some (vi a2), some (vi a3), some (vi a4), none, none] [] KS M Q := by
  refine s_iconst (show decode (am_cc m2_tailAfter) 34 = .ok (.iconst 0, 1) by decide +kernel) ⟨by decide, by decide⟩ ?_
  refine s_istore (show decode (am_cc m2_tailAfter) 35 = .ok (.istore 5, 2) by decide +kernel) (by decide) ?_
  exact k
theorem g2_tailAfter_37 {a1 a2 a3 a4 a5 : Int} {M : am_M} {Q : Option am_V → am_M → Prop} (k : am_CallN m8_wordLength [vi a2] KS M (fun r M' => am_AtN m2_tailAfter 43 [some (vr 66), some (vi a1), some (vi a2), some (vi a3), some (vi a4), some (vi a5), none] (r.toList ++ [vi a5]) KS M' Q)) : am_AtN m2_tailAfter 37 [some (vr 66), some (vi a1), some (vi a2), some (vi a3), some (vi a4), some (vi a5), none] [] KS M Q := by
  refine s_iload (show decode (am_cc m2_tailAfter) 37 = .ok (.iload 5, 2) by decide +kernel) rfl ?_
  refine s_iload_n (show decode (am_cc m2_tailAfter) 39 = .ok (.iload_n 2, 1) by decide +kernel) rfl ?_
  exact n_callN (as := [vi a2]) (stk := [vi a5]) (show decode (am_cc m2_tailAfter) 40 = .ok (.invokestatic 93, 3) by decide +kernel) lk_RX2_93 (by decide) (Nat.le_of_ble_eq_true rfl) ⟨rfl, rfl⟩ k
theorem g2_tailAfter_43 {a1 a2 a3 a4 a5 t0 t1 : Int} {M : am_M} {Q : Option am_V → am_M → Prop} (k1 : t1 ≤ t0 → am_AtN m2_tailAfter 92 [some (vr 66), some (vi a1), some (vi a2), some (vi a3), some (vi a4), some (vi a5), none] [] KS M Q) (k2 : ¬ (t1 ≤ t0) → am_AtN m2_tailAfter 46 [some (vr 66), some (vi a1), some (vi a2), some (vi a3), some (vi a4), some (vi a5), none] [] KS M Q) : am_AtN m2_tailAfter 43 [some (vr 66), some (vi a1), some (vi a2), some (vi a3), some (vi a4), some (vi a5), none] [vi t1, vi t0] KS M Q := by
  exact s_icmp_ge (tgt := 92) (show decode (am_cc m2_tailAfter) 43 = .ok (.if_icmp .ge 49, 3) by decide +kernel) (by decide) k1 k2
theorem g2_tailAfter_46 {a1 a2 a3 a4 a5 : Int} {M : am_M} {Q : Option am_V → am_M → Prop} (k : am_CallN m8_wordLetter [vi a2, vi a5] KS M (fun r M' => am_AtN m2_tailAfter 52 [some (vr 66), some (vi a1), some (vi a2), some (vi a3), some (vi a4), some (vi a5), none] (r.toList ++ []) KS M' Q)) : am_AtN m2_tailAfter 46 [some (vr 66), some (vi a1), some (vi a2), some (vi a3), some (vi a4), some (vi a5), none] [] KS M Q := by
  refine s_iload_n (show decode (am_cc m2_tailAfter) 46 = .ok (.iload_n 2, 1) by decide +kernel) rfl ?_
  refine s_iload (show decode (am_cc m2_tailAfter) 47 = .ok (.iload 5, 2) by decide +kernel) rfl ?_
  exact n_callN (as := [vi a2, vi a5]) (stk := []) (show decode (am_cc m2_tailAfter) 49 = .ok (.invokestatic 96, 3) by decide +kernel) lk_RX2_96 (by decide) (Nat.le_of_ble_eq_true rfl) ⟨rfl, rfl⟩ k
theorem g2_tailAfter_52 {a1 a2 a3 a4 a5 t0 : Int} {M : am_M} {Q : Option am_V → am_M → Prop} {r0 : List Int} (h1 : am_kd KS (M 66 5) = some (4, 3, r0)) (k : am_CallN m4_wordOf [vr (M 66 5), vi a3, vi t0] KS M (fun r M' => am_AtN m2_tailAfter 70 [some (vr 66), some (vi a1), some (vi a2), some (vi a3), some (vi a4), some (vi a5), some (vi t0)] (r.toList ++ [vi a4, vr (M 66 6)]) KS M' Q)) : am_AtN m2_tailAfter 52 [some (vr 66), some (vi a1), some (vi a2), some (vi a3), some (vi a4), some (vi a5), none] [vi t0] KS M Q := by
  refine s_istore (show decode (am_cc m2_tailAfter) 52 = .ok (.istore 6, 2) by decide +kernel) (by decide) ?_
  refine s_aload_n (show decode (am_cc m2_tailAfter) 54 = .ok (.aload_n 0, 1) by decide +kernel) rfl ?_
  refine s_getf (k := 6) (v := vr (M 66 6)) (show decode (am_cc m2_tailAfter) 55 = .ok (.getfield 33, 3) by decide +kernel) kd66 (by decide) rfl jnX2 (by decide) lf_RX2_33 rfl ?_
  refine s_iload (show decode (am_cc m2_tailAfter) 58 = .ok (.iload 4, 2) by decide +kernel) rfl ?_
  refine s_aload_n (show decode (am_cc m2_tailAfter) 60 = .ok (.aload_n 0, 1) by decide +kernel) rfl ?_
  refine s_getf (k := 5) (v := vr (M 66 5)) (show decode (am_cc m2_tailAfter) 61 = .ok (.getfield 30, 3) by decide +kernel) kd66 (by decide) rfl jnX2 (by decide) lf_RX2_30 rfl ?_
  refine s_iload_n (show decode (am_cc m2_tailAfter) 64 = .ok (.iload_n 3, 1) by decide +kernel) rfl ?_
  refine s_iload (show decode (am_cc m2_tailAfter) 65 = .ok (.iload 6, 2) by decide +kernel) rfl ?_
  exact n_callV (as := [vi a3, vi t0]) (stk := [vi a4, vr (M 66 6)]) (show decode (am_cc m2_tailAfter) 67 = .ok (.invokevirtual 76, 3) by decide +kernel) lk_RX2_76 h1 (by decide) rfl rfl (by decide) (Nat.le_of_ble_eq_true rfl) ⟨rfl, rfl⟩ k
theorem g2_tailAfter_70 {a1 a2 a3 a4 a5 a6 t0 t1 t2 : Int} {M : am_M} {Q : Option am_V → am_M → Prop} {r0 : List Int} (h1 : am_kd KS t0 = some (6, 2, r0)) (k : am_CallN m6_afterWord [vr t0, vi t1, vi t2] KS M (fun r M' => am_AtN m2_tailAfter 73 [some (vr 66), some (vi a1), some (vi a2), some (vi a3), some (vi a4), some (vi a5), some (vi a6)] (r.toList ++ []) KS M' Q)) : am_AtN m2_tailAfter 70 [some (vr 66), some (vi a1), some (vi a2), some (vi a3), some (vi a4), some (vi a5), some (vi a6)] [vi t2, vi t1, vr t0] KS M Q := by
  exact n_callV (as := [vi t1, vi t2]) (stk := []) (show decode (am_cc m2_tailAfter) 70 = .ok (.invokevirtual 90, 3) by decide +kernel) lk_RX2_90 h1 (by decide) rfl rfl (by decide) (Nat.le_of_ble_eq_true rfl) ⟨rfl, rfl⟩ k
theorem g2_tailAfter_73 {a1 a2 a3 a4 a5 a6 t0 : Int} {M : am_M} {Q : Option am_V → am_M → Prop} {r0 : List Int} (h1 : am_kd KS (M 66 5) = some (4, 3, r0)) (k : am_CallN m4_nextOf [vr (M 66 5), vi a3, vi a6] KS M (fun r M' => am_AtN m2_tailAfter 85 [some (vr 66), some (vi a1), some (vi a2), some (vi a3), some (vi t0), some (vi a5), some (vi a6)] (r.toList ++ []) KS M' Q)) : am_AtN m2_tailAfter 73 [some (vr 66), some (vi a1), some (vi a2), some (vi a3), some (vi a4), some (vi a5), some (vi a6)] [vi t0] KS M Q := by
  refine s_istore (show decode (am_cc m2_tailAfter) 73 = .ok (.istore 4, 2) by decide +kernel) (by decide) ?_
  refine s_aload_n (show decode (am_cc m2_tailAfter) 75 = .ok (.aload_n 0, 1) by decide +kernel) rfl ?_
  refine s_getf (k := 5) (v := vr (M 66 5)) (show decode (am_cc m2_tailAfter) 76 = .ok (.getfield 30, 3) by decide +kernel) kd66 (by decide) rfl jnX2 (by decide) lf_RX2_30 rfl ?_
  refine s_iload_n (show decode (am_cc m2_tailAfter) 79 = .ok (.iload_n 3, 1) by decide +kernel) rfl ?_
  refine s_iload (show decode (am_cc m2_tailAfter) 80 = .ok (.iload 6, 2) by decide +kernel) rfl ?_
  exact n_callV (as := [vi a3, vi a6]) (stk := []) (show decode (am_cc m2_tailAfter) 82 = .ok (.invokevirtual 89, 3) by decide +kernel) lk_RX2_89 h1 (by decide) rfl rfl (by decide) (Nat.le_of_ble_eq_true rfl) ⟨rfl, rfl⟩ k
theorem g2_tailAfter_85 {a1 a2 a3 a4 a5 a6 t0 : Int} {M : am_M} {Q : Option am_V → am_M → Prop} (h1 : -2147483648 ≤ a5 + 1 ∧ a5 + 1 ≤ 2147483647) (k : am_AtN m2_tailAfter 37 [some (vr 66), some (vi a1), some (vi a2), some (vi t0), some (vi a4), some (vi (a5 + 1)), none] [] KS M Q) : am_AtN m2_tailAfter 85 [some (vr 66), some (vi a1), some (vi a2), some (vi a3), some (vi a4), some (vi a5), some (vi a6)] [vi t0] KS M Q := by
  refine s_istore_n (show decode (am_cc m2_tailAfter) 85 = .ok (.istore_n 3, 1) by decide +kernel) (by decide) ?_
  refine s_iinc (show decode (am_cc m2_tailAfter) 86 = .ok (.iinc 5 1, 3) by decide +kernel) rfl (by decide) h1 ?_
  refine s_goto (tgt := 37) (show decode (am_cc m2_tailAfter) 89 = .ok (.goto (-52), 3) by decide +kernel) (by decide) ?_
  refine am_fg 6 ?_
  exact k
theorem g2_tailAfter_92 {a1 a2 a3 a4 a5 : Int} {M : am_M} {Q : Option am_V → am_M → Prop} (h1 : -2147483648 ≤ a3 * 6 ∧ a3 * 6 ≤ 2147483647) (h2 : -2147483648 ≤ (a3 * 6) + a4 ∧ (a3 * 6) + a4 ≤ 2147483647) (k : Q (some (vi ((a3 * 6) + a4))) M) : am_AtN m2_tailAfter 92 [some (vr 66), some (vi a1), some (vi a2), some (vi a3), some (vi a4), some (vi a5), none] [] KS M Q := by
  refine s_iload_n (show decode (am_cc m2_tailAfter) 92 = .ok (.iload_n 3, 1) by decide +kernel) rfl ?_
  refine s_bipush (show decode (am_cc m2_tailAfter) 93 = .ok (.bipush 6, 2) by decide +kernel) ⟨by decide, by decide⟩ (by decide) ?_
  refine s_imul (show decode (am_cc m2_tailAfter) 95 = .ok (.imul, 1) by decide +kernel) h1 ?_
  refine s_iload (show decode (am_cc m2_tailAfter) 96 = .ok (.iload 4, 2) by decide +kernel) rfl ?_
  refine s_iadd (show decode (am_cc m2_tailAfter) 98 = .ok (.iadd, 1) by decide +kernel) h2 ?_
  exact s_ireturn (show decode (am_cc m2_tailAfter) 99 = .ok (.ireturn, 1) by decide +kernel) rfl k
theorem g2_isBad_0 {a1 : Int} {M : am_M} {Q : Option am_V → am_M → Prop} {r0 : List Int} (h1 : 0 ≤ a1) (h2 : am_kd KS (M 66 3) = some (6, 2, r0)) (k : am_CallN m6_holdsAt [vr (M 66 3), vi (a1 / 216)] KS M (fun r M' => am_AtN m2_isBad 12 [some (vr 66), some (vi a1), none, none, none] (r.toList ++ []) KS M' Q)) : am_AtN m2_isBad 0 [some (vr 66), some (vi a1), none, none, none] [] KS M Q := by
  refine s_aload_n (show decode (am_cc m2_isBad) 0 = .ok (.aload_n 0, 1) by decide +kernel) rfl ?_
  refine s_getf (k := 3) (v := vr (M 66 3)) (show decode (am_cc m2_isBad) 1 = .ok (.getfield 22, 3) by decide +kernel) kd66 (by decide) rfl jnX2 (by decide) lf_RX2_22 rfl ?_
  refine s_iload_n (show decode (am_cc m2_isBad) 4 = .ok (.iload_n 1, 1) by decide +kernel) rfl ?_
  refine s_sipush (show decode (am_cc m2_isBad) 5 = .ok (.sipush 216, 3) by decide +kernel) ⟨by decide, by decide⟩ (by decide) ?_
  refine s_idiv (show decode (am_cc m2_isBad) 8 = .ok (.idiv, 1) by decide +kernel) h1 (by decide) ?_
  exact n_callV (as := [vi (a1 / 216)]) (stk := []) (show decode (am_cc m2_isBad) 9 = .ok (.invokevirtual 99, 3) by decide +kernel) lk_RX2_99 h2 (by decide) rfl rfl (by decide) (Nat.le_of_ble_eq_true rfl) ⟨rfl, rfl⟩ k
theorem g2_isBad_12 {a1 t0 : Int} {M : am_M} {Q : Option am_V → am_M → Prop} (k1 : ¬ t0 = 0 → am_AtN m2_isBad 17 [some (vr 66), some (vi a1), none, none, none] [] KS M Q) (k2 : t0 = 0 → am_AtN m2_isBad 15 [some (vr 66), some (vi a1), none, none, none] [] KS M Q) : am_AtN m2_isBad 12 [some (vr 66), some (vi a1), none, none, none] [vi t0] KS M Q := by
  exact s_if_ne (tgt := 17) (show decode (am_cc m2_isBad) 12 = .ok (.ifCond .ne 5, 3) by decide +kernel) (by decide) k1 k2
theorem g2_isBad_15 {a1 : Int} {M : am_M} {Q : Option am_V → am_M → Prop} (k : Q (some (vi 0)) M) : am_AtN m2_isBad 15 [some (vr 66), some (vi a1), none, none, none] [] KS M Q := by
  refine s_iconst (show decode (am_cc m2_isBad) 15 = .ok (.iconst 0, 1) by decide +kernel) ⟨by decide, by decide⟩ ?_
  exact s_zreturn (show decode (am_cc m2_isBad) 16 = .ok (.ireturn, 1) by decide +kernel) rfl (by decide) k
theorem g2_isBad_17 {a1 : Int} {M : am_M} {Q : Option am_V → am_M → Prop} {r0 : List Int} (h1 : 0 ≤ a1) (h2 : 0 ≤ a1 / 36) (h3 : am_kd KS (M 66 4) = some (4, 3, r0)) (k : am_CallN m4_endOf [vr (M 66 4), vi ((a1 / 36) % 6)] KS M (fun r M' => am_AtN m2_isBad 31 [some (vr 66), some (vi a1), none, none, none] (r.toList ++ []) KS M' Q)) : am_AtN m2_isBad 17 [some (vr 66), some (vi a1), none, none, none] [] KS M Q := by
  refine s_aload_n (show decode (am_cc m2_isBad) 17 = .ok (.aload_n 0, 1) by decide +kernel) rfl ?_
  refine s_getf (k := 4) (v := vr (M 66 4)) (show decode (am_cc m2_isBad) 18 = .ok (.getfield 26, 3) by decide +kernel) kd66 (by decide) rfl jnX2 (by decide) lf_RX2_26 rfl ?_
  refine s_iload_n (show decode (am_cc m2_isBad) 21 = .ok (.iload_n 1, 1) by decide +kernel) rfl ?_
  refine s_bipush (show decode (am_cc m2_isBad) 22 = .ok (.bipush 36, 2) by decide +kernel) ⟨by decide, by decide⟩ (by decide) ?_
  refine s_idiv (show decode (am_cc m2_isBad) 24 = .ok (.idiv, 1) by decide +kernel) h1 (by decide) ?_
  refine s_bipush (show decode (am_cc m2_isBad) 25 = .ok (.bipush 6, 2) by decide +kernel) ⟨by decide, by decide⟩ (by decide) ?_
  refine s_irem (show decode (am_cc m2_isBad) 27 = .ok (.irem, 1) by decide +kernel) h2 (by decide) ?_
  exact n_callV (as := [vi ((a1 / 36) % 6)]) (stk := []) (show decode (am_cc m2_isBad) 28 = .ok (.invokevirtual 102, 3) by decide +kernel) lk_RX2_102 h3 (by decide) rfl rfl (by decide) (Nat.le_of_ble_eq_true rfl) ⟨rfl, rfl⟩ k
theorem g2_isBad_31 {a1 t0 : Int} {M : am_M} {Q : Option am_V → am_M → Prop} (k1 : ¬ t0 = -1 → am_AtN m2_isBad 39 [some (vr 66), some (vi a1), some (vi t0), none, none] [] KS M Q) (k2 : t0 = -1 → am_AtN m2_isBad 37 [some (vr 66), some (vi a1), some (vi t0), none, none] [] KS M Q) : am_AtN m2_isBad 31 [some (vr 66), some (vi a1), none, none, none] [vi t0] KS M Q := by
  refine s_istore_n (show decode (am_cc m2_isBad) 31 = .ok (.istore_n 2, 1) by decide +kernel) (by decide) ?_
  refine s_iload_n (show decode (am_cc m2_isBad) 32 = .ok (.iload_n 2, 1) by decide +kernel) rfl ?_
  refine s_iconst (show decode (am_cc m2_isBad) 33 = .ok (.iconst (-1), 1) by decide +kernel) ⟨by decide, by decide⟩ ?_
  exact s_icmp_ne (tgt := 39) (show decode (am_cc m2_isBad) 34 = .ok (.if_icmp .ne 5, 3) by decide +kernel) (by decide) k1 k2
theorem g2_isBad_37 {a1 a2 : Int} {M : am_M} {Q : Option am_V → am_M → Prop} (k : Q (some (vi 1)) M) : am_AtN m2_isBad 37 [some (vr 66), some (vi a1), some (vi a2), none, none] [] KS M Q := by
  refine s_iconst (show decode (am_cc m2_isBad) 37 = .ok (.iconst 1, 1) by decide +kernel) ⟨by decide, by decide⟩ ?_
  exact s_zreturn (show decode (am_cc m2_isBad) 38 = .ok (.ireturn, 1) by decide +kernel) rfl (by decide) k
theorem g2_isBad_39 {a1 a2 : Int} {M : am_M} {Q : Option am_V → am_M → Prop} (h1 : 0 ≤ a1) (k : am_CallN m2_tailAfter [vr 66, vi (a1 % 36), vi a2] KS M (fun r M' => am_AtN m2_isBad 48 [some (vr 66), some (vi a1), some (vi a2), none, none] (r.toList ++ []) KS M' Q)) : am_AtN m2_isBad 39 [some (vr 66), some (vi a1), some (vi a2), none, none] [] KS M Q := by
  refine s_aload_n (show decode (am_cc m2_isBad) 39 = .ok (.aload_n 0, 1) by decide +kernel) rfl ?_
  refine s_iload_n (show decode (am_cc m2_isBad) 40 = .ok (.iload_n 1, 1) by decide +kernel) rfl ?_
  refine s_bipush (show decode (am_cc m2_isBad) 41 = .ok (.bipush 36, 2) by decide +kernel) ⟨by decide, by decide⟩ (by decide) ?_
  refine s_irem (show decode (am_cc m2_isBad) 43 = .ok (.irem, 1) by decide +kernel) h1 (by decide) ?_
  refine s_iload_n (show decode (am_cc m2_isBad) 44 = .ok (.iload_n 2, 1) by decide +kernel) rfl ?_
  exact n_callV (as := [vi (a1 % 36), vi a2]) (stk := []) (show decode (am_cc m2_isBad) 45 = .ok (.invokevirtual 81, 3) by decide +kernel) lk_RX2_81 kd66 (by decide) rfl rfl (by decide) (Nat.le_of_ble_eq_true rfl) ⟨rfl, rfl⟩ k
theorem g2_isBad_48 {a1 a2 t0 : Int} {M : am_M} {Q : Option am_V → am_M → Prop} (k1 : ¬ M 66 5 = -1 → am_AtN m2_isBad 76 [some (vr 66), some (vi a1), some (vi a2), some (vi t0), none] [] KS M Q) (k2 : M 66 5 = -1 → am_AtN m2_isBad 56 [some (vr 66), some (vi a1), some (vi a2), some (vi t0), none] [] KS M Q) : am_AtN m2_isBad 48 [some (vr 66), some (vi a1), some (vi a2), none, none] [vi t0] KS M Q := by
  refine s_istore_n (show decode (am_cc m2_isBad) 48 = .ok (.istore_n 3, 1) by decide +kernel) (by decide) ?_
  refine s_aload_n (show decode (am_cc m2_isBad) 49 = .ok (.aload_n 0, 1) by decide +kernel) rfl ?_
  refine s_getf (k := 5) (v := vr (M 66 5)) (show decode (am_cc m2_isBad) 50 = .ok (.getfield 30, 3) by decide +kernel) kd66 (by decide) rfl jnX2 (by decide) lf_RX2_30 rfl ?_
  exact s_ifnonnull (tgt := 76) (show decode (am_cc m2_isBad) 53 = .ok (.ifnonnull 23, 3) by decide +kernel) (by decide) k1 k2
theorem g2_isBad_56 {a1 a2 a3 : Int} {M : am_M} {Q : Option am_V → am_M → Prop} {r0 : List Int} (h1 : 0 ≤ a3) (h2 : am_kd KS (M 66 6) = some (6, 2, r0)) (k : am_CallN m6_holdsAt [vr (M 66 6), vi (a3 % 6)] KS M (fun r M' => am_AtN m2_isBad 67 [some (vr 66), some (vi a1), some (vi a2), some (vi a3), none] (r.toList ++ []) KS M' Q)) : am_AtN m2_isBad 56 [some (vr 66), some (vi a1), some (vi a2), some (vi a3), none] [] KS M Q := by
  refine s_aload_n (show decode (am_cc m2_isBad) 56 = .ok (.aload_n 0, 1) by decide +kernel) rfl ?_
  refine s_getf (k := 6) (v := vr (M 66 6)) (show decode (am_cc m2_isBad) 57 = .ok (.getfield 33, 3) by decide +kernel) kd66 (by decide) rfl jnX2 (by decide) lf_RX2_33 rfl ?_
  refine s_iload_n (show decode (am_cc m2_isBad) 60 = .ok (.iload_n 3, 1) by decide +kernel) rfl ?_
  refine s_bipush (show decode (am_cc m2_isBad) 61 = .ok (.bipush 6, 2) by decide +kernel) ⟨by decide, by decide⟩ (by decide) ?_
  refine s_irem (show decode (am_cc m2_isBad) 63 = .ok (.irem, 1) by decide +kernel) h1 (by decide) ?_
  exact n_callV (as := [vi (a3 % 6)]) (stk := []) (show decode (am_cc m2_isBad) 64 = .ok (.invokevirtual 99, 3) by decide +kernel) lk_RX2_99 h2 (by decide) rfl rfl (by decide) (Nat.le_of_ble_eq_true rfl) ⟨rfl, rfl⟩ k
theorem g2_isBad_67 {a1 a2 a3 t0 : Int} {M : am_M} {Q : Option am_V → am_M → Prop} (k1 : ¬ t0 = 0 → am_AtN m2_isBad 74 [some (vr 66), some (vi a1), some (vi a2), some (vi a3), none] [] KS M Q) (k2 : t0 = 0 → am_AtN m2_isBad 70 [some (vr 66), some (vi a1), some (vi a2), some (vi a3), none] [] KS M Q) : am_AtN m2_isBad 67 [some (vr 66), some (vi a1), some (vi a2), some (vi a3), none] [vi t0] KS M Q := by
  exact s_if_ne (tgt := 74) (show decode (am_cc m2_isBad) 67 = .ok (.ifCond .ne 7, 3) by decide +kernel) (by decide) k1 k2
theorem g2_isBad_70 {a1 a2 a3 : Int} {M : am_M} {Q : Option am_V → am_M → Prop} (k : am_AtN m2_isBad 75 [some (vr 66), some (vi a1), some (vi a2), some (vi a3), none] [vi 1] KS M Q) : am_AtN m2_isBad 70 [some (vr 66), some (vi a1), some (vi a2), some (vi a3), none] [] KS M Q := by
  refine s_iconst (show decode (am_cc m2_isBad) 70 = .ok (.iconst 1, 1) by decide +kernel) ⟨by decide, by decide⟩ ?_
  refine s_goto (tgt := 75) (show decode (am_cc m2_isBad) 71 = .ok (.goto 4, 3) by decide +kernel) (by decide) ?_
  exact k
theorem g2_isBad_74 {a1 a2 a3 : Int} {M : am_M} {Q : Option am_V → am_M → Prop} (k : am_AtN m2_isBad 75 [some (vr 66), some (vi a1), some (vi a2), some (vi a3), none] [vi 0] KS M Q) : am_AtN m2_isBad 74 [some (vr 66), some (vi a1), some (vi a2), some (vi a3), none] [] KS M Q := by
  refine s_iconst (show decode (am_cc m2_isBad) 74 = .ok (.iconst 0, 1) by decide +kernel) ⟨by decide, by decide⟩ ?_
  exact k
theorem g2_isBad_75 {a1 a2 a3 t0 : Int} {M : am_M} {Q : Option am_V → am_M → Prop} (h1 : t0 = 0 ∨ t0 = 1) (k : Q (some (vi t0)) M) : am_AtN m2_isBad 75 [some (vr 66), some (vi a1), some (vi a2), some (vi a3), none] [vi t0] KS M Q := by
  exact s_zreturn (show decode (am_cc m2_isBad) 75 = .ok (.ireturn, 1) by decide +kernel) rfl h1 k
theorem g2_isBad_76 {a1 a2 a3 : Int} {M : am_M} {Q : Option am_V → am_M → Prop} {r0 : List Int} (h1 : 0 ≤ a3) (h2 : am_kd KS (M 66 5) = some (4, 3, r0)) (k : am_CallN m4_endOf [vr (M 66 5), vi (a3 / 6)] KS M (fun r M' => am_AtN m2_isBad 87 [some (vr 66), some (vi a1), some (vi a2), some (vi a3), none] (r.toList ++ []) KS M' Q)) : am_AtN m2_isBad 76 [some (vr 66), some (vi a1), some (vi a2), some (vi a3), none] [] KS M Q := by
  refine s_aload_n (show decode (am_cc m2_isBad) 76 = .ok (.aload_n 0, 1) by decide +kernel) rfl ?_
  refine s_getf (k := 5) (v := vr (M 66 5)) (show decode (am_cc m2_isBad) 77 = .ok (.getfield 30, 3) by decide +kernel) kd66 (by decide) rfl jnX2 (by decide) lf_RX2_30 rfl ?_
  refine s_iload_n (show decode (am_cc m2_isBad) 80 = .ok (.iload_n 3, 1) by decide +kernel) rfl ?_
  refine s_bipush (show decode (am_cc m2_isBad) 81 = .ok (.bipush 6, 2) by decide +kernel) ⟨by decide, by decide⟩ (by decide) ?_
  refine s_idiv (show decode (am_cc m2_isBad) 83 = .ok (.idiv, 1) by decide +kernel) h1 (by decide) ?_
  exact n_callV (as := [vi (a3 / 6)]) (stk := []) (show decode (am_cc m2_isBad) 84 = .ok (.invokevirtual 102, 3) by decide +kernel) lk_RX2_102 h2 (by decide) rfl rfl (by decide) (Nat.le_of_ble_eq_true rfl) ⟨rfl, rfl⟩ k
theorem g2_isBad_87 {a1 a2 a3 t0 : Int} {M : am_M} {Q : Option am_V → am_M → Prop} (k1 : ¬ t0 = -1 → am_AtN m2_isBad 97 [some (vr 66), some (vi a1), some (vi a2), some (vi a3), some (vi t0)] [] KS M Q) (k2 : t0 = -1 → am_AtN m2_isBad 95 [some (vr 66), some (vi a1), some (vi a2), some (vi a3), some (vi t0)] [] KS M Q) : am_AtN m2_isBad 87 [some (vr 66), some (vi a1), some (vi a2), some (vi a3), none] [vi t0] KS M Q := by
  refine s_istore (show decode (am_cc m2_isBad) 87 = .ok (.istore 4, 2) by decide +kernel) (by decide) ?_
  refine s_iload (show decode (am_cc m2_isBad) 89 = .ok (.iload 4, 2) by decide +kernel) rfl ?_
  refine s_iconst (show decode (am_cc m2_isBad) 91 = .ok (.iconst (-1), 1) by decide +kernel) ⟨by decide, by decide⟩ ?_
  exact s_icmp_ne (tgt := 97) (show decode (am_cc m2_isBad) 92 = .ok (.if_icmp .ne 5, 3) by decide +kernel) (by decide) k1 k2
theorem g2_isBad_95 {a1 a2 a3 a4 : Int} {M : am_M} {Q : Option am_V → am_M → Prop} (k : Q (some (vi 1)) M) : am_AtN m2_isBad 95 [some (vr 66), some (vi a1), some (vi a2), some (vi a3), some (vi a4)] [] KS M Q := by
  refine s_iconst (show decode (am_cc m2_isBad) 95 = .ok (.iconst 1, 1) by decide +kernel) ⟨by decide, by decide⟩ ?_
  exact s_zreturn (show decode (am_cc m2_isBad) 96 = .ok (.ireturn, 1) by decide +kernel) rfl (by decide) k
theorem g2_isBad_97 {a1 a2 a3 a4 : Int} {M : am_M} {Q : Option am_V → am_M → Prop} {r0 : List Int} (h1 : 0 ≤ a3) (h2 : am_kd KS (M 66 6) = some (6, 2, r0)) (k : am_CallN m6_afterWord [vr (M 66 6), vi (a3 % 6), vi a4] KS M (fun r M' => am_AtN m2_isBad 114 [some (vr 66), some (vi a1), some (vi a2), some (vi a3), some (vi a4)] (r.toList ++ [vr (M 66 6)]) KS M' Q)) : am_AtN m2_isBad 97 [some (vr 66), some (vi a1), some (vi a2), some (vi a3), some (vi a4)] [] KS M Q := by
  refine s_aload_n (show decode (am_cc m2_isBad) 97 = .ok (.aload_n 0, 1) by decide +kernel) rfl ?_
  refine s_getf (k := 6) (v := vr (M 66 6)) (show decode (am_cc m2_isBad) 98 = .ok (.getfield 33, 3) by decide +kernel) kd66 (by decide) rfl jnX2 (by decide) lf_RX2_33 rfl ?_
  refine s_aload_n (show decode (am_cc m2_isBad) 101 = .ok (.aload_n 0, 1) by decide +kernel) rfl ?_
  refine s_getf (k := 6) (v := vr (M 66 6)) (show decode (am_cc m2_isBad) 102 = .ok (.getfield 33, 3) by decide +kernel) kd66 (by decide) rfl jnX2 (by decide) lf_RX2_33 rfl ?_
  refine s_iload_n (show decode (am_cc m2_isBad) 105 = .ok (.iload_n 3, 1) by decide +kernel) rfl ?_
  refine s_bipush (show decode (am_cc m2_isBad) 106 = .ok (.bipush 6, 2) by decide +kernel) ⟨by decide, by decide⟩ (by decide) ?_
  refine s_irem (show decode (am_cc m2_isBad) 108 = .ok (.irem, 1) by decide +kernel) h1 (by decide) ?_
  refine s_iload (show decode (am_cc m2_isBad) 109 = .ok (.iload 4, 2) by decide +kernel) rfl ?_
  exact n_callV (as := [vi (a3 % 6), vi a4]) (stk := [vr (M 66 6)]) (show decode (am_cc m2_isBad) 111 = .ok (.invokevirtual 90, 3) by decide +kernel) lk_RX2_90 h2 (by decide) rfl rfl (by decide) (Nat.le_of_ble_eq_true rfl) ⟨rfl, rfl⟩ k
theorem g2_isBad_114 {a1 a2 a3 a4 t0 t1 : Int} {M : am_M} {Q : Option am_V → am_M → Prop} {r0 : List Int} (h1 : am_kd KS t0 = some (6, 2, r0)) (k : am_CallN m6_holdsAt [vr t0, vi t1] KS M (fun r M' => am_AtN m2_isBad 117 [some (vr 66), some (vi a1), some (vi a2), some (vi a3), some (vi a4)] (r.toList ++ []) KS M' Q)) : am_AtN m2_isBad 114 [some (vr 66), some (vi a1), some (vi a2), some (vi a3), some (vi a4)] [vi t1, vr t0] KS M Q := by
  exact n_callV (as := [vi t1]) (stk := []) (show decode (am_cc m2_isBad) 114 = .ok (.invokevirtual 99, 3) by decide +kernel) lk_RX2_99 h1 (by decide) rfl rfl (by decide) (Nat.le_of_ble_eq_true rfl) ⟨rfl, rfl⟩ k
theorem g2_isBad_117 {a1 a2 a3 a4 t0 : Int} {M : am_M} {Q : Option am_V → am_M → Prop} (k1 : ¬ t0 = 0 → am_AtN m2_isBad 124 [some (vr 66), some (vi a1), some (vi a2), some (vi a3), some (vi a4)] [] KS M Q) (k2 : t0 = 0 → am_AtN m2_isBad 120 [some (vr 66), some (vi a1), some (vi a2), some (vi a3), some (vi a4)] [] KS M Q) : am_AtN m2_isBad 117 [some (vr 66), some (vi a1), some (vi a2), some (vi a3), some (vi a4)] [vi t0] KS M Q := by
  exact s_if_ne (tgt := 124) (show decode (am_cc m2_isBad) 117 = .ok (.ifCond .ne 7, 3) by decide +kernel) (by decide) k1 k2
theorem g2_isBad_120 {a1 a2 a3 a4 : Int} {M : am_M} {Q : Option am_V → am_M → Prop} (k : am_AtN m2_isBad 125 [some (vr 66), some (vi a1), some (vi a2), some (vi a3), some (vi a4)] [vi 1] KS M Q) : am_AtN m2_isBad 120 [some (vr 66), some (vi a1), some (vi a2), some (vi a3), some (vi a4)] [] KS M Q := by
  refine s_iconst (show decode (am_cc m2_isBad) 120 = .ok (.iconst 1, 1) by decide +kernel) ⟨by decide, by decide⟩ ?_
  refine s_goto (tgt := 125) (show decode (am_cc m2_isBad) 121 = .ok (.goto 4, 3) by decide +kernel) (by decide) ?_
  exact k
theorem g2_isBad_124 {a1 a2 a3 a4 : Int} {M : am_M} {Q : Option am_V → am_M → Prop} (k : am_AtN m2_isBad 125 [some (vr 66), some (vi a1), some (vi a2), some (vi a3), some (vi a4)] [vi 0] KS M Q) : am_AtN m2_isBad 124 [some (vr 66), some (vi a1), some (vi a2), some (vi a3), some (vi a4)] [] KS M Q := by
  refine s_iconst (show decode (am_cc m2_isBad) 124 = .ok (.iconst 0, 1) by decide +kernel) ⟨by decide, by decide⟩ ?_
  exact k
theorem g2_isBad_125 {a1 a2 a3 a4 t0 : Int} {M : am_M} {Q : Option am_V → am_M → Prop} (h1 : t0 = 0 ∨ t0 = 1) (k : Q (some (vi t0)) M) : am_AtN m2_isBad 125 [some (vr 66), some (vi a1), some (vi a2), some (vi a3), some (vi a4)] [vi t0] KS M Q := by
  exact s_zreturn (show decode (am_cc m2_isBad) 125 = .ok (.ireturn, 1) by decide +kernel) rfl h1 k
theorem g0_isSo_0 {a1 a2 a3 a4 : Int} {M : am_M} {Q : Option am_V → am_M → Prop} (h1 : -1 ≤ a1 ∧ a1 < 100000) (h2 : -1 ≤ a2 ∧ a2 < 100000) (h3 : -1 ≤ a3 ∧ a3 < 100000) (k : am_CallN m0_explore [vr 75] KS (am_up (am_up (am_up (am_up M 75 7 a1) 75 8 a2) 75 9 a3) 75 10 a4) (fun r M' => am_AtN m0_isSo 25 [some (vr 75), some (vr a1), some (vr a2), some (vr a3), some (vi a4)] (r.toList ++ []) KS M' Q)) : am_AtN m0_isSo 0 [some (vr 75), some (vr a1), some (vr a2), some (vr a3), some (vi a4)] [] KS M Q := by
  refine s_aload_n (show decode (am_cc m0_isSo) 0 = .ok (.aload_n 0, 1) by decide +kernel) rfl ?_
  refine s_aload_n (show decode (am_cc m0_isSo) 1 = .ok (.aload_n 1, 1) by decide +kernel) rfl ?_
  refine s_putf (k := 7) (x := a1) (ty0 := tyX0) (show decode (am_cc m0_isSo) 2 = .ok (.putfield 40, 3) by decide +kernel) kd75 (by decide) rfl jnX0 tyX0_ok nmX0 (by decide) lf_RX0_40 rfl (Or.inr (Or.inr ⟨rfl, ⟨_, rfl⟩, rfl, h1.1, h1.2⟩)) ?_
  refine s_aload_n (show decode (am_cc m0_isSo) 5 = .ok (.aload_n 0, 1) by decide +kernel) rfl ?_
  refine s_aload_n (show decode (am_cc m0_isSo) 6 = .ok (.aload_n 2, 1) by decide +kernel) rfl ?_
  refine s_putf (k := 8) (x := a2) (ty0 := tyX0) (show decode (am_cc m0_isSo) 7 = .ok (.putfield 44, 3) by decide +kernel) kd75 (by decide) rfl jnX0 tyX0_ok nmX0 (by decide) lf_RX0_44 rfl (Or.inr (Or.inr ⟨rfl, ⟨_, rfl⟩, rfl, h2.1, h2.2⟩)) ?_
  refine s_aload_n (show decode (am_cc m0_isSo) 10 = .ok (.aload_n 0, 1) by decide +kernel) rfl ?_
  refine s_aload_n (show decode (am_cc m0_isSo) 11 = .ok (.aload_n 3, 1) by decide +kernel) rfl ?_
  refine s_putf (k := 9) (x := a3) (ty0 := tyX0) (show decode (am_cc m0_isSo) 12 = .ok (.putfield 48, 3) by decide +kernel) kd75 (by decide) rfl jnX0 tyX0_ok nmX0 (by decide) lf_RX0_48 rfl (Or.inr (Or.inr ⟨rfl, ⟨_, rfl⟩, rfl, h3.1, h3.2⟩)) ?_
  refine s_aload_n (show decode (am_cc m0_isSo) 15 = .ok (.aload_n 0, 1) by decide +kernel) rfl ?_
  refine s_iload (show decode (am_cc m0_isSo) 16 = .ok (.iload 4, 2) by decide +kernel) rfl ?_
  refine s_putf (k := 10) (x := a4) (ty0 := tyX0) (show decode (am_cc m0_isSo) 18 = .ok (.putfield 51, 3) by decide +kernel) kd75 (by decide) rfl jnX0 tyX0_ok nmX0 (by decide) lf_RX0_51 rfl (Or.inl ⟨rfl, rfl, rfl⟩) ?_
  refine s_aload_n (show decode (am_cc m0_isSo) 21 = .ok (.aload_n 0, 1) by decide +kernel) rfl ?_
  exact n_callV (as := []) (stk := []) (show decode (am_cc m0_isSo) 22 = .ok (.invokevirtual 54, 3) by decide +kernel) lk_RX0_54 kd75 (by decide) rfl rfl (by decide) (Nat.le_of_ble_eq_true rfl) ⟨rfl, rfl⟩ k
theorem g0_isSo_25 {a1 a2 a3 a4 : Int} {M : am_M} {Q : Option am_V → am_M → Prop} (k : am_CallN m0_oneStopsAlone [vr 75] KS M (fun r M' => am_AtN m0_isSo 29 [some (vr 75), some (vr a1), some (vr a2), some (vr a3), some (vi a4)] (r.toList ++ []) KS M' Q)) : am_AtN m0_isSo 25 [some (vr 75), some (vr a1), some (vr a2), some (vr a3), some (vi a4)] [] KS M Q := by
  refine s_aload_n (show decode (am_cc m0_isSo) 25 = .ok (.aload_n 0, 1) by decide +kernel) rfl ?_
  exact n_callV (as := []) (stk := []) (show decode (am_cc m0_isSo) 26 = .ok (.invokevirtual 57, 3) by decide +kernel) lk_RX0_57 kd75 (by decide) rfl rfl (by decide) (Nat.le_of_ble_eq_true rfl) ⟨rfl, rfl⟩ k
theorem g0_isSo_29 {a1 a2 a3 a4 t0 : Int} {M : am_M} {Q : Option am_V → am_M → Prop} (k1 : t0 = 0 → am_AtN m0_isSo 34 [some (vr 75), some (vr a1), some (vr a2), some (vr a3), some (vi a4)] [] KS M Q) (k2 : ¬ (t0 = 0) → am_AtN m0_isSo 32 [some (vr 75), some (vr a1), some (vr a2), some (vr a3), some (vi a4)] [] KS M Q) : am_AtN m0_isSo 29 [some (vr 75), some (vr a1), some (vr a2), some (vr a3), some (vi a4)] [vi t0] KS M Q := by
  exact s_if_eq (tgt := 34) (show decode (am_cc m0_isSo) 29 = .ok (.ifCond .eq 5, 3) by decide +kernel) (by decide) k1 k2
theorem g0_isSo_32 {a1 a2 a3 a4 : Int} {M : am_M} {Q : Option am_V → am_M → Prop} (k : Q (some (vi 0)) M) : am_AtN m0_isSo 32 [some (vr 75), some (vr a1), some (vr a2), some (vr a3), some (vi a4)] [] KS M Q := by
  refine s_iconst (show decode (am_cc m0_isSo) 32 = .ok (.iconst 0, 1) by decide +kernel) ⟨by decide, by decide⟩ ?_
  exact s_zreturn (show decode (am_cc m0_isSo) 33 = .ok (.ireturn, 1) by decide +kernel) rfl (by decide) k
theorem g0_isSo_34 {a1 a2 a3 a4 : Int} {M : am_M} {Q : Option am_V → am_M → Prop} (k : am_CallN m0_markLive [vr 75] KS M (fun r M' => am_AtN m0_isSo 38 [some (vr 75), some (vr a1), some (vr a2), some (vr a3), some (vi a4)] (r.toList ++ []) KS M' Q)) : am_AtN m0_isSo 34 [some (vr 75), some (vr a1), some (vr a2), some (vr a3), some (vi a4)] [] KS M Q := by
  refine s_aload_n (show decode (am_cc m0_isSo) 34 = .ok (.aload_n 0, 1) by decide +kernel) rfl ?_
  exact n_callV (as := []) (stk := []) (show decode (am_cc m0_isSo) 35 = .ok (.invokevirtual 61, 3) by decide +kernel) lk_RX0_61 kd75 (by decide) rfl rfl (by decide) (Nat.le_of_ble_eq_true rfl) ⟨rfl, rfl⟩ k
theorem g0_isSo_38 {a1 a2 a3 a4 : Int} {M : am_M} {Q : Option am_V → am_M → Prop} (k1 : ¬ M 76 0 = 2 → am_AtN m0_isSo 55 [some (vr 75), some (vr a1), some (vr a2), some (vr a3), some (vi a4)] [] KS M Q) (k2 : M 76 0 = 2 → am_AtN m0_isSo 48 [some (vr 75), some (vr a1), some (vr a2), some (vr a3), some (vi a4)] [] KS M Q) : am_AtN m0_isSo 38 [some (vr 75), some (vr a1), some (vr a2), some (vr a3), some (vi a4)] [] KS M Q := by
  refine s_aload_n (show decode (am_cc m0_isSo) 38 = .ok (.aload_n 0, 1) by decide +kernel) rfl ?_
  refine s_getf (k := 0) (v := vr 76) (show decode (am_cc m0_isSo) 39 = .ok (.getfield 11, 3) by decide +kernel) kd75 (by decide) rfl jnX0 (by decide) lf_RX0_11 rfl ?_
  refine s_iconst (show decode (am_cc m0_isSo) 42 = .ok (.iconst 0, 1) by decide +kernel) ⟨by decide, by decide⟩ ?_
  refine s_iaload (show decode (am_cc m0_isSo) 43 = .ok (.iaload, 1) by decide +kernel) kd76 (by decide) (by decide) ?_
  refine s_iconst (show decode (am_cc m0_isSo) 44 = .ok (.iconst 2, 1) by decide +kernel) ⟨by decide, by decide⟩ ?_
  exact s_icmp_ne (tgt := 55) (show decode (am_cc m0_isSo) 45 = .ok (.if_icmp .ne 10, 3) by decide +kernel) (by decide) k1 k2
theorem g0_isSo_48 {a1 a2 a3 a4 : Int} {M : am_M} {Q : Option am_V → am_M → Prop} (k : am_CallN m0_leadsAreEven [vr 75] KS M (fun r M' => am_AtN m0_isSo 52 [some (vr 75), some (vr a1), some (vr a2), some (vr a3), some (vi a4)] (r.toList ++ []) KS M' Q)) : am_AtN m0_isSo 48 [some (vr 75), some (vr a1), some (vr a2), some (vr a3), some (vi a4)] [] KS M Q := by
  refine s_aload_n (show decode (am_cc m0_isSo) 48 = .ok (.aload_n 0, 1) by decide +kernel) rfl ?_
  exact n_callV (as := []) (stk := []) (show decode (am_cc m0_isSo) 49 = .ok (.invokevirtual 64, 3) by decide +kernel) lk_RX0_64 kd75 (by decide) rfl rfl (by decide) (Nat.le_of_ble_eq_true rfl) ⟨rfl, rfl⟩ k
theorem g0_isSo_52 {a1 a2 a3 a4 t0 : Int} {M : am_M} {Q : Option am_V → am_M → Prop} (k1 : t0 = 0 → am_AtN m0_isSo 59 [some (vr 75), some (vr a1), some (vr a2), some (vr a3), some (vi a4)] [] KS M Q) (k2 : ¬ (t0 = 0) → am_AtN m0_isSo 55 [some (vr 75), some (vr a1), some (vr a2), some (vr a3), some (vi a4)] [] KS M Q) : am_AtN m0_isSo 52 [some (vr 75), some (vr a1), some (vr a2), some (vr a3), some (vi a4)] [vi t0] KS M Q := by
  exact s_if_eq (tgt := 59) (show decode (am_cc m0_isSo) 52 = .ok (.ifCond .eq 7, 3) by decide +kernel) (by decide) k1 k2
theorem g0_isSo_55 {a1 a2 a3 a4 : Int} {M : am_M} {Q : Option am_V → am_M → Prop} (k : am_AtN m0_isSo 60 [some (vr 75), some (vr a1), some (vr a2), some (vr a3), some (vi a4)] [vi 1] KS M Q) : am_AtN m0_isSo 55 [some (vr 75), some (vr a1), some (vr a2), some (vr a3), some (vi a4)] [] KS M Q := by
  refine s_iconst (show decode (am_cc m0_isSo) 55 = .ok (.iconst 1, 1) by decide +kernel) ⟨by decide, by decide⟩ ?_
  refine s_goto (tgt := 60) (show decode (am_cc m0_isSo) 56 = .ok (.goto 4, 3) by decide +kernel) (by decide) ?_
  exact k
theorem g0_isSo_59 {a1 a2 a3 a4 : Int} {M : am_M} {Q : Option am_V → am_M → Prop} (k : am_AtN m0_isSo 60 [some (vr 75), some (vr a1), some (vr a2), some (vr a3), some (vi a4)] [vi 0] KS M Q) : am_AtN m0_isSo 59 [some (vr 75), some (vr a1), some (vr a2), some (vr a3), some (vi a4)] [] KS M Q := by
  refine s_iconst (show decode (am_cc m0_isSo) 59 = .ok (.iconst 0, 1) by decide +kernel) ⟨by decide, by decide⟩ ?_
  exact k
theorem g0_isSo_60 {a1 a2 a3 a4 t0 : Int} {M : am_M} {Q : Option am_V → am_M → Prop} (h1 : t0 = 0 ∨ t0 = 1) (k : Q (some (vi t0)) M) : am_AtN m0_isSo 60 [some (vr 75), some (vr a1), some (vr a2), some (vr a3), some (vi a4)] [vi t0] KS M Q := by
  exact s_zreturn (show decode (am_cc m0_isSo) 60 = .ok (.ireturn, 1) by decide +kernel) rfl h1 k
theorem g0_explore_0 {M : am_M} {Q : Option am_V → am_M → Prop} (k : am_CallN mJ_fill [vr 76, vi (-2)] KS M (fun r M' => am_AtN m0_explore 9 [some (vr 75), none, none] (r.toList ++ []) KS M' Q)) : am_AtN m0_explore 0 [some (vr 75), none, none] [] KS M Q := by
  refine s_aload_n (show decode (am_cc m0_explore) 0 = .ok (.aload_n 0, 1) by decide +kernel) rfl ?_
  refine s_getf (k := 0) (v := vr 76) (show decode (am_cc m0_explore) 1 = .ok (.getfield 11, 3) by decide +kernel) kd75 (by decide) rfl jnX0 (by decide) lf_RX0_11 rfl ?_
  refine s_bipush (show decode (am_cc m0_explore) 4 = .ok (.bipush (-2), 2) by decide +kernel) ⟨by decide, by decide⟩ (by decide) ?_
  exact n_callS (as := [vr 76, vi (-2)]) (stk := []) (show decode (am_cc m0_explore) 6 = .ok (.invokestatic 67, 3) by decide +kernel) lk_RX0_67 (by decide) (Nat.le_of_ble_eq_true rfl) ⟨rfl, rfl⟩ k
theorem g0_explore_9 {M : am_M} {Q : Option am_V → am_M → Prop} (k : am_CallN m0_meet [vr 75, vi 0] KS (am_up M 75 2 0) (fun r M' => am_AtN m0_explore 19 [some (vr 75), none, none] (r.toList ++ []) KS M' Q)) : am_AtN m0_explore 9 [some (vr 75), none, none] [] KS M Q := by
  refine s_aload_n (show decode (am_cc m0_explore) 9 = .ok (.aload_n 0, 1) by decide +kernel) rfl ?_
  refine s_iconst (show decode (am_cc m0_explore) 10 = .ok (.iconst 0, 1) by decide +kernel) ⟨by decide, by decide⟩ ?_
  refine s_putf (k := 2) (x := 0) (ty0 := tyX0) (show decode (am_cc m0_explore) 11 = .ok (.putfield 18, 3) by decide +kernel) kd75 (by decide) rfl jnX0 tyX0_ok nmX0 (by decide) lf_RX0_18 rfl (Or.inl ⟨rfl, rfl, rfl⟩) ?_
  refine s_aload_n (show decode (am_cc m0_explore) 14 = .ok (.aload_n 0, 1) by decide +kernel) rfl ?_
  refine s_iconst (show decode (am_cc m0_explore) 15 = .ok (.iconst 0, 1) by decide +kernel) ⟨by decide, by decide⟩ ?_
  exact n_callV (as := [vi 0]) (stk := []) (show decode (am_cc m0_explore) 16 = .ok (.invokevirtual 73, 3) by decide +kernel) lk_RX0_73 kd75 (by decide) rfl rfl (by decide) (Nat.le_of_ble_eq_true rfl) ⟨rfl, rfl⟩ k
theorem g0_explore_19 {M : am_M} {Q : Option am_V → am_M → Prop} (k : am_AtN m0_explore 21 [some (vr 75), some (vi 0), none] [] KS M Q) : am_AtN m0_explore 19 [some (vr 75), none, none] [] KS M Q := by
  refine s_iconst (show decode (am_cc m0_explore) 19 = .ok (.iconst 0, 1) by decide +kernel) ⟨by decide, by decide⟩ ?_
  refine s_istore_n (show decode (am_cc m0_explore) 20 = .ok (.istore_n 1, 1) by decide +kernel) (by decide) ?_
  exact k
theorem g0_explore_21 {a1 : Int} {M : am_M} {Q : Option am_V → am_M → Prop} (k1 : M 75 2 ≤ a1 → am_AtN m0_explore 73 [some (vr 75), some (vi a1), none] [] KS M Q) (k2 : ¬ (M 75 2 ≤ a1) → am_AtN m0_explore 29 [some (vr 75), some (vi a1), none] [] KS M Q) : am_AtN m0_explore 21 [some (vr 75), some (vi a1), none] [] KS M Q := by
  refine s_iload_n (show decode (am_cc m0_explore) 21 = .ok (.iload_n 1, 1) by decide +kernel) rfl ?_
  refine s_aload_n (show decode (am_cc m0_explore) 22 = .ok (.aload_n 0, 1) by decide +kernel) rfl ?_
  refine s_getf (k := 2) (v := vi (M 75 2)) (show decode (am_cc m0_explore) 23 = .ok (.getfield 18, 3) by decide +kernel) kd75 (by decide) rfl jnX0 (by decide) lf_RX0_18 rfl ?_
  exact s_icmp_ge (tgt := 73) (show decode (am_cc m0_explore) 26 = .ok (.if_icmp .ge 47, 3) by decide +kernel) (by decide) k1 k2
theorem g0_explore_29 {a1 : Int} {M : am_M} {Q : Option am_V → am_M → Prop} (k1 : 216 ≤ a1 → am_AtN m0_explore 73 [some (vr 75), some (vi a1), none] [] KS M Q) (k2 : ¬ (216 ≤ a1) → am_AtN m0_explore 36 [some (vr 75), some (vi a1), none] [] KS M Q) : am_AtN m0_explore 29 [some (vr 75), some (vi a1), none] [] KS M Q := by
  refine s_iload_n (show decode (am_cc m0_explore) 29 = .ok (.iload_n 1, 1) by decide +kernel) rfl ?_
  refine s_sipush (show decode (am_cc m0_explore) 30 = .ok (.sipush 216, 3) by decide +kernel) ⟨by decide, by decide⟩ (by decide) ?_
  exact s_icmp_ge (tgt := 73) (show decode (am_cc m0_explore) 33 = .ok (.if_icmp .ge 40, 3) by decide +kernel) (by decide) k1 k2
theorem g0_explore_36 {a1 : Int} {M : am_M} {Q : Option am_V → am_M → Prop} (k : am_AtN m0_explore 38 [some (vr 75), some (vi a1), some (vi 0)] [] KS M Q) : am_AtN m0_explore 36 [some (vr 75), some (vi a1), none] [] KS M Q := by
  refine s_iconst (show decode (am_cc m0_explore) 36 = .ok (.iconst 0, 1) by decide +kernel) ⟨by decide, by decide⟩ ?_
  refine s_istore_n (show decode (am_cc m0_explore) 37 = .ok (.istore_n 2, 1) by decide +kernel) (by decide) ?_
  exact k
theorem g0_explore_38 {a1 a2 : Int} {M : am_M} {Q : Option am_V → am_M → Prop} (k1 : M 75 10 ≤ a2 → am_AtN m0_explore 67 [some (vr 75), some (vi a1), some (vi a2)] [] KS M Q) (k2 : ¬ (M 75 10 ≤ a2) → am_AtN m0_explore 46 [some (vr 75), some (vi a1), some (vi a2)] [] KS M Q) : am_AtN m0_explore 38 [some (vr 75), some (vi a1), some (vi a2)] [] KS M Q := by
  refine s_iload_n (show decode (am_cc m0_explore) 38 = .ok (.iload_n 2, 1) by decide +kernel) rfl ?_
  refine s_aload_n (show decode (am_cc m0_explore) 39 = .ok (.aload_n 0, 1) by decide +kernel) rfl ?_
  refine s_getf (k := 10) (v := vi (M 75 10)) (show decode (am_cc m0_explore) 40 = .ok (.getfield 51, 3) by decide +kernel) kd75 (by decide) rfl jnX0 (by decide) lf_RX0_51 rfl ?_
  exact s_icmp_ge (tgt := 67) (show decode (am_cc m0_explore) 43 = .ok (.if_icmp .ge 24, 3) by decide +kernel) (by decide) k1 k2
theorem g0_explore_46 {a1 a2 : Int} {M : am_M} {Q : Option am_V → am_M → Prop} (h1 : 0 ≤ a1) (h2 : a1 < 216) (k : am_CallN m0_after [vr 75, vi (M 77 a1), vi a2] KS M (fun r M' => am_AtN m0_explore 58 [some (vr 75), some (vi a1), some (vi a2)] (r.toList ++ [vr 75]) KS M' Q)) : am_AtN m0_explore 46 [some (vr 75), some (vi a1), some (vi a2)] [] KS M Q := by
  refine s_aload_n (show decode (am_cc m0_explore) 46 = .ok (.aload_n 0, 1) by decide +kernel) rfl ?_
  refine s_aload_n (show decode (am_cc m0_explore) 47 = .ok (.aload_n 0, 1) by decide +kernel) rfl ?_
  refine s_aload_n (show decode (am_cc m0_explore) 48 = .ok (.aload_n 0, 1) by decide +kernel) rfl ?_
  refine s_getf (k := 1) (v := vr 77) (show decode (am_cc m0_explore) 49 = .ok (.getfield 15, 3) by decide +kernel) kd75 (by decide) rfl jnX0 (by decide) lf_RX0_15 rfl ?_
  refine s_iload_n (show decode (am_cc m0_explore) 52 = .ok (.iload_n 1, 1) by decide +kernel) rfl ?_
  refine s_iaload (show decode (am_cc m0_explore) 53 = .ok (.iaload, 1) by decide +kernel) kd77 h1 h2 ?_
  refine s_iload_n (show decode (am_cc m0_explore) 54 = .ok (.iload_n 2, 1) by decide +kernel) rfl ?_
  exact n_callV (as := [vi (M 77 a1), vi a2]) (stk := [vr 75]) (show decode (am_cc m0_explore) 55 = .ok (.invokevirtual 76, 3) by decide +kernel) lk_RX0_76 kd75 (by decide) rfl rfl (by decide) (Nat.le_of_ble_eq_true rfl) ⟨rfl, rfl⟩ k
theorem g0_explore_58 {a1 a2 t0 t1 : Int} {M : am_M} {Q : Option am_V → am_M → Prop} {r0 : List Int} (h1 : am_kd KS t0 = some (0, 11, r0)) (k : am_CallN m0_meet [vr t0, vi t1] KS M (fun r M' => am_AtN m0_explore 61 [some (vr 75), some (vi a1), some (vi a2)] (r.toList ++ []) KS M' Q)) : am_AtN m0_explore 58 [some (vr 75), some (vi a1), some (vi a2)] [vi t1, vr t0] KS M Q := by
  exact n_callV (as := [vi t1]) (stk := []) (show decode (am_cc m0_explore) 58 = .ok (.invokevirtual 73, 3) by decide +kernel) lk_RX0_73 h1 (by decide) rfl rfl (by decide) (Nat.le_of_ble_eq_true rfl) ⟨rfl, rfl⟩ k
theorem g0_explore_61 {a1 a2 : Int} {M : am_M} {Q : Option am_V → am_M → Prop} (h1 : -2147483648 ≤ a2 + 1 ∧ a2 + 1 ≤ 2147483647) (k : am_AtN m0_explore 38 [some (vr 75), some (vi a1), some (vi (a2 + 1))] [] KS M Q) : am_AtN m0_explore 61 [some (vr 75), some (vi a1), some (vi a2)] [] KS M Q := by
  refine s_iinc (show decode (am_cc m0_explore) 61 = .ok (.iinc 2 1, 3) by decide +kernel) rfl (by decide) h1 ?_
  refine s_goto (tgt := 38) (show decode (am_cc m0_explore) 64 = .ok (.goto (-26), 3) by decide +kernel) (by decide) ?_
  exact k
theorem g0_explore_67 {a1 a2 : Int} {M : am_M} {Q : Option am_V → am_M → Prop} (h1 : -2147483648 ≤ a1 + 1 ∧ a1 + 1 ≤ 2147483647) (k : am_AtN m0_explore 21 [some (vr 75), some (vi (a1 + 1)), none] [] KS M Q) : am_AtN m0_explore 67 [some (vr 75), some (vi a1), some (vi a2)] [] KS M Q := by
  refine s_iinc (show decode (am_cc m0_explore) 67 = .ok (.iinc 1 1, 3) by decide +kernel) rfl (by decide) h1 ?_
  refine s_goto (tgt := 21) (show decode (am_cc m0_explore) 70 = .ok (.goto (-49), 3) by decide +kernel) (by decide) ?_
  refine am_fg 2 ?_
  exact k
theorem g0_explore_73 {a1 : Int} {M : am_M} {Q : Option am_V → am_M → Prop} (k : Q none M) : am_AtN m0_explore 73 [some (vr 75), some (vi a1), none] [] KS M Q := by
  exact s_return (show decode (am_cc m0_explore) 73 = .ok (.return_, 1) by decide +kernel) rfl k
theorem g0_meet_0 {a1 : Int} {M : am_M} {Q : Option am_V → am_M → Prop} (k : am_CallN m8_within [vi a1, vi 216] KS M (fun r M' => am_AtN m0_meet 7 [some (vr 75), some (vi a1)] (r.toList ++ []) KS M' Q)) : am_AtN m0_meet 0 [some (vr 75), some (vi a1)] [] KS M Q := by
  refine s_iload_n (show decode (am_cc m0_meet) 0 = .ok (.iload_n 1, 1) by decide +kernel) rfl ?_
  refine s_sipush (show decode (am_cc m0_meet) 1 = .ok (.sipush 216, 3) by decide +kernel) ⟨by decide, by decide⟩ (by decide) ?_
  exact n_callN (as := [vi a1, vi 216]) (stk := []) (show decode (am_cc m0_meet) 4 = .ok (.invokestatic 80, 3) by decide +kernel) lk_RX0_80 (by decide) (Nat.le_of_ble_eq_true rfl) ⟨rfl, rfl⟩ k
theorem g0_meet_7 {a1 t0 : Int} {M : am_M} {Q : Option am_V → am_M → Prop} (k1 : t0 = 0 → am_AtN m0_meet 34 [some (vr 75), some (vi a1)] [] KS M Q) (k2 : ¬ (t0 = 0) → am_AtN m0_meet 10 [some (vr 75), some (vi a1)] [] KS M Q) : am_AtN m0_meet 7 [some (vr 75), some (vi a1)] [vi t0] KS M Q := by
  exact s_if_eq (tgt := 34) (show decode (am_cc m0_meet) 7 = .ok (.ifCond .eq 27, 3) by decide +kernel) (by decide) k1 k2
theorem g0_meet_10 {a1 : Int} {M : am_M} {Q : Option am_V → am_M → Prop} (h1 : 0 ≤ a1) (h2 : a1 < 216) (k1 : ¬ M 76 a1 = -2 → am_AtN m0_meet 34 [some (vr 75), some (vi a1)] [] KS M Q) (k2 : M 76 a1 = -2 → am_AtN m0_meet 21 [some (vr 75), some (vi a1)] [] KS M Q) : am_AtN m0_meet 10 [some (vr 75), some (vi a1)] [] KS M Q := by
  refine s_aload_n (show decode (am_cc m0_meet) 10 = .ok (.aload_n 0, 1) by decide +kernel) rfl ?_
  refine s_getf (k := 0) (v := vr 76) (show decode (am_cc m0_meet) 11 = .ok (.getfield 11, 3) by decide +kernel) kd75 (by decide) rfl jnX0 (by decide) lf_RX0_11 rfl ?_
  refine s_iload_n (show decode (am_cc m0_meet) 14 = .ok (.iload_n 1, 1) by decide +kernel) rfl ?_
  refine s_iaload (show decode (am_cc m0_meet) 15 = .ok (.iaload, 1) by decide +kernel) kd76 h1 h2 ?_
  refine s_bipush (show decode (am_cc m0_meet) 16 = .ok (.bipush (-2), 2) by decide +kernel) ⟨by decide, by decide⟩ (by decide) ?_
  exact s_icmp_ne (tgt := 34) (show decode (am_cc m0_meet) 18 = .ok (.if_icmp .ne 16, 3) by decide +kernel) (by decide) k1 k2
theorem g0_meet_21 {a1 : Int} {M : am_M} {Q : Option am_V → am_M → Prop} (k : am_CallN m8_within [vi (M 75 2), vi 216] KS M (fun r M' => am_AtN m0_meet 31 [some (vr 75), some (vi a1)] (r.toList ++ []) KS M' Q)) : am_AtN m0_meet 21 [some (vr 75), some (vi a1)] [] KS M Q := by
  refine s_aload_n (show decode (am_cc m0_meet) 21 = .ok (.aload_n 0, 1) by decide +kernel) rfl ?_
  refine s_getf (k := 2) (v := vi (M 75 2)) (show decode (am_cc m0_meet) 22 = .ok (.getfield 18, 3) by decide +kernel) kd75 (by decide) rfl jnX0 (by decide) lf_RX0_18 rfl ?_
  refine s_sipush (show decode (am_cc m0_meet) 25 = .ok (.sipush 216, 3) by decide +kernel) ⟨by decide, by decide⟩ (by decide) ?_
  exact n_callN (as := [vi (M 75 2), vi 216]) (stk := []) (show decode (am_cc m0_meet) 28 = .ok (.invokestatic 80, 3) by decide +kernel) lk_RX0_80 (by decide) (Nat.le_of_ble_eq_true rfl) ⟨rfl, rfl⟩ k
theorem g0_meet_31 {a1 t0 : Int} {M : am_M} {Q : Option am_V → am_M → Prop} (k1 : ¬ t0 = 0 → am_AtN m0_meet 35 [some (vr 75), some (vi a1)] [] KS M Q) (k2 : t0 = 0 → am_AtN m0_meet 34 [some (vr 75), some (vi a1)] [] KS M Q) : am_AtN m0_meet 31 [some (vr 75), some (vi a1)] [vi t0] KS M Q := by
  exact s_if_ne (tgt := 35) (show decode (am_cc m0_meet) 31 = .ok (.ifCond .ne 4, 3) by decide +kernel) (by decide) k1 k2
theorem g0_meet_34 {a1 : Int} {M : am_M} {Q : Option am_V → am_M → Prop} (k : Q none M) : am_AtN m0_meet 34 [some (vr 75), some (vi a1)] [] KS M Q := by
  exact s_return (show decode (am_cc m0_meet) 34 = .ok (.return_, 1) by decide +kernel) rfl k
theorem g0_meet_35 {a1 : Int} {M : am_M} {Q : Option am_V → am_M → Prop} (h1 : 0 ≤ a1) (h2 : a1 < 216) (h3 : 0 ≤ (am_up M 76 a1 1) 75 2) (h4 : (am_up M 76 a1 1) 75 2 < 216) (h5 : -2147483648 ≤ ((am_up (am_up M 76 a1 1) 77 ((am_up M 76 a1 1) 75 2) a1) 75 2) + 1 ∧ ((am_up (am_up M 76 a1 1) 77 ((am_up M 76 a1 1) 75 2) a1) 75 2) + 1 ≤ 2147483647) (k : Q none (am_up (am_up (am_up M 76 a1 1) 77 ((am_up M 76 a1 1) 75 2) a1) 75 2 (((am_up (am_up M 76 a1 1) 77 ((am_up M 76 a1 1) 75 2) a1) 75 2) + 1))) : am_AtN m0_meet 35 [some (vr 75), some (vi a1)] [] KS M Q := by
  refine s_aload_n (show decode (am_cc m0_meet) 35 = .ok (.aload_n 0, 1) by decide +kernel) rfl ?_
  refine s_getf (k := 0) (v := vr 76) (show decode (am_cc m0_meet) 36 = .ok (.getfield 11, 3) by decide +kernel) kd75 (by decide) rfl jnX0 (by decide) lf_RX0_11 rfl ?_
  refine s_iload_n (show decode (am_cc m0_meet) 39 = .ok (.iload_n 1, 1) by decide +kernel) rfl ?_
  refine s_iconst (show decode (am_cc m0_meet) 40 = .ok (.iconst 1, 1) by decide +kernel) ⟨by decide, by decide⟩ ?_
  refine s_iastore (show decode (am_cc m0_meet) 41 = .ok (.iastore, 1) by decide +kernel) kd76 h1 h2 ?_
  refine s_aload_n (show decode (am_cc m0_meet) 42 = .ok (.aload_n 0, 1) by decide +kernel) rfl ?_
  refine s_getf (k := 1) (v := vr 77) (show decode (am_cc m0_meet) 43 = .ok (.getfield 15, 3) by decide +kernel) kd75 (by decide) rfl jnX0 (by decide) lf_RX0_15 rfl ?_
  refine s_aload_n (show decode (am_cc m0_meet) 46 = .ok (.aload_n 0, 1) by decide +kernel) rfl ?_
  refine s_getf (k := 2) (v := vi ((am_up M 76 a1 1) 75 2)) (show decode (am_cc m0_meet) 47 = .ok (.getfield 18, 3) by decide +kernel) kd75 (by decide) rfl jnX0 (by decide) lf_RX0_18 rfl ?_
  refine s_iload_n (show decode (am_cc m0_meet) 50 = .ok (.iload_n 1, 1) by decide +kernel) rfl ?_
  refine s_iastore (show decode (am_cc m0_meet) 51 = .ok (.iastore, 1) by decide +kernel) kd77 h3 h4 ?_
  refine s_aload_n (show decode (am_cc m0_meet) 52 = .ok (.aload_n 0, 1) by decide +kernel) rfl ?_
  refine s_dupr (show decode (am_cc m0_meet) 53 = .ok (.dup, 1) by decide +kernel) ?_
  refine s_getf (k := 2) (v := vi ((am_up (am_up M 76 a1 1) 77 ((am_up M 76 a1 1) 75 2) a1) 75 2)) (show decode (am_cc m0_meet) 54 = .ok (.getfield 18, 3) by decide +kernel) kd75 (by decide) rfl jnX0 (by decide) lf_RX0_18 rfl ?_
  refine s_iconst (show decode (am_cc m0_meet) 57 = .ok (.iconst 1, 1) by decide +kernel) ⟨by decide, by decide⟩ ?_
  refine s_iadd (show decode (am_cc m0_meet) 58 = .ok (.iadd, 1) by decide +kernel) h5 ?_
  refine s_putf (k := 2) (x := ((am_up (am_up M 76 a1 1) 77 ((am_up M 76 a1 1) 75 2) a1) 75 2) + 1) (ty0 := tyX0) (show decode (am_cc m0_meet) 59 = .ok (.putfield 18, 3) by decide +kernel) kd75 (by decide) rfl jnX0 tyX0_ok nmX0 (by decide) lf_RX0_18 rfl (Or.inl ⟨rfl, rfl, rfl⟩) ?_
  exact s_return (show decode (am_cc m0_meet) 62 = .ok (.return_, 1) by decide +kernel) rfl k
theorem g0_pointOf_0 {a0 : Int} {K : am_K} {M : am_M} {Q : Option am_V → am_M → Prop} (h1 : 0 ≤ a0) (k : Q (some (vi (a0 / 36))) M) : am_AtN m0_pointOf 0 [some (vi a0)] [] K M Q := by
  refine s_iload_n (show decode (am_cc m0_pointOf) 0 = .ok (.iload_n 0, 1) by decide +kernel) rfl ?_
  refine s_bipush (show decode (am_cc m0_pointOf) 1 = .ok (.bipush 36, 2) by decide +kernel) ⟨by decide, by decide⟩ (by decide) ?_
  refine s_idiv (show decode (am_cc m0_pointOf) 3 = .ok (.idiv, 1) by decide +kernel) h1 (by decide) ?_
  exact s_ireturn (show decode (am_cc m0_pointOf) 4 = .ok (.ireturn, 1) by decide +kernel) rfl k
theorem g0_oneSpot_0 {a0 : Int} {K : am_K} {M : am_M} {Q : Option am_V → am_M → Prop} (h1 : 0 ≤ a0) (h2 : 0 ≤ a0 / 6) (k : Q (some (vi ((a0 / 6) % 6))) M) : am_AtN m0_oneSpot 0 [some (vi a0)] [] K M Q := by
  refine s_iload_n (show decode (am_cc m0_oneSpot) 0 = .ok (.iload_n 0, 1) by decide +kernel) rfl ?_
  refine s_bipush (show decode (am_cc m0_oneSpot) 1 = .ok (.bipush 6, 2) by decide +kernel) ⟨by decide, by decide⟩ (by decide) ?_
  refine s_idiv (show decode (am_cc m0_oneSpot) 3 = .ok (.idiv, 1) by decide +kernel) h1 (by decide) ?_
  refine s_bipush (show decode (am_cc m0_oneSpot) 4 = .ok (.bipush 6, 2) by decide +kernel) ⟨by decide, by decide⟩ (by decide) ?_
  refine s_irem (show decode (am_cc m0_oneSpot) 6 = .ok (.irem, 1) by decide +kernel) h2 (by decide) ?_
  exact s_ireturn (show decode (am_cc m0_oneSpot) 7 = .ok (.ireturn, 1) by decide +kernel) rfl k
theorem g0_otherSpot_0 {a0 : Int} {K : am_K} {M : am_M} {Q : Option am_V → am_M → Prop} (h1 : 0 ≤ a0) (k : Q (some (vi (a0 % 6))) M) : am_AtN m0_otherSpot 0 [some (vi a0)] [] K M Q := by
  refine s_iload_n (show decode (am_cc m0_otherSpot) 0 = .ok (.iload_n 0, 1) by decide +kernel) rfl ?_
  refine s_bipush (show decode (am_cc m0_otherSpot) 1 = .ok (.bipush 6, 2) by decide +kernel) ⟨by decide, by decide⟩ (by decide) ?_
  refine s_irem (show decode (am_cc m0_otherSpot) 3 = .ok (.irem, 1) by decide +kernel) h1 (by decide) ?_
  exact s_ireturn (show decode (am_cc m0_otherSpot) 4 = .ok (.ireturn, 1) by decide +kernel) rfl k
theorem g0_after_0 {a1 a2 : Int} {M : am_M} {Q : Option am_V → am_M → Prop} (k : am_CallN m0_oneSpot [vi a1] KS M (fun r M' => am_AtN m0_after 8 [some (vr 75), some (vi a1), some (vi a2), none] (r.toList ++ [vr (M 75 8)]) KS M' Q)) : am_AtN m0_after 0 [some (vr 75), some (vi a1), some (vi a2), none] [] KS M Q := by
  refine s_aload_n (show decode (am_cc m0_after) 0 = .ok (.aload_n 0, 1) by decide +kernel) rfl ?_
  refine s_getf (k := 8) (v := vr (M 75 8)) (show decode (am_cc m0_after) 1 = .ok (.getfield 44, 3) by decide +kernel) kd75 (by decide) rfl jnX0 (by decide) lf_RX0_44 rfl ?_
  refine s_iload_n (show decode (am_cc m0_after) 4 = .ok (.iload_n 1, 1) by decide +kernel) rfl ?_
  exact n_callS (as := [vi a1]) (stk := [vr (M 75 8)]) (show decode (am_cc m0_after) 5 = .ok (.invokestatic 84, 3) by decide +kernel) lk_RX0_84 (by decide) (Nat.le_of_ble_eq_true rfl) ⟨rfl, rfl⟩ k
theorem g0_after_8 {a1 a2 t0 t1 : Int} {M : am_M} {Q : Option am_V → am_M → Prop} {r0 : List Int} (h1 : am_kd KS t0 = some (4, 3, r0)) (k : am_CallN m4_nextOf [vr t0, vi t1, vi a2] KS M (fun r M' => am_AtN m0_after 12 [some (vr 75), some (vi a1), some (vi a2), none] (r.toList ++ []) KS M' Q)) : am_AtN m0_after 8 [some (vr 75), some (vi a1), some (vi a2), none] [vi t1, vr t0] KS M Q := by
  refine s_iload_n (show decode (am_cc m0_after) 8 = .ok (.iload_n 2, 1) by decide +kernel) rfl ?_
  exact n_callV (as := [vi t1, vi a2]) (stk := []) (show decode (am_cc m0_after) 9 = .ok (.invokevirtual 88, 3) by decide +kernel) lk_RX0_88 h1 (by decide) rfl rfl (by decide) (Nat.le_of_ble_eq_true rfl) ⟨rfl, rfl⟩ k
theorem g0_after_12 {a1 a2 t0 : Int} {M : am_M} {Q : Option am_V → am_M → Prop} (h1 : -2147483648 ≤ t0 * 6 ∧ t0 * 6 ≤ 2147483647) (k : am_CallN m0_otherSpot [vi a1] KS M (fun r M' => am_AtN m0_after 23 [some (vr 75), some (vi a1), some (vi a2), none] (r.toList ++ [vr (M 75 9), vi (t0 * 6)]) KS M' Q)) : am_AtN m0_after 12 [some (vr 75), some (vi a1), some (vi a2), none] [vi t0] KS M Q := by
  refine s_bipush (show decode (am_cc m0_after) 12 = .ok (.bipush 6, 2) by decide +kernel) ⟨by decide, by decide⟩ (by decide) ?_
  refine s_imul (show decode (am_cc m0_after) 14 = .ok (.imul, 1) by decide +kernel) h1 ?_
  refine s_aload_n (show decode (am_cc m0_after) 15 = .ok (.aload_n 0, 1) by decide +kernel) rfl ?_
  refine s_getf (k := 9) (v := vr (M 75 9)) (show decode (am_cc m0_after) 16 = .ok (.getfield 48, 3) by decide +kernel) kd75 (by decide) rfl jnX0 (by decide) lf_RX0_48 rfl ?_
  refine s_iload_n (show decode (am_cc m0_after) 19 = .ok (.iload_n 1, 1) by decide +kernel) rfl ?_
  exact n_callS (as := [vi a1]) (stk := [vr (M 75 9), vi (t0 * 6)]) (show decode (am_cc m0_after) 20 = .ok (.invokestatic 93, 3) by decide +kernel) lk_RX0_93 (by decide) (Nat.le_of_ble_eq_true rfl) ⟨rfl, rfl⟩ k
theorem g0_after_23 {a1 a2 t0 t1 t2 : Int} {M : am_M} {Q : Option am_V → am_M → Prop} {r0 : List Int} (h1 : am_kd KS t1 = some (4, 3, r0)) (k : am_CallN m4_nextOf [vr t1, vi t2, vi a2] KS M (fun r M' => am_AtN m0_after 27 [some (vr 75), some (vi a1), some (vi a2), none] (r.toList ++ [vi t0]) KS M' Q)) : am_AtN m0_after 23 [some (vr 75), some (vi a1), some (vi a2), none] [vi t2, vr t1, vi t0] KS M Q := by
  refine s_iload_n (show decode (am_cc m0_after) 23 = .ok (.iload_n 2, 1) by decide +kernel) rfl ?_
  exact n_callV (as := [vi t2, vi a2]) (stk := [vi t0]) (show decode (am_cc m0_after) 24 = .ok (.invokevirtual 88, 3) by decide +kernel) lk_RX0_88 h1 (by decide) rfl rfl (by decide) (Nat.le_of_ble_eq_true rfl) ⟨rfl, rfl⟩ k
theorem g0_after_27 {a1 a2 t0 t1 : Int} {M : am_M} {Q : Option am_V → am_M → Prop} (h1 : -2147483648 ≤ t0 + t1 ∧ t0 + t1 ≤ 2147483647) (k : am_CallN m0_pointOf [vi a1] KS M (fun r M' => am_AtN m0_after 37 [some (vr 75), some (vi a1), some (vi a2), some (vi (t0 + t1))] (r.toList ++ [vr (M 75 7)]) KS M' Q)) : am_AtN m0_after 27 [some (vr 75), some (vi a1), some (vi a2), none] [vi t1, vi t0] KS M Q := by
  refine s_iadd (show decode (am_cc m0_after) 27 = .ok (.iadd, 1) by decide +kernel) h1 ?_
  refine s_istore_n (show decode (am_cc m0_after) 28 = .ok (.istore_n 3, 1) by decide +kernel) (by decide) ?_
  refine s_aload_n (show decode (am_cc m0_after) 29 = .ok (.aload_n 0, 1) by decide +kernel) rfl ?_
  refine s_getf (k := 7) (v := vr (M 75 7)) (show decode (am_cc m0_after) 30 = .ok (.getfield 40, 3) by decide +kernel) kd75 (by decide) rfl jnX0 (by decide) lf_RX0_40 rfl ?_
  refine s_iload_n (show decode (am_cc m0_after) 33 = .ok (.iload_n 1, 1) by decide +kernel) rfl ?_
  exact n_callS (as := [vi a1]) (stk := [vr (M 75 7)]) (show decode (am_cc m0_after) 34 = .ok (.invokestatic 96, 3) by decide +kernel) lk_RX0_96 (by decide) (Nat.le_of_ble_eq_true rfl) ⟨rfl, rfl⟩ k
theorem g0_after_37 {a1 a2 a3 t0 t1 : Int} {M : am_M} {Q : Option am_V → am_M → Prop} {r0 : List Int} (h1 : am_kd KS t0 = some (6, 2, r0)) (k : am_CallN m6_nextOf [vr t0, vi t1, vi a2] KS M (fun r M' => am_AtN m0_after 41 [some (vr 75), some (vi a1), some (vi a2), some (vi a3)] (r.toList ++ []) KS M' Q)) : am_AtN m0_after 37 [some (vr 75), some (vi a1), some (vi a2), some (vi a3)] [vi t1, vr t0] KS M Q := by
  refine s_iload_n (show decode (am_cc m0_after) 37 = .ok (.iload_n 2, 1) by decide +kernel) rfl ?_
  exact n_callV (as := [vi t1, vi a2]) (stk := []) (show decode (am_cc m0_after) 38 = .ok (.invokevirtual 99, 3) by decide +kernel) lk_RX0_99 h1 (by decide) rfl rfl (by decide) (Nat.le_of_ble_eq_true rfl) ⟨rfl, rfl⟩ k
theorem g0_after_41 {a1 a2 a3 t0 : Int} {M : am_M} {Q : Option am_V → am_M → Prop} (h1 : -2147483648 ≤ t0 * 6 ∧ t0 * 6 ≤ 2147483647) (h2 : -2147483648 ≤ (t0 * 6) * 6 ∧ (t0 * 6) * 6 ≤ 2147483647) (h3 : -2147483648 ≤ ((t0 * 6) * 6) + a3 ∧ ((t0 * 6) * 6) + a3 ≤ 2147483647) (k : Q (some (vi (((t0 * 6) * 6) + a3))) M) : am_AtN m0_after 41 [some (vr 75), some (vi a1), some (vi a2), some (vi a3)] [vi t0] KS M Q := by
  refine s_bipush (show decode (am_cc m0_after) 41 = .ok (.bipush 6, 2) by decide +kernel) ⟨by decide, by decide⟩ (by decide) ?_
  refine s_imul (show decode (am_cc m0_after) 43 = .ok (.imul, 1) by decide +kernel) h1 ?_
  refine s_bipush (show decode (am_cc m0_after) 44 = .ok (.bipush 6, 2) by decide +kernel) ⟨by decide, by decide⟩ (by decide) ?_
  refine s_imul (show decode (am_cc m0_after) 46 = .ok (.imul, 1) by decide +kernel) h2 ?_
  refine s_iload_n (show decode (am_cc m0_after) 47 = .ok (.iload_n 3, 1) by decide +kernel) rfl ?_
  refine s_iadd (show decode (am_cc m0_after) 48 = .ok (.iadd, 1) by decide +kernel) h3 ?_
  exact s_ireturn (show decode (am_cc m0_after) 49 = .ok (.ireturn, 1) by decide +kernel) rfl k
theorem g0_oneStopsAlone_0 {M : am_M} {Q : Option am_V → am_M → Prop} (k : am_AtN m0_oneStopsAlone 2 [some (vr 75), some (vi 0), none, none, none] [] KS M Q) : am_AtN m0_oneStopsAlone 0 [some (vr 75), none, none, none, none] [] KS M Q := by
  refine s_iconst (show decode (am_cc m0_oneStopsAlone) 0 = .ok (.iconst 0, 1) by decide +kernel) ⟨by decide, by decide⟩ ?_
  refine s_istore_n (show decode (am_cc m0_oneStopsAlone) 1 = .ok (.istore_n 1, 1) by decide +kernel) (by decide) ?_
  exact k
theorem g0_oneStopsAlone_2 {a1 : Int} {M : am_M} {Q : Option am_V → am_M → Prop} (k1 : M 75 2 ≤ a1 → am_AtN m0_oneStopsAlone 95 [some (vr 75), some (vi a1), none, none, none] [] KS M Q) (k2 : ¬ (M 75 2 ≤ a1) → am_AtN m0_oneStopsAlone 10 [some (vr 75), some (vi a1), none, none, none] [] KS M Q) : am_AtN m0_oneStopsAlone 2 [some (vr 75), some (vi a1), none, none, none] [] KS M Q := by
  refine s_iload_n (show decode (am_cc m0_oneStopsAlone) 2 = .ok (.iload_n 1, 1) by decide +kernel) rfl ?_
  refine s_aload_n (show decode (am_cc m0_oneStopsAlone) 3 = .ok (.aload_n 0, 1) by decide +kernel) rfl ?_
  refine s_getf (k := 2) (v := vi (M 75 2)) (show decode (am_cc m0_oneStopsAlone) 4 = .ok (.getfield 18, 3) by decide +kernel) kd75 (by decide) rfl jnX0 (by decide) lf_RX0_18 rfl ?_
  exact s_icmp_ge (tgt := 95) (show decode (am_cc m0_oneStopsAlone) 7 = .ok (.if_icmp .ge 88, 3) by decide +kernel) (by decide) k1 k2
theorem g0_oneStopsAlone_10 {a1 : Int} {M : am_M} {Q : Option am_V → am_M → Prop} (k1 : 216 ≤ a1 → am_AtN m0_oneStopsAlone 95 [some (vr 75), some (vi a1), none, none, none] [] KS M Q) (k2 : ¬ (216 ≤ a1) → am_AtN m0_oneStopsAlone 17 [some (vr 75), some (vi a1), none, none, none] [] KS M Q) : am_AtN m0_oneStopsAlone 10 [some (vr 75), some (vi a1), none, none, none] [] KS M Q := by
  refine s_iload_n (show decode (am_cc m0_oneStopsAlone) 10 = .ok (.iload_n 1, 1) by decide +kernel) rfl ?_
  refine s_sipush (show decode (am_cc m0_oneStopsAlone) 11 = .ok (.sipush 216, 3) by decide +kernel) ⟨by decide, by decide⟩ (by decide) ?_
  exact s_icmp_ge (tgt := 95) (show decode (am_cc m0_oneStopsAlone) 14 = .ok (.if_icmp .ge 81, 3) by decide +kernel) (by decide) k1 k2
theorem g0_oneStopsAlone_17 {a1 : Int} {M : am_M} {Q : Option am_V → am_M → Prop} (h1 : 0 ≤ a1) (h2 : a1 < 216) (k : am_CallN m0_oneSpot [vi (M 77 a1)] KS M (fun r M' => am_AtN m0_oneStopsAlone 32 [some (vr 75), some (vi a1), some (vi (M 77 a1)), none, none] (r.toList ++ [vr (M 75 8)]) KS M' Q)) : am_AtN m0_oneStopsAlone 17 [some (vr 75), some (vi a1), none, none, none] [] KS M Q := by
  refine s_aload_n (show decode (am_cc m0_oneStopsAlone) 17 = .ok (.aload_n 0, 1) by decide +kernel) rfl ?_
  refine s_getf (k := 1) (v := vr 77) (show decode (am_cc m0_oneStopsAlone) 18 = .ok (.getfield 15, 3) by decide +kernel) kd75 (by decide) rfl jnX0 (by decide) lf_RX0_15 rfl ?_
  refine s_iload_n (show decode (am_cc m0_oneStopsAlone) 21 = .ok (.iload_n 1, 1) by decide +kernel) rfl ?_
  refine s_iaload (show decode (am_cc m0_oneStopsAlone) 22 = .ok (.iaload, 1) by decide +kernel) kd77 h1 h2 ?_
  refine s_istore_n (show decode (am_cc m0_oneStopsAlone) 23 = .ok (.istore_n 2, 1) by decide +kernel) (by decide) ?_
  refine s_aload_n (show decode (am_cc m0_oneStopsAlone) 24 = .ok (.aload_n 0, 1) by decide +kernel) rfl ?_
  refine s_getf (k := 8) (v := vr (M 75 8)) (show decode (am_cc m0_oneStopsAlone) 25 = .ok (.getfield 44, 3) by decide +kernel) kd75 (by decide) rfl jnX0 (by decide) lf_RX0_44 rfl ?_
  refine s_iload_n (show decode (am_cc m0_oneStopsAlone) 28 = .ok (.iload_n 2, 1) by decide +kernel) rfl ?_
  exact n_callS (as := [vi (M 77 a1)]) (stk := [vr (M 75 8)]) (show decode (am_cc m0_oneStopsAlone) 29 = .ok (.invokestatic 84, 3) by decide +kernel) lk_RX0_84 (by decide) (Nat.le_of_ble_eq_true rfl) ⟨rfl, rfl⟩ k
theorem g0_oneStopsAlone_32 {a1 a2 t0 t1 : Int} {M : am_M} {Q : Option am_V → am_M → Prop} {r0 : List Int} (h1 : am_kd KS t0 = some (4, 3, r0)) (k : am_CallN m4_endOf [vr t0, vi t1] KS M (fun r M' => am_AtN m0_oneStopsAlone 35 [some (vr 75), some (vi a1), some (vi a2), none, none] (r.toList ++ []) KS M' Q)) : am_AtN m0_oneStopsAlone 32 [some (vr 75), some (vi a1), some (vi a2), none, none] [vi t1, vr t0] KS M Q := by
  exact n_callV (as := [vi t1]) (stk := []) (show decode (am_cc m0_oneStopsAlone) 32 = .ok (.invokevirtual 102, 3) by decide +kernel) lk_RX0_102 h1 (by decide) rfl rfl (by decide) (Nat.le_of_ble_eq_true rfl) ⟨rfl, rfl⟩ k
theorem g0_oneStopsAlone_35 {a1 a2 t0 : Int} {M : am_M} {Q : Option am_V → am_M → Prop} (k1 : ¬ t0 = -1 → am_AtN m0_oneStopsAlone 43 [some (vr 75), some (vi a1), some (vi a2), none, none] [] KS M Q) (k2 : t0 = -1 → am_AtN m0_oneStopsAlone 39 [some (vr 75), some (vi a1), some (vi a2), none, none] [] KS M Q) : am_AtN m0_oneStopsAlone 35 [some (vr 75), some (vi a1), some (vi a2), none, none] [vi t0] KS M Q := by
  refine s_iconst (show decode (am_cc m0_oneStopsAlone) 35 = .ok (.iconst (-1), 1) by decide +kernel) ⟨by decide, by decide⟩ ?_
  exact s_icmp_ne (tgt := 43) (show decode (am_cc m0_oneStopsAlone) 36 = .ok (.if_icmp .ne 7, 3) by decide +kernel) (by decide) k1 k2
theorem g0_oneStopsAlone_39 {a1 a2 : Int} {M : am_M} {Q : Option am_V → am_M → Prop} (k : am_AtN m0_oneStopsAlone 44 [some (vr 75), some (vi a1), some (vi a2), none, none] [vi 1] KS M Q) : am_AtN m0_oneStopsAlone 39 [some (vr 75), some (vi a1), some (vi a2), none, none] [] KS M Q := by
  refine s_iconst (show decode (am_cc m0_oneStopsAlone) 39 = .ok (.iconst 1, 1) by decide +kernel) ⟨by decide, by decide⟩ ?_
  refine s_goto (tgt := 44) (show decode (am_cc m0_oneStopsAlone) 40 = .ok (.goto 4, 3) by decide +kernel) (by decide) ?_
  exact k
theorem g0_oneStopsAlone_43 {a1 a2 : Int} {M : am_M} {Q : Option am_V → am_M → Prop} (k : am_AtN m0_oneStopsAlone 44 [some (vr 75), some (vi a1), some (vi a2), none, none] [vi 0] KS M Q) : am_AtN m0_oneStopsAlone 43 [some (vr 75), some (vi a1), some (vi a2), none, none] [] KS M Q := by
  refine s_iconst (show decode (am_cc m0_oneStopsAlone) 43 = .ok (.iconst 0, 1) by decide +kernel) ⟨by decide, by decide⟩ ?_
  exact k
theorem g0_oneStopsAlone_44 {a1 a2 t0 : Int} {M : am_M} {Q : Option am_V → am_M → Prop} (k : am_CallN m0_otherSpot [vi a2] KS M (fun r M' => am_AtN m0_oneStopsAlone 53 [some (vr 75), some (vi a1), some (vi a2), some (vi t0), none] (r.toList ++ [vr (M 75 9)]) KS M' Q)) : am_AtN m0_oneStopsAlone 44 [some (vr 75), some (vi a1), some (vi a2), none, none] [vi t0] KS M Q := by
  refine s_istore_n (show decode (am_cc m0_oneStopsAlone) 44 = .ok (.istore_n 3, 1) by decide +kernel) (by decide) ?_
  refine s_aload_n (show decode (am_cc m0_oneStopsAlone) 45 = .ok (.aload_n 0, 1) by decide +kernel) rfl ?_
  refine s_getf (k := 9) (v := vr (M 75 9)) (show decode (am_cc m0_oneStopsAlone) 46 = .ok (.getfield 48, 3) by decide +kernel) kd75 (by decide) rfl jnX0 (by decide) lf_RX0_48 rfl ?_
  refine s_iload_n (show decode (am_cc m0_oneStopsAlone) 49 = .ok (.iload_n 2, 1) by decide +kernel) rfl ?_
  exact n_callS (as := [vi a2]) (stk := [vr (M 75 9)]) (show decode (am_cc m0_oneStopsAlone) 50 = .ok (.invokestatic 93, 3) by decide +kernel) lk_RX0_93 (by decide) (Nat.le_of_ble_eq_true rfl) ⟨rfl, rfl⟩ k
theorem g0_oneStopsAlone_53 {a1 a2 a3 t0 t1 : Int} {M : am_M} {Q : Option am_V → am_M → Prop} {r0 : List Int} (h1 : am_kd KS t0 = some (4, 3, r0)) (k : am_CallN m4_endOf [vr t0, vi t1] KS M (fun r M' => am_AtN m0_oneStopsAlone 56 [some (vr 75), some (vi a1), some (vi a2), some (vi a3), none] (r.toList ++ []) KS M' Q)) : am_AtN m0_oneStopsAlone 53 [some (vr 75), some (vi a1), some (vi a2), some (vi a3), none] [vi t1, vr t0] KS M Q := by
  exact n_callV (as := [vi t1]) (stk := []) (show decode (am_cc m0_oneStopsAlone) 53 = .ok (.invokevirtual 102, 3) by decide +kernel) lk_RX0_102 h1 (by decide) rfl rfl (by decide) (Nat.le_of_ble_eq_true rfl) ⟨rfl, rfl⟩ k
theorem g0_oneStopsAlone_56 {a1 a2 a3 t0 : Int} {M : am_M} {Q : Option am_V → am_M → Prop} (k1 : ¬ t0 = -1 → am_AtN m0_oneStopsAlone 64 [some (vr 75), some (vi a1), some (vi a2), some (vi a3), none] [] KS M Q) (k2 : t0 = -1 → am_AtN m0_oneStopsAlone 60 [some (vr 75), some (vi a1), some (vi a2), some (vi a3), none] [] KS M Q) : am_AtN m0_oneStopsAlone 56 [some (vr 75), some (vi a1), some (vi a2), some (vi a3), none] [vi t0] KS M Q := by
  refine s_iconst (show decode (am_cc m0_oneStopsAlone) 56 = .ok (.iconst (-1), 1) by decide +kernel) ⟨by decide, by decide⟩ ?_
  exact s_icmp_ne (tgt := 64) (show decode (am_cc m0_oneStopsAlone) 57 = .ok (.if_icmp .ne 7, 3) by decide +kernel) (by decide) k1 k2
theorem g0_oneStopsAlone_60 {a1 a2 a3 : Int} {M : am_M} {Q : Option am_V → am_M → Prop} (k : am_AtN m0_oneStopsAlone 65 [some (vr 75), some (vi a1), some (vi a2), some (vi a3), none] [vi 1] KS M Q) : am_AtN m0_oneStopsAlone 60 [some (vr 75), some (vi a1), some (vi a2), some (vi a3), none] [] KS M Q := by
  refine s_iconst (show decode (am_cc m0_oneStopsAlone) 60 = .ok (.iconst 1, 1) by decide +kernel) ⟨by decide, by decide⟩ ?_
  refine s_goto (tgt := 65) (show decode (am_cc m0_oneStopsAlone) 61 = .ok (.goto 4, 3) by decide +kernel) (by decide) ?_
  exact k
theorem g0_oneStopsAlone_64 {a1 a2 a3 : Int} {M : am_M} {Q : Option am_V → am_M → Prop} (k : am_AtN m0_oneStopsAlone 65 [some (vr 75), some (vi a1), some (vi a2), some (vi a3), none] [vi 0] KS M Q) : am_AtN m0_oneStopsAlone 64 [some (vr 75), some (vi a1), some (vi a2), some (vi a3), none] [] KS M Q := by
  refine s_iconst (show decode (am_cc m0_oneStopsAlone) 64 = .ok (.iconst 0, 1) by decide +kernel) ⟨by decide, by decide⟩ ?_
  exact k
theorem g0_oneStopsAlone_65 {a1 a2 a3 t0 : Int} {M : am_M} {Q : Option am_V → am_M → Prop} (k : am_CallN m0_pointOf [vi a2] KS M (fun r M' => am_AtN m0_oneStopsAlone 75 [some (vr 75), some (vi a1), some (vi a2), some (vi a3), some (vi t0)] (r.toList ++ [vr (M 75 7)]) KS M' Q)) : am_AtN m0_oneStopsAlone 65 [some (vr 75), some (vi a1), some (vi a2), some (vi a3), none] [vi t0] KS M Q := by
  refine s_istore (show decode (am_cc m0_oneStopsAlone) 65 = .ok (.istore 4, 2) by decide +kernel) (by decide) ?_
  refine s_aload_n (show decode (am_cc m0_oneStopsAlone) 67 = .ok (.aload_n 0, 1) by decide +kernel) rfl ?_
  refine s_getf (k := 7) (v := vr (M 75 7)) (show decode (am_cc m0_oneStopsAlone) 68 = .ok (.getfield 40, 3) by decide +kernel) kd75 (by decide) rfl jnX0 (by decide) lf_RX0_40 rfl ?_
  refine s_iload_n (show decode (am_cc m0_oneStopsAlone) 71 = .ok (.iload_n 2, 1) by decide +kernel) rfl ?_
  exact n_callS (as := [vi a2]) (stk := [vr (M 75 7)]) (show decode (am_cc m0_oneStopsAlone) 72 = .ok (.invokestatic 96, 3) by decide +kernel) lk_RX0_96 (by decide) (Nat.le_of_ble_eq_true rfl) ⟨rfl, rfl⟩ k
theorem g0_oneStopsAlone_75 {a1 a2 a3 a4 t0 t1 : Int} {M : am_M} {Q : Option am_V → am_M → Prop} {r0 : List Int} (h1 : am_kd KS t0 = some (6, 2, r0)) (k : am_CallN m6_holdsAt [vr t0, vi t1] KS M (fun r M' => am_AtN m0_oneStopsAlone 78 [some (vr 75), some (vi a1), some (vi a2), some (vi a3), some (vi a4)] (r.toList ++ []) KS M' Q)) : am_AtN m0_oneStopsAlone 75 [some (vr 75), some (vi a1), some (vi a2), some (vi a3), some (vi a4)] [vi t1, vr t0] KS M Q := by
  exact n_callV (as := [vi t1]) (stk := []) (show decode (am_cc m0_oneStopsAlone) 75 = .ok (.invokevirtual 105, 3) by decide +kernel) lk_RX0_105 h1 (by decide) rfl rfl (by decide) (Nat.le_of_ble_eq_true rfl) ⟨rfl, rfl⟩ k
theorem g0_oneStopsAlone_78 {a1 a2 a3 a4 t0 : Int} {M : am_M} {Q : Option am_V → am_M → Prop} (k1 : t0 = 0 → am_AtN m0_oneStopsAlone 89 [some (vr 75), some (vi a1), some (vi a2), some (vi a3), some (vi a4)] [] KS M Q) (k2 : ¬ (t0 = 0) → am_AtN m0_oneStopsAlone 81 [some (vr 75), some (vi a1), some (vi a2), some (vi a3), some (vi a4)] [] KS M Q) : am_AtN m0_oneStopsAlone 78 [some (vr 75), some (vi a1), some (vi a2), some (vi a3), some (vi a4)] [vi t0] KS M Q := by
  exact s_if_eq (tgt := 89) (show decode (am_cc m0_oneStopsAlone) 78 = .ok (.ifCond .eq 11, 3) by decide +kernel) (by decide) k1 k2
theorem g0_oneStopsAlone_81 {a1 a2 a3 a4 : Int} {M : am_M} {Q : Option am_V → am_M → Prop} (k1 : a3 = a4 → am_AtN m0_oneStopsAlone 89 [some (vr 75), some (vi a1), some (vi a2), some (vi a3), some (vi a4)] [] KS M Q) (k2 : ¬ (a3 = a4) → am_AtN m0_oneStopsAlone 87 [some (vr 75), some (vi a1), some (vi a2), some (vi a3), some (vi a4)] [] KS M Q) : am_AtN m0_oneStopsAlone 81 [some (vr 75), some (vi a1), some (vi a2), some (vi a3), some (vi a4)] [] KS M Q := by
  refine s_iload_n (show decode (am_cc m0_oneStopsAlone) 81 = .ok (.iload_n 3, 1) by decide +kernel) rfl ?_
  refine s_iload (show decode (am_cc m0_oneStopsAlone) 82 = .ok (.iload 4, 2) by decide +kernel) rfl ?_
  exact s_icmp_eq (tgt := 89) (show decode (am_cc m0_oneStopsAlone) 84 = .ok (.if_icmp .eq 5, 3) by decide +kernel) (by decide) k1 k2
theorem g0_oneStopsAlone_87 {a1 a2 a3 a4 : Int} {M : am_M} {Q : Option am_V → am_M → Prop} (k : Q (some (vi 1)) M) : am_AtN m0_oneStopsAlone 87 [some (vr 75), some (vi a1), some (vi a2), some (vi a3), some (vi a4)] [] KS M Q := by
  refine s_iconst (show decode (am_cc m0_oneStopsAlone) 87 = .ok (.iconst 1, 1) by decide +kernel) ⟨by decide, by decide⟩ ?_
  exact s_zreturn (show decode (am_cc m0_oneStopsAlone) 88 = .ok (.ireturn, 1) by decide +kernel) rfl (by decide) k
theorem g0_oneStopsAlone_89 {a1 a2 a3 a4 : Int} {M : am_M} {Q : Option am_V → am_M → Prop} (h1 : -2147483648 ≤ a1 + 1 ∧ a1 + 1 ≤ 2147483647) (k : am_AtN m0_oneStopsAlone 2 [some (vr 75), some (vi (a1 + 1)), none, none, none] [] KS M Q) : am_AtN m0_oneStopsAlone 89 [some (vr 75), some (vi a1), some (vi a2), some (vi a3), some (vi a4)] [] KS M Q := by
  refine s_iinc (show decode (am_cc m0_oneStopsAlone) 89 = .ok (.iinc 1 1, 3) by decide +kernel) rfl (by decide) h1 ?_
  refine s_goto (tgt := 2) (show decode (am_cc m0_oneStopsAlone) 92 = .ok (.goto (-90), 3) by decide +kernel) (by decide) ?_
  refine am_fg 2 ?_
  refine am_fg 3 ?_
  refine am_fg 4 ?_
  exact k
theorem g0_oneStopsAlone_95 {a1 : Int} {M : am_M} {Q : Option am_V → am_M → Prop} (k : Q (some (vi 0)) M) : am_AtN m0_oneStopsAlone 95 [some (vr 75), some (vi a1), none, none, none] [] KS M Q := by
  refine s_iconst (show decode (am_cc m0_oneStopsAlone) 95 = .ok (.iconst 0, 1) by decide +kernel) ⟨by decide, by decide⟩ ?_
  exact s_zreturn (show decode (am_cc m0_oneStopsAlone) 96 = .ok (.ireturn, 1) by decide +kernel) rfl (by decide) k
theorem g0_bothWrite_0 {a1 : Int} {M : am_M} {Q : Option am_V → am_M → Prop} (k : am_CallN m0_pointOf [vi a1] KS M (fun r M' => am_AtN m0_bothWrite 8 [some (vr 75), some (vi a1)] (r.toList ++ [vr (M 75 7)]) KS M' Q)) : am_AtN m0_bothWrite 0 [some (vr 75), some (vi a1)] [] KS M Q := by
  refine s_aload_n (show decode (am_cc m0_bothWrite) 0 = .ok (.aload_n 0, 1) by decide +kernel) rfl ?_
  refine s_getf (k := 7) (v := vr (M 75 7)) (show decode (am_cc m0_bothWrite) 1 = .ok (.getfield 40, 3) by decide +kernel) kd75 (by decide) rfl jnX0 (by decide) lf_RX0_40 rfl ?_
  refine s_iload_n (show decode (am_cc m0_bothWrite) 4 = .ok (.iload_n 1, 1) by decide +kernel) rfl ?_
  exact n_callS (as := [vi a1]) (stk := [vr (M 75 7)]) (show decode (am_cc m0_bothWrite) 5 = .ok (.invokestatic 96, 3) by decide +kernel) lk_RX0_96 (by decide) (Nat.le_of_ble_eq_true rfl) ⟨rfl, rfl⟩ k
theorem g0_bothWrite_8 {a1 t0 t1 : Int} {M : am_M} {Q : Option am_V → am_M → Prop} {r0 : List Int} (h1 : am_kd KS t0 = some (6, 2, r0)) (k : am_CallN m6_holdsAt [vr t0, vi t1] KS M (fun r M' => am_AtN m0_bothWrite 11 [some (vr 75), some (vi a1)] (r.toList ++ []) KS M' Q)) : am_AtN m0_bothWrite 8 [some (vr 75), some (vi a1)] [vi t1, vr t0] KS M Q := by
  exact n_callV (as := [vi t1]) (stk := []) (show decode (am_cc m0_bothWrite) 8 = .ok (.invokevirtual 105, 3) by decide +kernel) lk_RX0_105 h1 (by decide) rfl rfl (by decide) (Nat.le_of_ble_eq_true rfl) ⟨rfl, rfl⟩ k
theorem g0_bothWrite_11 {a1 t0 : Int} {M : am_M} {Q : Option am_V → am_M → Prop} (k1 : ¬ t0 = 0 → am_AtN m0_bothWrite 16 [some (vr 75), some (vi a1)] [] KS M Q) (k2 : t0 = 0 → am_AtN m0_bothWrite 14 [some (vr 75), some (vi a1)] [] KS M Q) : am_AtN m0_bothWrite 11 [some (vr 75), some (vi a1)] [vi t0] KS M Q := by
  exact s_if_ne (tgt := 16) (show decode (am_cc m0_bothWrite) 11 = .ok (.ifCond .ne 5, 3) by decide +kernel) (by decide) k1 k2
theorem g0_bothWrite_14 {a1 : Int} {M : am_M} {Q : Option am_V → am_M → Prop} (k : Q (some (vi 0)) M) : am_AtN m0_bothWrite 14 [some (vr 75), some (vi a1)] [] KS M Q := by
  refine s_iconst (show decode (am_cc m0_bothWrite) 14 = .ok (.iconst 0, 1) by decide +kernel) ⟨by decide, by decide⟩ ?_
  exact s_zreturn (show decode (am_cc m0_bothWrite) 15 = .ok (.ireturn, 1) by decide +kernel) rfl (by decide) k
theorem g0_bothWrite_16 {a1 : Int} {M : am_M} {Q : Option am_V → am_M → Prop} (k : am_CallN m0_oneSpot [vi a1] KS M (fun r M' => am_AtN m0_bothWrite 24 [some (vr 75), some (vi a1)] (r.toList ++ [vr (M 75 8)]) KS M' Q)) : am_AtN m0_bothWrite 16 [some (vr 75), some (vi a1)] [] KS M Q := by
  refine s_aload_n (show decode (am_cc m0_bothWrite) 16 = .ok (.aload_n 0, 1) by decide +kernel) rfl ?_
  refine s_getf (k := 8) (v := vr (M 75 8)) (show decode (am_cc m0_bothWrite) 17 = .ok (.getfield 44, 3) by decide +kernel) kd75 (by decide) rfl jnX0 (by decide) lf_RX0_44 rfl ?_
  refine s_iload_n (show decode (am_cc m0_bothWrite) 20 = .ok (.iload_n 1, 1) by decide +kernel) rfl ?_
  exact n_callS (as := [vi a1]) (stk := [vr (M 75 8)]) (show decode (am_cc m0_bothWrite) 21 = .ok (.invokestatic 84, 3) by decide +kernel) lk_RX0_84 (by decide) (Nat.le_of_ble_eq_true rfl) ⟨rfl, rfl⟩ k
theorem g0_bothWrite_24 {a1 t0 t1 : Int} {M : am_M} {Q : Option am_V → am_M → Prop} {r0 : List Int} (h1 : am_kd KS t0 = some (4, 3, r0)) (k : am_CallN m4_endOf [vr t0, vi t1] KS M (fun r M' => am_AtN m0_bothWrite 27 [some (vr 75), some (vi a1)] (r.toList ++ []) KS M' Q)) : am_AtN m0_bothWrite 24 [some (vr 75), some (vi a1)] [vi t1, vr t0] KS M Q := by
  exact n_callV (as := [vi t1]) (stk := []) (show decode (am_cc m0_bothWrite) 24 = .ok (.invokevirtual 102, 3) by decide +kernel) lk_RX0_102 h1 (by decide) rfl rfl (by decide) (Nat.le_of_ble_eq_true rfl) ⟨rfl, rfl⟩ k
theorem g0_bothWrite_27 {a1 t0 : Int} {M : am_M} {Q : Option am_V → am_M → Prop} (k1 : t0 = -1 → am_AtN m0_bothWrite 50 [some (vr 75), some (vi a1)] [] KS M Q) (k2 : ¬ (t0 = -1) → am_AtN m0_bothWrite 31 [some (vr 75), some (vi a1)] [] KS M Q) : am_AtN m0_bothWrite 27 [some (vr 75), some (vi a1)] [vi t0] KS M Q := by
  refine s_iconst (show decode (am_cc m0_bothWrite) 27 = .ok (.iconst (-1), 1) by decide +kernel) ⟨by decide, by decide⟩ ?_
  exact s_icmp_eq (tgt := 50) (show decode (am_cc m0_bothWrite) 28 = .ok (.if_icmp .eq 22, 3) by decide +kernel) (by decide) k1 k2
theorem g0_bothWrite_31 {a1 : Int} {M : am_M} {Q : Option am_V → am_M → Prop} (k : am_CallN m0_otherSpot [vi a1] KS M (fun r M' => am_AtN m0_bothWrite 39 [some (vr 75), some (vi a1)] (r.toList ++ [vr (M 75 9)]) KS M' Q)) : am_AtN m0_bothWrite 31 [some (vr 75), some (vi a1)] [] KS M Q := by
  refine s_aload_n (show decode (am_cc m0_bothWrite) 31 = .ok (.aload_n 0, 1) by decide +kernel) rfl ?_
  refine s_getf (k := 9) (v := vr (M 75 9)) (show decode (am_cc m0_bothWrite) 32 = .ok (.getfield 48, 3) by decide +kernel) kd75 (by decide) rfl jnX0 (by decide) lf_RX0_48 rfl ?_
  refine s_iload_n (show decode (am_cc m0_bothWrite) 35 = .ok (.iload_n 1, 1) by decide +kernel) rfl ?_
  exact n_callS (as := [vi a1]) (stk := [vr (M 75 9)]) (show decode (am_cc m0_bothWrite) 36 = .ok (.invokestatic 93, 3) by decide +kernel) lk_RX0_93 (by decide) (Nat.le_of_ble_eq_true rfl) ⟨rfl, rfl⟩ k
theorem g0_bothWrite_39 {a1 t0 t1 : Int} {M : am_M} {Q : Option am_V → am_M → Prop} {r0 : List Int} (h1 : am_kd KS t0 = some (4, 3, r0)) (k : am_CallN m4_endOf [vr t0, vi t1] KS M (fun r M' => am_AtN m0_bothWrite 42 [some (vr 75), some (vi a1)] (r.toList ++ []) KS M' Q)) : am_AtN m0_bothWrite 39 [some (vr 75), some (vi a1)] [vi t1, vr t0] KS M Q := by
  exact n_callV (as := [vi t1]) (stk := []) (show decode (am_cc m0_bothWrite) 39 = .ok (.invokevirtual 102, 3) by decide +kernel) lk_RX0_102 h1 (by decide) rfl rfl (by decide) (Nat.le_of_ble_eq_true rfl) ⟨rfl, rfl⟩ k
theorem g0_bothWrite_42 {a1 t0 : Int} {M : am_M} {Q : Option am_V → am_M → Prop} (k1 : t0 = -1 → am_AtN m0_bothWrite 50 [some (vr 75), some (vi a1)] [] KS M Q) (k2 : ¬ (t0 = -1) → am_AtN m0_bothWrite 46 [some (vr 75), some (vi a1)] [] KS M Q) : am_AtN m0_bothWrite 42 [some (vr 75), some (vi a1)] [vi t0] KS M Q := by
  refine s_iconst (show decode (am_cc m0_bothWrite) 42 = .ok (.iconst (-1), 1) by decide +kernel) ⟨by decide, by decide⟩ ?_
  exact s_icmp_eq (tgt := 50) (show decode (am_cc m0_bothWrite) 43 = .ok (.if_icmp .eq 7, 3) by decide +kernel) (by decide) k1 k2
theorem g0_bothWrite_46 {a1 : Int} {M : am_M} {Q : Option am_V → am_M → Prop} (k : am_AtN m0_bothWrite 51 [some (vr 75), some (vi a1)] [vi 1] KS M Q) : am_AtN m0_bothWrite 46 [some (vr 75), some (vi a1)] [] KS M Q := by
  refine s_iconst (show decode (am_cc m0_bothWrite) 46 = .ok (.iconst 1, 1) by decide +kernel) ⟨by decide, by decide⟩ ?_
  refine s_goto (tgt := 51) (show decode (am_cc m0_bothWrite) 47 = .ok (.goto 4, 3) by decide +kernel) (by decide) ?_
  exact k
theorem g0_bothWrite_50 {a1 : Int} {M : am_M} {Q : Option am_V → am_M → Prop} (k : am_AtN m0_bothWrite 51 [some (vr 75), some (vi a1)] [vi 0] KS M Q) : am_AtN m0_bothWrite 50 [some (vr 75), some (vi a1)] [] KS M Q := by
  refine s_iconst (show decode (am_cc m0_bothWrite) 50 = .ok (.iconst 0, 1) by decide +kernel) ⟨by decide, by decide⟩ ?_
  exact k
theorem g0_bothWrite_51 {a1 t0 : Int} {M : am_M} {Q : Option am_V → am_M → Prop} (h1 : t0 = 0 ∨ t0 = 1) (k : Q (some (vi t0)) M) : am_AtN m0_bothWrite 51 [some (vr 75), some (vi a1)] [vi t0] KS M Q := by
  exact s_zreturn (show decode (am_cc m0_bothWrite) 51 = .ok (.ireturn, 1) by decide +kernel) rfl h1 k
theorem g0_markLive_0 {M : am_M} {Q : Option am_V → am_M → Prop} (k : am_AtN m0_markLive 4 [some (vr 75), some (vi 1), some (vi 0), none] [] KS M Q) : am_AtN m0_markLive 0 [some (vr 75), none, none, none] [] KS M Q := by
  refine s_iconst (show decode (am_cc m0_markLive) 0 = .ok (.iconst 1, 1) by decide +kernel) ⟨by decide, by decide⟩ ?_
  refine s_istore_n (show decode (am_cc m0_markLive) 1 = .ok (.istore_n 1, 1) by decide +kernel) (by decide) ?_
  refine s_iconst (show decode (am_cc m0_markLive) 2 = .ok (.iconst 0, 1) by decide +kernel) ⟨by decide, by decide⟩ ?_
  refine s_istore_n (show decode (am_cc m0_markLive) 3 = .ok (.istore_n 2, 1) by decide +kernel) (by decide) ?_
  exact k
theorem g0_markLive_4 {a1 a2 : Int} {M : am_M} {Q : Option am_V → am_M → Prop} (k1 : a1 = 0 → am_AtN m0_markLive 97 [some (vr 75), some (vi a1), some (vi a2), none] [] KS M Q) (k2 : ¬ (a1 = 0) → am_AtN m0_markLive 8 [some (vr 75), some (vi a1), some (vi a2), none] [] KS M Q) : am_AtN m0_markLive 4 [some (vr 75), some (vi a1), some (vi a2), none] [] KS M Q := by
  refine s_iload_n (show decode (am_cc m0_markLive) 4 = .ok (.iload_n 1, 1) by decide +kernel) rfl ?_
  exact s_if_eq (tgt := 97) (show decode (am_cc m0_markLive) 5 = .ok (.ifCond .eq 92, 3) by decide +kernel) (by decide) k1 k2
theorem g0_markLive_8 {a1 a2 : Int} {M : am_M} {Q : Option am_V → am_M → Prop} (k1 : 216 < a2 → am_AtN m0_markLive 97 [some (vr 75), some (vi a1), some (vi a2), none] [] KS M Q) (k2 : ¬ (216 < a2) → am_AtN m0_markLive 15 [some (vr 75), some (vi a1), some (vi a2), none] [] KS M Q) : am_AtN m0_markLive 8 [some (vr 75), some (vi a1), some (vi a2), none] [] KS M Q := by
  refine s_iload_n (show decode (am_cc m0_markLive) 8 = .ok (.iload_n 2, 1) by decide +kernel) rfl ?_
  refine s_sipush (show decode (am_cc m0_markLive) 9 = .ok (.sipush 216, 3) by decide +kernel) ⟨by decide, by decide⟩ (by decide) ?_
  exact s_icmp_gt (tgt := 97) (show decode (am_cc m0_markLive) 12 = .ok (.if_icmp .gt 85, 3) by decide +kernel) (by decide) k1 k2
theorem g0_markLive_15 {a1 a2 : Int} {M : am_M} {Q : Option am_V → am_M → Prop} (h1 : -2147483648 ≤ (if 216 < (M 75 2) then 216 else (M 75 2)) - 1 ∧ (if 216 < (M 75 2) then 216 else (M 75 2)) - 1 ≤ 2147483647) (k : am_AtN m0_markLive 30 [some (vr 75), some (vi 0), some (vi a2), some (vi ((if 216 < (M 75 2) then 216 else (M 75 2)) - 1))] [] KS M Q) : am_AtN m0_markLive 15 [some (vr 75), some (vi a1), some (vi a2), none] [] KS M Q := by
  refine s_iconst (show decode (am_cc m0_markLive) 15 = .ok (.iconst 0, 1) by decide +kernel) ⟨by decide, by decide⟩ ?_
  refine s_istore_n (show decode (am_cc m0_markLive) 16 = .ok (.istore_n 1, 1) by decide +kernel) (by decide) ?_
  refine s_aload_n (show decode (am_cc m0_markLive) 17 = .ok (.aload_n 0, 1) by decide +kernel) rfl ?_
  refine s_getf (k := 2) (v := vi (M 75 2)) (show decode (am_cc m0_markLive) 18 = .ok (.getfield 18, 3) by decide +kernel) kd75 (by decide) rfl jnX0 (by decide) lf_RX0_18 rfl ?_
  refine s_sipush (show decode (am_cc m0_markLive) 21 = .ok (.sipush 216, 3) by decide +kernel) ⟨by decide, by decide⟩ (by decide) ?_
  refine s_mmin (show decode (am_cc m0_markLive) 24 = .ok (.invokestatic 109, 3) by decide +kernel) lk_RX0_109.2.1 (Nat.le_of_ble_eq_true rfl) (by decide) ?_
  refine s_iconst (show decode (am_cc m0_markLive) 27 = .ok (.iconst 1, 1) by decide +kernel) ⟨by decide, by decide⟩ ?_
  refine s_isub (show decode (am_cc m0_markLive) 28 = .ok (.isub, 1) by decide +kernel) h1 ?_
  refine s_istore_n (show decode (am_cc m0_markLive) 29 = .ok (.istore_n 3, 1) by decide +kernel) (by decide) ?_
  exact k
theorem g0_markLive_30 {a1 a2 a3 : Int} {M : am_M} {Q : Option am_V → am_M → Prop} (k1 : a3 < 0 → am_AtN m0_markLive 91 [some (vr 75), some (vi a1), some (vi a2), some (vi a3)] [] KS M Q) (k2 : ¬ (a3 < 0) → am_AtN m0_markLive 34 [some (vr 75), some (vi a1), some (vi a2), some (vi a3)] [] KS M Q) : am_AtN m0_markLive 30 [some (vr 75), some (vi a1), some (vi a2), some (vi a3)] [] KS M Q := by
  refine s_iload_n (show decode (am_cc m0_markLive) 30 = .ok (.iload_n 3, 1) by decide +kernel) rfl ?_
  exact s_if_lt (tgt := 91) (show decode (am_cc m0_markLive) 31 = .ok (.ifCond .lt 60, 3) by decide +kernel) (by decide) k1 k2
theorem g0_markLive_34 {a1 a2 a3 : Int} {M : am_M} {Q : Option am_V → am_M → Prop} (h1 : 0 ≤ a3) (h2 : a3 < 216) (k : am_CallN m0_isLive [vr 75, vi (M 77 a3)] KS M (fun r M' => am_AtN m0_markLive 44 [some (vr 75), some (vi a1), some (vi a2), some (vi a3)] (r.toList ++ []) KS M' Q)) : am_AtN m0_markLive 34 [some (vr 75), some (vi a1), some (vi a2), some (vi a3)] [] KS M Q := by
  refine s_aload_n (show decode (am_cc m0_markLive) 34 = .ok (.aload_n 0, 1) by decide +kernel) rfl ?_
  refine s_aload_n (show decode (am_cc m0_markLive) 35 = .ok (.aload_n 0, 1) by decide +kernel) rfl ?_
  refine s_getf (k := 1) (v := vr 77) (show decode (am_cc m0_markLive) 36 = .ok (.getfield 15, 3) by decide +kernel) kd75 (by decide) rfl jnX0 (by decide) lf_RX0_15 rfl ?_
  refine s_iload_n (show decode (am_cc m0_markLive) 39 = .ok (.iload_n 3, 1) by decide +kernel) rfl ?_
  refine s_iaload (show decode (am_cc m0_markLive) 40 = .ok (.iaload, 1) by decide +kernel) kd77 h1 h2 ?_
  exact n_callV (as := [vi (M 77 a3)]) (stk := []) (show decode (am_cc m0_markLive) 41 = .ok (.invokevirtual 114, 3) by decide +kernel) lk_RX0_114 kd75 (by decide) rfl rfl (by decide) (Nat.le_of_ble_eq_true rfl) ⟨rfl, rfl⟩ k
theorem g0_markLive_44 {a1 a2 a3 t0 : Int} {M : am_M} {Q : Option am_V → am_M → Prop} (k1 : ¬ t0 = 0 → am_AtN m0_markLive 85 [some (vr 75), some (vi a1), some (vi a2), some (vi a3)] [] KS M Q) (k2 : t0 = 0 → am_AtN m0_markLive 47 [some (vr 75), some (vi a1), some (vi a2), some (vi a3)] [] KS M Q) : am_AtN m0_markLive 44 [some (vr 75), some (vi a1), some (vi a2), some (vi a3)] [vi t0] KS M Q := by
  exact s_if_ne (tgt := 85) (show decode (am_cc m0_markLive) 44 = .ok (.ifCond .ne 41, 3) by decide +kernel) (by decide) k1 k2
theorem g0_markLive_47 {a1 a2 a3 : Int} {M : am_M} {Q : Option am_V → am_M → Prop} (h1 : 0 ≤ a3) (h2 : a3 < 216) (k : am_CallN m0_bothWrite [vr 75, vi (M 77 a3)] KS M (fun r M' => am_AtN m0_markLive 57 [some (vr 75), some (vi a1), some (vi a2), some (vi a3)] (r.toList ++ []) KS M' Q)) : am_AtN m0_markLive 47 [some (vr 75), some (vi a1), some (vi a2), some (vi a3)] [] KS M Q := by
  refine s_aload_n (show decode (am_cc m0_markLive) 47 = .ok (.aload_n 0, 1) by decide +kernel) rfl ?_
  refine s_aload_n (show decode (am_cc m0_markLive) 48 = .ok (.aload_n 0, 1) by decide +kernel) rfl ?_
  refine s_getf (k := 1) (v := vr 77) (show decode (am_cc m0_markLive) 49 = .ok (.getfield 15, 3) by decide +kernel) kd75 (by decide) rfl jnX0 (by decide) lf_RX0_15 rfl ?_
  refine s_iload_n (show decode (am_cc m0_markLive) 52 = .ok (.iload_n 3, 1) by decide +kernel) rfl ?_
  refine s_iaload (show decode (am_cc m0_markLive) 53 = .ok (.iaload, 1) by decide +kernel) kd77 h1 h2 ?_
  exact n_callV (as := [vi (M 77 a3)]) (stk := []) (show decode (am_cc m0_markLive) 54 = .ok (.invokevirtual 117, 3) by decide +kernel) lk_RX0_117 kd75 (by decide) rfl rfl (by decide) (Nat.le_of_ble_eq_true rfl) ⟨rfl, rfl⟩ k
theorem g0_markLive_57 {a1 a2 a3 t0 : Int} {M : am_M} {Q : Option am_V → am_M → Prop} (k1 : ¬ t0 = 0 → am_AtN m0_markLive 73 [some (vr 75), some (vi a1), some (vi a2), some (vi a3)] [] KS M Q) (k2 : t0 = 0 → am_AtN m0_markLive 60 [some (vr 75), some (vi a1), some (vi a2), some (vi a3)] [] KS M Q) : am_AtN m0_markLive 57 [some (vr 75), some (vi a1), some (vi a2), some (vi a3)] [vi t0] KS M Q := by
  exact s_if_ne (tgt := 73) (show decode (am_cc m0_markLive) 57 = .ok (.ifCond .ne 16, 3) by decide +kernel) (by decide) k1 k2
theorem g0_markLive_60 {a1 a2 a3 : Int} {M : am_M} {Q : Option am_V → am_M → Prop} (h1 : 0 ≤ a3) (h2 : a3 < 216) (k : am_CallN m0_leadsToLive [vr 75, vi (M 77 a3)] KS M (fun r M' => am_AtN m0_markLive 70 [some (vr 75), some (vi a1), some (vi a2), some (vi a3)] (r.toList ++ []) KS M' Q)) : am_AtN m0_markLive 60 [some (vr 75), some (vi a1), some (vi a2), some (vi a3)] [] KS M Q := by
  refine s_aload_n (show decode (am_cc m0_markLive) 60 = .ok (.aload_n 0, 1) by decide +kernel) rfl ?_
  refine s_aload_n (show decode (am_cc m0_markLive) 61 = .ok (.aload_n 0, 1) by decide +kernel) rfl ?_
  refine s_getf (k := 1) (v := vr 77) (show decode (am_cc m0_markLive) 62 = .ok (.getfield 15, 3) by decide +kernel) kd75 (by decide) rfl jnX0 (by decide) lf_RX0_15 rfl ?_
  refine s_iload_n (show decode (am_cc m0_markLive) 65 = .ok (.iload_n 3, 1) by decide +kernel) rfl ?_
  refine s_iaload (show decode (am_cc m0_markLive) 66 = .ok (.iaload, 1) by decide +kernel) kd77 h1 h2 ?_
  exact n_callV (as := [vi (M 77 a3)]) (stk := []) (show decode (am_cc m0_markLive) 67 = .ok (.invokevirtual 120, 3) by decide +kernel) lk_RX0_120 kd75 (by decide) rfl rfl (by decide) (Nat.le_of_ble_eq_true rfl) ⟨rfl, rfl⟩ k
theorem g0_markLive_70 {a1 a2 a3 t0 : Int} {M : am_M} {Q : Option am_V → am_M → Prop} (k1 : t0 = 0 → am_AtN m0_markLive 85 [some (vr 75), some (vi a1), some (vi a2), some (vi a3)] [] KS M Q) (k2 : ¬ (t0 = 0) → am_AtN m0_markLive 73 [some (vr 75), some (vi a1), some (vi a2), some (vi a3)] [] KS M Q) : am_AtN m0_markLive 70 [some (vr 75), some (vi a1), some (vi a2), some (vi a3)] [vi t0] KS M Q := by
  exact s_if_eq (tgt := 85) (show decode (am_cc m0_markLive) 70 = .ok (.ifCond .eq 15, 3) by decide +kernel) (by decide) k1 k2
theorem g0_markLive_73 {a1 a2 a3 : Int} {M : am_M} {Q : Option am_V → am_M → Prop} (h1 : 0 ≤ a3) (h2 : a3 < 216) (k : am_CallN m0_setLive [vr 75, vi (M 77 a3)] KS M (fun r M' => am_AtN m0_markLive 83 [some (vr 75), some (vi a1), some (vi a2), some (vi a3)] (r.toList ++ []) KS M' Q)) : am_AtN m0_markLive 73 [some (vr 75), some (vi a1), some (vi a2), some (vi a3)] [] KS M Q := by
  refine s_aload_n (show decode (am_cc m0_markLive) 73 = .ok (.aload_n 0, 1) by decide +kernel) rfl ?_
  refine s_aload_n (show decode (am_cc m0_markLive) 74 = .ok (.aload_n 0, 1) by decide +kernel) rfl ?_
  refine s_getf (k := 1) (v := vr 77) (show decode (am_cc m0_markLive) 75 = .ok (.getfield 15, 3) by decide +kernel) kd75 (by decide) rfl jnX0 (by decide) lf_RX0_15 rfl ?_
  refine s_iload_n (show decode (am_cc m0_markLive) 78 = .ok (.iload_n 3, 1) by decide +kernel) rfl ?_
  refine s_iaload (show decode (am_cc m0_markLive) 79 = .ok (.iaload, 1) by decide +kernel) kd77 h1 h2 ?_
  exact n_callV (as := [vi (M 77 a3)]) (stk := []) (show decode (am_cc m0_markLive) 80 = .ok (.invokevirtual 123, 3) by decide +kernel) lk_RX0_123 kd75 (by decide) rfl rfl (by decide) (Nat.le_of_ble_eq_true rfl) ⟨rfl, rfl⟩ k
theorem g0_markLive_83 {a1 a2 a3 : Int} {M : am_M} {Q : Option am_V → am_M → Prop} (k : am_AtN m0_markLive 85 [some (vr 75), some (vi 1), some (vi a2), some (vi a3)] [] KS M Q) : am_AtN m0_markLive 83 [some (vr 75), some (vi a1), some (vi a2), some (vi a3)] [] KS M Q := by
  refine s_iconst (show decode (am_cc m0_markLive) 83 = .ok (.iconst 1, 1) by decide +kernel) ⟨by decide, by decide⟩ ?_
  refine s_istore_n (show decode (am_cc m0_markLive) 84 = .ok (.istore_n 1, 1) by decide +kernel) (by decide) ?_
  exact k
theorem g0_markLive_85 {a1 a2 a3 : Int} {M : am_M} {Q : Option am_V → am_M → Prop} (h1 : -2147483648 ≤ a3 + (-1) ∧ a3 + (-1) ≤ 2147483647) (k : am_AtN m0_markLive 30 [some (vr 75), some (vi a1), some (vi a2), some (vi (a3 + (-1)))] [] KS M Q) : am_AtN m0_markLive 85 [some (vr 75), some (vi a1), some (vi a2), some (vi a3)] [] KS M Q := by
  refine s_iinc (show decode (am_cc m0_markLive) 85 = .ok (.iinc 3 (-1), 3) by decide +kernel) rfl (by decide) h1 ?_
  refine s_goto (tgt := 30) (show decode (am_cc m0_markLive) 88 = .ok (.goto (-58), 3) by decide +kernel) (by decide) ?_
  exact k
theorem g0_markLive_91 {a1 a2 a3 : Int} {M : am_M} {Q : Option am_V → am_M → Prop} (h1 : -2147483648 ≤ a2 + 1 ∧ a2 + 1 ≤ 2147483647) (k : am_AtN m0_markLive 4 [some (vr 75), some (vi a1), some (vi (a2 + 1)), none] [] KS M Q) : am_AtN m0_markLive 91 [some (vr 75), some (vi a1), some (vi a2), some (vi a3)] [] KS M Q := by
  refine s_iinc (show decode (am_cc m0_markLive) 91 = .ok (.iinc 2 1, 3) by decide +kernel) rfl (by decide) h1 ?_
  refine s_goto (tgt := 4) (show decode (am_cc m0_markLive) 94 = .ok (.goto (-90), 3) by decide +kernel) (by decide) ?_
  refine am_fg 3 ?_
  exact k
theorem g0_markLive_97 {a1 a2 : Int} {M : am_M} {Q : Option am_V → am_M → Prop} (k : Q none M) : am_AtN m0_markLive 97 [some (vr 75), some (vi a1), some (vi a2), none] [] KS M Q := by
  exact s_return (show decode (am_cc m0_markLive) 97 = .ok (.return_, 1) by decide +kernel) rfl k
theorem g0_isLive_0 {a1 : Int} {M : am_M} {Q : Option am_V → am_M → Prop} (k : am_CallN m8_within [vi a1, vi 216] KS M (fun r M' => am_AtN m0_isLive 7 [some (vr 75), some (vi a1)] (r.toList ++ []) KS M' Q)) : am_AtN m0_isLive 0 [some (vr 75), some (vi a1)] [] KS M Q := by
  refine s_iload_n (show decode (am_cc m0_isLive) 0 = .ok (.iload_n 1, 1) by decide +kernel) rfl ?_
  refine s_sipush (show decode (am_cc m0_isLive) 1 = .ok (.sipush 216, 3) by decide +kernel) ⟨by decide, by decide⟩ (by decide) ?_
  exact n_callN (as := [vi a1, vi 216]) (stk := []) (show decode (am_cc m0_isLive) 4 = .ok (.invokestatic 80, 3) by decide +kernel) lk_RX0_80 (by decide) (Nat.le_of_ble_eq_true rfl) ⟨rfl, rfl⟩ k
theorem g0_isLive_7 {a1 t0 : Int} {M : am_M} {Q : Option am_V → am_M → Prop} (k1 : t0 = 0 → am_AtN m0_isLive 24 [some (vr 75), some (vi a1)] [] KS M Q) (k2 : ¬ (t0 = 0) → am_AtN m0_isLive 10 [some (vr 75), some (vi a1)] [] KS M Q) : am_AtN m0_isLive 7 [some (vr 75), some (vi a1)] [vi t0] KS M Q := by
  exact s_if_eq (tgt := 24) (show decode (am_cc m0_isLive) 7 = .ok (.ifCond .eq 17, 3) by decide +kernel) (by decide) k1 k2
theorem g0_isLive_10 {a1 : Int} {M : am_M} {Q : Option am_V → am_M → Prop} (h1 : 0 ≤ a1) (h2 : a1 < 216) (k1 : ¬ M 76 a1 = 2 → am_AtN m0_isLive 24 [some (vr 75), some (vi a1)] [] KS M Q) (k2 : M 76 a1 = 2 → am_AtN m0_isLive 20 [some (vr 75), some (vi a1)] [] KS M Q) : am_AtN m0_isLive 10 [some (vr 75), some (vi a1)] [] KS M Q := by
  refine s_aload_n (show decode (am_cc m0_isLive) 10 = .ok (.aload_n 0, 1) by decide +kernel) rfl ?_
  refine s_getf (k := 0) (v := vr 76) (show decode (am_cc m0_isLive) 11 = .ok (.getfield 11, 3) by decide +kernel) kd75 (by decide) rfl jnX0 (by decide) lf_RX0_11 rfl ?_
  refine s_iload_n (show decode (am_cc m0_isLive) 14 = .ok (.iload_n 1, 1) by decide +kernel) rfl ?_
  refine s_iaload (show decode (am_cc m0_isLive) 15 = .ok (.iaload, 1) by decide +kernel) kd76 h1 h2 ?_
  refine s_iconst (show decode (am_cc m0_isLive) 16 = .ok (.iconst 2, 1) by decide +kernel) ⟨by decide, by decide⟩ ?_
  exact s_icmp_ne (tgt := 24) (show decode (am_cc m0_isLive) 17 = .ok (.if_icmp .ne 7, 3) by decide +kernel) (by decide) k1 k2
theorem g0_isLive_20 {a1 : Int} {M : am_M} {Q : Option am_V → am_M → Prop} (k : am_AtN m0_isLive 25 [some (vr 75), some (vi a1)] [vi 1] KS M Q) : am_AtN m0_isLive 20 [some (vr 75), some (vi a1)] [] KS M Q := by
  refine s_iconst (show decode (am_cc m0_isLive) 20 = .ok (.iconst 1, 1) by decide +kernel) ⟨by decide, by decide⟩ ?_
  refine s_goto (tgt := 25) (show decode (am_cc m0_isLive) 21 = .ok (.goto 4, 3) by decide +kernel) (by decide) ?_
  exact k
theorem g0_isLive_24 {a1 : Int} {M : am_M} {Q : Option am_V → am_M → Prop} (k : am_AtN m0_isLive 25 [some (vr 75), some (vi a1)] [vi 0] KS M Q) : am_AtN m0_isLive 24 [some (vr 75), some (vi a1)] [] KS M Q := by
  refine s_iconst (show decode (am_cc m0_isLive) 24 = .ok (.iconst 0, 1) by decide +kernel) ⟨by decide, by decide⟩ ?_
  exact k
theorem g0_isLive_25 {a1 t0 : Int} {M : am_M} {Q : Option am_V → am_M → Prop} (h1 : t0 = 0 ∨ t0 = 1) (k : Q (some (vi t0)) M) : am_AtN m0_isLive 25 [some (vr 75), some (vi a1)] [vi t0] KS M Q := by
  exact s_zreturn (show decode (am_cc m0_isLive) 25 = .ok (.ireturn, 1) by decide +kernel) rfl h1 k
theorem g0_setLive_0 {a1 : Int} {M : am_M} {Q : Option am_V → am_M → Prop} (k : am_CallN m8_within [vi a1, vi 216] KS M (fun r M' => am_AtN m0_setLive 7 [some (vr 75), some (vi a1)] (r.toList ++ []) KS M' Q)) : am_AtN m0_setLive 0 [some (vr 75), some (vi a1)] [] KS M Q := by
  refine s_iload_n (show decode (am_cc m0_setLive) 0 = .ok (.iload_n 1, 1) by decide +kernel) rfl ?_
  refine s_sipush (show decode (am_cc m0_setLive) 1 = .ok (.sipush 216, 3) by decide +kernel) ⟨by decide, by decide⟩ (by decide) ?_
  exact n_callN (as := [vi a1, vi 216]) (stk := []) (show decode (am_cc m0_setLive) 4 = .ok (.invokestatic 80, 3) by decide +kernel) lk_RX0_80 (by decide) (Nat.le_of_ble_eq_true rfl) ⟨rfl, rfl⟩ k
theorem g0_setLive_7 {a1 t0 : Int} {M : am_M} {Q : Option am_V → am_M → Prop} (k1 : t0 = 0 → am_AtN m0_setLive 17 [some (vr 75), some (vi a1)] [] KS M Q) (k2 : ¬ (t0 = 0) → am_AtN m0_setLive 10 [some (vr 75), some (vi a1)] [] KS M Q) : am_AtN m0_setLive 7 [some (vr 75), some (vi a1)] [vi t0] KS M Q := by
  exact s_if_eq (tgt := 17) (show decode (am_cc m0_setLive) 7 = .ok (.ifCond .eq 10, 3) by decide +kernel) (by decide) k1 k2
theorem g0_setLive_10 {a1 : Int} {M : am_M} {Q : Option am_V → am_M → Prop} (h1 : 0 ≤ a1) (h2 : a1 < 216) (k : am_AtN m0_setLive 17 [some (vr 75), some (vi a1)] [] KS (am_up M 76 a1 2) Q) : am_AtN m0_setLive 10 [some (vr 75), some (vi a1)] [] KS M Q := by
  refine s_aload_n (show decode (am_cc m0_setLive) 10 = .ok (.aload_n 0, 1) by decide +kernel) rfl ?_
  refine s_getf (k := 0) (v := vr 76) (show decode (am_cc m0_setLive) 11 = .ok (.getfield 11, 3) by decide +kernel) kd75 (by decide) rfl jnX0 (by decide) lf_RX0_11 rfl ?_
  refine s_iload_n (show decode (am_cc m0_setLive) 14 = .ok (.iload_n 1, 1) by decide +kernel) rfl ?_
  refine s_iconst (show decode (am_cc m0_setLive) 15 = .ok (.iconst 2, 1) by decide +kernel) ⟨by decide, by decide⟩ ?_
  refine s_iastore (show decode (am_cc m0_setLive) 16 = .ok (.iastore, 1) by decide +kernel) kd76 h1 h2 ?_
  exact k
theorem g0_setLive_17 {a1 : Int} {M : am_M} {Q : Option am_V → am_M → Prop} (k : Q none M) : am_AtN m0_setLive 17 [some (vr 75), some (vi a1)] [] KS M Q := by
  exact s_return (show decode (am_cc m0_setLive) 17 = .ok (.return_, 1) by decide +kernel) rfl k
theorem g0_leadsToLive_0 {a1 : Int} {M : am_M} {Q : Option am_V → am_M → Prop} (k : am_AtN m0_leadsToLive 2 [some (vr 75), some (vi a1), some (vi 0)] [] KS M Q) : am_AtN m0_leadsToLive 0 [some (vr 75), some (vi a1), none] [] KS M Q := by
  refine s_iconst (show decode (am_cc m0_leadsToLive) 0 = .ok (.iconst 0, 1) by decide +kernel) ⟨by decide, by decide⟩ ?_
  refine s_istore_n (show decode (am_cc m0_leadsToLive) 1 = .ok (.istore_n 2, 1) by decide +kernel) (by decide) ?_
  exact k
theorem g0_leadsToLive_2 {a1 a2 : Int} {M : am_M} {Q : Option am_V → am_M → Prop} (k1 : M 75 10 ≤ a2 → am_AtN m0_leadsToLive 31 [some (vr 75), some (vi a1), some (vi a2)] [] KS M Q) (k2 : ¬ (M 75 10 ≤ a2) → am_AtN m0_leadsToLive 10 [some (vr 75), some (vi a1), some (vi a2)] [] KS M Q) : am_AtN m0_leadsToLive 2 [some (vr 75), some (vi a1), some (vi a2)] [] KS M Q := by
  refine s_iload_n (show decode (am_cc m0_leadsToLive) 2 = .ok (.iload_n 2, 1) by decide +kernel) rfl ?_
  refine s_aload_n (show decode (am_cc m0_leadsToLive) 3 = .ok (.aload_n 0, 1) by decide +kernel) rfl ?_
  refine s_getf (k := 10) (v := vi (M 75 10)) (show decode (am_cc m0_leadsToLive) 4 = .ok (.getfield 51, 3) by decide +kernel) kd75 (by decide) rfl jnX0 (by decide) lf_RX0_51 rfl ?_
  exact s_icmp_ge (tgt := 31) (show decode (am_cc m0_leadsToLive) 7 = .ok (.if_icmp .ge 24, 3) by decide +kernel) (by decide) k1 k2
theorem g0_leadsToLive_10 {a1 a2 : Int} {M : am_M} {Q : Option am_V → am_M → Prop} (k : am_CallN m0_after [vr 75, vi a1, vi a2] KS M (fun r M' => am_AtN m0_leadsToLive 17 [some (vr 75), some (vi a1), some (vi a2)] (r.toList ++ [vr 75]) KS M' Q)) : am_AtN m0_leadsToLive 10 [some (vr 75), some (vi a1), some (vi a2)] [] KS M Q := by
  refine s_aload_n (show decode (am_cc m0_leadsToLive) 10 = .ok (.aload_n 0, 1) by decide +kernel) rfl ?_
  refine s_aload_n (show decode (am_cc m0_leadsToLive) 11 = .ok (.aload_n 0, 1) by decide +kernel) rfl ?_
  refine s_iload_n (show decode (am_cc m0_leadsToLive) 12 = .ok (.iload_n 1, 1) by decide +kernel) rfl ?_
  refine s_iload_n (show decode (am_cc m0_leadsToLive) 13 = .ok (.iload_n 2, 1) by decide +kernel) rfl ?_
  exact n_callV (as := [vi a1, vi a2]) (stk := [vr 75]) (show decode (am_cc m0_leadsToLive) 14 = .ok (.invokevirtual 76, 3) by decide +kernel) lk_RX0_76 kd75 (by decide) rfl rfl (by decide) (Nat.le_of_ble_eq_true rfl) ⟨rfl, rfl⟩ k
theorem g0_leadsToLive_17 {a1 a2 t0 t1 : Int} {M : am_M} {Q : Option am_V → am_M → Prop} {r0 : List Int} (h1 : am_kd KS t0 = some (0, 11, r0)) (k : am_CallN m0_isLive [vr t0, vi t1] KS M (fun r M' => am_AtN m0_leadsToLive 20 [some (vr 75), some (vi a1), some (vi a2)] (r.toList ++ []) KS M' Q)) : am_AtN m0_leadsToLive 17 [some (vr 75), some (vi a1), some (vi a2)] [vi t1, vr t0] KS M Q := by
  exact n_callV (as := [vi t1]) (stk := []) (show decode (am_cc m0_leadsToLive) 17 = .ok (.invokevirtual 114, 3) by decide +kernel) lk_RX0_114 h1 (by decide) rfl rfl (by decide) (Nat.le_of_ble_eq_true rfl) ⟨rfl, rfl⟩ k
theorem g0_leadsToLive_20 {a1 a2 t0 : Int} {M : am_M} {Q : Option am_V → am_M → Prop} (k1 : t0 = 0 → am_AtN m0_leadsToLive 25 [some (vr 75), some (vi a1), some (vi a2)] [] KS M Q) (k2 : ¬ (t0 = 0) → am_AtN m0_leadsToLive 23 [some (vr 75), some (vi a1), some (vi a2)] [] KS M Q) : am_AtN m0_leadsToLive 20 [some (vr 75), some (vi a1), some (vi a2)] [vi t0] KS M Q := by
  exact s_if_eq (tgt := 25) (show decode (am_cc m0_leadsToLive) 20 = .ok (.ifCond .eq 5, 3) by decide +kernel) (by decide) k1 k2
theorem g0_leadsToLive_23 {a1 a2 : Int} {M : am_M} {Q : Option am_V → am_M → Prop} (k : Q (some (vi 1)) M) : am_AtN m0_leadsToLive 23 [some (vr 75), some (vi a1), some (vi a2)] [] KS M Q := by
  refine s_iconst (show decode (am_cc m0_leadsToLive) 23 = .ok (.iconst 1, 1) by decide +kernel) ⟨by decide, by decide⟩ ?_
  exact s_zreturn (show decode (am_cc m0_leadsToLive) 24 = .ok (.ireturn, 1) by decide +kernel) rfl (by decide) k
theorem g0_leadsToLive_25 {a1 a2 : Int} {M : am_M} {Q : Option am_V → am_M → Prop} (h1 : -2147483648 ≤ a2 + 1 ∧ a2 + 1 ≤ 2147483647) (k : am_AtN m0_leadsToLive 2 [some (vr 75), some (vi a1), some (vi (a2 + 1))] [] KS M Q) : am_AtN m0_leadsToLive 25 [some (vr 75), some (vi a1), some (vi a2)] [] KS M Q := by
  refine s_iinc (show decode (am_cc m0_leadsToLive) 25 = .ok (.iinc 2 1, 3) by decide +kernel) rfl (by decide) h1 ?_
  refine s_goto (tgt := 2) (show decode (am_cc m0_leadsToLive) 28 = .ok (.goto (-26), 3) by decide +kernel) (by decide) ?_
  exact k
theorem g0_leadsToLive_31 {a1 a2 : Int} {M : am_M} {Q : Option am_V → am_M → Prop} (k : Q (some (vi 0)) M) : am_AtN m0_leadsToLive 31 [some (vr 75), some (vi a1), some (vi a2)] [] KS M Q := by
  refine s_iconst (show decode (am_cc m0_leadsToLive) 31 = .ok (.iconst 0, 1) by decide +kernel) ⟨by decide, by decide⟩ ?_
  exact s_zreturn (show decode (am_cc m0_leadsToLive) 32 = .ok (.ireturn, 1) by decide +kernel) rfl (by decide) k
theorem g0_leadsAreEven_0 {M : am_M} {Q : Option am_V → am_M → Prop} (k : am_CallN mJ_fill [vr 78, vi 1048576] KS M (fun r M' => am_AtN m0_leadsAreEven 9 [some (vr 75), none, none, none] (r.toList ++ []) KS M' Q)) : am_AtN m0_leadsAreEven 0 [some (vr 75), none, none, none] [] KS M Q := by
  refine s_aload_n (show decode (am_cc m0_leadsAreEven) 0 = .ok (.aload_n 0, 1) by decide +kernel) rfl ?_
  refine s_getf (k := 3) (v := vr 78) (show decode (am_cc m0_leadsAreEven) 1 = .ok (.getfield 22, 3) by decide +kernel) kd75 (by decide) rfl jnX0 (by decide) lf_RX0_22 rfl ?_
  refine s_ldc (show decode (am_cc m0_leadsAreEven) 4 = .ok (.ldc 126, 2) by decide +kernel) lc_RX0_126 ⟨by decide, by decide⟩ ?_
  exact n_callS (as := [vr 78, vi 1048576]) (stk := []) (show decode (am_cc m0_leadsAreEven) 6 = .ok (.invokestatic 67, 3) by decide +kernel) lk_RX0_67 (by decide) (Nat.le_of_ble_eq_true rfl) ⟨rfl, rfl⟩ k
theorem g0_leadsAreEven_9 {M : am_M} {Q : Option am_V → am_M → Prop} (k : am_AtN m0_leadsAreEven 18 [some (vr 75), some (vi 0), none, none] [] KS (am_up M 78 0 0) Q) : am_AtN m0_leadsAreEven 9 [some (vr 75), none, none, none] [] KS M Q := by
  refine s_aload_n (show decode (am_cc m0_leadsAreEven) 9 = .ok (.aload_n 0, 1) by decide +kernel) rfl ?_
  refine s_getf (k := 3) (v := vr 78) (show decode (am_cc m0_leadsAreEven) 10 = .ok (.getfield 22, 3) by decide +kernel) kd75 (by decide) rfl jnX0 (by decide) lf_RX0_22 rfl ?_
  refine s_iconst (show decode (am_cc m0_leadsAreEven) 13 = .ok (.iconst 0, 1) by decide +kernel) ⟨by decide, by decide⟩ ?_
  refine s_iconst (show decode (am_cc m0_leadsAreEven) 14 = .ok (.iconst 0, 1) by decide +kernel) ⟨by decide, by decide⟩ ?_
  refine s_iastore (show decode (am_cc m0_leadsAreEven) 15 = .ok (.iastore, 1) by decide +kernel) kd78 (by decide) (by decide) ?_
  refine s_iconst (show decode (am_cc m0_leadsAreEven) 16 = .ok (.iconst 0, 1) by decide +kernel) ⟨by decide, by decide⟩ ?_
  refine s_istore_n (show decode (am_cc m0_leadsAreEven) 17 = .ok (.istore_n 1, 1) by decide +kernel) (by decide) ?_
  exact k
theorem g0_leadsAreEven_18 {a1 : Int} {M : am_M} {Q : Option am_V → am_M → Prop} (k1 : M 75 2 ≤ a1 → am_AtN m0_leadsAreEven 102 [some (vr 75), some (vi a1), none, none] [] KS M Q) (k2 : ¬ (M 75 2 ≤ a1) → am_AtN m0_leadsAreEven 26 [some (vr 75), some (vi a1), none, none] [] KS M Q) : am_AtN m0_leadsAreEven 18 [some (vr 75), some (vi a1), none, none] [] KS M Q := by
  refine s_iload_n (show decode (am_cc m0_leadsAreEven) 18 = .ok (.iload_n 1, 1) by decide +kernel) rfl ?_
  refine s_aload_n (show decode (am_cc m0_leadsAreEven) 19 = .ok (.aload_n 0, 1) by decide +kernel) rfl ?_
  refine s_getf (k := 2) (v := vi (M 75 2)) (show decode (am_cc m0_leadsAreEven) 20 = .ok (.getfield 18, 3) by decide +kernel) kd75 (by decide) rfl jnX0 (by decide) lf_RX0_18 rfl ?_
  exact s_icmp_ge (tgt := 102) (show decode (am_cc m0_leadsAreEven) 23 = .ok (.if_icmp .ge 79, 3) by decide +kernel) (by decide) k1 k2
theorem g0_leadsAreEven_26 {a1 : Int} {M : am_M} {Q : Option am_V → am_M → Prop} (k1 : 216 ≤ a1 → am_AtN m0_leadsAreEven 102 [some (vr 75), some (vi a1), none, none] [] KS M Q) (k2 : ¬ (216 ≤ a1) → am_AtN m0_leadsAreEven 33 [some (vr 75), some (vi a1), none, none] [] KS M Q) : am_AtN m0_leadsAreEven 26 [some (vr 75), some (vi a1), none, none] [] KS M Q := by
  refine s_iload_n (show decode (am_cc m0_leadsAreEven) 26 = .ok (.iload_n 1, 1) by decide +kernel) rfl ?_
  refine s_sipush (show decode (am_cc m0_leadsAreEven) 27 = .ok (.sipush 216, 3) by decide +kernel) ⟨by decide, by decide⟩ (by decide) ?_
  exact s_icmp_ge (tgt := 102) (show decode (am_cc m0_leadsAreEven) 30 = .ok (.if_icmp .ge 72, 3) by decide +kernel) (by decide) k1 k2
theorem g0_leadsAreEven_33 {a1 : Int} {M : am_M} {Q : Option am_V → am_M → Prop} (h1 : 0 ≤ a1) (h2 : a1 < 216) (k : am_CallN m0_isLive [vr 75, vi (M 77 a1)] KS M (fun r M' => am_AtN m0_leadsAreEven 45 [some (vr 75), some (vi a1), some (vi (M 77 a1)), none] (r.toList ++ []) KS M' Q)) : am_AtN m0_leadsAreEven 33 [some (vr 75), some (vi a1), none, none] [] KS M Q := by
  refine s_aload_n (show decode (am_cc m0_leadsAreEven) 33 = .ok (.aload_n 0, 1) by decide +kernel) rfl ?_
  refine s_getf (k := 1) (v := vr 77) (show decode (am_cc m0_leadsAreEven) 34 = .ok (.getfield 15, 3) by decide +kernel) kd75 (by decide) rfl jnX0 (by decide) lf_RX0_15 rfl ?_
  refine s_iload_n (show decode (am_cc m0_leadsAreEven) 37 = .ok (.iload_n 1, 1) by decide +kernel) rfl ?_
  refine s_iaload (show decode (am_cc m0_leadsAreEven) 38 = .ok (.iaload, 1) by decide +kernel) kd77 h1 h2 ?_
  refine s_istore_n (show decode (am_cc m0_leadsAreEven) 39 = .ok (.istore_n 2, 1) by decide +kernel) (by decide) ?_
  refine s_aload_n (show decode (am_cc m0_leadsAreEven) 40 = .ok (.aload_n 0, 1) by decide +kernel) rfl ?_
  refine s_iload_n (show decode (am_cc m0_leadsAreEven) 41 = .ok (.iload_n 2, 1) by decide +kernel) rfl ?_
  exact n_callV (as := [vi (M 77 a1)]) (stk := []) (show decode (am_cc m0_leadsAreEven) 42 = .ok (.invokevirtual 114, 3) by decide +kernel) lk_RX0_114 kd75 (by decide) rfl rfl (by decide) (Nat.le_of_ble_eq_true rfl) ⟨rfl, rfl⟩ k
theorem g0_leadsAreEven_45 {a1 a2 t0 : Int} {M : am_M} {Q : Option am_V → am_M → Prop} (k1 : ¬ t0 = 0 → am_AtN m0_leadsAreEven 51 [some (vr 75), some (vi a1), some (vi a2), none] [] KS M Q) (k2 : t0 = 0 → am_AtN m0_leadsAreEven 48 [some (vr 75), some (vi a1), some (vi a2), none] [] KS M Q) : am_AtN m0_leadsAreEven 45 [some (vr 75), some (vi a1), some (vi a2), none] [vi t0] KS M Q := by
  exact s_if_ne (tgt := 51) (show decode (am_cc m0_leadsAreEven) 45 = .ok (.ifCond .ne 6, 3) by decide +kernel) (by decide) k1 k2
theorem g0_leadsAreEven_48 {a1 a2 : Int} {M : am_M} {Q : Option am_V → am_M → Prop} (k : am_AtN m0_leadsAreEven 96 [some (vr 75), some (vi a1), some (vi a2), none] [] KS M Q) : am_AtN m0_leadsAreEven 48 [some (vr 75), some (vi a1), some (vi a2), none] [] KS M Q := by
  refine s_goto (tgt := 96) (show decode (am_cc m0_leadsAreEven) 48 = .ok (.goto 48, 3) by decide +kernel) (by decide) ?_
  exact k
theorem g0_leadsAreEven_51 {a1 a2 : Int} {M : am_M} {Q : Option am_V → am_M → Prop} (k : am_CallN m0_bothWrite [vr 75, vi a2] KS M (fun r M' => am_AtN m0_leadsAreEven 56 [some (vr 75), some (vi a1), some (vi a2), none] (r.toList ++ []) KS M' Q)) : am_AtN m0_leadsAreEven 51 [some (vr 75), some (vi a1), some (vi a2), none] [] KS M Q := by
  refine s_aload_n (show decode (am_cc m0_leadsAreEven) 51 = .ok (.aload_n 0, 1) by decide +kernel) rfl ?_
  refine s_iload_n (show decode (am_cc m0_leadsAreEven) 52 = .ok (.iload_n 2, 1) by decide +kernel) rfl ?_
  exact n_callV (as := [vi a2]) (stk := []) (show decode (am_cc m0_leadsAreEven) 53 = .ok (.invokevirtual 117, 3) by decide +kernel) lk_RX0_117 kd75 (by decide) rfl rfl (by decide) (Nat.le_of_ble_eq_true rfl) ⟨rfl, rfl⟩ k
theorem g0_leadsAreEven_56 {a1 a2 t0 : Int} {M : am_M} {Q : Option am_V → am_M → Prop} (k1 : t0 = 0 → am_AtN m0_leadsAreEven 69 [some (vr 75), some (vi a1), some (vi a2), none] [] KS M Q) (k2 : ¬ (t0 = 0) → am_AtN m0_leadsAreEven 59 [some (vr 75), some (vi a1), some (vi a2), none] [] KS M Q) : am_AtN m0_leadsAreEven 56 [some (vr 75), some (vi a1), some (vi a2), none] [vi t0] KS M Q := by
  exact s_if_eq (tgt := 69) (show decode (am_cc m0_leadsAreEven) 56 = .ok (.ifCond .eq 13, 3) by decide +kernel) (by decide) k1 k2
theorem g0_leadsAreEven_59 {a1 a2 : Int} {M : am_M} {Q : Option am_V → am_M → Prop} (k : am_CallN m0_endsEven [vr 75, vi a2] KS M (fun r M' => am_AtN m0_leadsAreEven 64 [some (vr 75), some (vi a1), some (vi a2), none] (r.toList ++ []) KS M' Q)) : am_AtN m0_leadsAreEven 59 [some (vr 75), some (vi a1), some (vi a2), none] [] KS M Q := by
  refine s_aload_n (show decode (am_cc m0_leadsAreEven) 59 = .ok (.aload_n 0, 1) by decide +kernel) rfl ?_
  refine s_iload_n (show decode (am_cc m0_leadsAreEven) 60 = .ok (.iload_n 2, 1) by decide +kernel) rfl ?_
  exact n_callV (as := [vi a2]) (stk := []) (show decode (am_cc m0_leadsAreEven) 61 = .ok (.invokevirtual 127, 3) by decide +kernel) lk_RX0_127 kd75 (by decide) rfl rfl (by decide) (Nat.le_of_ble_eq_true rfl) ⟨rfl, rfl⟩ k
theorem g0_leadsAreEven_64 {a1 a2 t0 : Int} {M : am_M} {Q : Option am_V → am_M → Prop} (k1 : ¬ t0 = 0 → am_AtN m0_leadsAreEven 69 [some (vr 75), some (vi a1), some (vi a2), none] [] KS M Q) (k2 : t0 = 0 → am_AtN m0_leadsAreEven 67 [some (vr 75), some (vi a1), some (vi a2), none] [] KS M Q) : am_AtN m0_leadsAreEven 64 [some (vr 75), some (vi a1), some (vi a2), none] [vi t0] KS M Q := by
  exact s_if_ne (tgt := 69) (show decode (am_cc m0_leadsAreEven) 64 = .ok (.ifCond .ne 5, 3) by decide +kernel) (by decide) k1 k2
theorem g0_leadsAreEven_67 {a1 a2 : Int} {M : am_M} {Q : Option am_V → am_M → Prop} (k : Q (some (vi 0)) M) : am_AtN m0_leadsAreEven 67 [some (vr 75), some (vi a1), some (vi a2), none] [] KS M Q := by
  refine s_iconst (show decode (am_cc m0_leadsAreEven) 67 = .ok (.iconst 0, 1) by decide +kernel) ⟨by decide, by decide⟩ ?_
  exact s_zreturn (show decode (am_cc m0_leadsAreEven) 68 = .ok (.ireturn, 1) by decide +kernel) rfl (by decide) k
theorem g0_leadsAreEven_69 {a1 a2 : Int} {M : am_M} {Q : Option am_V → am_M → Prop} (k : am_AtN m0_leadsAreEven 71 [some (vr 75), some (vi a1), some (vi a2), some (vi 0)] [] KS M Q) : am_AtN m0_leadsAreEven 69 [some (vr 75), some (vi a1), some (vi a2), none] [] KS M Q := by
  refine s_iconst (show decode (am_cc m0_leadsAreEven) 69 = .ok (.iconst 0, 1) by decide +kernel) ⟨by decide, by decide⟩ ?_
  refine s_istore_n (show decode (am_cc m0_leadsAreEven) 70 = .ok (.istore_n 3, 1) by decide +kernel) (by decide) ?_
  exact k
theorem g0_leadsAreEven_71 {a1 a2 a3 : Int} {M : am_M} {Q : Option am_V → am_M → Prop} (k1 : M 75 10 ≤ a3 → am_AtN m0_leadsAreEven 96 [some (vr 75), some (vi a1), some (vi a2), none] [] KS M Q) (k2 : ¬ (M 75 10 ≤ a3) → am_AtN m0_leadsAreEven 79 [some (vr 75), some (vi a1), some (vi a2), some (vi a3)] [] KS M Q) : am_AtN m0_leadsAreEven 71 [some (vr 75), some (vi a1), some (vi a2), some (vi a3)] [] KS M Q := by
  refine s_iload_n (show decode (am_cc m0_leadsAreEven) 71 = .ok (.iload_n 3, 1) by decide +kernel) rfl ?_
  refine s_aload_n (show decode (am_cc m0_leadsAreEven) 72 = .ok (.aload_n 0, 1) by decide +kernel) rfl ?_
  refine s_getf (k := 10) (v := vi (M 75 10)) (show decode (am_cc m0_leadsAreEven) 73 = .ok (.getfield 51, 3) by decide +kernel) kd75 (by decide) rfl jnX0 (by decide) lf_RX0_51 rfl ?_
  refine s_icmp_ge (tgt := 96) (show decode (am_cc m0_leadsAreEven) 76 = .ok (.if_icmp .ge 20, 3) by decide +kernel) (by decide) (fun h => ?_) (fun h => ?_)
  · refine am_fg 3 ?_
    exact k1 h
  · exact k2 h
theorem g0_leadsAreEven_79 {a1 a2 a3 : Int} {M : am_M} {Q : Option am_V → am_M → Prop} (k : am_CallN m0_stepsEven [vr 75, vi a2, vi a3] KS M (fun r M' => am_AtN m0_leadsAreEven 85 [some (vr 75), some (vi a1), some (vi a2), some (vi a3)] (r.toList ++ []) KS M' Q)) : am_AtN m0_leadsAreEven 79 [some (vr 75), some (vi a1), some (vi a2), some (vi a3)] [] KS M Q := by
  refine s_aload_n (show decode (am_cc m0_leadsAreEven) 79 = .ok (.aload_n 0, 1) by decide +kernel) rfl ?_
  refine s_iload_n (show decode (am_cc m0_leadsAreEven) 80 = .ok (.iload_n 2, 1) by decide +kernel) rfl ?_
  refine s_iload_n (show decode (am_cc m0_leadsAreEven) 81 = .ok (.iload_n 3, 1) by decide +kernel) rfl ?_
  exact n_callV (as := [vi a2, vi a3]) (stk := []) (show decode (am_cc m0_leadsAreEven) 82 = .ok (.invokevirtual 130, 3) by decide +kernel) lk_RX0_130 kd75 (by decide) rfl rfl (by decide) (Nat.le_of_ble_eq_true rfl) ⟨rfl, rfl⟩ k
theorem g0_leadsAreEven_85 {a1 a2 a3 t0 : Int} {M : am_M} {Q : Option am_V → am_M → Prop} (k1 : ¬ t0 = 0 → am_AtN m0_leadsAreEven 90 [some (vr 75), some (vi a1), some (vi a2), some (vi a3)] [] KS M Q) (k2 : t0 = 0 → am_AtN m0_leadsAreEven 88 [some (vr 75), some (vi a1), some (vi a2), some (vi a3)] [] KS M Q) : am_AtN m0_leadsAreEven 85 [some (vr 75), some (vi a1), some (vi a2), some (vi a3)] [vi t0] KS M Q := by
  exact s_if_ne (tgt := 90) (show decode (am_cc m0_leadsAreEven) 85 = .ok (.ifCond .ne 5, 3) by decide +kernel) (by decide) k1 k2
theorem g0_leadsAreEven_88 {a1 a2 a3 : Int} {M : am_M} {Q : Option am_V → am_M → Prop} (k : Q (some (vi 0)) M) : am_AtN m0_leadsAreEven 88 [some (vr 75), some (vi a1), some (vi a2), some (vi a3)] [] KS M Q := by
  refine s_iconst (show decode (am_cc m0_leadsAreEven) 88 = .ok (.iconst 0, 1) by decide +kernel) ⟨by decide, by decide⟩ ?_
  exact s_zreturn (show decode (am_cc m0_leadsAreEven) 89 = .ok (.ireturn, 1) by decide +kernel) rfl (by decide) k
theorem g0_leadsAreEven_90 {a1 a2 a3 : Int} {M : am_M} {Q : Option am_V → am_M → Prop} (h1 : -2147483648 ≤ a3 + 1 ∧ a3 + 1 ≤ 2147483647) (k : am_AtN m0_leadsAreEven 71 [some (vr 75), some (vi a1), some (vi a2), some (vi (a3 + 1))] [] KS M Q) : am_AtN m0_leadsAreEven 90 [some (vr 75), some (vi a1), some (vi a2), some (vi a3)] [] KS M Q := by
  refine s_iinc (show decode (am_cc m0_leadsAreEven) 90 = .ok (.iinc 3 1, 3) by decide +kernel) rfl (by decide) h1 ?_
  refine s_goto (tgt := 71) (show decode (am_cc m0_leadsAreEven) 93 = .ok (.goto (-22), 3) by decide +kernel) (by decide) ?_
  exact k
theorem g0_leadsAreEven_96 {a1 a2 : Int} {M : am_M} {Q : Option am_V → am_M → Prop} (h1 : -2147483648 ≤ a1 + 1 ∧ a1 + 1 ≤ 2147483647) (k : am_AtN m0_leadsAreEven 18 [some (vr 75), some (vi (a1 + 1)), none, none] [] KS M Q) : am_AtN m0_leadsAreEven 96 [some (vr 75), some (vi a1), some (vi a2), none] [] KS M Q := by
  refine s_iinc (show decode (am_cc m0_leadsAreEven) 96 = .ok (.iinc 1 1, 3) by decide +kernel) rfl (by decide) h1 ?_
  refine s_goto (tgt := 18) (show decode (am_cc m0_leadsAreEven) 99 = .ok (.goto (-81), 3) by decide +kernel) (by decide) ?_
  refine am_fg 2 ?_
  exact k
theorem g0_leadsAreEven_102 {a1 : Int} {M : am_M} {Q : Option am_V → am_M → Prop} (k : Q (some (vi 1)) M) : am_AtN m0_leadsAreEven 102 [some (vr 75), some (vi a1), none, none] [] KS M Q := by
  refine s_iconst (show decode (am_cc m0_leadsAreEven) 102 = .ok (.iconst 1, 1) by decide +kernel) ⟨by decide, by decide⟩ ?_
  exact s_zreturn (show decode (am_cc m0_leadsAreEven) 103 = .ok (.ireturn, 1) by decide +kernel) rfl (by decide) k
theorem g0_endsEven_0 {a1 : Int} {M : am_M} {Q : Option am_V → am_M → Prop} (k : am_CallN m0_fetch [vr 75, vi a1] KS M (fun r M' => am_AtN m0_endsEven 5 [some (vr 75), some (vi a1)] (r.toList ++ []) KS M' Q)) : am_AtN m0_endsEven 0 [some (vr 75), some (vi a1)] [] KS M Q := by
  refine s_aload_n (show decode (am_cc m0_endsEven) 0 = .ok (.aload_n 0, 1) by decide +kernel) rfl ?_
  refine s_iload_n (show decode (am_cc m0_endsEven) 1 = .ok (.iload_n 1, 1) by decide +kernel) rfl ?_
  exact n_callV (as := [vi a1]) (stk := []) (show decode (am_cc m0_endsEven) 2 = .ok (.invokevirtual 133, 3) by decide +kernel) lk_RX0_133 kd75 (by decide) rfl rfl (by decide) (Nat.le_of_ble_eq_true rfl) ⟨rfl, rfl⟩ k
theorem g0_endsEven_5 {a1 : Int} {M : am_M} {Q : Option am_V → am_M → Prop} (k : am_CallN m0_oneSpot [vi a1] KS M (fun r M' => am_AtN m0_endsEven 17 [some (vr 75), some (vi a1)] (r.toList ++ [vr (M 75 8), vr 80]) KS M' Q)) : am_AtN m0_endsEven 5 [some (vr 75), some (vi a1)] [] KS M Q := by
  refine s_aload_n (show decode (am_cc m0_endsEven) 5 = .ok (.aload_n 0, 1) by decide +kernel) rfl ?_
  refine s_getf (k := 5) (v := vr 80) (show decode (am_cc m0_endsEven) 6 = .ok (.getfield 33, 3) by decide +kernel) kd75 (by decide) rfl jnX0 (by decide) lf_RX0_33 rfl ?_
  refine s_aload_n (show decode (am_cc m0_endsEven) 9 = .ok (.aload_n 0, 1) by decide +kernel) rfl ?_
  refine s_getf (k := 8) (v := vr (M 75 8)) (show decode (am_cc m0_endsEven) 10 = .ok (.getfield 44, 3) by decide +kernel) kd75 (by decide) rfl jnX0 (by decide) lf_RX0_44 rfl ?_
  refine s_iload_n (show decode (am_cc m0_endsEven) 13 = .ok (.iload_n 1, 1) by decide +kernel) rfl ?_
  exact n_callS (as := [vi a1]) (stk := [vr (M 75 8), vr 80]) (show decode (am_cc m0_endsEven) 14 = .ok (.invokestatic 84, 3) by decide +kernel) lk_RX0_84 (by decide) (Nat.le_of_ble_eq_true rfl) ⟨rfl, rfl⟩ k
theorem g0_endsEven_17 {a1 t0 t1 t2 : Int} {M : am_M} {Q : Option am_V → am_M → Prop} {r0 : List Int} (h1 : am_kd KS t1 = some (4, 3, r0)) (k : am_CallN m4_endOf [vr t1, vi t2] KS M (fun r M' => am_AtN m0_endsEven 20 [some (vr 75), some (vi a1)] (r.toList ++ [vr t0]) KS M' Q)) : am_AtN m0_endsEven 17 [some (vr 75), some (vi a1)] [vi t2, vr t1, vr t0] KS M Q := by
  exact n_callV (as := [vi t2]) (stk := [vr t0]) (show decode (am_cc m0_endsEven) 17 = .ok (.invokevirtual 102, 3) by decide +kernel) lk_RX0_102 h1 (by decide) rfl rfl (by decide) (Nat.le_of_ble_eq_true rfl) ⟨rfl, rfl⟩ k
theorem g0_endsEven_20 {a1 t0 t1 : Int} {M : am_M} {Q : Option am_V → am_M → Prop} {r0 : List Int} (h1 : am_kd KS t0 = some (5, 2, r0)) (k : am_CallN m5_addWord [vr t0, vi t1] KS M (fun r M' => am_AtN m0_endsEven 23 [some (vr 75), some (vi a1)] (r.toList ++ []) KS M' Q)) : am_AtN m0_endsEven 20 [some (vr 75), some (vi a1)] [vi t1, vr t0] KS M Q := by
  exact n_callV (as := [vi t1]) (stk := []) (show decode (am_cc m0_endsEven) 20 = .ok (.invokevirtual 136, 3) by decide +kernel) lk_RX0_136 h1 (by decide) rfl rfl (by decide) (Nat.le_of_ble_eq_true rfl) ⟨rfl, rfl⟩ k
theorem g0_endsEven_23 {a1 : Int} {M : am_M} {Q : Option am_V → am_M → Prop} (k : am_CallN m0_otherSpot [vi a1] KS M (fun r M' => am_AtN m0_endsEven 35 [some (vr 75), some (vi a1)] (r.toList ++ [vr (M 75 9), vr 82]) KS M' Q)) : am_AtN m0_endsEven 23 [some (vr 75), some (vi a1)] [] KS M Q := by
  refine s_aload_n (show decode (am_cc m0_endsEven) 23 = .ok (.aload_n 0, 1) by decide +kernel) rfl ?_
  refine s_getf (k := 6) (v := vr 82) (show decode (am_cc m0_endsEven) 24 = .ok (.getfield 37, 3) by decide +kernel) kd75 (by decide) rfl jnX0 (by decide) lf_RX0_37 rfl ?_
  refine s_aload_n (show decode (am_cc m0_endsEven) 27 = .ok (.aload_n 0, 1) by decide +kernel) rfl ?_
  refine s_getf (k := 9) (v := vr (M 75 9)) (show decode (am_cc m0_endsEven) 28 = .ok (.getfield 48, 3) by decide +kernel) kd75 (by decide) rfl jnX0 (by decide) lf_RX0_48 rfl ?_
  refine s_iload_n (show decode (am_cc m0_endsEven) 31 = .ok (.iload_n 1, 1) by decide +kernel) rfl ?_
  exact n_callS (as := [vi a1]) (stk := [vr (M 75 9), vr 82]) (show decode (am_cc m0_endsEven) 32 = .ok (.invokestatic 93, 3) by decide +kernel) lk_RX0_93 (by decide) (Nat.le_of_ble_eq_true rfl) ⟨rfl, rfl⟩ k
theorem g0_endsEven_35 {a1 t0 t1 t2 : Int} {M : am_M} {Q : Option am_V → am_M → Prop} {r0 : List Int} (h1 : am_kd KS t1 = some (4, 3, r0)) (k : am_CallN m4_endOf [vr t1, vi t2] KS M (fun r M' => am_AtN m0_endsEven 38 [some (vr 75), some (vi a1)] (r.toList ++ [vr t0]) KS M' Q)) : am_AtN m0_endsEven 35 [some (vr 75), some (vi a1)] [vi t2, vr t1, vr t0] KS M Q := by
  exact n_callV (as := [vi t2]) (stk := [vr t0]) (show decode (am_cc m0_endsEven) 35 = .ok (.invokevirtual 102, 3) by decide +kernel) lk_RX0_102 h1 (by decide) rfl rfl (by decide) (Nat.le_of_ble_eq_true rfl) ⟨rfl, rfl⟩ k
theorem g0_endsEven_38 {a1 t0 t1 : Int} {M : am_M} {Q : Option am_V → am_M → Prop} {r0 : List Int} (h1 : am_kd KS t0 = some (5, 2, r0)) (k : am_CallN m5_addWord [vr t0, vi t1] KS M (fun r M' => am_AtN m0_endsEven 41 [some (vr 75), some (vi a1)] (r.toList ++ []) KS M' Q)) : am_AtN m0_endsEven 38 [some (vr 75), some (vi a1)] [vi t1, vr t0] KS M Q := by
  exact n_callV (as := [vi t1]) (stk := []) (show decode (am_cc m0_endsEven) 38 = .ok (.invokevirtual 136, 3) by decide +kernel) lk_RX0_136 h1 (by decide) rfl rfl (by decide) (Nat.le_of_ble_eq_true rfl) ⟨rfl, rfl⟩ k
theorem g0_endsEven_41 {a1 : Int} {M : am_M} {Q : Option am_V → am_M → Prop} (k : am_CallN m5_isLike [vr 80, vr 82] KS M (fun r M' => am_AtN m0_endsEven 52 [some (vr 75), some (vi a1)] (r.toList ++ []) KS M' Q)) : am_AtN m0_endsEven 41 [some (vr 75), some (vi a1)] [] KS M Q := by
  refine s_aload_n (show decode (am_cc m0_endsEven) 41 = .ok (.aload_n 0, 1) by decide +kernel) rfl ?_
  refine s_getf (k := 5) (v := vr 80) (show decode (am_cc m0_endsEven) 42 = .ok (.getfield 33, 3) by decide +kernel) kd75 (by decide) rfl jnX0 (by decide) lf_RX0_33 rfl ?_
  refine s_aload_n (show decode (am_cc m0_endsEven) 45 = .ok (.aload_n 0, 1) by decide +kernel) rfl ?_
  refine s_getf (k := 6) (v := vr 82) (show decode (am_cc m0_endsEven) 46 = .ok (.getfield 37, 3) by decide +kernel) kd75 (by decide) rfl jnX0 (by decide) lf_RX0_37 rfl ?_
  exact n_callV (as := [vr 82]) (stk := []) (show decode (am_cc m0_endsEven) 49 = .ok (.invokevirtual 139, 3) by decide +kernel) lk_RX0_139 kd80 (by decide) rfl rfl (by decide) (Nat.le_of_ble_eq_true rfl) ⟨rfl, rfl⟩ k
theorem g0_endsEven_52 {a1 t0 : Int} {M : am_M} {Q : Option am_V → am_M → Prop} (h1 : t0 = 0 ∨ t0 = 1) (k : Q (some (vi t0)) M) : am_AtN m0_endsEven 52 [some (vr 75), some (vi a1)] [vi t0] KS M Q := by
  exact s_zreturn (show decode (am_cc m0_endsEven) 52 = .ok (.ireturn, 1) by decide +kernel) rfl h1 k
theorem g0_stepsEven_0 {a1 a2 : Int} {M : am_M} {Q : Option am_V → am_M → Prop} (k : am_CallN m0_after [vr 75, vi a1, vi a2] KS M (fun r M' => am_AtN m0_stepsEven 6 [some (vr 75), some (vi a1), some (vi a2), none, none] (r.toList ++ []) KS M' Q)) : am_AtN m0_stepsEven 0 [some (vr 75), some (vi a1), some (vi a2), none, none] [] KS M Q := by
  refine s_aload_n (show decode (am_cc m0_stepsEven) 0 = .ok (.aload_n 0, 1) by decide +kernel) rfl ?_
  refine s_iload_n (show decode (am_cc m0_stepsEven) 1 = .ok (.iload_n 1, 1) by decide +kernel) rfl ?_
  refine s_iload_n (show decode (am_cc m0_stepsEven) 2 = .ok (.iload_n 2, 1) by decide +kernel) rfl ?_
  exact n_callV (as := [vi a1, vi a2]) (stk := []) (show decode (am_cc m0_stepsEven) 3 = .ok (.invokevirtual 76, 3) by decide +kernel) lk_RX0_76 kd75 (by decide) rfl rfl (by decide) (Nat.le_of_ble_eq_true rfl) ⟨rfl, rfl⟩ k
theorem g0_stepsEven_6 {a1 a2 t0 : Int} {M : am_M} {Q : Option am_V → am_M → Prop} (k : am_CallN m0_isLive [vr 75, vi t0] KS M (fun r M' => am_AtN m0_stepsEven 12 [some (vr 75), some (vi a1), some (vi a2), some (vi t0), none] (r.toList ++ []) KS M' Q)) : am_AtN m0_stepsEven 6 [some (vr 75), some (vi a1), some (vi a2), none, none] [vi t0] KS M Q := by
  refine s_istore_n (show decode (am_cc m0_stepsEven) 6 = .ok (.istore_n 3, 1) by decide +kernel) (by decide) ?_
  refine s_aload_n (show decode (am_cc m0_stepsEven) 7 = .ok (.aload_n 0, 1) by decide +kernel) rfl ?_
  refine s_iload_n (show decode (am_cc m0_stepsEven) 8 = .ok (.iload_n 3, 1) by decide +kernel) rfl ?_
  exact n_callV (as := [vi t0]) (stk := []) (show decode (am_cc m0_stepsEven) 9 = .ok (.invokevirtual 114, 3) by decide +kernel) lk_RX0_114 kd75 (by decide) rfl rfl (by decide) (Nat.le_of_ble_eq_true rfl) ⟨rfl, rfl⟩ k
theorem g0_stepsEven_12 {a1 a2 a3 t0 : Int} {M : am_M} {Q : Option am_V → am_M → Prop} (k1 : ¬ t0 = 0 → am_AtN m0_stepsEven 17 [some (vr 75), some (vi a1), some (vi a2), some (vi a3), none] [] KS M Q) (k2 : t0 = 0 → am_AtN m0_stepsEven 15 [some (vr 75), some (vi a1), some (vi a2), some (vi a3), none] [] KS M Q) : am_AtN m0_stepsEven 12 [some (vr 75), some (vi a1), some (vi a2), some (vi a3), none] [vi t0] KS M Q := by
  exact s_if_ne (tgt := 17) (show decode (am_cc m0_stepsEven) 12 = .ok (.ifCond .ne 5, 3) by decide +kernel) (by decide) k1 k2
theorem g0_stepsEven_15 {a1 a2 a3 : Int} {M : am_M} {Q : Option am_V → am_M → Prop} (k : Q (some (vi 1)) M) : am_AtN m0_stepsEven 15 [some (vr 75), some (vi a1), some (vi a2), some (vi a3), none] [] KS M Q := by
  refine s_iconst (show decode (am_cc m0_stepsEven) 15 = .ok (.iconst 1, 1) by decide +kernel) ⟨by decide, by decide⟩ ?_
  exact s_zreturn (show decode (am_cc m0_stepsEven) 16 = .ok (.ireturn, 1) by decide +kernel) rfl (by decide) k
theorem g0_stepsEven_17 {a1 a2 a3 : Int} {M : am_M} {Q : Option am_V → am_M → Prop} (k : am_CallN m0_fetch [vr 75, vi a1] KS M (fun r M' => am_AtN m0_stepsEven 22 [some (vr 75), some (vi a1), some (vi a2), some (vi a3), none] (r.toList ++ []) KS M' Q)) : am_AtN m0_stepsEven 17 [some (vr 75), some (vi a1), some (vi a2), some (vi a3), none] [] KS M Q := by
  refine s_aload_n (show decode (am_cc m0_stepsEven) 17 = .ok (.aload_n 0, 1) by decide +kernel) rfl ?_
  refine s_iload_n (show decode (am_cc m0_stepsEven) 18 = .ok (.iload_n 1, 1) by decide +kernel) rfl ?_
  exact n_callV (as := [vi a1]) (stk := []) (show decode (am_cc m0_stepsEven) 19 = .ok (.invokevirtual 133, 3) by decide +kernel) lk_RX0_133 kd75 (by decide) rfl rfl (by decide) (Nat.le_of_ble_eq_true rfl) ⟨rfl, rfl⟩ k
theorem g0_stepsEven_22 {a1 a2 a3 : Int} {M : am_M} {Q : Option am_V → am_M → Prop} (k : am_CallN m0_oneSpot [vi a1] KS M (fun r M' => am_AtN m0_stepsEven 34 [some (vr 75), some (vi a1), some (vi a2), some (vi a3), none] (r.toList ++ [vr (M 75 8), vr 80]) KS M' Q)) : am_AtN m0_stepsEven 22 [some (vr 75), some (vi a1), some (vi a2), some (vi a3), none] [] KS M Q := by
  refine s_aload_n (show decode (am_cc m0_stepsEven) 22 = .ok (.aload_n 0, 1) by decide +kernel) rfl ?_
  refine s_getf (k := 5) (v := vr 80) (show decode (am_cc m0_stepsEven) 23 = .ok (.getfield 33, 3) by decide +kernel) kd75 (by decide) rfl jnX0 (by decide) lf_RX0_33 rfl ?_
  refine s_aload_n (show decode (am_cc m0_stepsEven) 26 = .ok (.aload_n 0, 1) by decide +kernel) rfl ?_
  refine s_getf (k := 8) (v := vr (M 75 8)) (show decode (am_cc m0_stepsEven) 27 = .ok (.getfield 44, 3) by decide +kernel) kd75 (by decide) rfl jnX0 (by decide) lf_RX0_44 rfl ?_
  refine s_iload_n (show decode (am_cc m0_stepsEven) 30 = .ok (.iload_n 1, 1) by decide +kernel) rfl ?_
  exact n_callS (as := [vi a1]) (stk := [vr (M 75 8), vr 80]) (show decode (am_cc m0_stepsEven) 31 = .ok (.invokestatic 84, 3) by decide +kernel) lk_RX0_84 (by decide) (Nat.le_of_ble_eq_true rfl) ⟨rfl, rfl⟩ k
theorem g0_stepsEven_34 {a1 a2 a3 t0 t1 t2 : Int} {M : am_M} {Q : Option am_V → am_M → Prop} {r0 : List Int} (h1 : am_kd KS t1 = some (4, 3, r0)) (k : am_CallN m4_wordOf [vr t1, vi t2, vi a2] KS M (fun r M' => am_AtN m0_stepsEven 38 [some (vr 75), some (vi a1), some (vi a2), some (vi a3), none] (r.toList ++ [vr t0]) KS M' Q)) : am_AtN m0_stepsEven 34 [some (vr 75), some (vi a1), some (vi a2), some (vi a3), none] [vi t2, vr t1, vr t0] KS M Q := by
  refine s_iload_n (show decode (am_cc m0_stepsEven) 34 = .ok (.iload_n 2, 1) by decide +kernel) rfl ?_
  exact n_callV (as := [vi t2, vi a2]) (stk := [vr t0]) (show decode (am_cc m0_stepsEven) 35 = .ok (.invokevirtual 143, 3) by decide +kernel) lk_RX0_143 h1 (by decide) rfl rfl (by decide) (Nat.le_of_ble_eq_true rfl) ⟨rfl, rfl⟩ k
theorem g0_stepsEven_38 {a1 a2 a3 t0 t1 : Int} {M : am_M} {Q : Option am_V → am_M → Prop} {r0 : List Int} (h1 : am_kd KS t0 = some (5, 2, r0)) (k : am_CallN m5_addWord [vr t0, vi t1] KS M (fun r M' => am_AtN m0_stepsEven 41 [some (vr 75), some (vi a1), some (vi a2), some (vi a3), none] (r.toList ++ []) KS M' Q)) : am_AtN m0_stepsEven 38 [some (vr 75), some (vi a1), some (vi a2), some (vi a3), none] [vi t1, vr t0] KS M Q := by
  exact n_callV (as := [vi t1]) (stk := []) (show decode (am_cc m0_stepsEven) 38 = .ok (.invokevirtual 136, 3) by decide +kernel) lk_RX0_136 h1 (by decide) rfl rfl (by decide) (Nat.le_of_ble_eq_true rfl) ⟨rfl, rfl⟩ k
theorem g0_stepsEven_41 {a1 a2 a3 : Int} {M : am_M} {Q : Option am_V → am_M → Prop} (k : am_CallN m0_otherSpot [vi a1] KS M (fun r M' => am_AtN m0_stepsEven 53 [some (vr 75), some (vi a1), some (vi a2), some (vi a3), none] (r.toList ++ [vr (M 75 9), vr 82]) KS M' Q)) : am_AtN m0_stepsEven 41 [some (vr 75), some (vi a1), some (vi a2), some (vi a3), none] [] KS M Q := by
  refine s_aload_n (show decode (am_cc m0_stepsEven) 41 = .ok (.aload_n 0, 1) by decide +kernel) rfl ?_
  refine s_getf (k := 6) (v := vr 82) (show decode (am_cc m0_stepsEven) 42 = .ok (.getfield 37, 3) by decide +kernel) kd75 (by decide) rfl jnX0 (by decide) lf_RX0_37 rfl ?_
  refine s_aload_n (show decode (am_cc m0_stepsEven) 45 = .ok (.aload_n 0, 1) by decide +kernel) rfl ?_
  refine s_getf (k := 9) (v := vr (M 75 9)) (show decode (am_cc m0_stepsEven) 46 = .ok (.getfield 48, 3) by decide +kernel) kd75 (by decide) rfl jnX0 (by decide) lf_RX0_48 rfl ?_
  refine s_iload_n (show decode (am_cc m0_stepsEven) 49 = .ok (.iload_n 1, 1) by decide +kernel) rfl ?_
  exact n_callS (as := [vi a1]) (stk := [vr (M 75 9), vr 82]) (show decode (am_cc m0_stepsEven) 50 = .ok (.invokestatic 93, 3) by decide +kernel) lk_RX0_93 (by decide) (Nat.le_of_ble_eq_true rfl) ⟨rfl, rfl⟩ k
theorem g0_stepsEven_53 {a1 a2 a3 t0 t1 t2 : Int} {M : am_M} {Q : Option am_V → am_M → Prop} {r0 : List Int} (h1 : am_kd KS t1 = some (4, 3, r0)) (k : am_CallN m4_wordOf [vr t1, vi t2, vi a2] KS M (fun r M' => am_AtN m0_stepsEven 57 [some (vr 75), some (vi a1), some (vi a2), some (vi a3), none] (r.toList ++ [vr t0]) KS M' Q)) : am_AtN m0_stepsEven 53 [some (vr 75), some (vi a1), some (vi a2), some (vi a3), none] [vi t2, vr t1, vr t0] KS M Q := by
  refine s_iload_n (show decode (am_cc m0_stepsEven) 53 = .ok (.iload_n 2, 1) by decide +kernel) rfl ?_
  exact n_callV (as := [vi t2, vi a2]) (stk := [vr t0]) (show decode (am_cc m0_stepsEven) 54 = .ok (.invokevirtual 143, 3) by decide +kernel) lk_RX0_143 h1 (by decide) rfl rfl (by decide) (Nat.le_of_ble_eq_true rfl) ⟨rfl, rfl⟩ k
theorem g0_stepsEven_57 {a1 a2 a3 t0 t1 : Int} {M : am_M} {Q : Option am_V → am_M → Prop} {r0 : List Int} (h1 : am_kd KS t0 = some (5, 2, r0)) (k : am_CallN m5_addWord [vr t0, vi t1] KS M (fun r M' => am_AtN m0_stepsEven 60 [some (vr 75), some (vi a1), some (vi a2), some (vi a3), none] (r.toList ++ []) KS M' Q)) : am_AtN m0_stepsEven 57 [some (vr 75), some (vi a1), some (vi a2), some (vi a3), none] [vi t1, vr t0] KS M Q := by
  exact n_callV (as := [vi t1]) (stk := []) (show decode (am_cc m0_stepsEven) 57 = .ok (.invokevirtual 136, 3) by decide +kernel) lk_RX0_136 h1 (by decide) rfl rfl (by decide) (Nat.le_of_ble_eq_true rfl) ⟨rfl, rfl⟩ k
theorem g0_stepsEven_60 {a1 a2 a3 : Int} {M : am_M} {Q : Option am_V → am_M → Prop} (k : am_CallN m5_isLikeSoFar [vr 80, vr 82] KS M (fun r M' => am_AtN m0_stepsEven 71 [some (vr 75), some (vi a1), some (vi a2), some (vi a3), none] (r.toList ++ []) KS M' Q)) : am_AtN m0_stepsEven 60 [some (vr 75), some (vi a1), some (vi a2), some (vi a3), none] [] KS M Q := by
  refine s_aload_n (show decode (am_cc m0_stepsEven) 60 = .ok (.aload_n 0, 1) by decide +kernel) rfl ?_
  refine s_getf (k := 5) (v := vr 80) (show decode (am_cc m0_stepsEven) 61 = .ok (.getfield 33, 3) by decide +kernel) kd75 (by decide) rfl jnX0 (by decide) lf_RX0_33 rfl ?_
  refine s_aload_n (show decode (am_cc m0_stepsEven) 64 = .ok (.aload_n 0, 1) by decide +kernel) rfl ?_
  refine s_getf (k := 6) (v := vr 82) (show decode (am_cc m0_stepsEven) 65 = .ok (.getfield 37, 3) by decide +kernel) kd75 (by decide) rfl jnX0 (by decide) lf_RX0_37 rfl ?_
  exact n_callV (as := [vr 82]) (stk := []) (show decode (am_cc m0_stepsEven) 68 = .ok (.invokevirtual 146, 3) by decide +kernel) lk_RX0_146 kd80 (by decide) rfl rfl (by decide) (Nat.le_of_ble_eq_true rfl) ⟨rfl, rfl⟩ k
theorem g0_stepsEven_71 {a1 a2 a3 t0 : Int} {M : am_M} {Q : Option am_V → am_M → Prop} (k1 : ¬ t0 = 0 → am_AtN m0_stepsEven 76 [some (vr 75), some (vi a1), some (vi a2), some (vi a3), none] [] KS M Q) (k2 : t0 = 0 → am_AtN m0_stepsEven 74 [some (vr 75), some (vi a1), some (vi a2), some (vi a3), none] [] KS M Q) : am_AtN m0_stepsEven 71 [some (vr 75), some (vi a1), some (vi a2), some (vi a3), none] [vi t0] KS M Q := by
  exact s_if_ne (tgt := 76) (show decode (am_cc m0_stepsEven) 71 = .ok (.ifCond .ne 5, 3) by decide +kernel) (by decide) k1 k2
theorem g0_stepsEven_74 {a1 a2 a3 : Int} {M : am_M} {Q : Option am_V → am_M → Prop} (k : Q (some (vi 0)) M) : am_AtN m0_stepsEven 74 [some (vr 75), some (vi a1), some (vi a2), some (vi a3), none] [] KS M Q := by
  refine s_iconst (show decode (am_cc m0_stepsEven) 74 = .ok (.iconst 0, 1) by decide +kernel) ⟨by decide, by decide⟩ ?_
  exact s_zreturn (show decode (am_cc m0_stepsEven) 75 = .ok (.ireturn, 1) by decide +kernel) rfl (by decide) k
theorem g0_stepsEven_76 {a1 a2 a3 : Int} {M : am_M} {Q : Option am_V → am_M → Prop} (k : am_CallN m5_size [vr 80] KS M (fun r M' => am_AtN m0_stepsEven 83 [some (vr 75), some (vi a1), some (vi a2), some (vi a3), none] (r.toList ++ []) KS M' Q)) : am_AtN m0_stepsEven 76 [some (vr 75), some (vi a1), some (vi a2), some (vi a3), none] [] KS M Q := by
  refine s_aload_n (show decode (am_cc m0_stepsEven) 76 = .ok (.aload_n 0, 1) by decide +kernel) rfl ?_
  refine s_getf (k := 5) (v := vr 80) (show decode (am_cc m0_stepsEven) 77 = .ok (.getfield 33, 3) by decide +kernel) kd75 (by decide) rfl jnX0 (by decide) lf_RX0_33 rfl ?_
  exact n_callV (as := []) (stk := []) (show decode (am_cc m0_stepsEven) 80 = .ok (.invokevirtual 149, 3) by decide +kernel) lk_RX0_149 kd80 (by decide) rfl rfl (by decide) (Nat.le_of_ble_eq_true rfl) ⟨rfl, rfl⟩ k
theorem g0_stepsEven_83 {a1 a2 a3 t0 : Int} {M : am_M} {Q : Option am_V → am_M → Prop} (k : am_CallN m5_size [vr 82] KS M (fun r M' => am_AtN m0_stepsEven 90 [some (vr 75), some (vi a1), some (vi a2), some (vi a3), none] (r.toList ++ [vi t0]) KS M' Q)) : am_AtN m0_stepsEven 83 [some (vr 75), some (vi a1), some (vi a2), some (vi a3), none] [vi t0] KS M Q := by
  refine s_aload_n (show decode (am_cc m0_stepsEven) 83 = .ok (.aload_n 0, 1) by decide +kernel) rfl ?_
  refine s_getf (k := 6) (v := vr 82) (show decode (am_cc m0_stepsEven) 84 = .ok (.getfield 37, 3) by decide +kernel) kd75 (by decide) rfl jnX0 (by decide) lf_RX0_37 rfl ?_
  exact n_callV (as := []) (stk := [vi t0]) (show decode (am_cc m0_stepsEven) 87 = .ok (.invokevirtual 149, 3) by decide +kernel) lk_RX0_149 kd82 (by decide) rfl rfl (by decide) (Nat.le_of_ble_eq_true rfl) ⟨rfl, rfl⟩ k
theorem g0_stepsEven_90 {a1 a2 a3 t0 t1 : Int} {M : am_M} {Q : Option am_V → am_M → Prop} (h1 : -2147483648 ≤ t0 - t1 ∧ t0 - t1 ≤ 2147483647) (h2 : -2147483647 ≤ t0 - t1) (k1 : (if 0 ≤ (t0 - t1) then (t0 - t1) else -(t0 - t1)) ≤ 72 → am_AtN m0_stepsEven 105 [some (vr 75), some (vi a1), some (vi a2), some (vi a3), some (vi (t0 - t1))] [] KS M Q) (k2 : ¬ ((if 0 ≤ (t0 - t1) then (t0 - t1) else -(t0 - t1)) ≤ 72) → am_AtN m0_stepsEven 103 [some (vr 75), some (vi a1), some (vi a2), some (vi a3), some (vi (t0 - t1))] [] KS M Q) : am_AtN m0_stepsEven 90 [some (vr 75), some (vi a1), some (vi a2), some (vi a3), none] [vi t1, vi t0] KS M Q := by
  refine s_isub (show decode (am_cc m0_stepsEven) 90 = .ok (.isub, 1) by decide +kernel) h1 ?_
  refine s_istore (show decode (am_cc m0_stepsEven) 91 = .ok (.istore 4, 2) by decide +kernel) (by decide) ?_
  refine s_iload (show decode (am_cc m0_stepsEven) 93 = .ok (.iload 4, 2) by decide +kernel) rfl ?_
  refine s_mabs (show decode (am_cc m0_stepsEven) 95 = .ok (.invokestatic 153, 3) by decide +kernel) lk_RX0_153.2.1 (Nat.le_of_ble_eq_true rfl) (by decide) h2 ?_
  refine s_bipush (show decode (am_cc m0_stepsEven) 98 = .ok (.bipush 72, 2) by decide +kernel) ⟨by decide, by decide⟩ (by decide) ?_
  exact s_icmp_le (tgt := 105) (show decode (am_cc m0_stepsEven) 100 = .ok (.if_icmp .le 5, 3) by decide +kernel) (by decide) k1 k2
theorem g0_stepsEven_103 {a1 a2 a3 a4 : Int} {M : am_M} {Q : Option am_V → am_M → Prop} (k : Q (some (vi 0)) M) : am_AtN m0_stepsEven 103 [some (vr 75), some (vi a1), some (vi a2), some (vi a3), some (vi a4)] [] KS M Q := by
  refine s_iconst (show decode (am_cc m0_stepsEven) 103 = .ok (.iconst 0, 1) by decide +kernel) ⟨by decide, by decide⟩ ?_
  exact s_zreturn (show decode (am_cc m0_stepsEven) 104 = .ok (.ireturn, 1) by decide +kernel) rfl (by decide) k
theorem g0_stepsEven_105 {a1 a2 a3 a4 : Int} {M : am_M} {Q : Option am_V → am_M → Prop} (h1 : 0 ≤ a3) (h2 : a3 < 216) (k1 : ¬ M 78 a3 = 1048576 → am_AtN m0_stepsEven 126 [some (vr 75), some (vi a1), some (vi a2), some (vi a3), some (vi a4)] [] KS M Q) (k2 : M 78 a3 = 1048576 → am_AtN m0_stepsEven 116 [some (vr 75), some (vi a1), some (vi a2), some (vi a3), some (vi a4)] [] KS M Q) : am_AtN m0_stepsEven 105 [some (vr 75), some (vi a1), some (vi a2), some (vi a3), some (vi a4)] [] KS M Q := by
  refine s_aload_n (show decode (am_cc m0_stepsEven) 105 = .ok (.aload_n 0, 1) by decide +kernel) rfl ?_
  refine s_getf (k := 3) (v := vr 78) (show decode (am_cc m0_stepsEven) 106 = .ok (.getfield 22, 3) by decide +kernel) kd75 (by decide) rfl jnX0 (by decide) lf_RX0_22 rfl ?_
  refine s_iload_n (show decode (am_cc m0_stepsEven) 109 = .ok (.iload_n 3, 1) by decide +kernel) rfl ?_
  refine s_iaload (show decode (am_cc m0_stepsEven) 110 = .ok (.iaload, 1) by decide +kernel) kd78 h1 h2 ?_
  refine s_ldc (show decode (am_cc m0_stepsEven) 111 = .ok (.ldc 126, 2) by decide +kernel) lc_RX0_126 ⟨by decide, by decide⟩ ?_
  exact s_icmp_ne (tgt := 126) (show decode (am_cc m0_stepsEven) 113 = .ok (.if_icmp .ne 13, 3) by decide +kernel) (by decide) k1 k2
theorem g0_stepsEven_116 {a1 a2 a3 a4 : Int} {M : am_M} {Q : Option am_V → am_M → Prop} (k : am_CallN m0_keepLead [vr 75, vi a3, vi a4] KS M (fun r M' => am_AtN m0_stepsEven 123 [some (vr 75), some (vi a1), some (vi a2), some (vi a3), some (vi a4)] (r.toList ++ []) KS M' Q)) : am_AtN m0_stepsEven 116 [some (vr 75), some (vi a1), some (vi a2), some (vi a3), some (vi a4)] [] KS M Q := by
  refine s_aload_n (show decode (am_cc m0_stepsEven) 116 = .ok (.aload_n 0, 1) by decide +kernel) rfl ?_
  refine s_iload_n (show decode (am_cc m0_stepsEven) 117 = .ok (.iload_n 3, 1) by decide +kernel) rfl ?_
  refine s_iload (show decode (am_cc m0_stepsEven) 118 = .ok (.iload 4, 2) by decide +kernel) rfl ?_
  exact n_callV (as := [vi a3, vi a4]) (stk := []) (show decode (am_cc m0_stepsEven) 120 = .ok (.invokevirtual 156, 3) by decide +kernel) lk_RX0_156 kd75 (by decide) rfl rfl (by decide) (Nat.le_of_ble_eq_true rfl) ⟨rfl, rfl⟩ k
theorem g0_stepsEven_123 {a1 a2 a3 a4 t0 : Int} {M : am_M} {Q : Option am_V → am_M → Prop} (k : am_AtN m0_stepsEven 133 [some (vr 75), some (vi a1), some (vi a2), some (vi a3), some (vi a4)] [vi t0] KS M Q) : am_AtN m0_stepsEven 123 [some (vr 75), some (vi a1), some (vi a2), some (vi a3), some (vi a4)] [vi t0] KS M Q := by
  refine s_goto (tgt := 133) (show decode (am_cc m0_stepsEven) 123 = .ok (.goto 10, 3) by decide +kernel) (by decide) ?_
  exact k
theorem g0_stepsEven_126 {a1 a2 a3 a4 : Int} {M : am_M} {Q : Option am_V → am_M → Prop} (k : am_CallN m0_isLead [vr 75, vi a3, vi a4] KS M (fun r M' => am_AtN m0_stepsEven 133 [some (vr 75), some (vi a1), some (vi a2), some (vi a3), some (vi a4)] (r.toList ++ []) KS M' Q)) : am_AtN m0_stepsEven 126 [some (vr 75), some (vi a1), some (vi a2), some (vi a3), some (vi a4)] [] KS M Q := by
  refine s_aload_n (show decode (am_cc m0_stepsEven) 126 = .ok (.aload_n 0, 1) by decide +kernel) rfl ?_
  refine s_iload_n (show decode (am_cc m0_stepsEven) 127 = .ok (.iload_n 3, 1) by decide +kernel) rfl ?_
  refine s_iload (show decode (am_cc m0_stepsEven) 128 = .ok (.iload 4, 2) by decide +kernel) rfl ?_
  exact n_callV (as := [vi a3, vi a4]) (stk := []) (show decode (am_cc m0_stepsEven) 130 = .ok (.invokevirtual 159, 3) by decide +kernel) lk_RX0_159 kd75 (by decide) rfl rfl (by decide) (Nat.le_of_ble_eq_true rfl) ⟨rfl, rfl⟩ k
theorem g0_stepsEven_133 {a1 a2 a3 a4 t0 : Int} {M : am_M} {Q : Option am_V → am_M → Prop} (h1 : t0 = 0 ∨ t0 = 1) (k : Q (some (vi t0)) M) : am_AtN m0_stepsEven 133 [some (vr 75), some (vi a1), some (vi a2), some (vi a3), some (vi a4)] [vi t0] KS M Q := by
  exact s_zreturn (show decode (am_cc m0_stepsEven) 133 = .ok (.ireturn, 1) by decide +kernel) rfl h1 k
theorem g0_fetch_0 {a1 : Int} {M : am_M} {Q : Option am_V → am_M → Prop} (k : am_CallN m5_empty [vr 80] KS M (fun r M' => am_AtN m0_fetch 7 [some (vr 75), some (vi a1), none, none] (r.toList ++ []) KS M' Q)) : am_AtN m0_fetch 0 [some (vr 75), some (vi a1), none, none] [] KS M Q := by
  refine s_aload_n (show decode (am_cc m0_fetch) 0 = .ok (.aload_n 0, 1) by decide +kernel) rfl ?_
  refine s_getf (k := 5) (v := vr 80) (show decode (am_cc m0_fetch) 1 = .ok (.getfield 33, 3) by decide +kernel) kd75 (by decide) rfl jnX0 (by decide) lf_RX0_33 rfl ?_
  exact n_callV (as := []) (stk := []) (show decode (am_cc m0_fetch) 4 = .ok (.invokevirtual 162, 3) by decide +kernel) lk_RX0_162 kd80 (by decide) rfl rfl (by decide) (Nat.le_of_ble_eq_true rfl) ⟨rfl, rfl⟩ k
theorem g0_fetch_7 {a1 : Int} {M : am_M} {Q : Option am_V → am_M → Prop} (k : am_CallN m5_empty [vr 82] KS M (fun r M' => am_AtN m0_fetch 14 [some (vr 75), some (vi a1), none, none] (r.toList ++ []) KS M' Q)) : am_AtN m0_fetch 7 [some (vr 75), some (vi a1), none, none] [] KS M Q := by
  refine s_aload_n (show decode (am_cc m0_fetch) 7 = .ok (.aload_n 0, 1) by decide +kernel) rfl ?_
  refine s_getf (k := 6) (v := vr 82) (show decode (am_cc m0_fetch) 8 = .ok (.getfield 37, 3) by decide +kernel) kd75 (by decide) rfl jnX0 (by decide) lf_RX0_37 rfl ?_
  exact n_callV (as := []) (stk := []) (show decode (am_cc m0_fetch) 11 = .ok (.invokevirtual 162, 3) by decide +kernel) lk_RX0_162 kd82 (by decide) rfl rfl (by decide) (Nat.le_of_ble_eq_true rfl) ⟨rfl, rfl⟩ k
theorem g0_fetch_14 {a1 : Int} {M : am_M} {Q : Option am_V → am_M → Prop} (k : am_CallN m8_within [vi a1, vi 216] KS M (fun r M' => am_AtN m0_fetch 21 [some (vr 75), some (vi a1), none, none] (r.toList ++ []) KS M' Q)) : am_AtN m0_fetch 14 [some (vr 75), some (vi a1), none, none] [] KS M Q := by
  refine s_iload_n (show decode (am_cc m0_fetch) 14 = .ok (.iload_n 1, 1) by decide +kernel) rfl ?_
  refine s_sipush (show decode (am_cc m0_fetch) 15 = .ok (.sipush 216, 3) by decide +kernel) ⟨by decide, by decide⟩ (by decide) ?_
  exact n_callN (as := [vi a1, vi 216]) (stk := []) (show decode (am_cc m0_fetch) 18 = .ok (.invokestatic 80, 3) by decide +kernel) lk_RX0_80 (by decide) (Nat.le_of_ble_eq_true rfl) ⟨rfl, rfl⟩ k
theorem g0_fetch_21 {a1 t0 : Int} {M : am_M} {Q : Option am_V → am_M → Prop} (k1 : t0 = 0 → am_AtN m0_fetch 35 [some (vr 75), some (vi a1), none, none] [] KS M Q) (k2 : ¬ (t0 = 0) → am_AtN m0_fetch 24 [some (vr 75), some (vi a1), none, none] [] KS M Q) : am_AtN m0_fetch 21 [some (vr 75), some (vi a1), none, none] [vi t0] KS M Q := by
  exact s_if_eq (tgt := 35) (show decode (am_cc m0_fetch) 21 = .ok (.ifCond .eq 14, 3) by decide +kernel) (by decide) k1 k2
theorem g0_fetch_24 {a1 : Int} {M : am_M} {Q : Option am_V → am_M → Prop} (h1 : 0 ≤ a1) (h2 : a1 < 216) (k1 : ¬ M 78 a1 = 1048576 → am_AtN m0_fetch 36 [some (vr 75), some (vi a1), none, none] [] KS M Q) (k2 : M 78 a1 = 1048576 → am_AtN m0_fetch 35 [some (vr 75), some (vi a1), none, none] [] KS M Q) : am_AtN m0_fetch 24 [some (vr 75), some (vi a1), none, none] [] KS M Q := by
  refine s_aload_n (show decode (am_cc m0_fetch) 24 = .ok (.aload_n 0, 1) by decide +kernel) rfl ?_
  refine s_getf (k := 3) (v := vr 78) (show decode (am_cc m0_fetch) 25 = .ok (.getfield 22, 3) by decide +kernel) kd75 (by decide) rfl jnX0 (by decide) lf_RX0_22 rfl ?_
  refine s_iload_n (show decode (am_cc m0_fetch) 28 = .ok (.iload_n 1, 1) by decide +kernel) rfl ?_
  refine s_iaload (show decode (am_cc m0_fetch) 29 = .ok (.iaload, 1) by decide +kernel) kd78 h1 h2 ?_
  refine s_ldc (show decode (am_cc m0_fetch) 30 = .ok (.ldc 126, 2) by decide +kernel) lc_RX0_126 ⟨by decide, by decide⟩ ?_
  exact s_icmp_ne (tgt := 36) (show decode (am_cc m0_fetch) 32 = .ok (.if_icmp .ne 4, 3) by decide +kernel) (by decide) k1 k2
theorem g0_fetch_35 {a1 : Int} {M : am_M} {Q : Option am_V → am_M → Prop} (k : Q none M) : am_AtN m0_fetch 35 [some (vr 75), some (vi a1), none, none] [] KS M Q := by
  exact s_return (show decode (am_cc m0_fetch) 35 = .ok (.return_, 1) by decide +kernel) rfl k
theorem g0_fetch_36 {a1 : Int} {M : am_M} {Q : Option am_V → am_M → Prop} (h1 : 0 ≤ a1) (h2 : a1 < 216) (k1 : M 78 a1 ≤ 0 → am_AtN m0_fetch 52 [some (vr 75), some (vi a1), none, none] [] KS M Q) (k2 : ¬ (M 78 a1 ≤ 0) → am_AtN m0_fetch 45 [some (vr 75), some (vi a1), none, none] [] KS M Q) : am_AtN m0_fetch 36 [some (vr 75), some (vi a1), none, none] [] KS M Q := by
  refine s_aload_n (show decode (am_cc m0_fetch) 36 = .ok (.aload_n 0, 1) by decide +kernel) rfl ?_
  refine s_getf (k := 3) (v := vr 78) (show decode (am_cc m0_fetch) 37 = .ok (.getfield 22, 3) by decide +kernel) kd75 (by decide) rfl jnX0 (by decide) lf_RX0_22 rfl ?_
  refine s_iload_n (show decode (am_cc m0_fetch) 40 = .ok (.iload_n 1, 1) by decide +kernel) rfl ?_
  refine s_iaload (show decode (am_cc m0_fetch) 41 = .ok (.iaload, 1) by decide +kernel) kd78 h1 h2 ?_
  exact s_if_le (tgt := 52) (show decode (am_cc m0_fetch) 42 = .ok (.ifCond .le 10, 3) by decide +kernel) (by decide) k1 k2
theorem g0_fetch_45 {a1 : Int} {M : am_M} {Q : Option am_V → am_M → Prop} (k : am_AtN m0_fetch 56 [some (vr 75), some (vi a1), none, none] [vr 80] KS M Q) : am_AtN m0_fetch 45 [some (vr 75), some (vi a1), none, none] [] KS M Q := by
  refine s_aload_n (show decode (am_cc m0_fetch) 45 = .ok (.aload_n 0, 1) by decide +kernel) rfl ?_
  refine s_getf (k := 5) (v := vr 80) (show decode (am_cc m0_fetch) 46 = .ok (.getfield 33, 3) by decide +kernel) kd75 (by decide) rfl jnX0 (by decide) lf_RX0_33 rfl ?_
  refine s_goto (tgt := 56) (show decode (am_cc m0_fetch) 49 = .ok (.goto 7, 3) by decide +kernel) (by decide) ?_
  exact k
theorem g0_fetch_52 {a1 : Int} {M : am_M} {Q : Option am_V → am_M → Prop} (k : am_AtN m0_fetch 56 [some (vr 75), some (vi a1), none, none] [vr 82] KS M Q) : am_AtN m0_fetch 52 [some (vr 75), some (vi a1), none, none] [] KS M Q := by
  refine s_aload_n (show decode (am_cc m0_fetch) 52 = .ok (.aload_n 0, 1) by decide +kernel) rfl ?_
  refine s_getf (k := 6) (v := vr 82) (show decode (am_cc m0_fetch) 53 = .ok (.getfield 37, 3) by decide +kernel) kd75 (by decide) rfl jnX0 (by decide) lf_RX0_37 rfl ?_
  exact k
theorem g0_fetch_56 {a1 t0 : Int} {M : am_M} {Q : Option am_V → am_M → Prop} (k : am_AtN m0_fetch 59 [some (vr 75), some (vi a1), some (vr t0), some (vi 0)] [] KS M Q) : am_AtN m0_fetch 56 [some (vr 75), some (vi a1), none, none] [vr t0] KS M Q := by
  refine s_astore_n (show decode (am_cc m0_fetch) 56 = .ok (.astore_n 2, 1) by decide +kernel) (by decide) ?_
  refine s_iconst (show decode (am_cc m0_fetch) 57 = .ok (.iconst 0, 1) by decide +kernel) ⟨by decide, by decide⟩ ?_
  refine s_istore_n (show decode (am_cc m0_fetch) 58 = .ok (.istore_n 3, 1) by decide +kernel) (by decide) ?_
  exact k
theorem g0_fetch_59 {a1 a2 a3 : Int} {M : am_M} {Q : Option am_V → am_M → Prop} (h1 : 0 ≤ a1) (h2 : a1 < 216) (h3 : -2147483647 ≤ M 78 a1) (k1 : (if 0 ≤ (M 78 a1) then (M 78 a1) else -(M 78 a1)) ≤ a3 → am_AtN m0_fetch 88 [some (vr 75), some (vi a1), some (vr a2), some (vi a3)] [] KS M Q) (k2 : ¬ ((if 0 ≤ (M 78 a1) then (M 78 a1) else -(M 78 a1)) ≤ a3) → am_AtN m0_fetch 72 [some (vr 75), some (vi a1), some (vr a2), some (vi a3)] [] KS M Q) : am_AtN m0_fetch 59 [some (vr 75), some (vi a1), some (vr a2), some (vi a3)] [] KS M Q := by
  refine s_iload_n (show decode (am_cc m0_fetch) 59 = .ok (.iload_n 3, 1) by decide +kernel) rfl ?_
  refine s_aload_n (show decode (am_cc m0_fetch) 60 = .ok (.aload_n 0, 1) by decide +kernel) rfl ?_
  refine s_getf (k := 3) (v := vr 78) (show decode (am_cc m0_fetch) 61 = .ok (.getfield 22, 3) by decide +kernel) kd75 (by decide) rfl jnX0 (by decide) lf_RX0_22 rfl ?_
  refine s_iload_n (show decode (am_cc m0_fetch) 64 = .ok (.iload_n 1, 1) by decide +kernel) rfl ?_
  refine s_iaload (show decode (am_cc m0_fetch) 65 = .ok (.iaload, 1) by decide +kernel) kd78 h1 h2 ?_
  refine s_mabs (show decode (am_cc m0_fetch) 66 = .ok (.invokestatic 153, 3) by decide +kernel) lk_RX0_153.2.1 (Nat.le_of_ble_eq_true rfl) (by decide) h3 ?_
  exact s_icmp_ge (tgt := 88) (show decode (am_cc m0_fetch) 69 = .ok (.if_icmp .ge 19, 3) by decide +kernel) (by decide) k1 k2
theorem g0_fetch_72 {a1 a2 a3 : Int} {M : am_M} {Q : Option am_V → am_M → Prop} (k : am_CallN m0_leadLetter [vr 75, vi a1, vi a3] KS M (fun r M' => am_AtN m0_fetch 79 [some (vr 75), some (vi a1), some (vr a2), some (vi a3)] (r.toList ++ [vr a2]) KS M' Q)) : am_AtN m0_fetch 72 [some (vr 75), some (vi a1), some (vr a2), some (vi a3)] [] KS M Q := by
  refine s_aload_n (show decode (am_cc m0_fetch) 72 = .ok (.aload_n 2, 1) by decide +kernel) rfl ?_
  refine s_aload_n (show decode (am_cc m0_fetch) 73 = .ok (.aload_n 0, 1) by decide +kernel) rfl ?_
  refine s_iload_n (show decode (am_cc m0_fetch) 74 = .ok (.iload_n 1, 1) by decide +kernel) rfl ?_
  refine s_iload_n (show decode (am_cc m0_fetch) 75 = .ok (.iload_n 3, 1) by decide +kernel) rfl ?_
  exact n_callV (as := [vi a1, vi a3]) (stk := [vr a2]) (show decode (am_cc m0_fetch) 76 = .ok (.invokevirtual 165, 3) by decide +kernel) lk_RX0_165 kd75 (by decide) rfl rfl (by decide) (Nat.le_of_ble_eq_true rfl) ⟨rfl, rfl⟩ k
theorem g0_fetch_79 {a1 a2 a3 t0 t1 : Int} {M : am_M} {Q : Option am_V → am_M → Prop} {r0 : List Int} (h1 : am_kd KS t0 = some (5, 2, r0)) (k : am_CallN m5_add [vr t0, vi t1] KS M (fun r M' => am_AtN m0_fetch 82 [some (vr 75), some (vi a1), some (vr a2), some (vi a3)] (r.toList ++ []) KS M' Q)) : am_AtN m0_fetch 79 [some (vr 75), some (vi a1), some (vr a2), some (vi a3)] [vi t1, vr t0] KS M Q := by
  exact n_callV (as := [vi t1]) (stk := []) (show decode (am_cc m0_fetch) 79 = .ok (.invokevirtual 168, 3) by decide +kernel) lk_RX0_168 h1 (by decide) rfl rfl (by decide) (Nat.le_of_ble_eq_true rfl) ⟨rfl, rfl⟩ k
theorem g0_fetch_82 {a1 a2 a3 : Int} {M : am_M} {Q : Option am_V → am_M → Prop} (h1 : -2147483648 ≤ a3 + 1 ∧ a3 + 1 ≤ 2147483647) (k : am_AtN m0_fetch 59 [some (vr 75), some (vi a1), some (vr a2), some (vi (a3 + 1))] [] KS M Q) : am_AtN m0_fetch 82 [some (vr 75), some (vi a1), some (vr a2), some (vi a3)] [] KS M Q := by
  refine s_iinc (show decode (am_cc m0_fetch) 82 = .ok (.iinc 3 1, 3) by decide +kernel) rfl (by decide) h1 ?_
  refine s_goto (tgt := 59) (show decode (am_cc m0_fetch) 85 = .ok (.goto (-26), 3) by decide +kernel) (by decide) ?_
  exact k
theorem g0_fetch_88 {a1 a2 a3 : Int} {M : am_M} {Q : Option am_V → am_M → Prop} (k : Q none M) : am_AtN m0_fetch 88 [some (vr 75), some (vi a1), some (vr a2), some (vi a3)] [] KS M Q := by
  exact s_return (show decode (am_cc m0_fetch) 88 = .ok (.return_, 1) by decide +kernel) rfl k
theorem g0_keepLead_0 {a1 a2 : Int} {M : am_M} {Q : Option am_V → am_M → Prop} (k : am_CallN m8_within [vi a1, vi 216] KS M (fun r M' => am_AtN m0_keepLead 7 [some (vr 75), some (vi a1), some (vi a2), none, none, none] (r.toList ++ []) KS M' Q)) : am_AtN m0_keepLead 0 [some (vr 75), some (vi a1), some (vi a2), none, none, none] [] KS M Q := by
  refine s_iload_n (show decode (am_cc m0_keepLead) 0 = .ok (.iload_n 1, 1) by decide +kernel) rfl ?_
  refine s_sipush (show decode (am_cc m0_keepLead) 1 = .ok (.sipush 216, 3) by decide +kernel) ⟨by decide, by decide⟩ (by decide) ?_
  exact n_callN (as := [vi a1, vi 216]) (stk := []) (show decode (am_cc m0_keepLead) 4 = .ok (.invokestatic 80, 3) by decide +kernel) lk_RX0_80 (by decide) (Nat.le_of_ble_eq_true rfl) ⟨rfl, rfl⟩ k
theorem g0_keepLead_7 {a1 a2 t0 : Int} {M : am_M} {Q : Option am_V → am_M → Prop} (k1 : ¬ t0 = 0 → am_AtN m0_keepLead 12 [some (vr 75), some (vi a1), some (vi a2), none, none, none] [] KS M Q) (k2 : t0 = 0 → am_AtN m0_keepLead 10 [some (vr 75), some (vi a1), some (vi a2), none, none, none] [] KS M Q) : am_AtN m0_keepLead 7 [some (vr 75), some (vi a1), some (vi a2), none, none, none] [vi t0] KS M Q := by
  exact s_if_ne (tgt := 12) (show decode (am_cc m0_keepLead) 7 = .ok (.ifCond .ne 5, 3) by decide +kernel) (by decide) k1 k2
theorem g0_keepLead_10 {a1 a2 : Int} {M : am_M} {Q : Option am_V → am_M → Prop} (k : Q (some (vi 0)) M) : am_AtN m0_keepLead 10 [some (vr 75), some (vi a1), some (vi a2), none, none, none] [] KS M Q := by
  refine s_iconst (show decode (am_cc m0_keepLead) 10 = .ok (.iconst 0, 1) by decide +kernel) ⟨by decide, by decide⟩ ?_
  exact s_zreturn (show decode (am_cc m0_keepLead) 11 = .ok (.ireturn, 1) by decide +kernel) rfl (by decide) k
theorem g0_keepLead_12 {a1 a2 : Int} {M : am_M} {Q : Option am_V → am_M → Prop} (h1 : 0 ≤ a1) (h2 : a1 < 216) (k1 : a2 ≤ 0 → am_AtN m0_keepLead 30 [some (vr 75), some (vi a1), some (vi a2), none, none, none] [] KS (am_up M 78 a1 a2) Q) (k2 : ¬ (a2 ≤ 0) → am_AtN m0_keepLead 23 [some (vr 75), some (vi a1), some (vi a2), none, none, none] [] KS (am_up M 78 a1 a2) Q) : am_AtN m0_keepLead 12 [some (vr 75), some (vi a1), some (vi a2), none, none, none] [] KS M Q := by
  refine s_aload_n (show decode (am_cc m0_keepLead) 12 = .ok (.aload_n 0, 1) by decide +kernel) rfl ?_
  refine s_getf (k := 3) (v := vr 78) (show decode (am_cc m0_keepLead) 13 = .ok (.getfield 22, 3) by decide +kernel) kd75 (by decide) rfl jnX0 (by decide) lf_RX0_22 rfl ?_
  refine s_iload_n (show decode (am_cc m0_keepLead) 16 = .ok (.iload_n 1, 1) by decide +kernel) rfl ?_
  refine s_iload_n (show decode (am_cc m0_keepLead) 17 = .ok (.iload_n 2, 1) by decide +kernel) rfl ?_
  refine s_iastore (show decode (am_cc m0_keepLead) 18 = .ok (.iastore, 1) by decide +kernel) kd78 h1 h2 ?_
  refine s_iload_n (show decode (am_cc m0_keepLead) 19 = .ok (.iload_n 2, 1) by decide +kernel) rfl ?_
  exact s_if_le (tgt := 30) (show decode (am_cc m0_keepLead) 20 = .ok (.ifCond .le 10, 3) by decide +kernel) (by decide) k1 k2
theorem g0_keepLead_23 {a1 a2 : Int} {M : am_M} {Q : Option am_V → am_M → Prop} (k : am_AtN m0_keepLead 34 [some (vr 75), some (vi a1), some (vi a2), none, none, none] [vr 80] KS M Q) : am_AtN m0_keepLead 23 [some (vr 75), some (vi a1), some (vi a2), none, none, none] [] KS M Q := by
  refine s_aload_n (show decode (am_cc m0_keepLead) 23 = .ok (.aload_n 0, 1) by decide +kernel) rfl ?_
  refine s_getf (k := 5) (v := vr 80) (show decode (am_cc m0_keepLead) 24 = .ok (.getfield 33, 3) by decide +kernel) kd75 (by decide) rfl jnX0 (by decide) lf_RX0_33 rfl ?_
  refine s_goto (tgt := 34) (show decode (am_cc m0_keepLead) 27 = .ok (.goto 7, 3) by decide +kernel) (by decide) ?_
  exact k
theorem g0_keepLead_30 {a1 a2 : Int} {M : am_M} {Q : Option am_V → am_M → Prop} (k : am_AtN m0_keepLead 34 [some (vr 75), some (vi a1), some (vi a2), none, none, none] [vr 82] KS M Q) : am_AtN m0_keepLead 30 [some (vr 75), some (vi a1), some (vi a2), none, none, none] [] KS M Q := by
  refine s_aload_n (show decode (am_cc m0_keepLead) 30 = .ok (.aload_n 0, 1) by decide +kernel) rfl ?_
  refine s_getf (k := 6) (v := vr 82) (show decode (am_cc m0_keepLead) 31 = .ok (.getfield 37, 3) by decide +kernel) kd75 (by decide) rfl jnX0 (by decide) lf_RX0_37 rfl ?_
  exact k
theorem g0_keepLead_34 {a1 a2 t0 : Int} {M : am_M} {Q : Option am_V → am_M → Prop} {r0 : List Int} (h1 : am_kd KS t0 = some (5, 2, r0)) (k : am_CallN m5_size [vr t0] KS M (fun r M' => am_AtN m0_keepLead 39 [some (vr 75), some (vi a1), some (vi a2), some (vr t0), none, none] (r.toList ++ []) KS M' Q)) : am_AtN m0_keepLead 34 [some (vr 75), some (vi a1), some (vi a2), none, none, none] [vr t0] KS M Q := by
  refine s_astore_n (show decode (am_cc m0_keepLead) 34 = .ok (.astore_n 3, 1) by decide +kernel) (by decide) ?_
  refine s_aload_n (show decode (am_cc m0_keepLead) 35 = .ok (.aload_n 3, 1) by decide +kernel) rfl ?_
  exact n_callV (as := []) (stk := []) (show decode (am_cc m0_keepLead) 36 = .ok (.invokevirtual 149, 3) by decide +kernel) lk_RX0_149 h1 (by decide) rfl rfl (by decide) (Nat.le_of_ble_eq_true rfl) ⟨rfl, rfl⟩ k
theorem g0_keepLead_39 {a1 a2 a3 t0 : Int} {M : am_M} {Q : Option am_V → am_M → Prop} (h1 : -2147483647 ≤ a2) (h2 : -2147483648 ≤ t0 - (if 0 ≤ a2 then a2 else -a2) ∧ t0 - (if 0 ≤ a2 then a2 else -a2) ≤ 2147483647) (k : am_AtN m0_keepLead 49 [some (vr 75), some (vi a1), some (vi a2), some (vr a3), some (vi (t0 - (if 0 ≤ a2 then a2 else -a2))), some (vi 0)] [] KS M Q) : am_AtN m0_keepLead 39 [some (vr 75), some (vi a1), some (vi a2), some (vr a3), none, none] [vi t0] KS M Q := by
  refine s_iload_n (show decode (am_cc m0_keepLead) 39 = .ok (.iload_n 2, 1) by decide +kernel) rfl ?_
  refine s_mabs (show decode (am_cc m0_keepLead) 40 = .ok (.invokestatic 153, 3) by decide +kernel) lk_RX0_153.2.1 (Nat.le_of_ble_eq_true rfl) (by decide) h1 ?_
  refine s_isub (show decode (am_cc m0_keepLead) 43 = .ok (.isub, 1) by decide +kernel) h2 ?_
  refine s_istore (show decode (am_cc m0_keepLead) 44 = .ok (.istore 4, 2) by decide +kernel) (by decide) ?_
  refine s_iconst (show decode (am_cc m0_keepLead) 46 = .ok (.iconst 0, 1) by decide +kernel) ⟨by decide, by decide⟩ ?_
  refine s_istore (show decode (am_cc m0_keepLead) 47 = .ok (.istore 5, 2) by decide +kernel) (by decide) ?_
  exact k
theorem g0_keepLead_49 {a1 a2 a3 a4 a5 : Int} {M : am_M} {Q : Option am_V → am_M → Prop} (h1 : -2147483647 ≤ a2) (k1 : (if 0 ≤ a2 then a2 else -a2) ≤ a5 → am_AtN m0_keepLead 80 [some (vr 75), some (vi a1), some (vi a2), some (vr a3), some (vi a4), some (vi a5)] [] KS M Q) (k2 : ¬ ((if 0 ≤ a2 then a2 else -a2) ≤ a5) → am_AtN m0_keepLead 58 [some (vr 75), some (vi a1), some (vi a2), some (vr a3), some (vi a4), some (vi a5)] [] KS M Q) : am_AtN m0_keepLead 49 [some (vr 75), some (vi a1), some (vi a2), some (vr a3), some (vi a4), some (vi a5)] [] KS M Q := by
  refine s_iload (show decode (am_cc m0_keepLead) 49 = .ok (.iload 5, 2) by decide +kernel) rfl ?_
  refine s_iload_n (show decode (am_cc m0_keepLead) 51 = .ok (.iload_n 2, 1) by decide +kernel) rfl ?_
  refine s_mabs (show decode (am_cc m0_keepLead) 52 = .ok (.invokestatic 153, 3) by decide +kernel) lk_RX0_153.2.1 (Nat.le_of_ble_eq_true rfl) (by decide) h1 ?_
  exact s_icmp_ge (tgt := 80) (show decode (am_cc m0_keepLead) 55 = .ok (.if_icmp .ge 25, 3) by decide +kernel) (by decide) k1 k2
theorem g0_keepLead_58 {a1 a2 a3 a4 a5 : Int} {M : am_M} {Q : Option am_V → am_M → Prop} {r0 : List Int} (h1 : -2147483648 ≤ a4 + a5 ∧ a4 + a5 ≤ 2147483647) (h2 : am_kd KS a3 = some (5, 2, r0)) (k : am_CallN m5_letterAt [vr a3, vi (a4 + a5)] KS M (fun r M' => am_AtN m0_keepLead 71 [some (vr 75), some (vi a1), some (vi a2), some (vr a3), some (vi a4), some (vi a5)] (r.toList ++ [vi a5, vi a1, vr 75]) KS M' Q)) : am_AtN m0_keepLead 58 [some (vr 75), some (vi a1), some (vi a2), some (vr a3), some (vi a4), some (vi a5)] [] KS M Q := by
  refine s_aload_n (show decode (am_cc m0_keepLead) 58 = .ok (.aload_n 0, 1) by decide +kernel) rfl ?_
  refine s_iload_n (show decode (am_cc m0_keepLead) 59 = .ok (.iload_n 1, 1) by decide +kernel) rfl ?_
  refine s_iload (show decode (am_cc m0_keepLead) 60 = .ok (.iload 5, 2) by decide +kernel) rfl ?_
  refine s_aload_n (show decode (am_cc m0_keepLead) 62 = .ok (.aload_n 3, 1) by decide +kernel) rfl ?_
  refine s_iload (show decode (am_cc m0_keepLead) 63 = .ok (.iload 4, 2) by decide +kernel) rfl ?_
  refine s_iload (show decode (am_cc m0_keepLead) 65 = .ok (.iload 5, 2) by decide +kernel) rfl ?_
  refine s_iadd (show decode (am_cc m0_keepLead) 67 = .ok (.iadd, 1) by decide +kernel) h1 ?_
  exact n_callV (as := [vi (a4 + a5)]) (stk := [vi a5, vi a1, vr 75]) (show decode (am_cc m0_keepLead) 68 = .ok (.invokevirtual 171, 3) by decide +kernel) lk_RX0_171 h2 (by decide) rfl rfl (by decide) (Nat.le_of_ble_eq_true rfl) ⟨rfl, rfl⟩ k
theorem g0_keepLead_71 {a1 a2 a3 a4 a5 t0 t1 t2 t3 : Int} {M : am_M} {Q : Option am_V → am_M → Prop} {r0 : List Int} (h1 : am_kd KS t0 = some (0, 11, r0)) (k : am_CallN m0_putLeadLetter [vr t0, vi t1, vi t2, vi t3] KS M (fun r M' => am_AtN m0_keepLead 74 [some (vr 75), some (vi a1), some (vi a2), some (vr a3), some (vi a4), some (vi a5)] (r.toList ++ []) KS M' Q)) : am_AtN m0_keepLead 71 [some (vr 75), some (vi a1), some (vi a2), some (vr a3), some (vi a4), some (vi a5)] [vi t3, vi t2, vi t1, vr t0] KS M Q := by
  exact n_callV (as := [vi t1, vi t2, vi t3]) (stk := []) (show decode (am_cc m0_keepLead) 71 = .ok (.invokevirtual 174, 3) by decide +kernel) lk_RX0_174 h1 (by decide) rfl rfl (by decide) (Nat.le_of_ble_eq_true rfl) ⟨rfl, rfl⟩ k
theorem g0_keepLead_74 {a1 a2 a3 a4 a5 : Int} {M : am_M} {Q : Option am_V → am_M → Prop} (h1 : -2147483648 ≤ a5 + 1 ∧ a5 + 1 ≤ 2147483647) (k : am_AtN m0_keepLead 49 [some (vr 75), some (vi a1), some (vi a2), some (vr a3), some (vi a4), some (vi (a5 + 1))] [] KS M Q) : am_AtN m0_keepLead 74 [some (vr 75), some (vi a1), some (vi a2), some (vr a3), some (vi a4), some (vi a5)] [] KS M Q := by
  refine s_iinc (show decode (am_cc m0_keepLead) 74 = .ok (.iinc 5 1, 3) by decide +kernel) rfl (by decide) h1 ?_
  refine s_goto (tgt := 49) (show decode (am_cc m0_keepLead) 77 = .ok (.goto (-28), 3) by decide +kernel) (by decide) ?_
  exact k
theorem g0_keepLead_80 {a1 a2 a3 a4 a5 : Int} {M : am_M} {Q : Option am_V → am_M → Prop} (k : Q (some (vi 1)) M) : am_AtN m0_keepLead 80 [some (vr 75), some (vi a1), some (vi a2), some (vr a3), some (vi a4), some (vi a5)] [] KS M Q := by
  refine s_iconst (show decode (am_cc m0_keepLead) 80 = .ok (.iconst 1, 1) by decide +kernel) ⟨by decide, by decide⟩ ?_
  exact s_zreturn (show decode (am_cc m0_keepLead) 81 = .ok (.ireturn, 1) by decide +kernel) rfl (by decide) k
theorem g0_isLead_0 {a1 a2 : Int} {M : am_M} {Q : Option am_V → am_M → Prop} (k : am_CallN m8_within [vi a1, vi 216] KS M (fun r M' => am_AtN m0_isLead 7 [some (vr 75), some (vi a1), some (vi a2), none, none, none] (r.toList ++ []) KS M' Q)) : am_AtN m0_isLead 0 [some (vr 75), some (vi a1), some (vi a2), none, none, none] [] KS M Q := by
  refine s_iload_n (show decode (am_cc m0_isLead) 0 = .ok (.iload_n 1, 1) by decide +kernel) rfl ?_
  refine s_sipush (show decode (am_cc m0_isLead) 1 = .ok (.sipush 216, 3) by decide +kernel) ⟨by decide, by decide⟩ (by decide) ?_
  exact n_callN (as := [vi a1, vi 216]) (stk := []) (show decode (am_cc m0_isLead) 4 = .ok (.invokestatic 80, 3) by decide +kernel) lk_RX0_80 (by decide) (Nat.le_of_ble_eq_true rfl) ⟨rfl, rfl⟩ k
theorem g0_isLead_7 {a1 a2 t0 : Int} {M : am_M} {Q : Option am_V → am_M → Prop} (k1 : t0 = 0 → am_AtN m0_isLead 20 [some (vr 75), some (vi a1), some (vi a2), none, none, none] [] KS M Q) (k2 : ¬ (t0 = 0) → am_AtN m0_isLead 10 [some (vr 75), some (vi a1), some (vi a2), none, none, none] [] KS M Q) : am_AtN m0_isLead 7 [some (vr 75), some (vi a1), some (vi a2), none, none, none] [vi t0] KS M Q := by
  exact s_if_eq (tgt := 20) (show decode (am_cc m0_isLead) 7 = .ok (.ifCond .eq 13, 3) by decide +kernel) (by decide) k1 k2
theorem g0_isLead_10 {a1 a2 : Int} {M : am_M} {Q : Option am_V → am_M → Prop} (h1 : 0 ≤ a1) (h2 : a1 < 216) (k1 : M 78 a1 = a2 → am_AtN m0_isLead 22 [some (vr 75), some (vi a1), some (vi a2), none, none, none] [] KS M Q) (k2 : ¬ (M 78 a1 = a2) → am_AtN m0_isLead 20 [some (vr 75), some (vi a1), some (vi a2), none, none, none] [] KS M Q) : am_AtN m0_isLead 10 [some (vr 75), some (vi a1), some (vi a2), none, none, none] [] KS M Q := by
  refine s_aload_n (show decode (am_cc m0_isLead) 10 = .ok (.aload_n 0, 1) by decide +kernel) rfl ?_
  refine s_getf (k := 3) (v := vr 78) (show decode (am_cc m0_isLead) 11 = .ok (.getfield 22, 3) by decide +kernel) kd75 (by decide) rfl jnX0 (by decide) lf_RX0_22 rfl ?_
  refine s_iload_n (show decode (am_cc m0_isLead) 14 = .ok (.iload_n 1, 1) by decide +kernel) rfl ?_
  refine s_iaload (show decode (am_cc m0_isLead) 15 = .ok (.iaload, 1) by decide +kernel) kd78 h1 h2 ?_
  refine s_iload_n (show decode (am_cc m0_isLead) 16 = .ok (.iload_n 2, 1) by decide +kernel) rfl ?_
  exact s_icmp_eq (tgt := 22) (show decode (am_cc m0_isLead) 17 = .ok (.if_icmp .eq 5, 3) by decide +kernel) (by decide) k1 k2
theorem g0_isLead_20 {a1 a2 : Int} {M : am_M} {Q : Option am_V → am_M → Prop} (k : Q (some (vi 0)) M) : am_AtN m0_isLead 20 [some (vr 75), some (vi a1), some (vi a2), none, none, none] [] KS M Q := by
  refine s_iconst (show decode (am_cc m0_isLead) 20 = .ok (.iconst 0, 1) by decide +kernel) ⟨by decide, by decide⟩ ?_
  exact s_zreturn (show decode (am_cc m0_isLead) 21 = .ok (.ireturn, 1) by decide +kernel) rfl (by decide) k
theorem g0_isLead_22 {a1 a2 : Int} {M : am_M} {Q : Option am_V → am_M → Prop} (k1 : a2 ≤ 0 → am_AtN m0_isLead 33 [some (vr 75), some (vi a1), some (vi a2), none, none, none] [] KS M Q) (k2 : ¬ (a2 ≤ 0) → am_AtN m0_isLead 26 [some (vr 75), some (vi a1), some (vi a2), none, none, none] [] KS M Q) : am_AtN m0_isLead 22 [some (vr 75), some (vi a1), some (vi a2), none, none, none] [] KS M Q := by
  refine s_iload_n (show decode (am_cc m0_isLead) 22 = .ok (.iload_n 2, 1) by decide +kernel) rfl ?_
  exact s_if_le (tgt := 33) (show decode (am_cc m0_isLead) 23 = .ok (.ifCond .le 10, 3) by decide +kernel) (by decide) k1 k2
theorem g0_isLead_26 {a1 a2 : Int} {M : am_M} {Q : Option am_V → am_M → Prop} (k : am_AtN m0_isLead 37 [some (vr 75), some (vi a1), some (vi a2), none, none, none] [vr 80] KS M Q) : am_AtN m0_isLead 26 [some (vr 75), some (vi a1), some (vi a2), none, none, none] [] KS M Q := by
  refine s_aload_n (show decode (am_cc m0_isLead) 26 = .ok (.aload_n 0, 1) by decide +kernel) rfl ?_
  refine s_getf (k := 5) (v := vr 80) (show decode (am_cc m0_isLead) 27 = .ok (.getfield 33, 3) by decide +kernel) kd75 (by decide) rfl jnX0 (by decide) lf_RX0_33 rfl ?_
  refine s_goto (tgt := 37) (show decode (am_cc m0_isLead) 30 = .ok (.goto 7, 3) by decide +kernel) (by decide) ?_
  exact k
theorem g0_isLead_33 {a1 a2 : Int} {M : am_M} {Q : Option am_V → am_M → Prop} (k : am_AtN m0_isLead 37 [some (vr 75), some (vi a1), some (vi a2), none, none, none] [vr 82] KS M Q) : am_AtN m0_isLead 33 [some (vr 75), some (vi a1), some (vi a2), none, none, none] [] KS M Q := by
  refine s_aload_n (show decode (am_cc m0_isLead) 33 = .ok (.aload_n 0, 1) by decide +kernel) rfl ?_
  refine s_getf (k := 6) (v := vr 82) (show decode (am_cc m0_isLead) 34 = .ok (.getfield 37, 3) by decide +kernel) kd75 (by decide) rfl jnX0 (by decide) lf_RX0_37 rfl ?_
  exact k
theorem g0_isLead_37 {a1 a2 t0 : Int} {M : am_M} {Q : Option am_V → am_M → Prop} {r0 : List Int} (h1 : am_kd KS t0 = some (5, 2, r0)) (k : am_CallN m5_size [vr t0] KS M (fun r M' => am_AtN m0_isLead 42 [some (vr 75), some (vi a1), some (vi a2), some (vr t0), none, none] (r.toList ++ []) KS M' Q)) : am_AtN m0_isLead 37 [some (vr 75), some (vi a1), some (vi a2), none, none, none] [vr t0] KS M Q := by
  refine s_astore_n (show decode (am_cc m0_isLead) 37 = .ok (.astore_n 3, 1) by decide +kernel) (by decide) ?_
  refine s_aload_n (show decode (am_cc m0_isLead) 38 = .ok (.aload_n 3, 1) by decide +kernel) rfl ?_
  exact n_callV (as := []) (stk := []) (show decode (am_cc m0_isLead) 39 = .ok (.invokevirtual 149, 3) by decide +kernel) lk_RX0_149 h1 (by decide) rfl rfl (by decide) (Nat.le_of_ble_eq_true rfl) ⟨rfl, rfl⟩ k
theorem g0_isLead_42 {a1 a2 a3 t0 : Int} {M : am_M} {Q : Option am_V → am_M → Prop} (h1 : -2147483647 ≤ a2) (h2 : -2147483648 ≤ t0 - (if 0 ≤ a2 then a2 else -a2) ∧ t0 - (if 0 ≤ a2 then a2 else -a2) ≤ 2147483647) (k : am_AtN m0_isLead 52 [some (vr 75), some (vi a1), some (vi a2), some (vr a3), some (vi (t0 - (if 0 ≤ a2 then a2 else -a2))), some (vi 0)] [] KS M Q) : am_AtN m0_isLead 42 [some (vr 75), some (vi a1), some (vi a2), some (vr a3), none, none] [vi t0] KS M Q := by
  refine s_iload_n (show decode (am_cc m0_isLead) 42 = .ok (.iload_n 2, 1) by decide +kernel) rfl ?_
  refine s_mabs (show decode (am_cc m0_isLead) 43 = .ok (.invokestatic 153, 3) by decide +kernel) lk_RX0_153.2.1 (Nat.le_of_ble_eq_true rfl) (by decide) h1 ?_
  refine s_isub (show decode (am_cc m0_isLead) 46 = .ok (.isub, 1) by decide +kernel) h2 ?_
  refine s_istore (show decode (am_cc m0_isLead) 47 = .ok (.istore 4, 2) by decide +kernel) (by decide) ?_
  refine s_iconst (show decode (am_cc m0_isLead) 49 = .ok (.iconst 0, 1) by decide +kernel) ⟨by decide, by decide⟩ ?_
  refine s_istore (show decode (am_cc m0_isLead) 50 = .ok (.istore 5, 2) by decide +kernel) (by decide) ?_
  exact k
theorem g0_isLead_52 {a1 a2 a3 a4 a5 : Int} {M : am_M} {Q : Option am_V → am_M → Prop} (h1 : -2147483647 ≤ a2) (k1 : (if 0 ≤ a2 then a2 else -a2) ≤ a5 → am_AtN m0_isLead 88 [some (vr 75), some (vi a1), some (vi a2), some (vr a3), some (vi a4), some (vi a5)] [] KS M Q) (k2 : ¬ ((if 0 ≤ a2 then a2 else -a2) ≤ a5) → am_AtN m0_isLead 61 [some (vr 75), some (vi a1), some (vi a2), some (vr a3), some (vi a4), some (vi a5)] [] KS M Q) : am_AtN m0_isLead 52 [some (vr 75), some (vi a1), some (vi a2), some (vr a3), some (vi a4), some (vi a5)] [] KS M Q := by
  refine s_iload (show decode (am_cc m0_isLead) 52 = .ok (.iload 5, 2) by decide +kernel) rfl ?_
  refine s_iload_n (show decode (am_cc m0_isLead) 54 = .ok (.iload_n 2, 1) by decide +kernel) rfl ?_
  refine s_mabs (show decode (am_cc m0_isLead) 55 = .ok (.invokestatic 153, 3) by decide +kernel) lk_RX0_153.2.1 (Nat.le_of_ble_eq_true rfl) (by decide) h1 ?_
  exact s_icmp_ge (tgt := 88) (show decode (am_cc m0_isLead) 58 = .ok (.if_icmp .ge 30, 3) by decide +kernel) (by decide) k1 k2
theorem g0_isLead_61 {a1 a2 a3 a4 a5 : Int} {M : am_M} {Q : Option am_V → am_M → Prop} (k : am_CallN m0_leadLetter [vr 75, vi a1, vi a5] KS M (fun r M' => am_AtN m0_isLead 68 [some (vr 75), some (vi a1), some (vi a2), some (vr a3), some (vi a4), some (vi a5)] (r.toList ++ []) KS M' Q)) : am_AtN m0_isLead 61 [some (vr 75), some (vi a1), some (vi a2), some (vr a3), some (vi a4), some (vi a5)] [] KS M Q := by
  refine s_aload_n (show decode (am_cc m0_isLead) 61 = .ok (.aload_n 0, 1) by decide +kernel) rfl ?_
  refine s_iload_n (show decode (am_cc m0_isLead) 62 = .ok (.iload_n 1, 1) by decide +kernel) rfl ?_
  refine s_iload (show decode (am_cc m0_isLead) 63 = .ok (.iload 5, 2) by decide +kernel) rfl ?_
  exact n_callV (as := [vi a1, vi a5]) (stk := []) (show decode (am_cc m0_isLead) 65 = .ok (.invokevirtual 165, 3) by decide +kernel) lk_RX0_165 kd75 (by decide) rfl rfl (by decide) (Nat.le_of_ble_eq_true rfl) ⟨rfl, rfl⟩ k
theorem g0_isLead_68 {a1 a2 a3 a4 a5 t0 : Int} {M : am_M} {Q : Option am_V → am_M → Prop} {r0 : List Int} (h1 : -2147483648 ≤ a4 + a5 ∧ a4 + a5 ≤ 2147483647) (h2 : am_kd KS a3 = some (5, 2, r0)) (k : am_CallN m5_letterAt [vr a3, vi (a4 + a5)] KS M (fun r M' => am_AtN m0_isLead 77 [some (vr 75), some (vi a1), some (vi a2), some (vr a3), some (vi a4), some (vi a5)] (r.toList ++ [vi t0]) KS M' Q)) : am_AtN m0_isLead 68 [some (vr 75), some (vi a1), some (vi a2), some (vr a3), some (vi a4), some (vi a5)] [vi t0] KS M Q := by
  refine s_aload_n (show decode (am_cc m0_isLead) 68 = .ok (.aload_n 3, 1) by decide +kernel) rfl ?_
  refine s_iload (show decode (am_cc m0_isLead) 69 = .ok (.iload 4, 2) by decide +kernel) rfl ?_
  refine s_iload (show decode (am_cc m0_isLead) 71 = .ok (.iload 5, 2) by decide +kernel) rfl ?_
  refine s_iadd (show decode (am_cc m0_isLead) 73 = .ok (.iadd, 1) by decide +kernel) h1 ?_
  exact n_callV (as := [vi (a4 + a5)]) (stk := [vi t0]) (show decode (am_cc m0_isLead) 74 = .ok (.invokevirtual 171, 3) by decide +kernel) lk_RX0_171 h2 (by decide) rfl rfl (by decide) (Nat.le_of_ble_eq_true rfl) ⟨rfl, rfl⟩ k
theorem g0_isLead_77 {a1 a2 a3 a4 a5 t0 t1 : Int} {M : am_M} {Q : Option am_V → am_M → Prop} (k1 : t0 = t1 → am_AtN m0_isLead 82 [some (vr 75), some (vi a1), some (vi a2), some (vr a3), some (vi a4), some (vi a5)] [] KS M Q) (k2 : ¬ (t0 = t1) → am_AtN m0_isLead 80 [some (vr 75), some (vi a1), some (vi a2), some (vr a3), some (vi a4), some (vi a5)] [] KS M Q) : am_AtN m0_isLead 77 [some (vr 75), some (vi a1), some (vi a2), some (vr a3), some (vi a4), some (vi a5)] [vi t1, vi t0] KS M Q := by
  exact s_icmp_eq (tgt := 82) (show decode (am_cc m0_isLead) 77 = .ok (.if_icmp .eq 5, 3) by decide +kernel) (by decide) k1 k2
theorem g0_isLead_80 {a1 a2 a3 a4 a5 : Int} {M : am_M} {Q : Option am_V → am_M → Prop} (k : Q (some (vi 0)) M) : am_AtN m0_isLead 80 [some (vr 75), some (vi a1), some (vi a2), some (vr a3), some (vi a4), some (vi a5)] [] KS M Q := by
  refine s_iconst (show decode (am_cc m0_isLead) 80 = .ok (.iconst 0, 1) by decide +kernel) ⟨by decide, by decide⟩ ?_
  exact s_zreturn (show decode (am_cc m0_isLead) 81 = .ok (.ireturn, 1) by decide +kernel) rfl (by decide) k
theorem g0_isLead_82 {a1 a2 a3 a4 a5 : Int} {M : am_M} {Q : Option am_V → am_M → Prop} (h1 : -2147483648 ≤ a5 + 1 ∧ a5 + 1 ≤ 2147483647) (k : am_AtN m0_isLead 52 [some (vr 75), some (vi a1), some (vi a2), some (vr a3), some (vi a4), some (vi (a5 + 1))] [] KS M Q) : am_AtN m0_isLead 82 [some (vr 75), some (vi a1), some (vi a2), some (vr a3), some (vi a4), some (vi a5)] [] KS M Q := by
  refine s_iinc (show decode (am_cc m0_isLead) 82 = .ok (.iinc 5 1, 3) by decide +kernel) rfl (by decide) h1 ?_
  refine s_goto (tgt := 52) (show decode (am_cc m0_isLead) 85 = .ok (.goto (-33), 3) by decide +kernel) (by decide) ?_
  exact k
theorem g0_isLead_88 {a1 a2 a3 a4 a5 : Int} {M : am_M} {Q : Option am_V → am_M → Prop} (k : Q (some (vi 1)) M) : am_AtN m0_isLead 88 [some (vr 75), some (vi a1), some (vi a2), some (vr a3), some (vi a4), some (vi a5)] [] KS M Q := by
  refine s_iconst (show decode (am_cc m0_isLead) 88 = .ok (.iconst 1, 1) by decide +kernel) ⟨by decide, by decide⟩ ?_
  exact s_zreturn (show decode (am_cc m0_isLead) 89 = .ok (.ireturn, 1) by decide +kernel) rfl (by decide) k
theorem g0_leadLetter_0 {a1 a2 : Int} {M : am_M} {Q : Option am_V → am_M → Prop} (k : am_CallN m8_within [vi a1, vi 216] KS M (fun r M' => am_AtN m0_leadLetter 7 [some (vr 75), some (vi a1), some (vi a2)] (r.toList ++ []) KS M' Q)) : am_AtN m0_leadLetter 0 [some (vr 75), some (vi a1), some (vi a2)] [] KS M Q := by
  refine s_iload_n (show decode (am_cc m0_leadLetter) 0 = .ok (.iload_n 1, 1) by decide +kernel) rfl ?_
  refine s_sipush (show decode (am_cc m0_leadLetter) 1 = .ok (.sipush 216, 3) by decide +kernel) ⟨by decide, by decide⟩ (by decide) ?_
  exact n_callN (as := [vi a1, vi 216]) (stk := []) (show decode (am_cc m0_leadLetter) 4 = .ok (.invokestatic 80, 3) by decide +kernel) lk_RX0_80 (by decide) (Nat.le_of_ble_eq_true rfl) ⟨rfl, rfl⟩ k
theorem g0_leadLetter_7 {a1 a2 t0 : Int} {M : am_M} {Q : Option am_V → am_M → Prop} (k1 : t0 = 0 → am_AtN m0_leadLetter 19 [some (vr 75), some (vi a1), some (vi a2)] [] KS M Q) (k2 : ¬ (t0 = 0) → am_AtN m0_leadLetter 10 [some (vr 75), some (vi a1), some (vi a2)] [] KS M Q) : am_AtN m0_leadLetter 7 [some (vr 75), some (vi a1), some (vi a2)] [vi t0] KS M Q := by
  exact s_if_eq (tgt := 19) (show decode (am_cc m0_leadLetter) 7 = .ok (.ifCond .eq 12, 3) by decide +kernel) (by decide) k1 k2
theorem g0_leadLetter_10 {a1 a2 : Int} {M : am_M} {Q : Option am_V → am_M → Prop} (k : am_CallN m8_within [vi a2, vi 72] KS M (fun r M' => am_AtN m0_leadLetter 16 [some (vr 75), some (vi a1), some (vi a2)] (r.toList ++ []) KS M' Q)) : am_AtN m0_leadLetter 10 [some (vr 75), some (vi a1), some (vi a2)] [] KS M Q := by
  refine s_iload_n (show decode (am_cc m0_leadLetter) 10 = .ok (.iload_n 2, 1) by decide +kernel) rfl ?_
  refine s_bipush (show decode (am_cc m0_leadLetter) 11 = .ok (.bipush 72, 2) by decide +kernel) ⟨by decide, by decide⟩ (by decide) ?_
  exact n_callN (as := [vi a2, vi 72]) (stk := []) (show decode (am_cc m0_leadLetter) 13 = .ok (.invokestatic 80, 3) by decide +kernel) lk_RX0_80 (by decide) (Nat.le_of_ble_eq_true rfl) ⟨rfl, rfl⟩ k
theorem g0_leadLetter_16 {a1 a2 t0 : Int} {M : am_M} {Q : Option am_V → am_M → Prop} (k1 : ¬ t0 = 0 → am_AtN m0_leadLetter 21 [some (vr 75), some (vi a1), some (vi a2)] [] KS M Q) (k2 : t0 = 0 → am_AtN m0_leadLetter 19 [some (vr 75), some (vi a1), some (vi a2)] [] KS M Q) : am_AtN m0_leadLetter 16 [some (vr 75), some (vi a1), some (vi a2)] [vi t0] KS M Q := by
  exact s_if_ne (tgt := 21) (show decode (am_cc m0_leadLetter) 16 = .ok (.ifCond .ne 5, 3) by decide +kernel) (by decide) k1 k2
theorem g0_leadLetter_19 {a1 a2 : Int} {M : am_M} {Q : Option am_V → am_M → Prop} (k : Q (some (vi 0)) M) : am_AtN m0_leadLetter 19 [some (vr 75), some (vi a1), some (vi a2)] [] KS M Q := by
  refine s_iconst (show decode (am_cc m0_leadLetter) 19 = .ok (.iconst 0, 1) by decide +kernel) ⟨by decide, by decide⟩ ?_
  exact s_ireturn (show decode (am_cc m0_leadLetter) 20 = .ok (.ireturn, 1) by decide +kernel) rfl k
theorem g0_leadLetter_21 {a1 a2 : Int} {M : am_M} {Q : Option am_V → am_M → Prop} (h1 : -2147483648 ≤ a1 * 5 ∧ a1 * 5 ≤ 2147483647) (h2 : 0 ≤ a2) (h3 : -2147483648 ≤ (a1 * 5) + (a2 / 16) ∧ (a1 * 5) + (a2 / 16) ≤ 2147483647) (h4 : 0 ≤ (a1 * 5) + (a2 / 16)) (h5 : (a1 * 5) + (a2 / 16) < 1080) (h6 : 0 ≤ a2) (h7 : -2147483648 ≤ (a2 % 16) * 2 ∧ (a2 % 16) * 2 ≤ 2147483647) (k : Q (some (vi ((Int32.ofInt ((Int32.ofInt (M 79 ((a1 * 5) + (a2 / 16))) >>> (Int32.ofInt ((a2 % 16) * 2) &&& 31)).toInt) &&& Int32.ofInt 3).toInt))) M) : am_AtN m0_leadLetter 21 [some (vr 75), some (vi a1), some (vi a2)] [] KS M Q := by
  refine s_aload_n (show decode (am_cc m0_leadLetter) 21 = .ok (.aload_n 0, 1) by decide +kernel) rfl ?_
  refine s_getf (k := 4) (v := vr 79) (show decode (am_cc m0_leadLetter) 22 = .ok (.getfield 25, 3) by decide +kernel) kd75 (by decide) rfl jnX0 (by decide) lf_RX0_25 rfl ?_
  refine s_iload_n (show decode (am_cc m0_leadLetter) 25 = .ok (.iload_n 1, 1) by decide +kernel) rfl ?_
  refine s_iconst (show decode (am_cc m0_leadLetter) 26 = .ok (.iconst 5, 1) by decide +kernel) ⟨by decide, by decide⟩ ?_
  refine s_imul (show decode (am_cc m0_leadLetter) 27 = .ok (.imul, 1) by decide +kernel) h1 ?_
  refine s_iload_n (show decode (am_cc m0_leadLetter) 28 = .ok (.iload_n 2, 1) by decide +kernel) rfl ?_
  refine s_bipush (show decode (am_cc m0_leadLetter) 29 = .ok (.bipush 16, 2) by decide +kernel) ⟨by decide, by decide⟩ (by decide) ?_
  refine s_idiv (show decode (am_cc m0_leadLetter) 31 = .ok (.idiv, 1) by decide +kernel) h2 (by decide) ?_
  refine s_iadd (show decode (am_cc m0_leadLetter) 32 = .ok (.iadd, 1) by decide +kernel) h3 ?_
  refine s_iaload (show decode (am_cc m0_leadLetter) 33 = .ok (.iaload, 1) by decide +kernel) kd79 h4 h5 ?_
  refine s_iload_n (show decode (am_cc m0_leadLetter) 34 = .ok (.iload_n 2, 1) by decide +kernel) rfl ?_
  refine s_bipush (show decode (am_cc m0_leadLetter) 35 = .ok (.bipush 16, 2) by decide +kernel) ⟨by decide, by decide⟩ (by decide) ?_
  refine s_irem (show decode (am_cc m0_leadLetter) 37 = .ok (.irem, 1) by decide +kernel) h6 (by decide) ?_
  refine s_iconst (show decode (am_cc m0_leadLetter) 38 = .ok (.iconst 2, 1) by decide +kernel) ⟨by decide, by decide⟩ ?_
  refine s_imul (show decode (am_cc m0_leadLetter) 39 = .ok (.imul, 1) by decide +kernel) h7 ?_
  refine s_ishr (show decode (am_cc m0_leadLetter) 40 = .ok (.ishr, 1) by decide +kernel) ?_
  refine s_iconst (show decode (am_cc m0_leadLetter) 41 = .ok (.iconst 3, 1) by decide +kernel) ⟨by decide, by decide⟩ ?_
  refine s_iand (show decode (am_cc m0_leadLetter) 42 = .ok (.iand, 1) by decide +kernel) ?_
  exact s_ireturn (show decode (am_cc m0_leadLetter) 43 = .ok (.ireturn, 1) by decide +kernel) rfl k
theorem g0_putLeadLetter_0 {a1 a2 a3 : Int} {M : am_M} {Q : Option am_V → am_M → Prop} (k : am_CallN m8_within [vi a1, vi 216] KS M (fun r M' => am_AtN m0_putLeadLetter 7 [some (vr 75), some (vi a1), some (vi a2), some (vi a3), none, none] (r.toList ++ []) KS M' Q)) : am_AtN m0_putLeadLetter 0 [some (vr 75), some (vi a1), some (vi a2), some (vi a3), none, none] [] KS M Q := by
  refine s_iload_n (show decode (am_cc m0_putLeadLetter) 0 = .ok (.iload_n 1, 1) by decide +kernel) rfl ?_
  refine s_sipush (show decode (am_cc m0_putLeadLetter) 1 = .ok (.sipush 216, 3) by decide +kernel) ⟨by decide, by decide⟩ (by decide) ?_
  exact n_callN (as := [vi a1, vi 216]) (stk := []) (show decode (am_cc m0_putLeadLetter) 4 = .ok (.invokestatic 80, 3) by decide +kernel) lk_RX0_80 (by decide) (Nat.le_of_ble_eq_true rfl) ⟨rfl, rfl⟩ k
theorem g0_putLeadLetter_7 {a1 a2 a3 t0 : Int} {M : am_M} {Q : Option am_V → am_M → Prop} (k1 : t0 = 0 → am_AtN m0_putLeadLetter 19 [some (vr 75), some (vi a1), some (vi a2), some (vi a3), none, none] [] KS M Q) (k2 : ¬ (t0 = 0) → am_AtN m0_putLeadLetter 10 [some (vr 75), some (vi a1), some (vi a2), some (vi a3), none, none] [] KS M Q) : am_AtN m0_putLeadLetter 7 [some (vr 75), some (vi a1), some (vi a2), some (vi a3), none, none] [vi t0] KS M Q := by
  exact s_if_eq (tgt := 19) (show decode (am_cc m0_putLeadLetter) 7 = .ok (.ifCond .eq 12, 3) by decide +kernel) (by decide) k1 k2
theorem g0_putLeadLetter_10 {a1 a2 a3 : Int} {M : am_M} {Q : Option am_V → am_M → Prop} (k : am_CallN m8_within [vi a2, vi 72] KS M (fun r M' => am_AtN m0_putLeadLetter 16 [some (vr 75), some (vi a1), some (vi a2), some (vi a3), none, none] (r.toList ++ []) KS M' Q)) : am_AtN m0_putLeadLetter 10 [some (vr 75), some (vi a1), some (vi a2), some (vi a3), none, none] [] KS M Q := by
  refine s_iload_n (show decode (am_cc m0_putLeadLetter) 10 = .ok (.iload_n 2, 1) by decide +kernel) rfl ?_
  refine s_bipush (show decode (am_cc m0_putLeadLetter) 11 = .ok (.bipush 72, 2) by decide +kernel) ⟨by decide, by decide⟩ (by decide) ?_
  exact n_callN (as := [vi a2, vi 72]) (stk := []) (show decode (am_cc m0_putLeadLetter) 13 = .ok (.invokestatic 80, 3) by decide +kernel) lk_RX0_80 (by decide) (Nat.le_of_ble_eq_true rfl) ⟨rfl, rfl⟩ k
theorem g0_putLeadLetter_16 {a1 a2 a3 t0 : Int} {M : am_M} {Q : Option am_V → am_M → Prop} (k1 : ¬ t0 = 0 → am_AtN m0_putLeadLetter 20 [some (vr 75), some (vi a1), some (vi a2), some (vi a3), none, none] [] KS M Q) (k2 : t0 = 0 → am_AtN m0_putLeadLetter 19 [some (vr 75), some (vi a1), some (vi a2), some (vi a3), none, none] [] KS M Q) : am_AtN m0_putLeadLetter 16 [some (vr 75), some (vi a1), some (vi a2), some (vi a3), none, none] [vi t0] KS M Q := by
  exact s_if_ne (tgt := 20) (show decode (am_cc m0_putLeadLetter) 16 = .ok (.ifCond .ne 4, 3) by decide +kernel) (by decide) k1 k2
theorem g0_putLeadLetter_19 {a1 a2 a3 : Int} {M : am_M} {Q : Option am_V → am_M → Prop} (k : Q none M) : am_AtN m0_putLeadLetter 19 [some (vr 75), some (vi a1), some (vi a2), some (vi a3), none, none] [] KS M Q := by
  exact s_return (show decode (am_cc m0_putLeadLetter) 19 = .ok (.return_, 1) by decide +kernel) rfl k
theorem g0_putLeadLetter_20 {a1 a2 a3 : Int} {M : am_M} {Q : Option am_V → am_M → Prop} (h1 : -2147483648 ≤ a1 * 5 ∧ a1 * 5 ≤ 2147483647) (h2 : 0 ≤ a2) (h3 : -2147483648 ≤ (a1 * 5) + (a2 / 16) ∧ (a1 * 5) + (a2 / 16) ≤ 2147483647) (h4 : 0 ≤ a2) (h5 : -2147483648 ≤ (a2 % 16) * 2 ∧ (a2 % 16) * 2 ≤ 2147483647) (h6 : 0 ≤ (a1 * 5) + (a2 / 16)) (h7 : (a1 * 5) + (a2 / 16) < 1080) (h8 : 0 ≤ (a1 * 5) + (a2 / 16)) (h9 : (a1 * 5) + (a2 / 16) < 1080) (k : Q none (am_up M 79 ((a1 * 5) + (a2 / 16)) ((Int32.ofInt ((Int32.ofInt (M 79 ((a1 * 5) + (a2 / 16))) &&& Int32.ofInt ((Int32.ofInt ((Int32.ofInt 3 <<< (Int32.ofInt ((a2 % 16) * 2) &&& 31)).toInt) ^^^ Int32.ofInt (-1)).toInt)).toInt) ||| Int32.ofInt ((Int32.ofInt ((Int32.ofInt a3 &&& Int32.ofInt 3).toInt) <<< (Int32.ofInt ((a2 % 16) * 2) &&& 31)).toInt)).toInt))) : am_AtN m0_putLeadLetter 20 [some (vr 75), some (vi a1), some (vi a2), some (vi a3), none, none] [] KS M Q := by
  refine s_iload_n (show decode (am_cc m0_putLeadLetter) 20 = .ok (.iload_n 1, 1) by decide +kernel) rfl ?_
  refine s_iconst (show decode (am_cc m0_putLeadLetter) 21 = .ok (.iconst 5, 1) by decide +kernel) ⟨by decide, by decide⟩ ?_
  refine s_imul (show decode (am_cc m0_putLeadLetter) 22 = .ok (.imul, 1) by decide +kernel) h1 ?_
  refine s_iload_n (show decode (am_cc m0_putLeadLetter) 23 = .ok (.iload_n 2, 1) by decide +kernel) rfl ?_
  refine s_bipush (show decode (am_cc m0_putLeadLetter) 24 = .ok (.bipush 16, 2) by decide +kernel) ⟨by decide, by decide⟩ (by decide) ?_
  refine s_idiv (show decode (am_cc m0_putLeadLetter) 26 = .ok (.idiv, 1) by decide +kernel) h2 (by decide) ?_
  refine s_iadd (show decode (am_cc m0_putLeadLetter) 27 = .ok (.iadd, 1) by decide +kernel) h3 ?_
  refine s_istore (show decode (am_cc m0_putLeadLetter) 28 = .ok (.istore 4, 2) by decide +kernel) (by decide) ?_
  refine s_iload_n (show decode (am_cc m0_putLeadLetter) 30 = .ok (.iload_n 2, 1) by decide +kernel) rfl ?_
  refine s_bipush (show decode (am_cc m0_putLeadLetter) 31 = .ok (.bipush 16, 2) by decide +kernel) ⟨by decide, by decide⟩ (by decide) ?_
  refine s_irem (show decode (am_cc m0_putLeadLetter) 33 = .ok (.irem, 1) by decide +kernel) h4 (by decide) ?_
  refine s_iconst (show decode (am_cc m0_putLeadLetter) 34 = .ok (.iconst 2, 1) by decide +kernel) ⟨by decide, by decide⟩ ?_
  refine s_imul (show decode (am_cc m0_putLeadLetter) 35 = .ok (.imul, 1) by decide +kernel) h5 ?_
  refine s_istore (show decode (am_cc m0_putLeadLetter) 36 = .ok (.istore 5, 2) by decide +kernel) (by decide) ?_
  refine s_aload_n (show decode (am_cc m0_putLeadLetter) 38 = .ok (.aload_n 0, 1) by decide +kernel) rfl ?_
  refine s_getf (k := 4) (v := vr 79) (show decode (am_cc m0_putLeadLetter) 39 = .ok (.getfield 25, 3) by decide +kernel) kd75 (by decide) rfl jnX0 (by decide) lf_RX0_25 rfl ?_
  refine s_iload (show decode (am_cc m0_putLeadLetter) 42 = .ok (.iload 4, 2) by decide +kernel) rfl ?_
  refine s_aload_n (show decode (am_cc m0_putLeadLetter) 44 = .ok (.aload_n 0, 1) by decide +kernel) rfl ?_
  refine s_getf (k := 4) (v := vr 79) (show decode (am_cc m0_putLeadLetter) 45 = .ok (.getfield 25, 3) by decide +kernel) kd75 (by decide) rfl jnX0 (by decide) lf_RX0_25 rfl ?_
  refine s_iload (show decode (am_cc m0_putLeadLetter) 48 = .ok (.iload 4, 2) by decide +kernel) rfl ?_
  refine s_iaload (show decode (am_cc m0_putLeadLetter) 50 = .ok (.iaload, 1) by decide +kernel) kd79 h6 h7 ?_
  refine s_iconst (show decode (am_cc m0_putLeadLetter) 51 = .ok (.iconst 3, 1) by decide +kernel) ⟨by decide, by decide⟩ ?_
  refine s_iload (show decode (am_cc m0_putLeadLetter) 52 = .ok (.iload 5, 2) by decide +kernel) rfl ?_
  refine s_ishl (show decode (am_cc m0_putLeadLetter) 54 = .ok (.ishl, 1) by decide +kernel) ?_
  refine s_iconst (show decode (am_cc m0_putLeadLetter) 55 = .ok (.iconst (-1), 1) by decide +kernel) ⟨by decide, by decide⟩ ?_
  refine s_ixor (show decode (am_cc m0_putLeadLetter) 56 = .ok (.ixor, 1) by decide +kernel) ?_
  refine s_iand (show decode (am_cc m0_putLeadLetter) 57 = .ok (.iand, 1) by decide +kernel) ?_
  refine s_iload_n (show decode (am_cc m0_putLeadLetter) 58 = .ok (.iload_n 3, 1) by decide +kernel) rfl ?_
  refine s_iconst (show decode (am_cc m0_putLeadLetter) 59 = .ok (.iconst 3, 1) by decide +kernel) ⟨by decide, by decide⟩ ?_
  refine s_iand (show decode (am_cc m0_putLeadLetter) 60 = .ok (.iand, 1) by decide +kernel) ?_
  refine s_iload (show decode (am_cc m0_putLeadLetter) 61 = .ok (.iload 5, 2) by decide +kernel) rfl ?_
  refine s_ishl (show decode (am_cc m0_putLeadLetter) 63 = .ok (.ishl, 1) by decide +kernel) ?_
  refine s_ior (show decode (am_cc m0_putLeadLetter) 64 = .ok (.ior, 1) by decide +kernel) ?_
  refine s_iastore (show decode (am_cc m0_putLeadLetter) 65 = .ok (.iastore, 1) by decide +kernel) kd79 h8 h9 ?_
  exact s_return (show decode (am_cc m0_putLeadLetter) 66 = .ok (.return_, 1) by decide +kernel) rfl k
