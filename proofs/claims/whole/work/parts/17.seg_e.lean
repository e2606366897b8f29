theorem g9_in_0 {a0 a2 a4 : Int} {K : am_K} {M : am_M} {Q : Option am_V → am_M → Prop} (k1 : a0 < a2 → am_AtN m9_in 17 [some (vl a0), none, some (vl a2), none, some (vl a4), none] [] K M Q) (k2 : ¬ a0 < a2 → am_AtN m9_in 6 [some (vl a0), none, some (vl a2), none, some (vl a4), none] [] K M Q) : am_AtN m9_in 0 [some (vl a0), none, some (vl a2), none, some (vl a4), none] [] K M Q := by
  refine s_lload_n (show decode (am_cc m9_in) 0 = .ok (.lload_n 0, 1) by decide +kernel) rfl ?_
  refine s_lload_n (show decode (am_cc m9_in) 1 = .ok (.lload_n 2, 1) by decide +kernel) rfl ?_
  exact s_lcif_lt (tgt := 17) (show decode (am_cc m9_in) 2 = .ok (.lcmp, 1) by decide +kernel) (show decode (am_cc m9_in) 3 = .ok (.ifCond .lt 14, 3) by decide +kernel) (by decide) k1 k2
theorem g9_in_6 {a0 a2 a4 : Int} {K : am_K} {M : am_M} {Q : Option am_V → am_M → Prop} (k1 : a4 < a0 → am_AtN m9_in 17 [some (vl a0), none, some (vl a2), none, some (vl a4), none] [] K M Q) (k2 : ¬ a4 < a0 → am_AtN m9_in 13 [some (vl a0), none, some (vl a2), none, some (vl a4), none] [] K M Q) : am_AtN m9_in 6 [some (vl a0), none, some (vl a2), none, some (vl a4), none] [] K M Q := by
  refine s_lload_n (show decode (am_cc m9_in) 6 = .ok (.lload_n 0, 1) by decide +kernel) rfl ?_
  refine s_lload (show decode (am_cc m9_in) 7 = .ok (.lload 4, 2) by decide +kernel) rfl ?_
  exact s_lcif_gt (tgt := 17) (show decode (am_cc m9_in) 9 = .ok (.lcmp, 1) by decide +kernel) (show decode (am_cc m9_in) 10 = .ok (.ifCond .gt 7, 3) by decide +kernel) (by decide) k1 k2
theorem g9_in_13 {a0 a2 a4 : Int} {K : am_K} {M : am_M} {Q : Option am_V → am_M → Prop} (k : am_AtN m9_in 18 [some (vl a0), none, some (vl a2), none, some (vl a4), none] [vi 1] K M Q) : am_AtN m9_in 13 [some (vl a0), none, some (vl a2), none, some (vl a4), none] [] K M Q := by
  refine s_iconst (show decode (am_cc m9_in) 13 = .ok (.iconst 1, 1) by decide +kernel) ⟨by decide, by decide⟩ ?_
  refine s_goto (tgt := 18) (show decode (am_cc m9_in) 14 = .ok (.goto 4, 3) by decide +kernel) (by decide) ?_
  exact k
theorem g9_in_17 {a0 a2 a4 : Int} {K : am_K} {M : am_M} {Q : Option am_V → am_M → Prop} (k : am_AtN m9_in 18 [some (vl a0), none, some (vl a2), none, some (vl a4), none] [vi 0] K M Q) : am_AtN m9_in 17 [some (vl a0), none, some (vl a2), none, some (vl a4), none] [] K M Q := by
  refine s_iconst (show decode (am_cc m9_in) 17 = .ok (.iconst 0, 1) by decide +kernel) ⟨by decide, by decide⟩ ?_
  exact k
theorem g9_in_18 {a0 a2 a4 t0 : Int} {K : am_K} {M : am_M} {Q : Option am_V → am_M → Prop} (h1 : t0 = 0 ∨ t0 = 1) (k : Q (some (vi t0)) M) : am_AtN m9_in 18 [some (vl a0), none, some (vl a2), none, some (vl a4), none] [vi t0] K M Q := by
  exact s_zreturn (show decode (am_cc m9_in) 18 = .ok (.ireturn, 1) by decide +kernel) rfl h1 k
theorem g9_begin_0 {a1 : Int} {M : am_M} {Q : Option am_V → am_M → Prop} (k : am_AtN m9_begin 7 [some (vr 86), some (vi a1), some (vi 0)] [] KS (am_up M 86 1 a1) Q) : am_AtN m9_begin 0 [some (vr 86), some (vi a1), none] [] KS M Q := by
  refine s_aload_n (show decode (am_cc m9_begin) 0 = .ok (.aload_n 0, 1) by decide +kernel) rfl ?_
  refine s_iload_n (show decode (am_cc m9_begin) 1 = .ok (.iload_n 1, 1) by decide +kernel) rfl ?_
  refine s_putf (k := 1) (x := a1) (ty0 := tyX9) (show decode (am_cc m9_begin) 2 = .ok (.putfield 99, 3) by decide +kernel) kd86 (by decide) rfl jnX9 tyX9_ok nmX9 (by decide) lf_RX9_99 rfl (Or.inl ⟨rfl, rfl, rfl⟩) ?_
  refine s_iconst (show decode (am_cc m9_begin) 5 = .ok (.iconst 0, 1) by decide +kernel) ⟨by decide, by decide⟩ ?_
  refine s_istore_n (show decode (am_cc m9_begin) 6 = .ok (.istore_n 2, 1) by decide +kernel) (by decide) ?_
  exact k
theorem g9_begin_7 {a1 a2 : Int} {M : am_M} {Q : Option am_V → am_M → Prop} (k1 : 8 ≤ a2 → am_AtN m9_begin 24 [some (vr 86), some (vi a1), some (vi a2)] [] KS M Q) (k2 : ¬ (8 ≤ a2) → am_AtN m9_begin 13 [some (vr 86), some (vi a1), some (vi a2)] [] KS M Q) : am_AtN m9_begin 7 [some (vr 86), some (vi a1), some (vi a2)] [] KS M Q := by
  refine s_iload_n (show decode (am_cc m9_begin) 7 = .ok (.iload_n 2, 1) by decide +kernel) rfl ?_
  refine s_bipush (show decode (am_cc m9_begin) 8 = .ok (.bipush 8, 2) by decide +kernel) ⟨by decide, by decide⟩ (by decide) ?_
  exact s_icmp_ge (tgt := 24) (show decode (am_cc m9_begin) 10 = .ok (.if_icmp .ge 14, 3) by decide +kernel) (by decide) k1 k2
theorem g9_begin_13 {a1 a2 : Int} {M : am_M} {Q : Option am_V → am_M → Prop} (k : am_CallN m9_bare [vr 86, vi a2] KS M (fun r M' => am_AtN m9_begin 18 [some (vr 86), some (vi a1), some (vi a2)] (r.toList ++ []) KS M' Q)) : am_AtN m9_begin 13 [some (vr 86), some (vi a1), some (vi a2)] [] KS M Q := by
  refine s_aload_n (show decode (am_cc m9_begin) 13 = .ok (.aload_n 0, 1) by decide +kernel) rfl ?_
  refine s_iload_n (show decode (am_cc m9_begin) 14 = .ok (.iload_n 2, 1) by decide +kernel) rfl ?_
  exact n_callV (as := [vi a2]) (stk := []) (show decode (am_cc m9_begin) 15 = .ok (.invokevirtual 102, 3) by decide +kernel) lk_RX9_102 kd86 (by decide) rfl rfl (by decide) (Nat.le_of_ble_eq_true rfl) ⟨rfl, rfl⟩ k
theorem g9_begin_18 {a1 a2 : Int} {M : am_M} {Q : Option am_V → am_M → Prop} (h1 : -2147483648 ≤ a2 + 1 ∧ a2 + 1 ≤ 2147483647) (k : am_AtN m9_begin 7 [some (vr 86), some (vi a1), some (vi (a2 + 1))] [] KS M Q) : am_AtN m9_begin 18 [some (vr 86), some (vi a1), some (vi a2)] [] KS M Q := by
  refine s_iinc (show decode (am_cc m9_begin) 18 = .ok (.iinc 2 1, 3) by decide +kernel) rfl (by decide) h1 ?_
  refine s_goto (tgt := 7) (show decode (am_cc m9_begin) 21 = .ok (.goto (-14), 3) by decide +kernel) (by decide) ?_
  exact k
theorem g9_begin_24 {a1 a2 : Int} {M : am_M} {Q : Option am_V → am_M → Prop} (k : am_AtN m9_begin 26 [some (vr 86), some (vi a1), some (vi 0)] [] KS M Q) : am_AtN m9_begin 24 [some (vr 86), some (vi a1), some (vi a2)] [] KS M Q := by
  refine s_iconst (show decode (am_cc m9_begin) 24 = .ok (.iconst 0, 1) by decide +kernel) ⟨by decide, by decide⟩ ?_
  refine s_istore_n (show decode (am_cc m9_begin) 25 = .ok (.istore_n 2, 1) by decide +kernel) (by decide) ?_
  exact k
theorem g9_begin_26 {a1 a2 : Int} {M : am_M} {Q : Option am_V → am_M → Prop} (k1 : 96 ≤ a2 → am_AtN m9_begin 56 [some (vr 86), some (vi a1), some (vi a2)] [] KS M Q) (k2 : ¬ (96 ≤ a2) → am_AtN m9_begin 32 [some (vr 86), some (vi a1), some (vi a2)] [] KS M Q) : am_AtN m9_begin 26 [some (vr 86), some (vi a1), some (vi a2)] [] KS M Q := by
  refine s_iload_n (show decode (am_cc m9_begin) 26 = .ok (.iload_n 2, 1) by decide +kernel) rfl ?_
  refine s_bipush (show decode (am_cc m9_begin) 27 = .ok (.bipush 96, 2) by decide +kernel) ⟨by decide, by decide⟩ (by decide) ?_
  exact s_icmp_ge (tgt := 56) (show decode (am_cc m9_begin) 29 = .ok (.if_icmp .ge 27, 3) by decide +kernel) (by decide) k1 k2
theorem g9_begin_32 {a1 a2 : Int} {M : am_M} {Q : Option am_V → am_M → Prop} (h1 : 0 ≤ a2) (h2 : a2 < 96) (h3 : 0 ≤ a2) (h4 : -2147483648 ≤ 1 + (a2 % 4) ∧ 1 + (a2 % 4) ≤ 2147483647) (h5 : 0 ≤ a2) (h6 : a2 < 96) (h7 : -2147483648 ≤ a2 + 1 ∧ a2 + 1 ≤ 2147483647) (k : am_AtN m9_begin 26 [some (vr 86), some (vi a1), some (vi (a2 + 1))] [] KS (am_up (am_up M 92 a2 0) 93 a2 (1 + (a2 % 4))) Q) : am_AtN m9_begin 32 [some (vr 86), some (vi a1), some (vi a2)] [] KS M Q := by
  refine s_aload_n (show decode (am_cc m9_begin) 32 = .ok (.aload_n 0, 1) by decide +kernel) rfl ?_
  refine s_getf (k := 7) (v := vr 92) (show decode (am_cc m9_begin) 33 = .ok (.getfield 26, 3) by decide +kernel) kd86 (by decide) rfl jnX9 (by decide) lf_RX9_26 rfl ?_
  refine s_iload_n (show decode (am_cc m9_begin) 36 = .ok (.iload_n 2, 1) by decide +kernel) rfl ?_
  refine s_iconst (show decode (am_cc m9_begin) 37 = .ok (.iconst 0, 1) by decide +kernel) ⟨by decide, by decide⟩ ?_
  refine s_iastore (show decode (am_cc m9_begin) 38 = .ok (.iastore, 1) by decide +kernel) kd92 h1 h2 ?_
  refine s_aload_n (show decode (am_cc m9_begin) 39 = .ok (.aload_n 0, 1) by decide +kernel) rfl ?_
  refine s_getf (k := 8) (v := vr 93) (show decode (am_cc m9_begin) 40 = .ok (.getfield 29, 3) by decide +kernel) kd86 (by decide) rfl jnX9 (by decide) lf_RX9_29 rfl ?_
  refine s_iload_n (show decode (am_cc m9_begin) 43 = .ok (.iload_n 2, 1) by decide +kernel) rfl ?_
  refine s_iconst (show decode (am_cc m9_begin) 44 = .ok (.iconst 1, 1) by decide +kernel) ⟨by decide, by decide⟩ ?_
  refine s_iload_n (show decode (am_cc m9_begin) 45 = .ok (.iload_n 2, 1) by decide +kernel) rfl ?_
  refine s_iconst (show decode (am_cc m9_begin) 46 = .ok (.iconst 4, 1) by decide +kernel) ⟨by decide, by decide⟩ ?_
  refine s_irem (show decode (am_cc m9_begin) 47 = .ok (.irem, 1) by decide +kernel) h3 (by decide) ?_
  refine s_iadd (show decode (am_cc m9_begin) 48 = .ok (.iadd, 1) by decide +kernel) h4 ?_
  refine s_iastore (show decode (am_cc m9_begin) 49 = .ok (.iastore, 1) by decide +kernel) kd93 h5 h6 ?_
  refine s_iinc (show decode (am_cc m9_begin) 50 = .ok (.iinc 2 1, 3) by decide +kernel) rfl (by decide) h7 ?_
  refine s_goto (tgt := 26) (show decode (am_cc m9_begin) 53 = .ok (.goto (-27), 3) by decide +kernel) (by decide) ?_
  exact k
theorem g9_begin_56 {a1 a2 : Int} {M : am_M} {Q : Option am_V → am_M → Prop} (k : am_AtN m9_begin 58 [some (vr 86), some (vi a1), some (vi 0)] [] KS M Q) : am_AtN m9_begin 56 [some (vr 86), some (vi a1), some (vi a2)] [] KS M Q := by
  refine s_iconst (show decode (am_cc m9_begin) 56 = .ok (.iconst 0, 1) by decide +kernel) ⟨by decide, by decide⟩ ?_
  refine s_istore_n (show decode (am_cc m9_begin) 57 = .ok (.istore_n 2, 1) by decide +kernel) (by decide) ?_
  exact k
theorem g9_begin_58 {a1 a2 : Int} {M : am_M} {Q : Option am_V → am_M → Prop} (k1 : 24 ≤ a2 → am_AtN m9_begin 77 [some (vr 86), some (vi a1), some (vi a2)] [] KS M Q) (k2 : ¬ (24 ≤ a2) → am_AtN m9_begin 64 [some (vr 86), some (vi a1), some (vi a2)] [] KS M Q) : am_AtN m9_begin 58 [some (vr 86), some (vi a1), some (vi a2)] [] KS M Q := by
  refine s_iload_n (show decode (am_cc m9_begin) 58 = .ok (.iload_n 2, 1) by decide +kernel) rfl ?_
  refine s_bipush (show decode (am_cc m9_begin) 59 = .ok (.bipush 24, 2) by decide +kernel) ⟨by decide, by decide⟩ (by decide) ?_
  exact s_icmp_ge (tgt := 77) (show decode (am_cc m9_begin) 61 = .ok (.if_icmp .ge 16, 3) by decide +kernel) (by decide) k1 k2
theorem g9_begin_64 {a1 a2 : Int} {M : am_M} {Q : Option am_V → am_M → Prop} (h1 : 0 ≤ a2) (h2 : a2 < 24) (h3 : -2147483648 ≤ a2 + 1 ∧ a2 + 1 ≤ 2147483647) (k : am_AtN m9_begin 58 [some (vr 86), some (vi a1), some (vi (a2 + 1))] [] KS (am_up M 94 a2 0) Q) : am_AtN m9_begin 64 [some (vr 86), some (vi a1), some (vi a2)] [] KS M Q := by
  refine s_aload_n (show decode (am_cc m9_begin) 64 = .ok (.aload_n 0, 1) by decide +kernel) rfl ?_
  refine s_getf (k := 9) (v := vr 94) (show decode (am_cc m9_begin) 65 = .ok (.getfield 32, 3) by decide +kernel) kd86 (by decide) rfl jnX9 (by decide) lf_RX9_32 rfl ?_
  refine s_iload_n (show decode (am_cc m9_begin) 68 = .ok (.iload_n 2, 1) by decide +kernel) rfl ?_
  refine s_iconst (show decode (am_cc m9_begin) 69 = .ok (.iconst 0, 1) by decide +kernel) ⟨by decide, by decide⟩ ?_
  refine s_iastore (show decode (am_cc m9_begin) 70 = .ok (.iastore, 1) by decide +kernel) kd94 h1 h2 ?_
  refine s_iinc (show decode (am_cc m9_begin) 71 = .ok (.iinc 2 1, 3) by decide +kernel) rfl (by decide) h3 ?_
  refine s_goto (tgt := 58) (show decode (am_cc m9_begin) 74 = .ok (.goto (-16), 3) by decide +kernel) (by decide) ?_
  exact k
theorem g9_begin_77 {a1 a2 : Int} {M : am_M} {Q : Option am_V → am_M → Prop} (k : am_AtN m9_begin 79 [some (vr 86), some (vi a1), some (vi 0)] [] KS M Q) : am_AtN m9_begin 77 [some (vr 86), some (vi a1), some (vi a2)] [] KS M Q := by
  refine s_iconst (show decode (am_cc m9_begin) 77 = .ok (.iconst 0, 1) by decide +kernel) ⟨by decide, by decide⟩ ?_
  refine s_istore_n (show decode (am_cc m9_begin) 78 = .ok (.istore_n 2, 1) by decide +kernel) (by decide) ?_
  exact k
theorem g9_begin_79 {a1 a2 : Int} {M : am_M} {Q : Option am_V → am_M → Prop} (k1 : 1296 ≤ a2 → am_AtN m9_begin 99 [some (vr 86), some (vi a1), some (vi a2)] [] KS M Q) (k2 : ¬ (1296 ≤ a2) → am_AtN m9_begin 86 [some (vr 86), some (vi a1), some (vi a2)] [] KS M Q) : am_AtN m9_begin 79 [some (vr 86), some (vi a1), some (vi a2)] [] KS M Q := by
  refine s_iload_n (show decode (am_cc m9_begin) 79 = .ok (.iload_n 2, 1) by decide +kernel) rfl ?_
  refine s_sipush (show decode (am_cc m9_begin) 80 = .ok (.sipush 1296, 3) by decide +kernel) ⟨by decide, by decide⟩ (by decide) ?_
  exact s_icmp_ge (tgt := 99) (show decode (am_cc m9_begin) 83 = .ok (.if_icmp .ge 16, 3) by decide +kernel) (by decide) k1 k2
theorem g9_begin_86 {a1 a2 : Int} {M : am_M} {Q : Option am_V → am_M → Prop} (h1 : 0 ≤ a2) (h2 : a2 < 1296) (h3 : -2147483648 ≤ a2 + 1 ∧ a2 + 1 ≤ 2147483647) (k : am_AtN m9_begin 79 [some (vr 86), some (vi a1), some (vi (a2 + 1))] [] KS (am_up M 99 a2 0) Q) : am_AtN m9_begin 86 [some (vr 86), some (vi a1), some (vi a2)] [] KS M Q := by
  refine s_aload_n (show decode (am_cc m9_begin) 86 = .ok (.aload_n 0, 1) by decide +kernel) rfl ?_
  refine s_getf (k := 14) (v := vr 99) (show decode (am_cc m9_begin) 87 = .ok (.getfield 47, 3) by decide +kernel) kd86 (by decide) rfl jnX9 (by decide) lf_RX9_47 rfl ?_
  refine s_iload_n (show decode (am_cc m9_begin) 90 = .ok (.iload_n 2, 1) by decide +kernel) rfl ?_
  refine s_iconst (show decode (am_cc m9_begin) 91 = .ok (.iconst 0, 1) by decide +kernel) ⟨by decide, by decide⟩ ?_
  refine s_bastore (show decode (am_cc m9_begin) 92 = .ok (.bastore, 1) by decide +kernel) kd99 h1 h2 (by decide) ?_
  refine s_iinc (show decode (am_cc m9_begin) 93 = .ok (.iinc 2 1, 3) by decide +kernel) rfl (by decide) h3 ?_
  refine s_goto (tgt := 79) (show decode (am_cc m9_begin) 96 = .ok (.goto (-17), 3) by decide +kernel) (by decide) ?_
  exact k
theorem g9_begin_99 {a1 a2 : Int} {M : am_M} {Q : Option am_V → am_M → Prop} (k : Q none (am_up M 86 31 0)) : am_AtN m9_begin 99 [some (vr 86), some (vi a1), some (vi a2)] [] KS M Q := by
  refine s_aload_n (show decode (am_cc m9_begin) 99 = .ok (.aload_n 0, 1) by decide +kernel) rfl ?_
  refine s_iconst (show decode (am_cc m9_begin) 100 = .ok (.iconst 0, 1) by decide +kernel) ⟨by decide, by decide⟩ ?_
  refine s_putf (k := 31) (x := 0) (ty0 := tyX9) (show decode (am_cc m9_begin) 101 = .ok (.putfield 105, 3) by decide +kernel) kd86 (by decide) rfl jnX9 tyX9_ok nmX9 (by decide) lf_RX9_105 rfl (Or.inl ⟨rfl, rfl, rfl⟩) ?_
  exact s_return (show decode (am_cc m9_begin) 104 = .ok (.return_, 1) by decide +kernel) rfl k
theorem g9_bare_0 {a1 : Int} {M : am_M} {Q : Option am_V → am_M → Prop} (k : am_AtN m9_bare 2 [some (vr 86), some (vi a1), some (vi 0)] [] KS M Q) : am_AtN m9_bare 0 [some (vr 86), some (vi a1), none] [] KS M Q := by
  refine s_iconst (show decode (am_cc m9_bare) 0 = .ok (.iconst 0, 1) by decide +kernel) ⟨by decide, by decide⟩ ?_
  refine s_istore_n (show decode (am_cc m9_bare) 1 = .ok (.istore_n 2, 1) by decide +kernel) (by decide) ?_
  exact k
theorem g9_bare_2 {a1 a2 : Int} {M : am_M} {Q : Option am_V → am_M → Prop} (k1 : 24 ≤ a2 → am_AtN m9_bare 26 [some (vr 86), some (vi a1), some (vi a2)] [] KS M Q) (k2 : ¬ (24 ≤ a2) → am_AtN m9_bare 8 [some (vr 86), some (vi a1), some (vi a2)] [] KS M Q) : am_AtN m9_bare 2 [some (vr 86), some (vi a1), some (vi a2)] [] KS M Q := by
  refine s_iload_n (show decode (am_cc m9_bare) 2 = .ok (.iload_n 2, 1) by decide +kernel) rfl ?_
  refine s_bipush (show decode (am_cc m9_bare) 3 = .ok (.bipush 24, 2) by decide +kernel) ⟨by decide, by decide⟩ (by decide) ?_
  exact s_icmp_ge (tgt := 26) (show decode (am_cc m9_bare) 5 = .ok (.if_icmp .ge 21, 3) by decide +kernel) (by decide) k1 k2
theorem g9_bare_8 {a1 a2 : Int} {M : am_M} {Q : Option am_V → am_M → Prop} (h1 : -2147483648 ≤ 24 * a1 ∧ 24 * a1 ≤ 2147483647) (h2 : -2147483648 ≤ (24 * a1) + a2 ∧ (24 * a1) + a2 ≤ 2147483647) (h3 : 0 ≤ (24 * a1) + a2) (h4 : (24 * a1) + a2 < 192) (h5 : -2147483648 ≤ a2 + 1 ∧ a2 + 1 ≤ 2147483647) (k : am_AtN m9_bare 2 [some (vr 86), some (vi a1), some (vi (a2 + 1))] [] KS (am_up M 87 ((24 * a1) + a2) 0) Q) : am_AtN m9_bare 8 [some (vr 86), some (vi a1), some (vi a2)] [] KS M Q := by
  refine s_aload_n (show decode (am_cc m9_bare) 8 = .ok (.aload_n 0, 1) by decide +kernel) rfl ?_
  refine s_getf (k := 2) (v := vr 87) (show decode (am_cc m9_bare) 9 = .ok (.getfield 7, 3) by decide +kernel) kd86 (by decide) rfl jnX9 (by decide) lf_RX9_7 rfl ?_
  refine s_bipush (show decode (am_cc m9_bare) 12 = .ok (.bipush 24, 2) by decide +kernel) ⟨by decide, by decide⟩ (by decide) ?_
  refine s_iload_n (show decode (am_cc m9_bare) 14 = .ok (.iload_n 1, 1) by decide +kernel) rfl ?_
  refine s_imul (show decode (am_cc m9_bare) 15 = .ok (.imul, 1) by decide +kernel) h1 ?_
  refine s_iload_n (show decode (am_cc m9_bare) 16 = .ok (.iload_n 2, 1) by decide +kernel) rfl ?_
  refine s_iadd (show decode (am_cc m9_bare) 17 = .ok (.iadd, 1) by decide +kernel) h2 ?_
  refine s_iconst (show decode (am_cc m9_bare) 18 = .ok (.iconst 0, 1) by decide +kernel) ⟨by decide, by decide⟩ ?_
  refine s_iastore (show decode (am_cc m9_bare) 19 = .ok (.iastore, 1) by decide +kernel) kd87 h3 h4 ?_
  refine s_iinc (show decode (am_cc m9_bare) 20 = .ok (.iinc 2 1, 3) by decide +kernel) rfl (by decide) h5 ?_
  refine s_goto (tgt := 2) (show decode (am_cc m9_bare) 23 = .ok (.goto (-21), 3) by decide +kernel) (by decide) ?_
  exact k
theorem g9_bare_26 {a1 a2 : Int} {M : am_M} {Q : Option am_V → am_M → Prop} (k : am_AtN m9_bare 28 [some (vr 86), some (vi a1), some (vi 0)] [] KS M Q) : am_AtN m9_bare 26 [some (vr 86), some (vi a1), some (vi a2)] [] KS M Q := by
  refine s_iconst (show decode (am_cc m9_bare) 26 = .ok (.iconst 0, 1) by decide +kernel) ⟨by decide, by decide⟩ ?_
  refine s_istore_n (show decode (am_cc m9_bare) 27 = .ok (.istore_n 2, 1) by decide +kernel) (by decide) ?_
  exact k
theorem g9_bare_28 {a1 a2 : Int} {M : am_M} {Q : Option am_V → am_M → Prop} (k1 : 6 ≤ a2 → am_AtN m9_bare 52 [some (vr 86), some (vi a1), some (vi a2)] [] KS M Q) (k2 : ¬ (6 ≤ a2) → am_AtN m9_bare 34 [some (vr 86), some (vi a1), some (vi a2)] [] KS M Q) : am_AtN m9_bare 28 [some (vr 86), some (vi a1), some (vi a2)] [] KS M Q := by
  refine s_iload_n (show decode (am_cc m9_bare) 28 = .ok (.iload_n 2, 1) by decide +kernel) rfl ?_
  refine s_bipush (show decode (am_cc m9_bare) 29 = .ok (.bipush 6, 2) by decide +kernel) ⟨by decide, by decide⟩ (by decide) ?_
  exact s_icmp_ge (tgt := 52) (show decode (am_cc m9_bare) 31 = .ok (.if_icmp .ge 21, 3) by decide +kernel) (by decide) k1 k2
theorem g9_bare_34 {a1 a2 : Int} {M : am_M} {Q : Option am_V → am_M → Prop} (h1 : -2147483648 ≤ 6 * a1 ∧ 6 * a1 ≤ 2147483647) (h2 : -2147483648 ≤ (6 * a1) + a2 ∧ (6 * a1) + a2 ≤ 2147483647) (h3 : 0 ≤ (6 * a1) + a2) (h4 : (6 * a1) + a2 < 48) (h5 : -2147483648 ≤ a2 + 1 ∧ a2 + 1 ≤ 2147483647) (k : am_AtN m9_bare 28 [some (vr 86), some (vi a1), some (vi (a2 + 1))] [] KS (am_up M 88 ((6 * a1) + a2) 1) Q) : am_AtN m9_bare 34 [some (vr 86), some (vi a1), some (vi a2)] [] KS M Q := by
  refine s_aload_n (show decode (am_cc m9_bare) 34 = .ok (.aload_n 0, 1) by decide +kernel) rfl ?_
  refine s_getf (k := 3) (v := vr 88) (show decode (am_cc m9_bare) 35 = .ok (.getfield 13, 3) by decide +kernel) kd86 (by decide) rfl jnX9 (by decide) lf_RX9_13 rfl ?_
  refine s_bipush (show decode (am_cc m9_bare) 38 = .ok (.bipush 6, 2) by decide +kernel) ⟨by decide, by decide⟩ (by decide) ?_
  refine s_iload_n (show decode (am_cc m9_bare) 40 = .ok (.iload_n 1, 1) by decide +kernel) rfl ?_
  refine s_imul (show decode (am_cc m9_bare) 41 = .ok (.imul, 1) by decide +kernel) h1 ?_
  refine s_iload_n (show decode (am_cc m9_bare) 42 = .ok (.iload_n 2, 1) by decide +kernel) rfl ?_
  refine s_iadd (show decode (am_cc m9_bare) 43 = .ok (.iadd, 1) by decide +kernel) h2 ?_
  refine s_iconst (show decode (am_cc m9_bare) 44 = .ok (.iconst 1, 1) by decide +kernel) ⟨by decide, by decide⟩ ?_
  refine s_bastore (show decode (am_cc m9_bare) 45 = .ok (.bastore, 1) by decide +kernel) kd88 h3 h4 (by decide) ?_
  refine s_iinc (show decode (am_cc m9_bare) 46 = .ok (.iinc 2 1, 3) by decide +kernel) rfl (by decide) h5 ?_
  refine s_goto (tgt := 28) (show decode (am_cc m9_bare) 49 = .ok (.goto (-21), 3) by decide +kernel) (by decide) ?_
  exact k
theorem g9_bare_52 {a1 a2 : Int} {M : am_M} {Q : Option am_V → am_M → Prop} (k : Q none M) : am_AtN m9_bare 52 [some (vr 86), some (vi a1), some (vi a2)] [] KS M Q := by
  exact s_return (show decode (am_cc m9_bare) 52 = .ok (.return_, 1) by decide +kernel) rfl k
theorem g9_noSentence_0 {a0 : Int} {K : am_K} {M : am_M} {Q : Option am_V → am_M → Prop} (k : am_CallN m9_in [vl a0, vl 0, vl 7] K M (fun r M' => am_AtN m9_noSentence 9 [some (vi a0)] (r.toList ++ []) K M' Q)) : am_AtN m9_noSentence 0 [some (vi a0)] [] K M Q := by
  refine s_iload_n (show decode (am_cc m9_noSentence) 0 = .ok (.iload_n 0, 1) by decide +kernel) rfl ?_
  refine s_i2l (show decode (am_cc m9_noSentence) 1 = .ok (.i2l, 1) by decide +kernel) ?_
  refine s_lconst (v := 0) (show decode (am_cc m9_noSentence) 2 = .ok (.lconst 0, 1) by decide +kernel) (by decide) ⟨by decide, by decide⟩ ?_
  refine s_ldc2 (show decode (am_cc m9_noSentence) 3 = .ok (.ldc2_w 108, 3) by decide +kernel) lc_RX9_108 ⟨by decide, by decide⟩ ?_
  exact n_callS (as := [vl a0, vl 0, vl 7]) (stk := []) (show decode (am_cc m9_noSentence) 6 = .ok (.invokestatic 110, 3) by decide +kernel) lk_RX9_110 (by decide) (Nat.le_of_ble_eq_true rfl) ⟨rfl, rfl⟩ k
theorem g9_noSentence_9 {a0 t0 : Int} {K : am_K} {M : am_M} {Q : Option am_V → am_M → Prop} (k1 : ¬ t0 = 0 → am_AtN m9_noSentence 16 [some (vi a0)] [] K M Q) (k2 : t0 = 0 → am_AtN m9_noSentence 12 [some (vi a0)] [] K M Q) : am_AtN m9_noSentence 9 [some (vi a0)] [vi t0] K M Q := by
  exact s_if_ne (tgt := 16) (show decode (am_cc m9_noSentence) 9 = .ok (.ifCond .ne 7, 3) by decide +kernel) (by decide) k1 k2
theorem g9_noSentence_12 {a0 : Int} {K : am_K} {M : am_M} {Q : Option am_V → am_M → Prop} (k : am_AtN m9_noSentence 17 [some (vi a0)] [vi 1] K M Q) : am_AtN m9_noSentence 12 [some (vi a0)] [] K M Q := by
  refine s_iconst (show decode (am_cc m9_noSentence) 12 = .ok (.iconst 1, 1) by decide +kernel) ⟨by decide, by decide⟩ ?_
  refine s_goto (tgt := 17) (show decode (am_cc m9_noSentence) 13 = .ok (.goto 4, 3) by decide +kernel) (by decide) ?_
  exact k
theorem g9_noSentence_16 {a0 : Int} {K : am_K} {M : am_M} {Q : Option am_V → am_M → Prop} (k : am_AtN m9_noSentence 17 [some (vi a0)] [vi 0] K M Q) : am_AtN m9_noSentence 16 [some (vi a0)] [] K M Q := by
  refine s_iconst (show decode (am_cc m9_noSentence) 16 = .ok (.iconst 0, 1) by decide +kernel) ⟨by decide, by decide⟩ ?_
  exact k
theorem g9_noSentence_17 {a0 t0 : Int} {K : am_K} {M : am_M} {Q : Option am_V → am_M → Prop} (h1 : t0 = 0 ∨ t0 = 1) (k : Q (some (vi t0)) M) : am_AtN m9_noSentence 17 [some (vi a0)] [vi t0] K M Q := by
  exact s_zreturn (show decode (am_cc m9_noSentence) 17 = .ok (.ireturn, 1) by decide +kernel) rfl h1 k
theorem g9_noPoint_0 {a0 : Int} {K : am_K} {M : am_M} {Q : Option am_V → am_M → Prop} (k : am_CallN m9_in [vl a0, vl 0, vl 5] K M (fun r M' => am_AtN m9_noPoint 9 [some (vi a0)] (r.toList ++ []) K M' Q)) : am_AtN m9_noPoint 0 [some (vi a0)] [] K M Q := by
  refine s_iload_n (show decode (am_cc m9_noPoint) 0 = .ok (.iload_n 0, 1) by decide +kernel) rfl ?_
  refine s_i2l (show decode (am_cc m9_noPoint) 1 = .ok (.i2l, 1) by decide +kernel) ?_
  refine s_lconst (v := 0) (show decode (am_cc m9_noPoint) 2 = .ok (.lconst 0, 1) by decide +kernel) (by decide) ⟨by decide, by decide⟩ ?_
  refine s_ldc2 (show decode (am_cc m9_noPoint) 3 = .ok (.ldc2_w 114, 3) by decide +kernel) lc_RX9_114 ⟨by decide, by decide⟩ ?_
  exact n_callS (as := [vl a0, vl 0, vl 5]) (stk := []) (show decode (am_cc m9_noPoint) 6 = .ok (.invokestatic 110, 3) by decide +kernel) lk_RX9_110 (by decide) (Nat.le_of_ble_eq_true rfl) ⟨rfl, rfl⟩ k
theorem g9_noPoint_9 {a0 t0 : Int} {K : am_K} {M : am_M} {Q : Option am_V → am_M → Prop} (k1 : ¬ t0 = 0 → am_AtN m9_noPoint 16 [some (vi a0)] [] K M Q) (k2 : t0 = 0 → am_AtN m9_noPoint 12 [some (vi a0)] [] K M Q) : am_AtN m9_noPoint 9 [some (vi a0)] [vi t0] K M Q := by
  exact s_if_ne (tgt := 16) (show decode (am_cc m9_noPoint) 9 = .ok (.ifCond .ne 7, 3) by decide +kernel) (by decide) k1 k2
theorem g9_noPoint_12 {a0 : Int} {K : am_K} {M : am_M} {Q : Option am_V → am_M → Prop} (k : am_AtN m9_noPoint 17 [some (vi a0)] [vi 1] K M Q) : am_AtN m9_noPoint 12 [some (vi a0)] [] K M Q := by
  refine s_iconst (show decode (am_cc m9_noPoint) 12 = .ok (.iconst 1, 1) by decide +kernel) ⟨by decide, by decide⟩ ?_
  refine s_goto (tgt := 17) (show decode (am_cc m9_noPoint) 13 = .ok (.goto 4, 3) by decide +kernel) (by decide) ?_
  exact k
theorem g9_noPoint_16 {a0 : Int} {K : am_K} {M : am_M} {Q : Option am_V → am_M → Prop} (k : am_AtN m9_noPoint 17 [some (vi a0)] [vi 0] K M Q) : am_AtN m9_noPoint 16 [some (vi a0)] [] K M Q := by
  refine s_iconst (show decode (am_cc m9_noPoint) 16 = .ok (.iconst 0, 1) by decide +kernel) ⟨by decide, by decide⟩ ?_
  exact k
theorem g9_noPoint_17 {a0 t0 : Int} {K : am_K} {M : am_M} {Q : Option am_V → am_M → Prop} (h1 : t0 = 0 ∨ t0 = 1) (k : Q (some (vi t0)) M) : am_AtN m9_noPoint 17 [some (vi a0)] [vi t0] K M Q := by
  exact s_zreturn (show decode (am_cc m9_noPoint) 17 = .ok (.ireturn, 1) by decide +kernel) rfl h1 k
theorem g9_noLetter_0 {a1 : Int} {M : am_M} {Q : Option am_V → am_M → Prop} (h1 : -2147483648 ≤ (M 86 1) - 1 ∧ (M 86 1) - 1 ≤ 2147483647) (k : am_CallN m9_in [vl a1, vl 0, vl ((M 86 1) - 1)] KS M (fun r M' => am_AtN m9_noLetter 13 [some (vr 86), some (vi a1)] (r.toList ++ []) KS M' Q)) : am_AtN m9_noLetter 0 [some (vr 86), some (vi a1)] [] KS M Q := by
  refine s_iload_n (show decode (am_cc m9_noLetter) 0 = .ok (.iload_n 1, 1) by decide +kernel) rfl ?_
  refine s_i2l (show decode (am_cc m9_noLetter) 1 = .ok (.i2l, 1) by decide +kernel) ?_
  refine s_lconst (v := 0) (show decode (am_cc m9_noLetter) 2 = .ok (.lconst 0, 1) by decide +kernel) (by decide) ⟨by decide, by decide⟩ ?_
  refine s_aload_n (show decode (am_cc m9_noLetter) 3 = .ok (.aload_n 0, 1) by decide +kernel) rfl ?_
  refine s_getf (k := 1) (v := vi (M 86 1)) (show decode (am_cc m9_noLetter) 4 = .ok (.getfield 99, 3) by decide +kernel) kd86 (by decide) rfl jnX9 (by decide) lf_RX9_99 rfl ?_
  refine s_iconst (show decode (am_cc m9_noLetter) 7 = .ok (.iconst 1, 1) by decide +kernel) ⟨by decide, by decide⟩ ?_
  refine s_isub (show decode (am_cc m9_noLetter) 8 = .ok (.isub, 1) by decide +kernel) h1 ?_
  refine s_i2l (show decode (am_cc m9_noLetter) 9 = .ok (.i2l, 1) by decide +kernel) ?_
  exact n_callS (as := [vl a1, vl 0, vl ((M 86 1) - 1)]) (stk := []) (show decode (am_cc m9_noLetter) 10 = .ok (.invokestatic 110, 3) by decide +kernel) lk_RX9_110 (by decide) (Nat.le_of_ble_eq_true rfl) ⟨rfl, rfl⟩ k
theorem g9_noLetter_13 {a1 t0 : Int} {M : am_M} {Q : Option am_V → am_M → Prop} (k1 : ¬ t0 = 0 → am_AtN m9_noLetter 20 [some (vr 86), some (vi a1)] [] KS M Q) (k2 : t0 = 0 → am_AtN m9_noLetter 16 [some (vr 86), some (vi a1)] [] KS M Q) : am_AtN m9_noLetter 13 [some (vr 86), some (vi a1)] [vi t0] KS M Q := by
  exact s_if_ne (tgt := 20) (show decode (am_cc m9_noLetter) 13 = .ok (.ifCond .ne 7, 3) by decide +kernel) (by decide) k1 k2
theorem g9_noLetter_16 {a1 : Int} {M : am_M} {Q : Option am_V → am_M → Prop} (k : am_AtN m9_noLetter 21 [some (vr 86), some (vi a1)] [vi 1] KS M Q) : am_AtN m9_noLetter 16 [some (vr 86), some (vi a1)] [] KS M Q := by
  refine s_iconst (show decode (am_cc m9_noLetter) 16 = .ok (.iconst 1, 1) by decide +kernel) ⟨by decide, by decide⟩ ?_
  refine s_goto (tgt := 21) (show decode (am_cc m9_noLetter) 17 = .ok (.goto 4, 3) by decide +kernel) (by decide) ?_
  exact k
theorem g9_noLetter_20 {a1 : Int} {M : am_M} {Q : Option am_V → am_M → Prop} (k : am_AtN m9_noLetter 21 [some (vr 86), some (vi a1)] [vi 0] KS M Q) : am_AtN m9_noLetter 20 [some (vr 86), some (vi a1)] [] KS M Q := by
  refine s_iconst (show decode (am_cc m9_noLetter) 20 = .ok (.iconst 0, 1) by decide +kernel) ⟨by decide, by decide⟩ ?_
  exact k
theorem g9_noLetter_21 {a1 t0 : Int} {M : am_M} {Q : Option am_V → am_M → Prop} (h1 : t0 = 0 ∨ t0 = 1) (k : Q (some (vi t0)) M) : am_AtN m9_noLetter 21 [some (vr 86), some (vi a1)] [vi t0] KS M Q := by
  exact s_zreturn (show decode (am_cc m9_noLetter) 21 = .ok (.ireturn, 1) by decide +kernel) rfl h1 k
theorem g9_noProgram_0 {a0 : Int} {K : am_K} {M : am_M} {Q : Option am_V → am_M → Prop} (k : am_CallN m9_in [vl a0, vl 0, vl 3] K M (fun r M' => am_AtN m9_noProgram 9 [some (vi a0)] (r.toList ++ []) K M' Q)) : am_AtN m9_noProgram 0 [some (vi a0)] [] K M Q := by
  refine s_iload_n (show decode (am_cc m9_noProgram) 0 = .ok (.iload_n 0, 1) by decide +kernel) rfl ?_
  refine s_i2l (show decode (am_cc m9_noProgram) 1 = .ok (.i2l, 1) by decide +kernel) ?_
  refine s_lconst (v := 0) (show decode (am_cc m9_noProgram) 2 = .ok (.lconst 0, 1) by decide +kernel) (by decide) ⟨by decide, by decide⟩ ?_
  refine s_ldc2 (show decode (am_cc m9_noProgram) 3 = .ok (.ldc2_w 116, 3) by decide +kernel) lc_RX9_116 ⟨by decide, by decide⟩ ?_
  exact n_callS (as := [vl a0, vl 0, vl 3]) (stk := []) (show decode (am_cc m9_noProgram) 6 = .ok (.invokestatic 110, 3) by decide +kernel) lk_RX9_110 (by decide) (Nat.le_of_ble_eq_true rfl) ⟨rfl, rfl⟩ k
theorem g9_noProgram_9 {a0 t0 : Int} {K : am_K} {M : am_M} {Q : Option am_V → am_M → Prop} (k1 : ¬ t0 = 0 → am_AtN m9_noProgram 16 [some (vi a0)] [] K M Q) (k2 : t0 = 0 → am_AtN m9_noProgram 12 [some (vi a0)] [] K M Q) : am_AtN m9_noProgram 9 [some (vi a0)] [vi t0] K M Q := by
  exact s_if_ne (tgt := 16) (show decode (am_cc m9_noProgram) 9 = .ok (.ifCond .ne 7, 3) by decide +kernel) (by decide) k1 k2
theorem g9_noProgram_12 {a0 : Int} {K : am_K} {M : am_M} {Q : Option am_V → am_M → Prop} (k : am_AtN m9_noProgram 17 [some (vi a0)] [vi 1] K M Q) : am_AtN m9_noProgram 12 [some (vi a0)] [] K M Q := by
  refine s_iconst (show decode (am_cc m9_noProgram) 12 = .ok (.iconst 1, 1) by decide +kernel) ⟨by decide, by decide⟩ ?_
  refine s_goto (tgt := 17) (show decode (am_cc m9_noProgram) 13 = .ok (.goto 4, 3) by decide +kernel) (by decide) ?_
  exact k
theorem g9_noProgram_16 {a0 : Int} {K : am_K} {M : am_M} {Q : Option am_V → am_M → Prop} (k : am_AtN m9_noProgram 17 [some (vi a0)] [vi 0] K M Q) : am_AtN m9_noProgram 16 [some (vi a0)] [] K M Q := by
  refine s_iconst (show decode (am_cc m9_noProgram) 16 = .ok (.iconst 0, 1) by decide +kernel) ⟨by decide, by decide⟩ ?_
  exact k
theorem g9_noProgram_17 {a0 t0 : Int} {K : am_K} {M : am_M} {Q : Option am_V → am_M → Prop} (h1 : t0 = 0 ∨ t0 = 1) (k : Q (some (vi t0)) M) : am_AtN m9_noProgram 17 [some (vi a0)] [vi t0] K M Q := by
  exact s_zreturn (show decode (am_cc m9_noProgram) 17 = .ok (.ireturn, 1) by decide +kernel) rfl h1 k
theorem g9_letters_0 {a1 : Int} {M : am_M} {Q : Option am_V → am_M → Prop} (k : am_CallN m9_in [vl a1, vl 2, vl 4] KS (am_up M 86 0 0) (fun r M' => am_AtN m9_letters 16 [some (vr 86), some (vi a1), none] (r.toList ++ []) KS M' Q)) : am_AtN m9_letters 0 [some (vr 86), some (vi a1), none] [] KS M Q := by
  refine s_aload_n (show decode (am_cc m9_letters) 0 = .ok (.aload_n 0, 1) by decide +kernel) rfl ?_
  refine s_iconst (show decode (am_cc m9_letters) 1 = .ok (.iconst 0, 1) by decide +kernel) ⟨by decide, by decide⟩ ?_
  refine s_putf (k := 0) (x := 0) (ty0 := tyX9) (show decode (am_cc m9_letters) 2 = .ok (.putfield 95, 3) by decide +kernel) kd86 (by decide) rfl jnX9 tyX9_ok nmX9 (by decide) lf_RX9_95 rfl (Or.inl ⟨rfl, rfl, rfl⟩) ?_
  refine s_iload_n (show decode (am_cc m9_letters) 5 = .ok (.iload_n 1, 1) by decide +kernel) rfl ?_
  refine s_i2l (show decode (am_cc m9_letters) 6 = .ok (.i2l, 1) by decide +kernel) ?_
  refine s_ldc2 (show decode (am_cc m9_letters) 7 = .ok (.ldc2_w 118, 3) by decide +kernel) lc_RX9_118 ⟨by decide, by decide⟩ ?_
  refine s_ldc2 (show decode (am_cc m9_letters) 10 = .ok (.ldc2_w 120, 3) by decide +kernel) lc_RX9_120 ⟨by decide, by decide⟩ ?_
  exact n_callS (as := [vl a1, vl 2, vl 4]) (stk := []) (show decode (am_cc m9_letters) 13 = .ok (.invokestatic 110, 3) by decide +kernel) lk_RX9_110 (by decide) (Nat.le_of_ble_eq_true rfl) ⟨rfl, rfl⟩ k
theorem g9_letters_16 {a1 t0 : Int} {M : am_M} {Q : Option am_V → am_M → Prop} (k1 : ¬ t0 = 0 → am_AtN m9_letters 22 [some (vr 86), some (vi a1), none] [] KS M Q) (k2 : t0 = 0 → am_AtN m9_letters 19 [some (vr 86), some (vi a1), none] [] KS M Q) : am_AtN m9_letters 16 [some (vr 86), some (vi a1), none] [vi t0] KS M Q := by
  exact s_if_ne (tgt := 22) (show decode (am_cc m9_letters) 16 = .ok (.ifCond .ne 6, 3) by decide +kernel) (by decide) k1 k2
theorem g9_letters_19 {a1 : Int} {M : am_M} {Q : Option am_V → am_M → Prop} (k : Q (some (vi (-2))) M) : am_AtN m9_letters 19 [some (vr 86), some (vi a1), none] [] KS M Q := by
  refine s_bipush (show decode (am_cc m9_letters) 19 = .ok (.bipush (-2), 2) by decide +kernel) ⟨by decide, by decide⟩ (by decide) ?_
  exact s_ireturn (show decode (am_cc m9_letters) 21 = .ok (.ireturn, 1) by decide +kernel) rfl k
theorem g9_letters_22 {a1 : Int} {M : am_M} {Q : Option am_V → am_M → Prop} (k : am_CallN m9_begin [vr 86, vi a1] KS M (fun r M' => am_AtN m9_letters 32 [some (vr 86), some (vi a1), some (vi (M 86 1))] (r.toList ++ []) KS M' Q)) : am_AtN m9_letters 22 [some (vr 86), some (vi a1), none] [] KS M Q := by
  refine s_aload_n (show decode (am_cc m9_letters) 22 = .ok (.aload_n 0, 1) by decide +kernel) rfl ?_
  refine s_getf (k := 1) (v := vi (M 86 1)) (show decode (am_cc m9_letters) 23 = .ok (.getfield 99, 3) by decide +kernel) kd86 (by decide) rfl jnX9 (by decide) lf_RX9_99 rfl ?_
  refine s_istore_n (show decode (am_cc m9_letters) 26 = .ok (.istore_n 2, 1) by decide +kernel) (by decide) ?_
  refine s_aload_n (show decode (am_cc m9_letters) 27 = .ok (.aload_n 0, 1) by decide +kernel) rfl ?_
  refine s_iload_n (show decode (am_cc m9_letters) 28 = .ok (.iload_n 1, 1) by decide +kernel) rfl ?_
  exact n_callV (as := [vi a1]) (stk := []) (show decode (am_cc m9_letters) 29 = .ok (.invokevirtual 91, 3) by decide +kernel) lk_RX9_91 kd86 (by decide) rfl rfl (by decide) (Nat.le_of_ble_eq_true rfl) ⟨rfl, rfl⟩ k
theorem g9_letters_32 {a1 a2 : Int} {M : am_M} {Q : Option am_V → am_M → Prop} (k : Q (some (vi a2)) M) : am_AtN m9_letters 32 [some (vr 86), some (vi a1), some (vi a2)] [] KS M Q := by
  refine s_iload_n (show decode (am_cc m9_letters) 32 = .ok (.iload_n 2, 1) by decide +kernel) rfl ?_
  exact s_ireturn (show decode (am_cc m9_letters) 33 = .ok (.ireturn, 1) by decide +kernel) rfl k
theorem g9_point_0 {a1 a2 a3 a4 : Int} {M : am_M} {Q : Option am_V → am_M → Prop} (k : am_CallN m9_noSentence [vi a1] KS (am_up M 86 0 0) (fun r M' => am_AtN m9_point 9 [some (vr 86), some (vi a1), some (vi a2), some (vi a3), some (vi a4), none, none] (r.toList ++ []) KS M' Q)) : am_AtN m9_point 0 [some (vr 86), some (vi a1), some (vi a2), some (vi a3), some (vi a4), none, none] [] KS M Q := by
  refine s_aload_n (show decode (am_cc m9_point) 0 = .ok (.aload_n 0, 1) by decide +kernel) rfl ?_
  refine s_iconst (show decode (am_cc m9_point) 1 = .ok (.iconst 0, 1) by decide +kernel) ⟨by decide, by decide⟩ ?_
  refine s_putf (k := 0) (x := 0) (ty0 := tyX9) (show decode (am_cc m9_point) 2 = .ok (.putfield 95, 3) by decide +kernel) kd86 (by decide) rfl jnX9 tyX9_ok nmX9 (by decide) lf_RX9_95 rfl (Or.inl ⟨rfl, rfl, rfl⟩) ?_
  refine s_iload_n (show decode (am_cc m9_point) 5 = .ok (.iload_n 1, 1) by decide +kernel) rfl ?_
  exact n_callS (as := [vi a1]) (stk := []) (show decode (am_cc m9_point) 6 = .ok (.invokestatic 122, 3) by decide +kernel) lk_RX9_122 (by decide) (Nat.le_of_ble_eq_true rfl) ⟨rfl, rfl⟩ k
theorem g9_point_9 {a1 a2 a3 a4 t0 : Int} {M : am_M} {Q : Option am_V → am_M → Prop} (k1 : ¬ t0 = 0 → am_AtN m9_point 35 [some (vr 86), some (vi a1), some (vi a2), some (vi a3), some (vi a4), none, none] [] KS M Q) (k2 : t0 = 0 → am_AtN m9_point 12 [some (vr 86), some (vi a1), some (vi a2), some (vi a3), some (vi a4), none, none] [] KS M Q) : am_AtN m9_point 9 [some (vr 86), some (vi a1), some (vi a2), some (vi a3), some (vi a4), none, none] [vi t0] KS M Q := by
  exact s_if_ne (tgt := 35) (show decode (am_cc m9_point) 9 = .ok (.ifCond .ne 26, 3) by decide +kernel) (by decide) k1 k2
theorem g9_point_12 {a1 a2 a3 a4 : Int} {M : am_M} {Q : Option am_V → am_M → Prop} (k : am_CallN m9_noPoint [vi a2] KS M (fun r M' => am_AtN m9_point 16 [some (vr 86), some (vi a1), some (vi a2), some (vi a3), some (vi a4), none, none] (r.toList ++ []) KS M' Q)) : am_AtN m9_point 12 [some (vr 86), some (vi a1), some (vi a2), some (vi a3), some (vi a4), none, none] [] KS M Q := by
  refine s_iload_n (show decode (am_cc m9_point) 12 = .ok (.iload_n 2, 1) by decide +kernel) rfl ?_
  exact n_callS (as := [vi a2]) (stk := []) (show decode (am_cc m9_point) 13 = .ok (.invokestatic 126, 3) by decide +kernel) lk_RX9_126 (by decide) (Nat.le_of_ble_eq_true rfl) ⟨rfl, rfl⟩ k
theorem g9_point_16 {a1 a2 a3 a4 t0 : Int} {M : am_M} {Q : Option am_V → am_M → Prop} (k1 : ¬ t0 = 0 → am_AtN m9_point 35 [some (vr 86), some (vi a1), some (vi a2), some (vi a3), some (vi a4), none, none] [] KS M Q) (k2 : t0 = 0 → am_AtN m9_point 19 [some (vr 86), some (vi a1), some (vi a2), some (vi a3), some (vi a4), none, none] [] KS M Q) : am_AtN m9_point 16 [some (vr 86), some (vi a1), some (vi a2), some (vi a3), some (vi a4), none, none] [vi t0] KS M Q := by
  exact s_if_ne (tgt := 35) (show decode (am_cc m9_point) 16 = .ok (.ifCond .ne 19, 3) by decide +kernel) (by decide) k1 k2
theorem g9_point_19 {a1 a2 a3 a4 : Int} {M : am_M} {Q : Option am_V → am_M → Prop} (k : am_CallN m9_noLetter [vr 86, vi a3] KS M (fun r M' => am_AtN m9_point 24 [some (vr 86), some (vi a1), some (vi a2), some (vi a3), some (vi a4), none, none] (r.toList ++ []) KS M' Q)) : am_AtN m9_point 19 [some (vr 86), some (vi a1), some (vi a2), some (vi a3), some (vi a4), none, none] [] KS M Q := by
  refine s_aload_n (show decode (am_cc m9_point) 19 = .ok (.aload_n 0, 1) by decide +kernel) rfl ?_
  refine s_iload_n (show decode (am_cc m9_point) 20 = .ok (.iload_n 3, 1) by decide +kernel) rfl ?_
  exact n_callV (as := [vi a3]) (stk := []) (show decode (am_cc m9_point) 21 = .ok (.invokevirtual 129, 3) by decide +kernel) lk_RX9_129 kd86 (by decide) rfl rfl (by decide) (Nat.le_of_ble_eq_true rfl) ⟨rfl, rfl⟩ k
theorem g9_point_24 {a1 a2 a3 a4 t0 : Int} {M : am_M} {Q : Option am_V → am_M → Prop} (k1 : ¬ t0 = 0 → am_AtN m9_point 35 [some (vr 86), some (vi a1), some (vi a2), some (vi a3), some (vi a4), none, none] [] KS M Q) (k2 : t0 = 0 → am_AtN m9_point 27 [some (vr 86), some (vi a1), some (vi a2), some (vi a3), some (vi a4), none, none] [] KS M Q) : am_AtN m9_point 24 [some (vr 86), some (vi a1), some (vi a2), some (vi a3), some (vi a4), none, none] [vi t0] KS M Q := by
  exact s_if_ne (tgt := 35) (show decode (am_cc m9_point) 24 = .ok (.ifCond .ne 11, 3) by decide +kernel) (by decide) k1 k2
theorem g9_point_27 {a1 a2 a3 a4 : Int} {M : am_M} {Q : Option am_V → am_M → Prop} (k : am_CallN m9_noPoint [vi a4] KS M (fun r M' => am_AtN m9_point 32 [some (vr 86), some (vi a1), some (vi a2), some (vi a3), some (vi a4), none, none] (r.toList ++ []) KS M' Q)) : am_AtN m9_point 27 [some (vr 86), some (vi a1), some (vi a2), some (vi a3), some (vi a4), none, none] [] KS M Q := by
  refine s_iload (show decode (am_cc m9_point) 27 = .ok (.iload 4, 2) by decide +kernel) rfl ?_
  exact n_callS (as := [vi a4]) (stk := []) (show decode (am_cc m9_point) 29 = .ok (.invokestatic 126, 3) by decide +kernel) lk_RX9_126 (by decide) (Nat.le_of_ble_eq_true rfl) ⟨rfl, rfl⟩ k
theorem g9_point_32 {a1 a2 a3 a4 t0 : Int} {M : am_M} {Q : Option am_V → am_M → Prop} (k1 : t0 = 0 → am_AtN m9_point 37 [some (vr 86), some (vi a1), some (vi a2), some (vi a3), some (vi a4), none, none] [] KS M Q) (k2 : ¬ (t0 = 0) → am_AtN m9_point 35 [some (vr 86), some (vi a1), some (vi a2), some (vi a3), some (vi a4), none, none] [] KS M Q) : am_AtN m9_point 32 [some (vr 86), some (vi a1), some (vi a2), some (vi a3), some (vi a4), none, none] [vi t0] KS M Q := by
  exact s_if_eq (tgt := 37) (show decode (am_cc m9_point) 32 = .ok (.ifCond .eq 5, 3) by decide +kernel) (by decide) k1 k2
theorem g9_point_35 {a1 a2 a3 a4 : Int} {M : am_M} {Q : Option am_V → am_M → Prop} (k : Q (some (vi (-1))) M) : am_AtN m9_point 35 [some (vr 86), some (vi a1), some (vi a2), some (vi a3), some (vi a4), none, none] [] KS M Q := by
  refine s_iconst (show decode (am_cc m9_point) 35 = .ok (.iconst (-1), 1) by decide +kernel) ⟨by decide, by decide⟩ ?_
  exact s_ireturn (show decode (am_cc m9_point) 36 = .ok (.ireturn, 1) by decide +kernel) rfl k
theorem g9_point_37 {a1 a2 a3 a4 : Int} {M : am_M} {Q : Option am_V → am_M → Prop} (h1 : -2147483648 ≤ 24 * a1 ∧ 24 * a1 ≤ 2147483647) (h2 : -2147483648 ≤ 4 * a2 ∧ 4 * a2 ≤ 2147483647) (h3 : -2147483648 ≤ (24 * a1) + (4 * a2) ∧ (24 * a1) + (4 * a2) ≤ 2147483647) (h4 : -2147483648 ≤ ((24 * a1) + (4 * a2)) + a3 ∧ ((24 * a1) + (4 * a2)) + a3 ≤ 2147483647) (h5 : 0 ≤ ((24 * a1) + (4 * a2)) + a3) (h6 : ((24 * a1) + (4 * a2)) + a3 < 192) (h7 : 0 ≤ ((24 * a1) + (4 * a2)) + a3) (h8 : ((24 * a1) + (4 * a2)) + a3 < 192) (k : Q (some (vi (M 87 (((24 * a1) + (4 * a2)) + a3)))) (am_up M 87 (((24 * a1) + (4 * a2)) + a3) a4)) : am_AtN m9_point 37 [some (vr 86), some (vi a1), some (vi a2), some (vi a3), some (vi a4), none, none] [] KS M Q := by
  refine s_bipush (show decode (am_cc m9_point) 37 = .ok (.bipush 24, 2) by decide +kernel) ⟨by decide, by decide⟩ (by decide) ?_
  refine s_iload_n (show decode (am_cc m9_point) 39 = .ok (.iload_n 1, 1) by decide +kernel) rfl ?_
  refine s_imul (show decode (am_cc m9_point) 40 = .ok (.imul, 1) by decide +kernel) h1 ?_
  refine s_iconst (show decode (am_cc m9_point) 41 = .ok (.iconst 4, 1) by decide +kernel) ⟨by decide, by decide⟩ ?_
  refine s_iload_n (show decode (am_cc m9_point) 42 = .ok (.iload_n 2, 1) by decide +kernel) rfl ?_
  refine s_imul (show decode (am_cc m9_point) 43 = .ok (.imul, 1) by decide +kernel) h2 ?_
  refine s_iadd (show decode (am_cc m9_point) 44 = .ok (.iadd, 1) by decide +kernel) h3 ?_
  refine s_iload_n (show decode (am_cc m9_point) 45 = .ok (.iload_n 3, 1) by decide +kernel) rfl ?_
  refine s_iadd (show decode (am_cc m9_point) 46 = .ok (.iadd, 1) by decide +kernel) h4 ?_
  refine s_istore (show decode (am_cc m9_point) 47 = .ok (.istore 5, 2) by decide +kernel) (by decide) ?_
  refine s_aload_n (show decode (am_cc m9_point) 49 = .ok (.aload_n 0, 1) by decide +kernel) rfl ?_
  refine s_getf (k := 2) (v := vr 87) (show decode (am_cc m9_point) 50 = .ok (.getfield 7, 3) by decide +kernel) kd86 (by decide) rfl jnX9 (by decide) lf_RX9_7 rfl ?_
  refine s_iload (show decode (am_cc m9_point) 53 = .ok (.iload 5, 2) by decide +kernel) rfl ?_
  refine s_iaload (show decode (am_cc m9_point) 55 = .ok (.iaload, 1) by decide +kernel) kd87 h5 h6 ?_
  refine s_istore (show decode (am_cc m9_point) 56 = .ok (.istore 6, 2) by decide +kernel) (by decide) ?_
  refine s_aload_n (show decode (am_cc m9_point) 58 = .ok (.aload_n 0, 1) by decide +kernel) rfl ?_
  refine s_getf (k := 2) (v := vr 87) (show decode (am_cc m9_point) 59 = .ok (.getfield 7, 3) by decide +kernel) kd86 (by decide) rfl jnX9 (by decide) lf_RX9_7 rfl ?_
  refine s_iload (show decode (am_cc m9_point) 62 = .ok (.iload 5, 2) by decide +kernel) rfl ?_
  refine s_iload (show decode (am_cc m9_point) 64 = .ok (.iload 4, 2) by decide +kernel) rfl ?_
  refine s_iastore (show decode (am_cc m9_point) 66 = .ok (.iastore, 1) by decide +kernel) kd87 h7 h8 ?_
  refine s_iload (show decode (am_cc m9_point) 67 = .ok (.iload 6, 2) by decide +kernel) rfl ?_
  exact s_ireturn (show decode (am_cc m9_point) 69 = .ok (.ireturn, 1) by decide +kernel) rfl k
theorem g9_holds_0 {a1 a2 a3 : Int} {M : am_M} {Q : Option am_V → am_M → Prop} (k : am_CallN m9_noSentence [vi a1] KS (am_up M 86 0 0) (fun r M' => am_AtN m9_holds 9 [some (vr 86), some (vi a1), some (vi a2), some (vi a3), none] (r.toList ++ []) KS M' Q)) : am_AtN m9_holds 0 [some (vr 86), some (vi a1), some (vi a2), some (vi a3), none] [] KS M Q := by
  refine s_aload_n (show decode (am_cc m9_holds) 0 = .ok (.aload_n 0, 1) by decide +kernel) rfl ?_
  refine s_iconst (show decode (am_cc m9_holds) 1 = .ok (.iconst 0, 1) by decide +kernel) ⟨by decide, by decide⟩ ?_
  refine s_putf (k := 0) (x := 0) (ty0 := tyX9) (show decode (am_cc m9_holds) 2 = .ok (.putfield 95, 3) by decide +kernel) kd86 (by decide) rfl jnX9 tyX9_ok nmX9 (by decide) lf_RX9_95 rfl (Or.inl ⟨rfl, rfl, rfl⟩) ?_
  refine s_iload_n (show decode (am_cc m9_holds) 5 = .ok (.iload_n 1, 1) by decide +kernel) rfl ?_
  exact n_callS (as := [vi a1]) (stk := []) (show decode (am_cc m9_holds) 6 = .ok (.invokestatic 122, 3) by decide +kernel) lk_RX9_122 (by decide) (Nat.le_of_ble_eq_true rfl) ⟨rfl, rfl⟩ k
theorem g9_holds_9 {a1 a2 a3 t0 : Int} {M : am_M} {Q : Option am_V → am_M → Prop} (k1 : ¬ t0 = 0 → am_AtN m9_holds 19 [some (vr 86), some (vi a1), some (vi a2), some (vi a3), none] [] KS M Q) (k2 : t0 = 0 → am_AtN m9_holds 12 [some (vr 86), some (vi a1), some (vi a2), some (vi a3), none] [] KS M Q) : am_AtN m9_holds 9 [some (vr 86), some (vi a1), some (vi a2), some (vi a3), none] [vi t0] KS M Q := by
  exact s_if_ne (tgt := 19) (show decode (am_cc m9_holds) 9 = .ok (.ifCond .ne 10, 3) by decide +kernel) (by decide) k1 k2
theorem g9_holds_12 {a1 a2 a3 : Int} {M : am_M} {Q : Option am_V → am_M → Prop} (k : am_CallN m9_noPoint [vi a2] KS M (fun r M' => am_AtN m9_holds 16 [some (vr 86), some (vi a1), some (vi a2), some (vi a3), none] (r.toList ++ []) KS M' Q)) : am_AtN m9_holds 12 [some (vr 86), some (vi a1), some (vi a2), some (vi a3), none] [] KS M Q := by
  refine s_iload_n (show decode (am_cc m9_holds) 12 = .ok (.iload_n 2, 1) by decide +kernel) rfl ?_
  exact n_callS (as := [vi a2]) (stk := []) (show decode (am_cc m9_holds) 13 = .ok (.invokestatic 126, 3) by decide +kernel) lk_RX9_126 (by decide) (Nat.le_of_ble_eq_true rfl) ⟨rfl, rfl⟩ k
theorem g9_holds_16 {a1 a2 a3 t0 : Int} {M : am_M} {Q : Option am_V → am_M → Prop} (k1 : t0 = 0 → am_AtN m9_holds 21 [some (vr 86), some (vi a1), some (vi a2), some (vi a3), none] [] KS M Q) (k2 : ¬ (t0 = 0) → am_AtN m9_holds 19 [some (vr 86), some (vi a1), some (vi a2), some (vi a3), none] [] KS M Q) : am_AtN m9_holds 16 [some (vr 86), some (vi a1), some (vi a2), some (vi a3), none] [vi t0] KS M Q := by
  exact s_if_eq (tgt := 21) (show decode (am_cc m9_holds) 16 = .ok (.ifCond .eq 5, 3) by decide +kernel) (by decide) k1 k2
theorem g9_holds_19 {a1 a2 a3 : Int} {M : am_M} {Q : Option am_V → am_M → Prop} (k : Q (some (vi (-1))) M) : am_AtN m9_holds 19 [some (vr 86), some (vi a1), some (vi a2), some (vi a3), none] [] KS M Q := by
  refine s_iconst (show decode (am_cc m9_holds) 19 = .ok (.iconst (-1), 1) by decide +kernel) ⟨by decide, by decide⟩ ?_
  exact s_ireturn (show decode (am_cc m9_holds) 20 = .ok (.ireturn, 1) by decide +kernel) rfl k
theorem g9_holds_21 {a1 a2 a3 : Int} {M : am_M} {Q : Option am_V → am_M → Prop} (h1 : -2147483648 ≤ 6 * a1 ∧ 6 * a1 ≤ 2147483647) (h2 : -2147483648 ≤ (6 * a1) + a2 ∧ (6 * a1) + a2 ≤ 2147483647) (h3 : 0 ≤ (6 * a1) + a2) (h4 : (6 * a1) + a2 < 48) (k1 : M 88 ((6 * a1) + a2) = 0 → am_AtN m9_holds 39 [some (vr 86), some (vi a1), some (vi a2), some (vi a3), none] [] KS M Q) (k2 : ¬ (M 88 ((6 * a1) + a2) = 0) → am_AtN m9_holds 35 [some (vr 86), some (vi a1), some (vi a2), some (vi a3), none] [] KS M Q) : am_AtN m9_holds 21 [some (vr 86), some (vi a1), some (vi a2), some (vi a3), none] [] KS M Q := by
  refine s_aload_n (show decode (am_cc m9_holds) 21 = .ok (.aload_n 0, 1) by decide +kernel) rfl ?_
  refine s_getf (k := 3) (v := vr 88) (show decode (am_cc m9_holds) 22 = .ok (.getfield 13, 3) by decide +kernel) kd86 (by decide) rfl jnX9 (by decide) lf_RX9_13 rfl ?_
  refine s_bipush (show decode (am_cc m9_holds) 25 = .ok (.bipush 6, 2) by decide +kernel) ⟨by decide, by decide⟩ (by decide) ?_
  refine s_iload_n (show decode (am_cc m9_holds) 27 = .ok (.iload_n 1, 1) by decide +kernel) rfl ?_
  refine s_imul (show decode (am_cc m9_holds) 28 = .ok (.imul, 1) by decide +kernel) h1 ?_
  refine s_iload_n (show decode (am_cc m9_holds) 29 = .ok (.iload_n 2, 1) by decide +kernel) rfl ?_
  refine s_iadd (show decode (am_cc m9_holds) 30 = .ok (.iadd, 1) by decide +kernel) h2 ?_
  refine s_baload (show decode (am_cc m9_holds) 31 = .ok (.baload, 1) by decide +kernel) kd88 h3 h4 ?_
  exact s_if_eq (tgt := 39) (show decode (am_cc m9_holds) 32 = .ok (.ifCond .eq 7, 3) by decide +kernel) (by decide) k1 k2
theorem g9_holds_35 {a1 a2 a3 : Int} {M : am_M} {Q : Option am_V → am_M → Prop} (k : am_AtN m9_holds 40 [some (vr 86), some (vi a1), some (vi a2), some (vi a3), none] [vi 1] KS M Q) : am_AtN m9_holds 35 [some (vr 86), some (vi a1), some (vi a2), some (vi a3), none] [] KS M Q := by
  refine s_iconst (show decode (am_cc m9_holds) 35 = .ok (.iconst 1, 1) by decide +kernel) ⟨by decide, by decide⟩ ?_
  refine s_goto (tgt := 40) (show decode (am_cc m9_holds) 36 = .ok (.goto 4, 3) by decide +kernel) (by decide) ?_
  exact k
theorem g9_holds_39 {a1 a2 a3 : Int} {M : am_M} {Q : Option am_V → am_M → Prop} (k : am_AtN m9_holds 40 [some (vr 86), some (vi a1), some (vi a2), some (vi a3), none] [vi 0] KS M Q) : am_AtN m9_holds 39 [some (vr 86), some (vi a1), some (vi a2), some (vi a3), none] [] KS M Q := by
  refine s_iconst (show decode (am_cc m9_holds) 39 = .ok (.iconst 0, 1) by decide +kernel) ⟨by decide, by decide⟩ ?_
  exact k
theorem g9_holds_40 {a1 a2 a3 t0 : Int} {M : am_M} {Q : Option am_V → am_M → Prop} (h1 : -2147483648 ≤ 6 * a1 ∧ 6 * a1 ≤ 2147483647) (h2 : -2147483648 ≤ (6 * a1) + a2 ∧ (6 * a1) + a2 ≤ 2147483647) (h3 : 0 ≤ (6 * a1) + a2) (h4 : (6 * a1) + a2 < 48) (h5 : a3 = 0 ∨ a3 = 1) (k : Q (some (vi t0)) (am_up M 88 ((6 * a1) + a2) a3)) : am_AtN m9_holds 40 [some (vr 86), some (vi a1), some (vi a2), some (vi a3), none] [vi t0] KS M Q := by
  refine s_istore (show decode (am_cc m9_holds) 40 = .ok (.istore 4, 2) by decide +kernel) (by decide) ?_
  refine s_aload_n (show decode (am_cc m9_holds) 42 = .ok (.aload_n 0, 1) by decide +kernel) rfl ?_
  refine s_getf (k := 3) (v := vr 88) (show decode (am_cc m9_holds) 43 = .ok (.getfield 13, 3) by decide +kernel) kd86 (by decide) rfl jnX9 (by decide) lf_RX9_13 rfl ?_
  refine s_bipush (show decode (am_cc m9_holds) 46 = .ok (.bipush 6, 2) by decide +kernel) ⟨by decide, by decide⟩ (by decide) ?_
  refine s_iload_n (show decode (am_cc m9_holds) 48 = .ok (.iload_n 1, 1) by decide +kernel) rfl ?_
  refine s_imul (show decode (am_cc m9_holds) 49 = .ok (.imul, 1) by decide +kernel) h1 ?_
  refine s_iload_n (show decode (am_cc m9_holds) 50 = .ok (.iload_n 2, 1) by decide +kernel) rfl ?_
  refine s_iadd (show decode (am_cc m9_holds) 51 = .ok (.iadd, 1) by decide +kernel) h2 ?_
  refine s_iload_n (show decode (am_cc m9_holds) 52 = .ok (.iload_n 3, 1) by decide +kernel) rfl ?_
  refine s_bastore (show decode (am_cc m9_holds) 53 = .ok (.bastore, 1) by decide +kernel) kd88 h3 h4 h5 ?_
  refine s_iload (show decode (am_cc m9_holds) 54 = .ok (.iload 4, 2) by decide +kernel) rfl ?_
  exact s_ireturn (show decode (am_cc m9_holds) 56 = .ok (.ireturn, 1) by decide +kernel) rfl k
theorem g9_leads_0 {a1 a2 a3 a4 : Int} {M : am_M} {Q : Option am_V → am_M → Prop} (kd : (a1 < 1 ∨ 7 < a1) → am_AtN m9_leads 167 [some (vr 86), some (vi a1), some (vi a2), some (vi a3), some (vi a4)] [] KS M Q) (k1 : a1 = 1 → am_AtN m9_leads 44 [some (vr 86), some (vi a1), some (vi a2), some (vi a3), some (vi a4)] [] KS M Q) (k2 : a1 = 2 → am_AtN m9_leads 64 [some (vr 86), some (vi a1), some (vi a2), some (vi a3), some (vi a4)] [] KS M Q) (k3 : a1 = 3 → am_AtN m9_leads 83 [some (vr 86), some (vi a1), some (vi a2), some (vi a3), some (vi a4)] [] KS M Q) (k4 : a1 = 4 → am_AtN m9_leads 89 [some (vr 86), some (vi a1), some (vi a2), some (vi a3), some (vi a4)] [] KS M Q) (k5 : a1 = 5 → am_AtN m9_leads 108 [some (vr 86), some (vi a1), some (vi a2), some (vi a3), some (vi a4)] [] KS M Q) (k6 : a1 = 6 → am_AtN m9_leads 130 [some (vr 86), some (vi a1), some (vi a2), some (vi a3), some (vi a4)] [] KS M Q) (k7 : a1 = 7 → am_AtN m9_leads 143 [some (vr 86), some (vi a1), some (vi a2), some (vi a3), some (vi a4)] [] KS M Q) : am_AtN m9_leads 0 [some (vr 86), some (vi a1), some (vi a2), some (vi a3), some (vi a4)] [] KS M Q := by
  refine s_iload_n (show decode (am_cc m9_leads) 0 = .ok (.iload_n 1, 1) by decide +kernel) rfl ?_
  by_cases hd0 : a1 < 1 ∨ 7 < a1
  · refine s_tableOut (tgt := 167) (show decode (am_cc m9_leads) 1 = .ok (.tableswitch 166 1 7 #[43, 63, 82, 88, 107, 129, 142], 43) by decide +kernel) hd0 (by decide) ?_
    exact kd hd0
  · have hc0 : a1 = 1 ∨ a1 = 2 ∨ a1 = 3 ∨ a1 = 4 ∨ a1 = 5 ∨ a1 = 6 ∨ a1 = 7 := by omega
    rcases hc0 with hc0 | hc0 | hc0 | hc0 | hc0 | hc0 | hc0
    · refine s_tableIn (tgt := 44) (off := 43) (show decode (am_cc m9_leads) 1 = .ok (.tableswitch 166 1 7 #[43, 63, 82, 88, 107, 129, 142], 43) by decide +kernel) 0 (by omega) (by decide) (by decide) (by decide) ?_
      exact k1 hc0
    · refine s_tableIn (tgt := 64) (off := 63) (show decode (am_cc m9_leads) 1 = .ok (.tableswitch 166 1 7 #[43, 63, 82, 88, 107, 129, 142], 43) by decide +kernel) 1 (by omega) (by decide) (by decide) (by decide) ?_
      exact k2 hc0
    · refine s_tableIn (tgt := 83) (off := 82) (show decode (am_cc m9_leads) 1 = .ok (.tableswitch 166 1 7 #[43, 63, 82, 88, 107, 129, 142], 43) by decide +kernel) 2 (by omega) (by decide) (by decide) (by decide) ?_
      exact k3 hc0
    · refine s_tableIn (tgt := 89) (off := 88) (show decode (am_cc m9_leads) 1 = .ok (.tableswitch 166 1 7 #[43, 63, 82, 88, 107, 129, 142], 43) by decide +kernel) 3 (by omega) (by decide) (by decide) (by decide) ?_
      exact k4 hc0
    · refine s_tableIn (tgt := 108) (off := 107) (show decode (am_cc m9_leads) 1 = .ok (.tableswitch 166 1 7 #[43, 63, 82, 88, 107, 129, 142], 43) by decide +kernel) 4 (by omega) (by decide) (by decide) (by decide) ?_
      exact k5 hc0
    · refine s_tableIn (tgt := 130) (off := 129) (show decode (am_cc m9_leads) 1 = .ok (.tableswitch 166 1 7 #[43, 63, 82, 88, 107, 129, 142], 43) by decide +kernel) 5 (by omega) (by decide) (by decide) (by decide) ?_
      exact k6 hc0
    · refine s_tableIn (tgt := 143) (off := 142) (show decode (am_cc m9_leads) 1 = .ok (.tableswitch 166 1 7 #[43, 63, 82, 88, 107, 129, 142], 43) by decide +kernel) 6 (by omega) (by decide) (by decide) (by decide) ?_
      exact k7 hc0
theorem g9_leads_44 {a1 a2 a3 a4 : Int} {M : am_M} {Q : Option am_V → am_M → Prop} (k1 : a3 = 8 → am_AtN m9_leads 56 [some (vr 86), some (vi a1), some (vi a2), some (vi a3), some (vi a4)] [] KS M Q) (k2 : ¬ (a3 = 8) → am_AtN m9_leads 50 [some (vr 86), some (vi a1), some (vi a2), some (vi a3), some (vi a4)] [] KS M Q) : am_AtN m9_leads 44 [some (vr 86), some (vi a1), some (vi a2), some (vi a3), some (vi a4)] [] KS M Q := by
  refine s_iload_n (show decode (am_cc m9_leads) 44 = .ok (.iload_n 3, 1) by decide +kernel) rfl ?_
  refine s_bipush (show decode (am_cc m9_leads) 45 = .ok (.bipush 8, 2) by decide +kernel) ⟨by decide, by decide⟩ (by decide) ?_
  exact s_icmp_eq (tgt := 56) (show decode (am_cc m9_leads) 47 = .ok (.if_icmp .eq 9, 3) by decide +kernel) (by decide) k1 k2
theorem g9_leads_50 {a1 a2 a3 a4 : Int} {M : am_M} {Q : Option am_V → am_M → Prop} (k1 : a3 ≤ a4 → am_AtN m9_leads 61 [some (vr 86), some (vi a1), some (vi a2), some (vi a3), some (vi a4)] [] KS M Q) (k2 : ¬ (a3 ≤ a4) → am_AtN m9_leads 56 [some (vr 86), some (vi a1), some (vi a2), some (vi a3), some (vi a4)] [] KS M Q) : am_AtN m9_leads 50 [some (vr 86), some (vi a1), some (vi a2), some (vi a3), some (vi a4)] [] KS M Q := by
  refine s_iload (show decode (am_cc m9_leads) 50 = .ok (.iload 4, 2) by decide +kernel) rfl ?_
  refine s_iload_n (show decode (am_cc m9_leads) 52 = .ok (.iload_n 3, 1) by decide +kernel) rfl ?_
  exact s_icmp_ge (tgt := 61) (show decode (am_cc m9_leads) 53 = .ok (.if_icmp .ge 8, 3) by decide +kernel) (by decide) k1 k2
theorem g9_leads_56 {a1 a2 a3 a4 : Int} {M : am_M} {Q : Option am_V → am_M → Prop} (k : am_AtN m9_leads 63 [some (vr 86), some (vi a1), some (vi a2), some (vi a3), some (vi a4)] [vi 8] KS M Q) : am_AtN m9_leads 56 [some (vr 86), some (vi a1), some (vi a2), some (vi a3), some (vi a4)] [] KS M Q := by
  refine s_bipush (show decode (am_cc m9_leads) 56 = .ok (.bipush 8, 2) by decide +kernel) ⟨by decide, by decide⟩ (by decide) ?_
  refine s_goto (tgt := 63) (show decode (am_cc m9_leads) 58 = .ok (.goto 5, 3) by decide +kernel) (by decide) ?_
  exact k
theorem g9_leads_61 {a1 a2 a3 a4 : Int} {M : am_M} {Q : Option am_V → am_M → Prop} (k : am_AtN m9_leads 63 [some (vr 86), some (vi a1), some (vi a2), some (vi a3), some (vi a4)] [vi a4] KS M Q) : am_AtN m9_leads 61 [some (vr 86), some (vi a1), some (vi a2), some (vi a3), some (vi a4)] [] KS M Q := by
  refine s_iload (show decode (am_cc m9_leads) 61 = .ok (.iload 4, 2) by decide +kernel) rfl ?_
  exact k
theorem g9_leads_63 {a1 a2 a3 a4 t0 : Int} {M : am_M} {Q : Option am_V → am_M → Prop} (k : Q (some (vi t0)) M) : am_AtN m9_leads 63 [some (vr 86), some (vi a1), some (vi a2), some (vi a3), some (vi a4)] [vi t0] KS M Q := by
  exact s_ireturn (show decode (am_cc m9_leads) 63 = .ok (.ireturn, 1) by decide +kernel) rfl k
theorem g9_leads_64 {a1 a2 a3 a4 : Int} {M : am_M} {Q : Option am_V → am_M → Prop} (k1 : a3 = 9 → am_AtN m9_leads 76 [some (vr 86), some (vi a1), some (vi a2), some (vi a3), some (vi a4)] [] KS M Q) (k2 : ¬ (a3 = 9) → am_AtN m9_leads 70 [some (vr 86), some (vi a1), some (vi a2), some (vi a3), some (vi a4)] [] KS M Q) : am_AtN m9_leads 64 [some (vr 86), some (vi a1), some (vi a2), some (vi a3), some (vi a4)] [] KS M Q := by
  refine s_iload_n (show decode (am_cc m9_leads) 64 = .ok (.iload_n 3, 1) by decide +kernel) rfl ?_
  refine s_bipush (show decode (am_cc m9_leads) 65 = .ok (.bipush 9, 2) by decide +kernel) ⟨by decide, by decide⟩ (by decide) ?_
  exact s_icmp_eq (tgt := 76) (show decode (am_cc m9_leads) 67 = .ok (.if_icmp .eq 9, 3) by decide +kernel) (by decide) k1 k2
theorem g9_leads_70 {a1 a2 a3 a4 : Int} {M : am_M} {Q : Option am_V → am_M → Prop} (k1 : ¬ a4 = a2 → am_AtN m9_leads 81 [some (vr 86), some (vi a1), some (vi a2), some (vi a3), some (vi a4)] [] KS M Q) (k2 : a4 = a2 → am_AtN m9_leads 76 [some (vr 86), some (vi a1), some (vi a2), some (vi a3), some (vi a4)] [] KS M Q) : am_AtN m9_leads 70 [some (vr 86), some (vi a1), some (vi a2), some (vi a3), some (vi a4)] [] KS M Q := by
  refine s_iload (show decode (am_cc m9_leads) 70 = .ok (.iload 4, 2) by decide +kernel) rfl ?_
  refine s_iload_n (show decode (am_cc m9_leads) 72 = .ok (.iload_n 2, 1) by decide +kernel) rfl ?_
  exact s_icmp_ne (tgt := 81) (show decode (am_cc m9_leads) 73 = .ok (.if_icmp .ne 8, 3) by decide +kernel) (by decide) k1 k2
theorem g9_leads_76 {a1 a2 a3 a4 : Int} {M : am_M} {Q : Option am_V → am_M → Prop} (k : am_AtN m9_leads 82 [some (vr 86), some (vi a1), some (vi a2), some (vi a3), some (vi a4)] [vi 9] KS M Q) : am_AtN m9_leads 76 [some (vr 86), some (vi a1), some (vi a2), some (vi a3), some (vi a4)] [] KS M Q := by
  refine s_bipush (show decode (am_cc m9_leads) 76 = .ok (.bipush 9, 2) by decide +kernel) ⟨by decide, by decide⟩ (by decide) ?_
  refine s_goto (tgt := 82) (show decode (am_cc m9_leads) 78 = .ok (.goto 4, 3) by decide +kernel) (by decide) ?_
  exact k
theorem g9_leads_81 {a1 a2 a3 a4 : Int} {M : am_M} {Q : Option am_V → am_M → Prop} (k : am_AtN m9_leads 82 [some (vr 86), some (vi a1), some (vi a2), some (vi a3), some (vi a4)] [vi 0] KS M Q) : am_AtN m9_leads 81 [some (vr 86), some (vi a1), some (vi a2), some (vi a3), some (vi a4)] [] KS M Q := by
  refine s_iconst (show decode (am_cc m9_leads) 81 = .ok (.iconst 0, 1) by decide +kernel) ⟨by decide, by decide⟩ ?_
  exact k
theorem g9_leads_82 {a1 a2 a3 a4 t0 : Int} {M : am_M} {Q : Option am_V → am_M → Prop} (k : Q (some (vi t0)) M) : am_AtN m9_leads 82 [some (vr 86), some (vi a1), some (vi a2), some (vi a3), some (vi a4)] [vi t0] KS M Q := by
  exact s_ireturn (show decode (am_cc m9_leads) 82 = .ok (.ireturn, 1) by decide +kernel) rfl k
theorem g9_leads_83 {a1 a2 a3 a4 : Int} {M : am_M} {Q : Option am_V → am_M → Prop} (h1 : -2147483648 ≤ a3 + 1 ∧ a3 + 1 ≤ 2147483647) (h2 : 0 ≤ a3 + 1) (h3 : 0 < a2) (k : Q (some (vi ((a3 + 1) % a2))) M) : am_AtN m9_leads 83 [some (vr 86), some (vi a1), some (vi a2), some (vi a3), some (vi a4)] [] KS M Q := by
  refine s_iload_n (show decode (am_cc m9_leads) 83 = .ok (.iload_n 3, 1) by decide +kernel) rfl ?_
  refine s_iconst (show decode (am_cc m9_leads) 84 = .ok (.iconst 1, 1) by decide +kernel) ⟨by decide, by decide⟩ ?_
  refine s_iadd (show decode (am_cc m9_leads) 85 = .ok (.iadd, 1) by decide +kernel) h1 ?_
  refine s_iload_n (show decode (am_cc m9_leads) 86 = .ok (.iload_n 2, 1) by decide +kernel) rfl ?_
  refine s_irem (show decode (am_cc m9_leads) 87 = .ok (.irem, 1) by decide +kernel) h2 h3 ?_
  exact s_ireturn (show decode (am_cc m9_leads) 88 = .ok (.ireturn, 1) by decide +kernel) rfl k
theorem g9_leads_89 {a1 a2 a3 a4 : Int} {M : am_M} {Q : Option am_V → am_M → Prop} (k1 : a3 = 8 → am_AtN m9_leads 101 [some (vr 86), some (vi a1), some (vi a2), some (vi a3), some (vi a4)] [] KS M Q) (k2 : ¬ (a3 = 8) → am_AtN m9_leads 95 [some (vr 86), some (vi a1), some (vi a2), some (vi a3), some (vi a4)] [] KS M Q) : am_AtN m9_leads 89 [some (vr 86), some (vi a1), some (vi a2), some (vi a3), some (vi a4)] [] KS M Q := by
  refine s_iload_n (show decode (am_cc m9_leads) 89 = .ok (.iload_n 3, 1) by decide +kernel) rfl ?_
  refine s_bipush (show decode (am_cc m9_leads) 90 = .ok (.bipush 8, 2) by decide +kernel) ⟨by decide, by decide⟩ (by decide) ?_
  exact s_icmp_eq (tgt := 101) (show decode (am_cc m9_leads) 92 = .ok (.if_icmp .eq 9, 3) by decide +kernel) (by decide) k1 k2
theorem g9_leads_95 {a1 a2 a3 a4 : Int} {M : am_M} {Q : Option am_V → am_M → Prop} (k1 : ¬ a4 = a2 → am_AtN m9_leads 106 [some (vr 86), some (vi a1), some (vi a2), some (vi a3), some (vi a4)] [] KS M Q) (k2 : a4 = a2 → am_AtN m9_leads 101 [some (vr 86), some (vi a1), some (vi a2), some (vi a3), some (vi a4)] [] KS M Q) : am_AtN m9_leads 95 [some (vr 86), some (vi a1), some (vi a2), some (vi a3), some (vi a4)] [] KS M Q := by
  refine s_iload (show decode (am_cc m9_leads) 95 = .ok (.iload 4, 2) by decide +kernel) rfl ?_
  refine s_iload_n (show decode (am_cc m9_leads) 97 = .ok (.iload_n 2, 1) by decide +kernel) rfl ?_
  exact s_icmp_ne (tgt := 106) (show decode (am_cc m9_leads) 98 = .ok (.if_icmp .ne 8, 3) by decide +kernel) (by decide) k1 k2
theorem g9_leads_101 {a1 a2 a3 a4 : Int} {M : am_M} {Q : Option am_V → am_M → Prop} (k : am_AtN m9_leads 107 [some (vr 86), some (vi a1), some (vi a2), some (vi a3), some (vi a4)] [vi 8] KS M Q) : am_AtN m9_leads 101 [some (vr 86), some (vi a1), some (vi a2), some (vi a3), some (vi a4)] [] KS M Q := by
  refine s_bipush (show decode (am_cc m9_leads) 101 = .ok (.bipush 8, 2) by decide +kernel) ⟨by decide, by decide⟩ (by decide) ?_
  refine s_goto (tgt := 107) (show decode (am_cc m9_leads) 103 = .ok (.goto 4, 3) by decide +kernel) (by decide) ?_
  exact k
theorem g9_leads_106 {a1 a2 a3 a4 : Int} {M : am_M} {Q : Option am_V → am_M → Prop} (k : am_AtN m9_leads 107 [some (vr 86), some (vi a1), some (vi a2), some (vi a3), some (vi a4)] [vi 0] KS M Q) : am_AtN m9_leads 106 [some (vr 86), some (vi a1), some (vi a2), some (vi a3), some (vi a4)] [] KS M Q := by
  refine s_iconst (show decode (am_cc m9_leads) 106 = .ok (.iconst 0, 1) by decide +kernel) ⟨by decide, by decide⟩ ?_
  exact k
theorem g9_leads_107 {a1 a2 a3 a4 t0 : Int} {M : am_M} {Q : Option am_V → am_M → Prop} (k : Q (some (vi t0)) M) : am_AtN m9_leads 107 [some (vr 86), some (vi a1), some (vi a2), some (vi a3), some (vi a4)] [vi t0] KS M Q := by
  exact s_ireturn (show decode (am_cc m9_leads) 107 = .ok (.ireturn, 1) by decide +kernel) rfl k
theorem g9_leads_108 {a1 a2 a3 a4 : Int} {M : am_M} {Q : Option am_V → am_M → Prop} (k1 : a3 = 0 → am_AtN m9_leads 116 [some (vr 86), some (vi a1), some (vi a2), some (vi a3), some (vi a4)] [] KS M Q) (k2 : ¬ (a3 = 0) → am_AtN m9_leads 112 [some (vr 86), some (vi a1), some (vi a2), some (vi a3), some (vi a4)] [] KS M Q) : am_AtN m9_leads 108 [some (vr 86), some (vi a1), some (vi a2), some (vi a3), some (vi a4)] [] KS M Q := by
  refine s_iload_n (show decode (am_cc m9_leads) 108 = .ok (.iload_n 3, 1) by decide +kernel) rfl ?_
  exact s_if_eq (tgt := 116) (show decode (am_cc m9_leads) 109 = .ok (.ifCond .eq 7, 3) by decide +kernel) (by decide) k1 k2
theorem g9_leads_112 {a1 a2 a3 a4 : Int} {M : am_M} {Q : Option am_V → am_M → Prop} (k : am_AtN m9_leads 129 [some (vr 86), some (vi a1), some (vi a2), some (vi a3), some (vi a4)] [vi a3] KS M Q) : am_AtN m9_leads 112 [some (vr 86), some (vi a1), some (vi a2), some (vi a3), some (vi a4)] [] KS M Q := by
  refine s_iload_n (show decode (am_cc m9_leads) 112 = .ok (.iload_n 3, 1) by decide +kernel) rfl ?_
  refine s_goto (tgt := 129) (show decode (am_cc m9_leads) 113 = .ok (.goto 16, 3) by decide +kernel) (by decide) ?_
  exact k
theorem g9_leads_116 {a1 a2 a3 a4 : Int} {M : am_M} {Q : Option am_V → am_M → Prop} (k1 : ¬ a4 = a2 → am_AtN m9_leads 127 [some (vr 86), some (vi a1), some (vi a2), some (vi a3), some (vi a4)] [] KS M Q) (k2 : a4 = a2 → am_AtN m9_leads 122 [some (vr 86), some (vi a1), some (vi a2), some (vi a3), some (vi a4)] [] KS M Q) : am_AtN m9_leads 116 [some (vr 86), some (vi a1), some (vi a2), some (vi a3), some (vi a4)] [] KS M Q := by
  refine s_iload (show decode (am_cc m9_leads) 116 = .ok (.iload 4, 2) by decide +kernel) rfl ?_
  refine s_iload_n (show decode (am_cc m9_leads) 118 = .ok (.iload_n 2, 1) by decide +kernel) rfl ?_
  exact s_icmp_ne (tgt := 127) (show decode (am_cc m9_leads) 119 = .ok (.if_icmp .ne 8, 3) by decide +kernel) (by decide) k1 k2
theorem g9_leads_122 {a1 a2 a3 a4 : Int} {M : am_M} {Q : Option am_V → am_M → Prop} (k : am_AtN m9_leads 129 [some (vr 86), some (vi a1), some (vi a2), some (vi a3), some (vi a4)] [vi 9] KS M Q) : am_AtN m9_leads 122 [some (vr 86), some (vi a1), some (vi a2), some (vi a3), some (vi a4)] [] KS M Q := by
  refine s_bipush (show decode (am_cc m9_leads) 122 = .ok (.bipush 9, 2) by decide +kernel) ⟨by decide, by decide⟩ (by decide) ?_
  refine s_goto (tgt := 129) (show decode (am_cc m9_leads) 124 = .ok (.goto 5, 3) by decide +kernel) (by decide) ?_
  exact k
theorem g9_leads_127 {a1 a2 a3 a4 : Int} {M : am_M} {Q : Option am_V → am_M → Prop} (k : am_AtN m9_leads 129 [some (vr 86), some (vi a1), some (vi a2), some (vi a3), some (vi a4)] [vi 8] KS M Q) : am_AtN m9_leads 127 [some (vr 86), some (vi a1), some (vi a2), some (vi a3), some (vi a4)] [] KS M Q := by
  refine s_bipush (show decode (am_cc m9_leads) 127 = .ok (.bipush 8, 2) by decide +kernel) ⟨by decide, by decide⟩ (by decide) ?_
  exact k
theorem g9_leads_129 {a1 a2 a3 a4 t0 : Int} {M : am_M} {Q : Option am_V → am_M → Prop} (k : Q (some (vi t0)) M) : am_AtN m9_leads 129 [some (vr 86), some (vi a1), some (vi a2), some (vi a3), some (vi a4)] [vi t0] KS M Q := by
  exact s_ireturn (show decode (am_cc m9_leads) 129 = .ok (.ireturn, 1) by decide +kernel) rfl k
theorem g9_leads_130 {a1 a2 a3 a4 : Int} {M : am_M} {Q : Option am_V → am_M → Prop} (k1 : ¬ a4 = a2 → am_AtN m9_leads 141 [some (vr 86), some (vi a1), some (vi a2), some (vi a3), some (vi a4)] [] KS M Q) (k2 : a4 = a2 → am_AtN m9_leads 136 [some (vr 86), some (vi a1), some (vi a2), some (vi a3), some (vi a4)] [] KS M Q) : am_AtN m9_leads 130 [some (vr 86), some (vi a1), some (vi a2), some (vi a3), some (vi a4)] [] KS M Q := by
  refine s_iload (show decode (am_cc m9_leads) 130 = .ok (.iload 4, 2) by decide +kernel) rfl ?_
  refine s_iload_n (show decode (am_cc m9_leads) 132 = .ok (.iload_n 2, 1) by decide +kernel) rfl ?_
  exact s_icmp_ne (tgt := 141) (show decode (am_cc m9_leads) 133 = .ok (.if_icmp .ne 8, 3) by decide +kernel) (by decide) k1 k2
theorem g9_leads_136 {a1 a2 a3 a4 : Int} {M : am_M} {Q : Option am_V → am_M → Prop} (k : am_AtN m9_leads 142 [some (vr 86), some (vi a1), some (vi a2), some (vi a3), some (vi a4)] [vi 9] KS M Q) : am_AtN m9_leads 136 [some (vr 86), some (vi a1), some (vi a2), some (vi a3), some (vi a4)] [] KS M Q := by
  refine s_bipush (show decode (am_cc m9_leads) 136 = .ok (.bipush 9, 2) by decide +kernel) ⟨by decide, by decide⟩ (by decide) ?_
  refine s_goto (tgt := 142) (show decode (am_cc m9_leads) 138 = .ok (.goto 4, 3) by decide +kernel) (by decide) ?_
  exact k
theorem g9_leads_141 {a1 a2 a3 a4 : Int} {M : am_M} {Q : Option am_V → am_M → Prop} (k : am_AtN m9_leads 142 [some (vr 86), some (vi a1), some (vi a2), some (vi a3), some (vi a4)] [vi 0] KS M Q) : am_AtN m9_leads 141 [some (vr 86), some (vi a1), some (vi a2), some (vi a3), some (vi a4)] [] KS M Q := by
  refine s_iconst (show decode (am_cc m9_leads) 141 = .ok (.iconst 0, 1) by decide +kernel) ⟨by decide, by decide⟩ ?_
  exact k
theorem g9_leads_142 {a1 a2 a3 a4 t0 : Int} {M : am_M} {Q : Option am_V → am_M → Prop} (k : Q (some (vi t0)) M) : am_AtN m9_leads 142 [some (vr 86), some (vi a1), some (vi a2), some (vi a3), some (vi a4)] [vi t0] KS M Q := by
  exact s_ireturn (show decode (am_cc m9_leads) 142 = .ok (.ireturn, 1) by decide +kernel) rfl k
theorem g9_leads_143 {a1 a2 a3 a4 : Int} {M : am_M} {Q : Option am_V → am_M → Prop} (k1 : a3 = 8 → am_AtN m9_leads 157 [some (vr 86), some (vi a1), some (vi a2), some (vi a3), some (vi a4)] [] KS M Q) (k2 : ¬ (a3 = 8) → am_AtN m9_leads 149 [some (vr 86), some (vi a1), some (vi a2), some (vi a3), some (vi a4)] [] KS M Q) : am_AtN m9_leads 143 [some (vr 86), some (vi a1), some (vi a2), some (vi a3), some (vi a4)] [] KS M Q := by
  refine s_iload_n (show decode (am_cc m9_leads) 143 = .ok (.iload_n 3, 1) by decide +kernel) rfl ?_
  refine s_bipush (show decode (am_cc m9_leads) 144 = .ok (.bipush 8, 2) by decide +kernel) ⟨by decide, by decide⟩ (by decide) ?_
  exact s_icmp_eq (tgt := 157) (show decode (am_cc m9_leads) 146 = .ok (.if_icmp .eq 11, 3) by decide +kernel) (by decide) k1 k2
theorem g9_leads_149 {a1 a2 a3 a4 : Int} {M : am_M} {Q : Option am_V → am_M → Prop} (h1 : -2147483648 ≤ a4 + 1 ∧ a4 + 1 ≤ 2147483647) (k1 : ¬ a3 = a4 + 1 → am_AtN m9_leads 162 [some (vr 86), some (vi a1), some (vi a2), some (vi a3), some (vi a4)] [] KS M Q) (k2 : a3 = a4 + 1 → am_AtN m9_leads 157 [some (vr 86), some (vi a1), some (vi a2), some (vi a3), some (vi a4)] [] KS M Q) : am_AtN m9_leads 149 [some (vr 86), some (vi a1), some (vi a2), some (vi a3), some (vi a4)] [] KS M Q := by
  refine s_iload_n (show decode (am_cc m9_leads) 149 = .ok (.iload_n 3, 1) by decide +kernel) rfl ?_
  refine s_iload (show decode (am_cc m9_leads) 150 = .ok (.iload 4, 2) by decide +kernel) rfl ?_
  refine s_iconst (show decode (am_cc m9_leads) 152 = .ok (.iconst 1, 1) by decide +kernel) ⟨by decide, by decide⟩ ?_
  refine s_iadd (show decode (am_cc m9_leads) 153 = .ok (.iadd, 1) by decide +kernel) h1 ?_
  exact s_icmp_ne (tgt := 162) (show decode (am_cc m9_leads) 154 = .ok (.if_icmp .ne 8, 3) by decide +kernel) (by decide) k1 k2
theorem g9_leads_157 {a1 a2 a3 a4 : Int} {M : am_M} {Q : Option am_V → am_M → Prop} (k : am_AtN m9_leads 166 [some (vr 86), some (vi a1), some (vi a2), some (vi a3), some (vi a4)] [vi 8] KS M Q) : am_AtN m9_leads 157 [some (vr 86), some (vi a1), some (vi a2), some (vi a3), some (vi a4)] [] KS M Q := by
  refine s_bipush (show decode (am_cc m9_leads) 157 = .ok (.bipush 8, 2) by decide +kernel) ⟨by decide, by decide⟩ (by decide) ?_
  refine s_goto (tgt := 166) (show decode (am_cc m9_leads) 159 = .ok (.goto 7, 3) by decide +kernel) (by decide) ?_
  exact k
theorem g9_leads_162 {a1 a2 a3 a4 : Int} {M : am_M} {Q : Option am_V → am_M → Prop} (h1 : -2147483648 ≤ a4 + 1 ∧ a4 + 1 ≤ 2147483647) (k : am_AtN m9_leads 166 [some (vr 86), some (vi a1), some (vi a2), some (vi a3), some (vi a4)] [vi (a4 + 1)] KS M Q) : am_AtN m9_leads 162 [some (vr 86), some (vi a1), some (vi a2), some (vi a3), some (vi a4)] [] KS M Q := by
  refine s_iload (show decode (am_cc m9_leads) 162 = .ok (.iload 4, 2) by decide +kernel) rfl ?_
  refine s_iconst (show decode (am_cc m9_leads) 164 = .ok (.iconst 1, 1) by decide +kernel) ⟨by decide, by decide⟩ ?_
  refine s_iadd (show decode (am_cc m9_leads) 165 = .ok (.iadd, 1) by decide +kernel) h1 ?_
  exact k
theorem g9_leads_166 {a1 a2 a3 a4 t0 : Int} {M : am_M} {Q : Option am_V → am_M → Prop} (k : Q (some (vi t0)) M) : am_AtN m9_leads 166 [some (vr 86), some (vi a1), some (vi a2), some (vi a3), some (vi a4)] [vi t0] KS M Q := by
  exact s_ireturn (show decode (am_cc m9_leads) 166 = .ok (.ireturn, 1) by decide +kernel) rfl k
theorem g9_leads_167 {a1 a2 a3 a4 : Int} {M : am_M} {Q : Option am_V → am_M → Prop} (k : Q (some (vi 0)) M) : am_AtN m9_leads 167 [some (vr 86), some (vi a1), some (vi a2), some (vi a3), some (vi a4)] [] KS M Q := by
  refine s_iconst (show decode (am_cc m9_leads) 167 = .ok (.iconst 0, 1) by decide +kernel) ⟨by decide, by decide⟩ ?_
  exact s_ireturn (show decode (am_cc m9_leads) 168 = .ok (.ireturn, 1) by decide +kernel) rfl k
theorem g9_isSoAt_0 {a0 a1 : Int} {K : am_K} {M : am_M} {Q : Option am_V → am_M → Prop} (k1 : a0 = 2 → am_AtN m9_isSoAt 16 [some (vi a0), some (vi a1), none] [] K M Q) (k2 : ¬ (a0 = 2) → am_AtN m9_isSoAt 5 [some (vi a0), some (vi a1), none] [] K M Q) : am_AtN m9_isSoAt 0 [some (vi a0), some (vi a1), none] [] K M Q := by
  refine s_iload_n (show decode (am_cc m9_isSoAt) 0 = .ok (.iload_n 0, 1) by decide +kernel) rfl ?_
  refine s_iconst (show decode (am_cc m9_isSoAt) 1 = .ok (.iconst 2, 1) by decide +kernel) ⟨by decide, by decide⟩ ?_
  exact s_icmp_eq (tgt := 16) (show decode (am_cc m9_isSoAt) 2 = .ok (.if_icmp .eq 14, 3) by decide +kernel) (by decide) k1 k2
theorem g9_isSoAt_5 {a0 a1 : Int} {K : am_K} {M : am_M} {Q : Option am_V → am_M → Prop} (k1 : a0 = 5 → am_AtN m9_isSoAt 16 [some (vi a0), some (vi a1), none] [] K M Q) (k2 : ¬ (a0 = 5) → am_AtN m9_isSoAt 10 [some (vi a0), some (vi a1), none] [] K M Q) : am_AtN m9_isSoAt 5 [some (vi a0), some (vi a1), none] [] K M Q := by
  refine s_iload_n (show decode (am_cc m9_isSoAt) 5 = .ok (.iload_n 0, 1) by decide +kernel) rfl ?_
  refine s_iconst (show decode (am_cc m9_isSoAt) 6 = .ok (.iconst 5, 1) by decide +kernel) ⟨by decide, by decide⟩ ?_
  exact s_icmp_eq (tgt := 16) (show decode (am_cc m9_isSoAt) 7 = .ok (.if_icmp .eq 9, 3) by decide +kernel) (by decide) k1 k2
theorem g9_isSoAt_10 {a0 a1 : Int} {K : am_K} {M : am_M} {Q : Option am_V → am_M → Prop} (k1 : ¬ a0 = 6 → am_AtN m9_isSoAt 20 [some (vi a0), some (vi a1), none] [] K M Q) (k2 : a0 = 6 → am_AtN m9_isSoAt 16 [some (vi a0), some (vi a1), none] [] K M Q) : am_AtN m9_isSoAt 10 [some (vi a0), some (vi a1), none] [] K M Q := by
  refine s_iload_n (show decode (am_cc m9_isSoAt) 10 = .ok (.iload_n 0, 1) by decide +kernel) rfl ?_
  refine s_bipush (show decode (am_cc m9_isSoAt) 11 = .ok (.bipush 6, 2) by decide +kernel) ⟨by decide, by decide⟩ (by decide) ?_
  exact s_icmp_ne (tgt := 20) (show decode (am_cc m9_isSoAt) 13 = .ok (.if_icmp .ne 7, 3) by decide +kernel) (by decide) k1 k2
theorem g9_isSoAt_16 {a0 a1 : Int} {K : am_K} {M : am_M} {Q : Option am_V → am_M → Prop} (k : am_AtN m9_isSoAt 21 [some (vi a0), some (vi a1), none] [vi 1] K M Q) : am_AtN m9_isSoAt 16 [some (vi a0), some (vi a1), none] [] K M Q := by
  refine s_iconst (show decode (am_cc m9_isSoAt) 16 = .ok (.iconst 1, 1) by decide +kernel) ⟨by decide, by decide⟩ ?_
  refine s_goto (tgt := 21) (show decode (am_cc m9_isSoAt) 17 = .ok (.goto 4, 3) by decide +kernel) (by decide) ?_
  exact k
theorem g9_isSoAt_20 {a0 a1 : Int} {K : am_K} {M : am_M} {Q : Option am_V → am_M → Prop} (k : am_AtN m9_isSoAt 21 [some (vi a0), some (vi a1), none] [vi 0] K M Q) : am_AtN m9_isSoAt 20 [some (vi a0), some (vi a1), none] [] K M Q := by
  refine s_iconst (show decode (am_cc m9_isSoAt) 20 = .ok (.iconst 0, 1) by decide +kernel) ⟨by decide, by decide⟩ ?_
  exact k
theorem g9_isSoAt_21 {a0 a1 t0 : Int} {K : am_K} {M : am_M} {Q : Option am_V → am_M → Prop} (k1 : t0 = 0 → am_AtN m9_isSoAt 40 [some (vi a0), some (vi a1), some (vi t0)] [] K M Q) (k2 : ¬ (t0 = 0) → am_AtN m9_isSoAt 26 [some (vi a0), some (vi a1), some (vi t0)] [] K M Q) : am_AtN m9_isSoAt 21 [some (vi a0), some (vi a1), none] [vi t0] K M Q := by
  refine s_istore_n (show decode (am_cc m9_isSoAt) 21 = .ok (.istore_n 2, 1) by decide +kernel) (by decide) ?_
  refine s_iload_n (show decode (am_cc m9_isSoAt) 22 = .ok (.iload_n 2, 1) by decide +kernel) rfl ?_
  exact s_if_eq (tgt := 40) (show decode (am_cc m9_isSoAt) 23 = .ok (.ifCond .eq 17, 3) by decide +kernel) (by decide) k1 k2
theorem g9_isSoAt_26 {a0 a1 a2 : Int} {K : am_K} {M : am_M} {Q : Option am_V → am_M → Prop} (k1 : ¬ a1 = 9 → am_AtN m9_isSoAt 36 [some (vi a0), some (vi a1), some (vi a2)] [] K M Q) (k2 : a1 = 9 → am_AtN m9_isSoAt 32 [some (vi a0), some (vi a1), some (vi a2)] [] K M Q) : am_AtN m9_isSoAt 26 [some (vi a0), some (vi a1), some (vi a2)] [] K M Q := by
  refine s_iload_n (show decode (am_cc m9_isSoAt) 26 = .ok (.iload_n 1, 1) by decide +kernel) rfl ?_
  refine s_bipush (show decode (am_cc m9_isSoAt) 27 = .ok (.bipush 9, 2) by decide +kernel) ⟨by decide, by decide⟩ (by decide) ?_
  exact s_icmp_ne (tgt := 36) (show decode (am_cc m9_isSoAt) 29 = .ok (.if_icmp .ne 7, 3) by decide +kernel) (by decide) k1 k2
theorem g9_isSoAt_32 {a0 a1 a2 : Int} {K : am_K} {M : am_M} {Q : Option am_V → am_M → Prop} (k : am_AtN m9_isSoAt 68 [some (vi a0), some (vi a1), some (vi a2)] [vi 1] K M Q) : am_AtN m9_isSoAt 32 [some (vi a0), some (vi a1), some (vi a2)] [] K M Q := by
  refine s_iconst (show decode (am_cc m9_isSoAt) 32 = .ok (.iconst 1, 1) by decide +kernel) ⟨by decide, by decide⟩ ?_
  refine s_goto (tgt := 68) (show decode (am_cc m9_isSoAt) 33 = .ok (.goto 35, 3) by decide +kernel) (by decide) ?_
  exact k
theorem g9_isSoAt_36 {a0 a1 a2 : Int} {K : am_K} {M : am_M} {Q : Option am_V → am_M → Prop} (k : am_AtN m9_isSoAt 68 [some (vi a0), some (vi a1), some (vi a2)] [vi 0] K M Q) : am_AtN m9_isSoAt 36 [some (vi a0), some (vi a1), some (vi a2)] [] K M Q := by
  refine s_iconst (show decode (am_cc m9_isSoAt) 36 = .ok (.iconst 0, 1) by decide +kernel) ⟨by decide, by decide⟩ ?_
  refine s_goto (tgt := 68) (show decode (am_cc m9_isSoAt) 37 = .ok (.goto 31, 3) by decide +kernel) (by decide) ?_
  exact k
theorem g9_isSoAt_40 {a0 a1 a2 : Int} {K : am_K} {M : am_M} {Q : Option am_V → am_M → Prop} (k1 : ¬ a0 = 3 → am_AtN m9_isSoAt 57 [some (vi a0), some (vi a1), some (vi a2)] [] K M Q) (k2 : a0 = 3 → am_AtN m9_isSoAt 45 [some (vi a0), some (vi a1), some (vi a2)] [] K M Q) : am_AtN m9_isSoAt 40 [some (vi a0), some (vi a1), some (vi a2)] [] K M Q := by
  refine s_iload_n (show decode (am_cc m9_isSoAt) 40 = .ok (.iload_n 0, 1) by decide +kernel) rfl ?_
  refine s_iconst (show decode (am_cc m9_isSoAt) 41 = .ok (.iconst 3, 1) by decide +kernel) ⟨by decide, by decide⟩ ?_
  exact s_icmp_ne (tgt := 57) (show decode (am_cc m9_isSoAt) 42 = .ok (.if_icmp .ne 15, 3) by decide +kernel) (by decide) k1 k2
theorem g9_isSoAt_45 {a0 a1 a2 : Int} {K : am_K} {M : am_M} {Q : Option am_V → am_M → Prop} (k1 : ¬ a1 = 0 → am_AtN m9_isSoAt 53 [some (vi a0), some (vi a1), some (vi a2)] [] K M Q) (k2 : a1 = 0 → am_AtN m9_isSoAt 49 [some (vi a0), some (vi a1), some (vi a2)] [] K M Q) : am_AtN m9_isSoAt 45 [some (vi a0), some (vi a1), some (vi a2)] [] K M Q := by
  refine s_iload_n (show decode (am_cc m9_isSoAt) 45 = .ok (.iload_n 1, 1) by decide +kernel) rfl ?_
  exact s_if_ne (tgt := 53) (show decode (am_cc m9_isSoAt) 46 = .ok (.ifCond .ne 7, 3) by decide +kernel) (by decide) k1 k2
theorem g9_isSoAt_49 {a0 a1 a2 : Int} {K : am_K} {M : am_M} {Q : Option am_V → am_M → Prop} (k : am_AtN m9_isSoAt 68 [some (vi a0), some (vi a1), some (vi a2)] [vi 1] K M Q) : am_AtN m9_isSoAt 49 [some (vi a0), some (vi a1), some (vi a2)] [] K M Q := by
  refine s_iconst (show decode (am_cc m9_isSoAt) 49 = .ok (.iconst 1, 1) by decide +kernel) ⟨by decide, by decide⟩ ?_
  refine s_goto (tgt := 68) (show decode (am_cc m9_isSoAt) 50 = .ok (.goto 18, 3) by decide +kernel) (by decide) ?_
  exact k
theorem g9_isSoAt_53 {a0 a1 a2 : Int} {K : am_K} {M : am_M} {Q : Option am_V → am_M → Prop} (k : am_AtN m9_isSoAt 68 [some (vi a0), some (vi a1), some (vi a2)] [vi 0] K M Q) : am_AtN m9_isSoAt 53 [some (vi a0), some (vi a1), some (vi a2)] [] K M Q := by
  refine s_iconst (show decode (am_cc m9_isSoAt) 53 = .ok (.iconst 0, 1) by decide +kernel) ⟨by decide, by decide⟩ ?_
  refine s_goto (tgt := 68) (show decode (am_cc m9_isSoAt) 54 = .ok (.goto 14, 3) by decide +kernel) (by decide) ?_
  exact k
theorem g9_isSoAt_57 {a0 a1 a2 : Int} {K : am_K} {M : am_M} {Q : Option am_V → am_M → Prop} (k1 : a1 = 8 → am_AtN m9_isSoAt 67 [some (vi a0), some (vi a1), some (vi a2)] [] K M Q) (k2 : ¬ (a1 = 8) → am_AtN m9_isSoAt 63 [some (vi a0), some (vi a1), some (vi a2)] [] K M Q) : am_AtN m9_isSoAt 57 [some (vi a0), some (vi a1), some (vi a2)] [] K M Q := by
  refine s_iload_n (show decode (am_cc m9_isSoAt) 57 = .ok (.iload_n 1, 1) by decide +kernel) rfl ?_
  refine s_bipush (show decode (am_cc m9_isSoAt) 58 = .ok (.bipush 8, 2) by decide +kernel) ⟨by decide, by decide⟩ (by decide) ?_
  exact s_icmp_eq (tgt := 67) (show decode (am_cc m9_isSoAt) 60 = .ok (.if_icmp .eq 7, 3) by decide +kernel) (by decide) k1 k2
theorem g9_isSoAt_63 {a0 a1 a2 : Int} {K : am_K} {M : am_M} {Q : Option am_V → am_M → Prop} (k : am_AtN m9_isSoAt 68 [some (vi a0), some (vi a1), some (vi a2)] [vi 1] K M Q) : am_AtN m9_isSoAt 63 [some (vi a0), some (vi a1), some (vi a2)] [] K M Q := by
  refine s_iconst (show decode (am_cc m9_isSoAt) 63 = .ok (.iconst 1, 1) by decide +kernel) ⟨by decide, by decide⟩ ?_
  refine s_goto (tgt := 68) (show decode (am_cc m9_isSoAt) 64 = .ok (.goto 4, 3) by decide +kernel) (by decide) ?_
  exact k
theorem g9_isSoAt_67 {a0 a1 a2 : Int} {K : am_K} {M : am_M} {Q : Option am_V → am_M → Prop} (k : am_AtN m9_isSoAt 68 [some (vi a0), some (vi a1), some (vi a2)] [vi 0] K M Q) : am_AtN m9_isSoAt 67 [some (vi a0), some (vi a1), some (vi a2)] [] K M Q := by
  refine s_iconst (show decode (am_cc m9_isSoAt) 67 = .ok (.iconst 0, 1) by decide +kernel) ⟨by decide, by decide⟩ ?_
  exact k
theorem g9_isSoAt_68 {a0 a1 a2 t0 : Int} {K : am_K} {M : am_M} {Q : Option am_V → am_M → Prop} (h1 : t0 = 0 ∨ t0 = 1) (k : Q (some (vi t0)) M) : am_AtN m9_isSoAt 68 [some (vi a0), some (vi a1), some (vi a2)] [vi t0] K M Q := by
  exact s_zreturn (show decode (am_cc m9_isSoAt) 68 = .ok (.ireturn, 1) by decide +kernel) rfl h1 k
theorem g9_make_0 {a1 a2 a3 : Int} {M : am_M} {Q : Option am_V → am_M → Prop} (k : am_CallN m9_noSentence [vi a1] KS (am_up M 86 0 0) (fun r M' => am_AtN m9_make 9 [some (vr 86), some (vi a1), some (vi a2), some (vi a3), none, none, none, none, none, none] (r.toList ++ []) KS M' Q)) : am_AtN m9_make 0 [some (vr 86), some (vi a1), some (vi a2), some (vi a3), none, none, none, none, none, none] [] KS M Q := by
  refine s_aload_n (show decode (am_cc m9_make) 0 = .ok (.aload_n 0, 1) by decide +kernel) rfl ?_
  refine s_iconst (show decode (am_cc m9_make) 1 = .ok (.iconst 0, 1) by decide +kernel) ⟨by decide, by decide⟩ ?_
  refine s_putf (k := 0) (x := 0) (ty0 := tyX9) (show decode (am_cc m9_make) 2 = .ok (.putfield 95, 3) by decide +kernel) kd86 (by decide) rfl jnX9 tyX9_ok nmX9 (by decide) lf_RX9_95 rfl (Or.inl ⟨rfl, rfl, rfl⟩) ?_
  refine s_iload_n (show decode (am_cc m9_make) 5 = .ok (.iload_n 1, 1) by decide +kernel) rfl ?_
  exact n_callS (as := [vi a1]) (stk := []) (show decode (am_cc m9_make) 6 = .ok (.invokestatic 122, 3) by decide +kernel) lk_RX9_122 (by decide) (Nat.le_of_ble_eq_true rfl) ⟨rfl, rfl⟩ k
theorem g9_make_9 {a1 a2 a3 t0 : Int} {M : am_M} {Q : Option am_V → am_M → Prop} (k1 : t0 = 0 → am_AtN m9_make 14 [some (vr 86), some (vi a1), some (vi a2), some (vi a3), none, none, none, none, none, none] [] KS M Q) (k2 : ¬ (t0 = 0) → am_AtN m9_make 12 [some (vr 86), some (vi a1), some (vi a2), some (vi a3), none, none, none, none, none, none] [] KS M Q) : am_AtN m9_make 9 [some (vr 86), some (vi a1), some (vi a2), some (vi a3), none, none, none, none, none, none] [vi t0] KS M Q := by
  exact s_if_eq (tgt := 14) (show decode (am_cc m9_make) 9 = .ok (.ifCond .eq 5, 3) by decide +kernel) (by decide) k1 k2
theorem g9_make_12 {a1 a2 a3 : Int} {M : am_M} {Q : Option am_V → am_M → Prop} (k : Q (some (vi (-1))) M) : am_AtN m9_make 12 [some (vr 86), some (vi a1), some (vi a2), some (vi a3), none, none, none, none, none, none] [] KS M Q := by
  refine s_iconst (show decode (am_cc m9_make) 12 = .ok (.iconst (-1), 1) by decide +kernel) ⟨by decide, by decide⟩ ?_
  exact s_ireturn (show decode (am_cc m9_make) 13 = .ok (.ireturn, 1) by decide +kernel) rfl k
theorem g9_make_14 {a1 a2 a3 : Int} {M : am_M} {Q : Option am_V → am_M → Prop} (k : am_CallN m9_in [vl a2, vl 0, vl 7] KS M (fun r M' => am_AtN m9_make 23 [some (vr 86), some (vi a1), some (vi a2), some (vi a3), none, none, none, none, none, none] (r.toList ++ []) KS M' Q)) : am_AtN m9_make 14 [some (vr 86), some (vi a1), some (vi a2), some (vi a3), none, none, none, none, none, none] [] KS M Q := by
  refine s_iload_n (show decode (am_cc m9_make) 14 = .ok (.iload_n 2, 1) by decide +kernel) rfl ?_
  refine s_i2l (show decode (am_cc m9_make) 15 = .ok (.i2l, 1) by decide +kernel) ?_
  refine s_lconst (v := 0) (show decode (am_cc m9_make) 16 = .ok (.lconst 0, 1) by decide +kernel) (by decide) ⟨by decide, by decide⟩ ?_
  refine s_ldc2 (show decode (am_cc m9_make) 17 = .ok (.ldc2_w 108, 3) by decide +kernel) lc_RX9_108 ⟨by decide, by decide⟩ ?_
  exact n_callS (as := [vl a2, vl 0, vl 7]) (stk := []) (show decode (am_cc m9_make) 20 = .ok (.invokestatic 110, 3) by decide +kernel) lk_RX9_110 (by decide) (Nat.le_of_ble_eq_true rfl) ⟨rfl, rfl⟩ k
theorem g9_make_23 {a1 a2 a3 t0 : Int} {M : am_M} {Q : Option am_V → am_M → Prop} (k1 : ¬ t0 = 0 → am_AtN m9_make 29 [some (vr 86), some (vi a1), some (vi a2), some (vi a3), none, none, none, none, none, none] [] KS M Q) (k2 : t0 = 0 → am_AtN m9_make 26 [some (vr 86), some (vi a1), some (vi a2), some (vi a3), none, none, none, none, none, none] [] KS M Q) : am_AtN m9_make 23 [some (vr 86), some (vi a1), some (vi a2), some (vi a3), none, none, none, none, none, none] [vi t0] KS M Q := by
  exact s_if_ne (tgt := 29) (show decode (am_cc m9_make) 23 = .ok (.ifCond .ne 6, 3) by decide +kernel) (by decide) k1 k2
theorem g9_make_26 {a1 a2 a3 : Int} {M : am_M} {Q : Option am_V → am_M → Prop} (k : Q (some (vi (-2))) M) : am_AtN m9_make 26 [some (vr 86), some (vi a1), some (vi a2), some (vi a3), none, none, none, none, none, none] [] KS M Q := by
  refine s_bipush (show decode (am_cc m9_make) 26 = .ok (.bipush (-2), 2) by decide +kernel) ⟨by decide, by decide⟩ (by decide) ?_
  exact s_ireturn (show decode (am_cc m9_make) 28 = .ok (.ireturn, 1) by decide +kernel) rfl k
theorem g9_make_29 {a1 a2 a3 : Int} {M : am_M} {Q : Option am_V → am_M → Prop} (k1 : a2 = 2 → am_AtN m9_make 50 [some (vr 86), some (vi a1), some (vi a2), some (vi a3), none, none, none, none, none, none] [] KS M Q) (k2 : ¬ (a2 = 2) → am_AtN m9_make 34 [some (vr 86), some (vi a1), some (vi a2), some (vi a3), none, none, none, none, none, none] [] KS M Q) : am_AtN m9_make 29 [some (vr 86), some (vi a1), some (vi a2), some (vi a3), none, none, none, none, none, none] [] KS M Q := by
  refine s_iload_n (show decode (am_cc m9_make) 29 = .ok (.iload_n 2, 1) by decide +kernel) rfl ?_
  refine s_iconst (show decode (am_cc m9_make) 30 = .ok (.iconst 2, 1) by decide +kernel) ⟨by decide, by decide⟩ ?_
  exact s_icmp_eq (tgt := 50) (show decode (am_cc m9_make) 31 = .ok (.if_icmp .eq 19, 3) by decide +kernel) (by decide) k1 k2
theorem g9_make_34 {a1 a2 a3 : Int} {M : am_M} {Q : Option am_V → am_M → Prop} (k1 : a2 = 4 → am_AtN m9_make 50 [some (vr 86), some (vi a1), some (vi a2), some (vi a3), none, none, none, none, none, none] [] KS M Q) (k2 : ¬ (a2 = 4) → am_AtN m9_make 39 [some (vr 86), some (vi a1), some (vi a2), some (vi a3), none, none, none, none, none, none] [] KS M Q) : am_AtN m9_make 34 [some (vr 86), some (vi a1), some (vi a2), some (vi a3), none, none, none, none, none, none] [] KS M Q := by
  refine s_iload_n (show decode (am_cc m9_make) 34 = .ok (.iload_n 2, 1) by decide +kernel) rfl ?_
  refine s_iconst (show decode (am_cc m9_make) 35 = .ok (.iconst 4, 1) by decide +kernel) ⟨by decide, by decide⟩ ?_
  exact s_icmp_eq (tgt := 50) (show decode (am_cc m9_make) 36 = .ok (.if_icmp .eq 14, 3) by decide +kernel) (by decide) k1 k2
theorem g9_make_39 {a1 a2 a3 : Int} {M : am_M} {Q : Option am_V → am_M → Prop} (k1 : a2 = 5 → am_AtN m9_make 50 [some (vr 86), some (vi a1), some (vi a2), some (vi a3), none, none, none, none, none, none] [] KS M Q) (k2 : ¬ (a2 = 5) → am_AtN m9_make 44 [some (vr 86), some (vi a1), some (vi a2), some (vi a3), none, none, none, none, none, none] [] KS M Q) : am_AtN m9_make 39 [some (vr 86), some (vi a1), some (vi a2), some (vi a3), none, none, none, none, none, none] [] KS M Q := by
  refine s_iload_n (show decode (am_cc m9_make) 39 = .ok (.iload_n 2, 1) by decide +kernel) rfl ?_
  refine s_iconst (show decode (am_cc m9_make) 40 = .ok (.iconst 5, 1) by decide +kernel) ⟨by decide, by decide⟩ ?_
  exact s_icmp_eq (tgt := 50) (show decode (am_cc m9_make) 41 = .ok (.if_icmp .eq 9, 3) by decide +kernel) (by decide) k1 k2
theorem g9_make_44 {a1 a2 a3 : Int} {M : am_M} {Q : Option am_V → am_M → Prop} (k1 : ¬ a2 = 6 → am_AtN m9_make 54 [some (vr 86), some (vi a1), some (vi a2), some (vi a3), none, none, none, none, none, none] [] KS M Q) (k2 : a2 = 6 → am_AtN m9_make 50 [some (vr 86), some (vi a1), some (vi a2), some (vi a3), none, none, none, none, none, none] [] KS M Q) : am_AtN m9_make 44 [some (vr 86), some (vi a1), some (vi a2), some (vi a3), none, none, none, none, none, none] [] KS M Q := by
  refine s_iload_n (show decode (am_cc m9_make) 44 = .ok (.iload_n 2, 1) by decide +kernel) rfl ?_
  refine s_bipush (show decode (am_cc m9_make) 45 = .ok (.bipush 6, 2) by decide +kernel) ⟨by decide, by decide⟩ (by decide) ?_
  exact s_icmp_ne (tgt := 54) (show decode (am_cc m9_make) 47 = .ok (.if_icmp .ne 7, 3) by decide +kernel) (by decide) k1 k2
theorem g9_make_50 {a1 a2 a3 : Int} {M : am_M} {Q : Option am_V → am_M → Prop} (k : am_AtN m9_make 55 [some (vr 86), some (vi a1), some (vi a2), some (vi a3), none, none, none, none, none, none] [vi 1] KS M Q) : am_AtN m9_make 50 [some (vr 86), some (vi a1), some (vi a2), some (vi a3), none, none, none, none, none, none] [] KS M Q := by
  refine s_iconst (show decode (am_cc m9_make) 50 = .ok (.iconst 1, 1) by decide +kernel) ⟨by decide, by decide⟩ ?_
  refine s_goto (tgt := 55) (show decode (am_cc m9_make) 51 = .ok (.goto 4, 3) by decide +kernel) (by decide) ?_
  exact k
theorem g9_make_54 {a1 a2 a3 : Int} {M : am_M} {Q : Option am_V → am_M → Prop} (k : am_AtN m9_make 55 [some (vr 86), some (vi a1), some (vi a2), some (vi a3), none, none, none, none, none, none] [vi 0] KS M Q) : am_AtN m9_make 54 [some (vr 86), some (vi a1), some (vi a2), some (vi a3), none, none, none, none, none, none] [] KS M Q := by
  refine s_iconst (show decode (am_cc m9_make) 54 = .ok (.iconst 0, 1) by decide +kernel) ⟨by decide, by decide⟩ ?_
  exact k
theorem g9_make_55 {a1 a2 a3 t0 : Int} {M : am_M} {Q : Option am_V → am_M → Prop} (k1 : t0 = 0 → am_AtN m9_make 72 [some (vr 86), some (vi a1), some (vi a2), some (vi a3), some (vi t0), none, none, none, none, none] [] KS M Q) (k2 : ¬ (t0 = 0) → am_AtN m9_make 62 [some (vr 86), some (vi a1), some (vi a2), some (vi a3), some (vi t0), none, none, none, none, none] [] KS M Q) : am_AtN m9_make 55 [some (vr 86), some (vi a1), some (vi a2), some (vi a3), none, none, none, none, none, none] [vi t0] KS M Q := by
  refine s_istore (show decode (am_cc m9_make) 55 = .ok (.istore 4, 2) by decide +kernel) (by decide) ?_
  refine s_iload (show decode (am_cc m9_make) 57 = .ok (.iload 4, 2) by decide +kernel) rfl ?_
  exact s_if_eq (tgt := 72) (show decode (am_cc m9_make) 59 = .ok (.ifCond .eq 13, 3) by decide +kernel) (by decide) k1 k2
theorem g9_make_62 {a1 a2 a3 a4 : Int} {M : am_M} {Q : Option am_V → am_M → Prop} (k : am_CallN m9_noLetter [vr 86, vi a3] KS M (fun r M' => am_AtN m9_make 67 [some (vr 86), some (vi a1), some (vi a2), some (vi a3), some (vi a4), none, none, none, none, none] (r.toList ++ []) KS M' Q)) : am_AtN m9_make 62 [some (vr 86), some (vi a1), some (vi a2), some (vi a3), some (vi a4), none, none, none, none, none] [] KS M Q := by
  refine s_aload_n (show decode (am_cc m9_make) 62 = .ok (.aload_n 0, 1) by decide +kernel) rfl ?_
  refine s_iload_n (show decode (am_cc m9_make) 63 = .ok (.iload_n 3, 1) by decide +kernel) rfl ?_
  exact n_callV (as := [vi a3]) (stk := []) (show decode (am_cc m9_make) 64 = .ok (.invokevirtual 129, 3) by decide +kernel) lk_RX9_129 kd86 (by decide) rfl rfl (by decide) (Nat.le_of_ble_eq_true rfl) ⟨rfl, rfl⟩ k
theorem g9_make_67 {a1 a2 a3 a4 t0 : Int} {M : am_M} {Q : Option am_V → am_M → Prop} (k1 : t0 = 0 → am_AtN m9_make 72 [some (vr 86), some (vi a1), some (vi a2), some (vi a3), some (vi a4), none, none, none, none, none] [] KS M Q) (k2 : ¬ (t0 = 0) → am_AtN m9_make 70 [some (vr 86), some (vi a1), some (vi a2), some (vi a3), some (vi a4), none, none, none, none, none] [] KS M Q) : am_AtN m9_make 67 [some (vr 86), some (vi a1), some (vi a2), some (vi a3), some (vi a4), none, none, none, none, none] [vi t0] KS M Q := by
  exact s_if_eq (tgt := 72) (show decode (am_cc m9_make) 67 = .ok (.ifCond .eq 5, 3) by decide +kernel) (by decide) k1 k2
theorem g9_make_70 {a1 a2 a3 a4 : Int} {M : am_M} {Q : Option am_V → am_M → Prop} (k : Q (some (vi (-1))) M) : am_AtN m9_make 70 [some (vr 86), some (vi a1), some (vi a2), some (vi a3), some (vi a4), none, none, none, none, none] [] KS M Q := by
  refine s_iconst (show decode (am_cc m9_make) 70 = .ok (.iconst (-1), 1) by decide +kernel) ⟨by decide, by decide⟩ ?_
  exact s_ireturn (show decode (am_cc m9_make) 71 = .ok (.ireturn, 1) by decide +kernel) rfl k
theorem g9_make_72 {a1 a2 a3 a4 : Int} {M : am_M} {Q : Option am_V → am_M → Prop} (k1 : ¬ a2 = 3 → am_AtN m9_make 92 [some (vr 86), some (vi a1), some (vi a2), some (vi a3), some (vi a4), none, none, none, none, none] [] KS M Q) (k2 : a2 = 3 → am_AtN m9_make 77 [some (vr 86), some (vi a1), some (vi a2), some (vi a3), some (vi a4), none, none, none, none, none] [] KS M Q) : am_AtN m9_make 72 [some (vr 86), some (vi a1), some (vi a2), some (vi a3), some (vi a4), none, none, none, none, none] [] KS M Q := by
  refine s_iload_n (show decode (am_cc m9_make) 72 = .ok (.iload_n 2, 1) by decide +kernel) rfl ?_
  refine s_iconst (show decode (am_cc m9_make) 73 = .ok (.iconst 3, 1) by decide +kernel) ⟨by decide, by decide⟩ ?_
  exact s_icmp_ne (tgt := 92) (show decode (am_cc m9_make) 74 = .ok (.if_icmp .ne 18, 3) by decide +kernel) (by decide) k1 k2
theorem g9_make_77 {a1 a2 a3 a4 : Int} {M : am_M} {Q : Option am_V → am_M → Prop} (k : am_CallN m9_in [vl a3, vl 1, vl 6] KS M (fun r M' => am_AtN m9_make 86 [some (vr 86), some (vi a1), some (vi a2), some (vi a3), some (vi a4), none, none, none, none, none] (r.toList ++ []) KS M' Q)) : am_AtN m9_make 77 [some (vr 86), some (vi a1), some (vi a2), some (vi a3), some (vi a4), none, none, none, none, none] [] KS M Q := by
  refine s_iload_n (show decode (am_cc m9_make) 77 = .ok (.iload_n 3, 1) by decide +kernel) rfl ?_
  refine s_i2l (show decode (am_cc m9_make) 78 = .ok (.i2l, 1) by decide +kernel) ?_
  refine s_lconst (v := 1) (show decode (am_cc m9_make) 79 = .ok (.lconst 1, 1) by decide +kernel) (by decide) ⟨by decide, by decide⟩ ?_
  refine s_ldc2 (show decode (am_cc m9_make) 80 = .ok (.ldc2_w 132, 3) by decide +kernel) lc_RX9_132 ⟨by decide, by decide⟩ ?_
  exact n_callS (as := [vl a3, vl 1, vl 6]) (stk := []) (show decode (am_cc m9_make) 83 = .ok (.invokestatic 110, 3) by decide +kernel) lk_RX9_110 (by decide) (Nat.le_of_ble_eq_true rfl) ⟨rfl, rfl⟩ k
theorem g9_make_86 {a1 a2 a3 a4 t0 : Int} {M : am_M} {Q : Option am_V → am_M → Prop} (k1 : ¬ t0 = 0 → am_AtN m9_make 92 [some (vr 86), some (vi a1), some (vi a2), some (vi a3), some (vi a4), none, none, none, none, none] [] KS M Q) (k2 : t0 = 0 → am_AtN m9_make 89 [some (vr 86), some (vi a1), some (vi a2), some (vi a3), some (vi a4), none, none, none, none, none] [] KS M Q) : am_AtN m9_make 86 [some (vr 86), some (vi a1), some (vi a2), some (vi a3), some (vi a4), none, none, none, none, none] [vi t0] KS M Q := by
  exact s_if_ne (tgt := 92) (show decode (am_cc m9_make) 86 = .ok (.ifCond .ne 6, 3) by decide +kernel) (by decide) k1 k2
theorem g9_make_89 {a1 a2 a3 a4 : Int} {M : am_M} {Q : Option am_V → am_M → Prop} (k : Q (some (vi (-2))) M) : am_AtN m9_make 89 [some (vr 86), some (vi a1), some (vi a2), some (vi a3), some (vi a4), none, none, none, none, none] [] KS M Q := by
  refine s_bipush (show decode (am_cc m9_make) 89 = .ok (.bipush (-2), 2) by decide +kernel) ⟨by decide, by decide⟩ (by decide) ?_
  exact s_ireturn (show decode (am_cc m9_make) 91 = .ok (.ireturn, 1) by decide +kernel) rfl k
theorem g9_make_92 {a1 a2 a3 a4 : Int} {M : am_M} {Q : Option am_V → am_M → Prop} (k : am_CallN m9_bare [vr 86, vi a1] KS M (fun r M' => am_AtN m9_make 97 [some (vr 86), some (vi a1), some (vi a2), some (vi a3), some (vi a4), none, none, none, none, none] (r.toList ++ []) KS M' Q)) : am_AtN m9_make 92 [some (vr 86), some (vi a1), some (vi a2), some (vi a3), some (vi a4), none, none, none, none, none] [] KS M Q := by
  refine s_aload_n (show decode (am_cc m9_make) 92 = .ok (.aload_n 0, 1) by decide +kernel) rfl ?_
  refine s_iload_n (show decode (am_cc m9_make) 93 = .ok (.iload_n 1, 1) by decide +kernel) rfl ?_
  exact n_callV (as := [vi a1]) (stk := []) (show decode (am_cc m9_make) 94 = .ok (.invokevirtual 102, 3) by decide +kernel) lk_RX9_102 kd86 (by decide) rfl rfl (by decide) (Nat.le_of_ble_eq_true rfl) ⟨rfl, rfl⟩ k
theorem g9_make_97 {a1 a2 a3 a4 : Int} {M : am_M} {Q : Option am_V → am_M → Prop} (k : am_AtN m9_make 110 [some (vr 86), some (vi a1), some (vi a2), some (vi a3), some (vi a4), some (vi 1), some (vi 0), none, none, none] [] KS (am_up M 90 0 0) Q) : am_AtN m9_make 97 [some (vr 86), some (vi a1), some (vi a2), some (vi a3), some (vi a4), none, none, none, none, none] [] KS M Q := by
  refine s_aload_n (show decode (am_cc m9_make) 97 = .ok (.aload_n 0, 1) by decide +kernel) rfl ?_
  refine s_getf (k := 5) (v := vr 90) (show decode (am_cc m9_make) 98 = .ok (.getfield 20, 3) by decide +kernel) kd86 (by decide) rfl jnX9 (by decide) lf_RX9_20 rfl ?_
  refine s_iconst (show decode (am_cc m9_make) 101 = .ok (.iconst 0, 1) by decide +kernel) ⟨by decide, by decide⟩ ?_
  refine s_iconst (show decode (am_cc m9_make) 102 = .ok (.iconst 0, 1) by decide +kernel) ⟨by decide, by decide⟩ ?_
  refine s_iastore (show decode (am_cc m9_make) 103 = .ok (.iastore, 1) by decide +kernel) kd90 (by decide) (by decide) ?_
  refine s_iconst (show decode (am_cc m9_make) 104 = .ok (.iconst 1, 1) by decide +kernel) ⟨by decide, by decide⟩ ?_
  refine s_istore (show decode (am_cc m9_make) 105 = .ok (.istore 5, 2) by decide +kernel) (by decide) ?_
  refine s_iconst (show decode (am_cc m9_make) 107 = .ok (.iconst 0, 1) by decide +kernel) ⟨by decide, by decide⟩ ?_
  refine s_istore (show decode (am_cc m9_make) 108 = .ok (.istore 6, 2) by decide +kernel) (by decide) ?_
  exact k
theorem g9_make_110 {a1 a2 a3 a4 a5 a6 : Int} {M : am_M} {Q : Option am_V → am_M → Prop} (k1 : a5 ≤ a6 → am_AtN m9_make 247 [some (vr 86), some (vi a1), some (vi a2), some (vi a3), some (vi a4), some (vi a5), some (vi a6), none, none, none] [] KS M Q) (k2 : ¬ (a5 ≤ a6) → am_AtN m9_make 117 [some (vr 86), some (vi a1), some (vi a2), some (vi a3), some (vi a4), some (vi a5), some (vi a6), none, none, none] [] KS M Q) : am_AtN m9_make 110 [some (vr 86), some (vi a1), some (vi a2), some (vi a3), some (vi a4), some (vi a5), some (vi a6), none, none, none] [] KS M Q := by
  refine s_iload (show decode (am_cc m9_make) 110 = .ok (.iload 6, 2) by decide +kernel) rfl ?_
  refine s_iload (show decode (am_cc m9_make) 112 = .ok (.iload 5, 2) by decide +kernel) rfl ?_
  exact s_icmp_ge (tgt := 247) (show decode (am_cc m9_make) 114 = .ok (.if_icmp .ge 133, 3) by decide +kernel) (by decide) k1 k2
theorem g9_make_117 {a1 a2 a3 a4 a5 a6 : Int} {M : am_M} {Q : Option am_V → am_M → Prop} (h1 : -2147483648 ≤ 6 * a1 ∧ 6 * a1 ≤ 2147483647) (h2 : -2147483648 ≤ (6 * a1) + a6 ∧ (6 * a1) + a6 ≤ 2147483647) (h3 : 0 ≤ a6) (h4 : a6 < 40) (k : am_CallN m9_isSoAt [vi a2, vi (M 90 a6)] KS M (fun r M' => am_AtN m9_make 139 [some (vr 86), some (vi a1), some (vi a2), some (vi a3), some (vi a4), some (vi a5), some (vi a6), none, none, none] (r.toList ++ [vi ((6 * a1) + a6), vr 88]) KS M' Q)) : am_AtN m9_make 117 [some (vr 86), some (vi a1), some (vi a2), some (vi a3), some (vi a4), some (vi a5), some (vi a6), none, none, none] [] KS M Q := by
  refine s_aload_n (show decode (am_cc m9_make) 117 = .ok (.aload_n 0, 1) by decide +kernel) rfl ?_
  refine s_getf (k := 3) (v := vr 88) (show decode (am_cc m9_make) 118 = .ok (.getfield 13, 3) by decide +kernel) kd86 (by decide) rfl jnX9 (by decide) lf_RX9_13 rfl ?_
  refine s_bipush (show decode (am_cc m9_make) 121 = .ok (.bipush 6, 2) by decide +kernel) ⟨by decide, by decide⟩ (by decide) ?_
  refine s_iload_n (show decode (am_cc m9_make) 123 = .ok (.iload_n 1, 1) by decide +kernel) rfl ?_
  refine s_imul (show decode (am_cc m9_make) 124 = .ok (.imul, 1) by decide +kernel) h1 ?_
  refine s_iload (show decode (am_cc m9_make) 125 = .ok (.iload 6, 2) by decide +kernel) rfl ?_
  refine s_iadd (show decode (am_cc m9_make) 127 = .ok (.iadd, 1) by decide +kernel) h2 ?_
  refine s_iload_n (show decode (am_cc m9_make) 128 = .ok (.iload_n 2, 1) by decide +kernel) rfl ?_
  refine s_aload_n (show decode (am_cc m9_make) 129 = .ok (.aload_n 0, 1) by decide +kernel) rfl ?_
  refine s_getf (k := 5) (v := vr 90) (show decode (am_cc m9_make) 130 = .ok (.getfield 20, 3) by decide +kernel) kd86 (by decide) rfl jnX9 (by decide) lf_RX9_20 rfl ?_
  refine s_iload (show decode (am_cc m9_make) 133 = .ok (.iload 6, 2) by decide +kernel) rfl ?_
  refine s_iaload (show decode (am_cc m9_make) 135 = .ok (.iaload, 1) by decide +kernel) kd90 h3 h4 ?_
  exact n_callS (as := [vi a2, vi (M 90 a6)]) (stk := [vi ((6 * a1) + a6), vr 88]) (show decode (am_cc m9_make) 136 = .ok (.invokestatic 134, 3) by decide +kernel) lk_RX9_134 (by decide) (Nat.le_of_ble_eq_true rfl) ⟨rfl, rfl⟩ k
theorem g9_make_139 {a1 a2 a3 a4 a5 a6 t0 t1 t2 : Int} {M : am_M} {Q : Option am_V → am_M → Prop} {n0 : Nat} {q0 : List Int} (h1 : am_kd KS t0 = some (12, n0, q0)) (h2 : 0 ≤ t1) (h3 : t1 < (n0 : Int)) (h4 : t2 = 0 ∨ t2 = 1) (k : am_AtN m9_make 143 [some (vr 86), some (vi a1), some (vi a2), some (vi a3), some (vi a4), some (vi a5), some (vi a6), some (vi 0), none, none] [] KS (am_up M t0 t1 t2) Q) : am_AtN m9_make 139 [some (vr 86), some (vi a1), some (vi a2), some (vi a3), some (vi a4), some (vi a5), some (vi a6), none, none, none] [vi t2, vi t1, vr t0] KS M Q := by
  refine s_bastore (show decode (am_cc m9_make) 139 = .ok (.bastore, 1) by decide +kernel) h1 h2 h3 h4 ?_
  refine s_iconst (show decode (am_cc m9_make) 140 = .ok (.iconst 0, 1) by decide +kernel) ⟨by decide, by decide⟩ ?_
  refine s_istore (show decode (am_cc m9_make) 141 = .ok (.istore 7, 2) by decide +kernel) (by decide) ?_
  exact k
theorem g9_make_143 {a1 a2 a3 a4 a5 a6 a7 : Int} {M : am_M} {Q : Option am_V → am_M → Prop} (k1 : M 86 1 ≤ a7 → am_AtN m9_make 241 [some (vr 86), some (vi a1), some (vi a2), some (vi a3), some (vi a4), some (vi a5), some (vi a6), some (vi a7), none, none] [] KS M Q) (k2 : ¬ (M 86 1 ≤ a7) → am_AtN m9_make 152 [some (vr 86), some (vi a1), some (vi a2), some (vi a3), some (vi a4), some (vi a5), some (vi a6), some (vi a7), none, none] [] KS M Q) : am_AtN m9_make 143 [some (vr 86), some (vi a1), some (vi a2), some (vi a3), some (vi a4), some (vi a5), some (vi a6), some (vi a7), none, none] [] KS M Q := by
  refine s_iload (show decode (am_cc m9_make) 143 = .ok (.iload 7, 2) by decide +kernel) rfl ?_
  refine s_aload_n (show decode (am_cc m9_make) 145 = .ok (.aload_n 0, 1) by decide +kernel) rfl ?_
  refine s_getf (k := 1) (v := vi (M 86 1)) (show decode (am_cc m9_make) 146 = .ok (.getfield 99, 3) by decide +kernel) kd86 (by decide) rfl jnX9 (by decide) lf_RX9_99 rfl ?_
  exact s_icmp_ge (tgt := 241) (show decode (am_cc m9_make) 149 = .ok (.if_icmp .ge 92, 3) by decide +kernel) (by decide) k1 k2
theorem g9_make_152 {a1 a2 a3 a4 a5 a6 a7 : Int} {M : am_M} {Q : Option am_V → am_M → Prop} (h1 : 0 ≤ a6) (h2 : a6 < 40) (k : am_CallN m9_leads [vr 86, vi a2, vi a3, vi (M 90 a6), vi a7] KS M (fun r M' => am_AtN m9_make 167 [some (vr 86), some (vi a1), some (vi a2), some (vi a3), some (vi a4), some (vi a5), some (vi a6), some (vi a7), none, none] (r.toList ++ []) KS M' Q)) : am_AtN m9_make 152 [some (vr 86), some (vi a1), some (vi a2), some (vi a3), some (vi a4), some (vi a5), some (vi a6), some (vi a7), none, none] [] KS M Q := by
  refine s_aload_n (show decode (am_cc m9_make) 152 = .ok (.aload_n 0, 1) by decide +kernel) rfl ?_
  refine s_iload_n (show decode (am_cc m9_make) 153 = .ok (.iload_n 2, 1) by decide +kernel) rfl ?_
  refine s_iload_n (show decode (am_cc m9_make) 154 = .ok (.iload_n 3, 1) by decide +kernel) rfl ?_
  refine s_aload_n (show decode (am_cc m9_make) 155 = .ok (.aload_n 0, 1) by decide +kernel) rfl ?_
  refine s_getf (k := 5) (v := vr 90) (show decode (am_cc m9_make) 156 = .ok (.getfield 20, 3) by decide +kernel) kd86 (by decide) rfl jnX9 (by decide) lf_RX9_20 rfl ?_
  refine s_iload (show decode (am_cc m9_make) 159 = .ok (.iload 6, 2) by decide +kernel) rfl ?_
  refine s_iaload (show decode (am_cc m9_make) 161 = .ok (.iaload, 1) by decide +kernel) kd90 h1 h2 ?_
  refine s_iload (show decode (am_cc m9_make) 162 = .ok (.iload 7, 2) by decide +kernel) rfl ?_
  exact n_callV (as := [vi a2, vi a3, vi (M 90 a6), vi a7]) (stk := []) (show decode (am_cc m9_make) 164 = .ok (.invokevirtual 138, 3) by decide +kernel) lk_RX9_138 kd86 (by decide) rfl rfl (by decide) (Nat.le_of_ble_eq_true rfl) ⟨rfl, rfl⟩ k
theorem g9_make_167 {a1 a2 a3 a4 a5 a6 a7 t0 : Int} {M : am_M} {Q : Option am_V → am_M → Prop} (k : am_AtN m9_make 172 [some (vr 86), some (vi a1), some (vi a2), some (vi a3), some (vi a4), some (vi a5), some (vi a6), some (vi a7), some (vi t0), some (vi 0)] [] KS M Q) : am_AtN m9_make 167 [some (vr 86), some (vi a1), some (vi a2), some (vi a3), some (vi a4), some (vi a5), some (vi a6), some (vi a7), none, none] [vi t0] KS M Q := by
  refine s_istore (show decode (am_cc m9_make) 167 = .ok (.istore 8, 2) by decide +kernel) (by decide) ?_
  refine s_iconst (show decode (am_cc m9_make) 169 = .ok (.iconst 0, 1) by decide +kernel) ⟨by decide, by decide⟩ ?_
  refine s_istore (show decode (am_cc m9_make) 170 = .ok (.istore 9, 2) by decide +kernel) (by decide) ?_
  exact k
theorem g9_make_172 {a1 a2 a3 a4 a5 a6 a7 a8 a9 : Int} {M : am_M} {Q : Option am_V → am_M → Prop} (k1 : a5 ≤ a9 → am_AtN m9_make 197 [some (vr 86), some (vi a1), some (vi a2), some (vi a3), some (vi a4), some (vi a5), some (vi a6), some (vi a7), some (vi a8), some (vi a9)] [] KS M Q) (k2 : ¬ (a5 ≤ a9) → am_AtN m9_make 179 [some (vr 86), some (vi a1), some (vi a2), some (vi a3), some (vi a4), some (vi a5), some (vi a6), some (vi a7), some (vi a8), some (vi a9)] [] KS M Q) : am_AtN m9_make 172 [some (vr 86), some (vi a1), some (vi a2), some (vi a3), some (vi a4), some (vi a5), some (vi a6), some (vi a7), some (vi a8), some (vi a9)] [] KS M Q := by
  refine s_iload (show decode (am_cc m9_make) 172 = .ok (.iload 9, 2) by decide +kernel) rfl ?_
  refine s_iload (show decode (am_cc m9_make) 174 = .ok (.iload 5, 2) by decide +kernel) rfl ?_
  exact s_icmp_ge (tgt := 197) (show decode (am_cc m9_make) 176 = .ok (.if_icmp .ge 21, 3) by decide +kernel) (by decide) k1 k2
theorem g9_make_179 {a1 a2 a3 a4 a5 a6 a7 a8 a9 : Int} {M : am_M} {Q : Option am_V → am_M → Prop} (h1 : 0 ≤ a9) (h2 : a9 < 40) (k1 : M 90 a9 = a8 → am_AtN m9_make 197 [some (vr 86), some (vi a1), some (vi a2), some (vi a3), some (vi a4), some (vi a5), some (vi a6), some (vi a7), some (vi a8), some (vi a9)] [] KS M Q) (k2 : ¬ (M 90 a9 = a8) → am_AtN m9_make 191 [some (vr 86), some (vi a1), some (vi a2), some (vi a3), some (vi a4), some (vi a5), some (vi a6), some (vi a7), some (vi a8), some (vi a9)] [] KS M Q) : am_AtN m9_make 179 [some (vr 86), some (vi a1), some (vi a2), some (vi a3), some (vi a4), some (vi a5), some (vi a6), some (vi a7), some (vi a8), some (vi a9)] [] KS M Q := by
  refine s_aload_n (show decode (am_cc m9_make) 179 = .ok (.aload_n 0, 1) by decide +kernel) rfl ?_
  refine s_getf (k := 5) (v := vr 90) (show decode (am_cc m9_make) 180 = .ok (.getfield 20, 3) by decide +kernel) kd86 (by decide) rfl jnX9 (by decide) lf_RX9_20 rfl ?_
  refine s_iload (show decode (am_cc m9_make) 183 = .ok (.iload 9, 2) by decide +kernel) rfl ?_
  refine s_iaload (show decode (am_cc m9_make) 185 = .ok (.iaload, 1) by decide +kernel) kd90 h1 h2 ?_
  refine s_iload (show decode (am_cc m9_make) 186 = .ok (.iload 8, 2) by decide +kernel) rfl ?_
  exact s_icmp_eq (tgt := 197) (show decode (am_cc m9_make) 188 = .ok (.if_icmp .eq 9, 3) by decide +kernel) (by decide) k1 k2
theorem g9_make_191 {a1 a2 a3 a4 a5 a6 a7 a8 a9 : Int} {M : am_M} {Q : Option am_V → am_M → Prop} (h1 : -2147483648 ≤ a9 + 1 ∧ a9 + 1 ≤ 2147483647) (k : am_AtN m9_make 172 [some (vr 86), some (vi a1), some (vi a2), some (vi a3), some (vi a4), some (vi a5), some (vi a6), some (vi a7), some (vi a8), some (vi (a9 + 1))] [] KS M Q) : am_AtN m9_make 191 [some (vr 86), some (vi a1), some (vi a2), some (vi a3), some (vi a4), some (vi a5), some (vi a6), some (vi a7), some (vi a8), some (vi a9)] [] KS M Q := by
  refine s_iinc (show decode (am_cc m9_make) 191 = .ok (.iinc 9 1, 3) by decide +kernel) rfl (by decide) h1 ?_
  refine s_goto (tgt := 172) (show decode (am_cc m9_make) 194 = .ok (.goto (-22), 3) by decide +kernel) (by decide) ?_
  exact k
theorem g9_make_197 {a1 a2 a3 a4 a5 a6 a7 a8 a9 : Int} {M : am_M} {Q : Option am_V → am_M → Prop} (k1 : ¬ a9 = a5 → am_AtN m9_make 216 [some (vr 86), some (vi a1), some (vi a2), some (vi a3), some (vi a4), some (vi a5), some (vi a6), some (vi a7), some (vi a8), some (vi a9)] [] KS M Q) (k2 : a9 = a5 → am_AtN m9_make 204 [some (vr 86), some (vi a1), some (vi a2), some (vi a3), some (vi a4), some (vi a5), some (vi a6), some (vi a7), some (vi a8), some (vi a9)] [] KS M Q) : am_AtN m9_make 197 [some (vr 86), some (vi a1), some (vi a2), some (vi a3), some (vi a4), some (vi a5), some (vi a6), some (vi a7), some (vi a8), some (vi a9)] [] KS M Q := by
  refine s_iload (show decode (am_cc m9_make) 197 = .ok (.iload 9, 2) by decide +kernel) rfl ?_
  refine s_iload (show decode (am_cc m9_make) 199 = .ok (.iload 5, 2) by decide +kernel) rfl ?_
  exact s_icmp_ne (tgt := 216) (show decode (am_cc m9_make) 201 = .ok (.if_icmp .ne 15, 3) by decide +kernel) (by decide) k1 k2
theorem g9_make_204 {a1 a2 a3 a4 a5 a6 a7 a8 a9 : Int} {M : am_M} {Q : Option am_V → am_M → Prop} (h1 : 0 ≤ a5) (h2 : a5 < 40) (h3 : -2147483648 ≤ a5 + 1 ∧ a5 + 1 ≤ 2147483647) (k : am_AtN m9_make 216 [some (vr 86), some (vi a1), some (vi a2), some (vi a3), some (vi a4), some (vi (a5 + 1)), some (vi a6), some (vi a7), some (vi a8), some (vi a9)] [] KS (am_up M 90 a5 a8) Q) : am_AtN m9_make 204 [some (vr 86), some (vi a1), some (vi a2), some (vi a3), some (vi a4), some (vi a5), some (vi a6), some (vi a7), some (vi a8), some (vi a9)] [] KS M Q := by
  refine s_aload_n (show decode (am_cc m9_make) 204 = .ok (.aload_n 0, 1) by decide +kernel) rfl ?_
  refine s_getf (k := 5) (v := vr 90) (show decode (am_cc m9_make) 205 = .ok (.getfield 20, 3) by decide +kernel) kd86 (by decide) rfl jnX9 (by decide) lf_RX9_20 rfl ?_
  refine s_iload (show decode (am_cc m9_make) 208 = .ok (.iload 5, 2) by decide +kernel) rfl ?_
  refine s_iload (show decode (am_cc m9_make) 210 = .ok (.iload 8, 2) by decide +kernel) rfl ?_
  refine s_iastore (show decode (am_cc m9_make) 212 = .ok (.iastore, 1) by decide +kernel) kd90 h1 h2 ?_
  refine s_iinc (show decode (am_cc m9_make) 213 = .ok (.iinc 5 1, 3) by decide +kernel) rfl (by decide) h3 ?_
  exact k
theorem g9_make_216 {a1 a2 a3 a4 a5 a6 a7 a8 a9 : Int} {M : am_M} {Q : Option am_V → am_M → Prop} (h1 : -2147483648 ≤ 24 * a1 ∧ 24 * a1 ≤ 2147483647) (h2 : -2147483648 ≤ 4 * a6 ∧ 4 * a6 ≤ 2147483647) (h3 : -2147483648 ≤ (24 * a1) + (4 * a6) ∧ (24 * a1) + (4 * a6) ≤ 2147483647) (h4 : -2147483648 ≤ ((24 * a1) + (4 * a6)) + a7 ∧ ((24 * a1) + (4 * a6)) + a7 ≤ 2147483647) (h5 : 0 ≤ ((24 * a1) + (4 * a6)) + a7) (h6 : ((24 * a1) + (4 * a6)) + a7 < 192) (h7 : -2147483648 ≤ a7 + 1 ∧ a7 + 1 ≤ 2147483647) (k : am_AtN m9_make 143 [some (vr 86), some (vi a1), some (vi a2), some (vi a3), some (vi a4), some (vi a5), some (vi a6), some (vi (a7 + 1)), none, none] [] KS (am_up M 87 (((24 * a1) + (4 * a6)) + a7) a9) Q) : am_AtN m9_make 216 [some (vr 86), some (vi a1), some (vi a2), some (vi a3), some (vi a4), some (vi a5), some (vi a6), some (vi a7), some (vi a8), some (vi a9)] [] KS M Q := by
  refine s_aload_n (show decode (am_cc m9_make) 216 = .ok (.aload_n 0, 1) by decide +kernel) rfl ?_
  refine s_getf (k := 2) (v := vr 87) (show decode (am_cc m9_make) 217 = .ok (.getfield 7, 3) by decide +kernel) kd86 (by decide) rfl jnX9 (by decide) lf_RX9_7 rfl ?_
  refine s_bipush (show decode (am_cc m9_make) 220 = .ok (.bipush 24, 2) by decide +kernel) ⟨by decide, by decide⟩ (by decide) ?_
  refine s_iload_n (show decode (am_cc m9_make) 222 = .ok (.iload_n 1, 1) by decide +kernel) rfl ?_
  refine s_imul (show decode (am_cc m9_make) 223 = .ok (.imul, 1) by decide +kernel) h1 ?_
  refine s_iconst (show decode (am_cc m9_make) 224 = .ok (.iconst 4, 1) by decide +kernel) ⟨by decide, by decide⟩ ?_
  refine s_iload (show decode (am_cc m9_make) 225 = .ok (.iload 6, 2) by decide +kernel) rfl ?_
  refine s_imul (show decode (am_cc m9_make) 227 = .ok (.imul, 1) by decide +kernel) h2 ?_
  refine s_iadd (show decode (am_cc m9_make) 228 = .ok (.iadd, 1) by decide +kernel) h3 ?_
  refine s_iload (show decode (am_cc m9_make) 229 = .ok (.iload 7, 2) by decide +kernel) rfl ?_
  refine s_iadd (show decode (am_cc m9_make) 231 = .ok (.iadd, 1) by decide +kernel) h4 ?_
  refine s_iload (show decode (am_cc m9_make) 232 = .ok (.iload 9, 2) by decide +kernel) rfl ?_
  refine s_iastore (show decode (am_cc m9_make) 234 = .ok (.iastore, 1) by decide +kernel) kd87 h5 h6 ?_
  refine s_iinc (show decode (am_cc m9_make) 235 = .ok (.iinc 7 1, 3) by decide +kernel) rfl (by decide) h7 ?_
  refine s_goto (tgt := 143) (show decode (am_cc m9_make) 238 = .ok (.goto (-95), 3) by decide +kernel) (by decide) ?_
  refine am_fg 8 ?_
  refine am_fg 9 ?_
  exact k
theorem g9_make_241 {a1 a2 a3 a4 a5 a6 a7 : Int} {M : am_M} {Q : Option am_V → am_M → Prop} (h1 : -2147483648 ≤ a6 + 1 ∧ a6 + 1 ≤ 2147483647) (k : am_AtN m9_make 110 [some (vr 86), some (vi a1), some (vi a2), some (vi a3), some (vi a4), some (vi a5), some (vi (a6 + 1)), none, none, none] [] KS M Q) : am_AtN m9_make 241 [some (vr 86), some (vi a1), some (vi a2), some (vi a3), some (vi a4), some (vi a5), some (vi a6), some (vi a7), none, none] [] KS M Q := by
  refine s_iinc (show decode (am_cc m9_make) 241 = .ok (.iinc 6 1, 3) by decide +kernel) rfl (by decide) h1 ?_
  refine s_goto (tgt := 110) (show decode (am_cc m9_make) 244 = .ok (.goto (-134), 3) by decide +kernel) (by decide) ?_
  refine am_fg 7 ?_
  exact k
theorem g9_make_247 {a1 a2 a3 a4 a5 a6 : Int} {M : am_M} {Q : Option am_V → am_M → Prop} (k : Q (some (vi a5)) M) : am_AtN m9_make 247 [some (vr 86), some (vi a1), some (vi a2), some (vi a3), some (vi a4), some (vi a5), some (vi a6), none, none, none] [] KS M Q := by
  refine s_iload (show decode (am_cc m9_make) 247 = .ok (.iload 5, 2) by decide +kernel) rfl ?_
  exact s_ireturn (show decode (am_cc m9_make) 249 = .ok (.ireturn, 1) by decide +kernel) rfl k
theorem g9_not_0 {a1 a2 : Int} {M : am_M} {Q : Option am_V → am_M → Prop} (k : am_CallN m9_noSentence [vi a1] KS (am_up M 86 0 0) (fun r M' => am_AtN m9_not 9 [some (vr 86), some (vi a1), some (vi a2), none, none] (r.toList ++ []) KS M' Q)) : am_AtN m9_not 0 [some (vr 86), some (vi a1), some (vi a2), none, none] [] KS M Q := by
  refine s_aload_n (show decode (am_cc m9_not) 0 = .ok (.aload_n 0, 1) by decide +kernel) rfl ?_
  refine s_iconst (show decode (am_cc m9_not) 1 = .ok (.iconst 0, 1) by decide +kernel) ⟨by decide, by decide⟩ ?_
  refine s_putf (k := 0) (x := 0) (ty0 := tyX9) (show decode (am_cc m9_not) 2 = .ok (.putfield 95, 3) by decide +kernel) kd86 (by decide) rfl jnX9 tyX9_ok nmX9 (by decide) lf_RX9_95 rfl (Or.inl ⟨rfl, rfl, rfl⟩) ?_
  refine s_iload_n (show decode (am_cc m9_not) 5 = .ok (.iload_n 1, 1) by decide +kernel) rfl ?_
  exact n_callS (as := [vi a1]) (stk := []) (show decode (am_cc m9_not) 6 = .ok (.invokestatic 122, 3) by decide +kernel) lk_RX9_122 (by decide) (Nat.le_of_ble_eq_true rfl) ⟨rfl, rfl⟩ k
theorem g9_not_9 {a1 a2 t0 : Int} {M : am_M} {Q : Option am_V → am_M → Prop} (k1 : ¬ t0 = 0 → am_AtN m9_not 19 [some (vr 86), some (vi a1), some (vi a2), none, none] [] KS M Q) (k2 : t0 = 0 → am_AtN m9_not 12 [some (vr 86), some (vi a1), some (vi a2), none, none] [] KS M Q) : am_AtN m9_not 9 [some (vr 86), some (vi a1), some (vi a2), none, none] [vi t0] KS M Q := by
  exact s_if_ne (tgt := 19) (show decode (am_cc m9_not) 9 = .ok (.ifCond .ne 10, 3) by decide +kernel) (by decide) k1 k2
theorem g9_not_12 {a1 a2 : Int} {M : am_M} {Q : Option am_V → am_M → Prop} (k : am_CallN m9_noSentence [vi a2] KS M (fun r M' => am_AtN m9_not 16 [some (vr 86), some (vi a1), some (vi a2), none, none] (r.toList ++ []) KS M' Q)) : am_AtN m9_not 12 [some (vr 86), some (vi a1), some (vi a2), none, none] [] KS M Q := by
  refine s_iload_n (show decode (am_cc m9_not) 12 = .ok (.iload_n 2, 1) by decide +kernel) rfl ?_
  exact n_callS (as := [vi a2]) (stk := []) (show decode (am_cc m9_not) 13 = .ok (.invokestatic 122, 3) by decide +kernel) lk_RX9_122 (by decide) (Nat.le_of_ble_eq_true rfl) ⟨rfl, rfl⟩ k
theorem g9_not_16 {a1 a2 t0 : Int} {M : am_M} {Q : Option am_V → am_M → Prop} (k1 : t0 = 0 → am_AtN m9_not 21 [some (vr 86), some (vi a1), some (vi a2), none, none] [] KS M Q) (k2 : ¬ (t0 = 0) → am_AtN m9_not 19 [some (vr 86), some (vi a1), some (vi a2), none, none] [] KS M Q) : am_AtN m9_not 16 [some (vr 86), some (vi a1), some (vi a2), none, none] [vi t0] KS M Q := by
  exact s_if_eq (tgt := 21) (show decode (am_cc m9_not) 16 = .ok (.ifCond .eq 5, 3) by decide +kernel) (by decide) k1 k2
theorem g9_not_19 {a1 a2 : Int} {M : am_M} {Q : Option am_V → am_M → Prop} (k : Q (some (vi (-1))) M) : am_AtN m9_not 19 [some (vr 86), some (vi a1), some (vi a2), none, none] [] KS M Q := by
  refine s_iconst (show decode (am_cc m9_not) 19 = .ok (.iconst (-1), 1) by decide +kernel) ⟨by decide, by decide⟩ ?_
  exact s_ireturn (show decode (am_cc m9_not) 20 = .ok (.ireturn, 1) by decide +kernel) rfl k
theorem g9_not_21 {a1 a2 : Int} {M : am_M} {Q : Option am_V → am_M → Prop} (k : am_AtN m9_not 26 [some (vr 86), some (vi a1), some (vi a2), some (vi 0), some (vi 0)] [] KS M Q) : am_AtN m9_not 21 [some (vr 86), some (vi a1), some (vi a2), none, none] [] KS M Q := by
  refine s_iconst (show decode (am_cc m9_not) 21 = .ok (.iconst 0, 1) by decide +kernel) ⟨by decide, by decide⟩ ?_
  refine s_istore_n (show decode (am_cc m9_not) 22 = .ok (.istore_n 3, 1) by decide +kernel) (by decide) ?_
  refine s_iconst (show decode (am_cc m9_not) 23 = .ok (.iconst 0, 1) by decide +kernel) ⟨by decide, by decide⟩ ?_
  refine s_istore (show decode (am_cc m9_not) 24 = .ok (.istore 4, 2) by decide +kernel) (by decide) ?_
  exact k
theorem g9_not_26 {a1 a2 a3 a4 : Int} {M : am_M} {Q : Option am_V → am_M → Prop} (k1 : 24 ≤ a4 → am_AtN m9_not 63 [some (vr 86), some (vi a1), some (vi a2), some (vi a3), some (vi a4)] [] KS M Q) (k2 : ¬ (24 ≤ a4) → am_AtN m9_not 33 [some (vr 86), some (vi a1), some (vi a2), some (vi a3), some (vi a4)] [] KS M Q) : am_AtN m9_not 26 [some (vr 86), some (vi a1), some (vi a2), some (vi a3), some (vi a4)] [] KS M Q := by
  refine s_iload (show decode (am_cc m9_not) 26 = .ok (.iload 4, 2) by decide +kernel) rfl ?_
  refine s_bipush (show decode (am_cc m9_not) 28 = .ok (.bipush 24, 2) by decide +kernel) ⟨by decide, by decide⟩ (by decide) ?_
  exact s_icmp_ge (tgt := 63) (show decode (am_cc m9_not) 30 = .ok (.if_icmp .ge 33, 3) by decide +kernel) (by decide) k1 k2
theorem g9_not_33 {a1 a2 a3 a4 : Int} {M : am_M} {Q : Option am_V → am_M → Prop} (h1 : -2147483648 ≤ 24 * a1 ∧ 24 * a1 ≤ 2147483647) (h2 : -2147483648 ≤ (24 * a1) + a4 ∧ (24 * a1) + a4 ≤ 2147483647) (h3 : -2147483648 ≤ 24 * a2 ∧ 24 * a2 ≤ 2147483647) (h4 : -2147483648 ≤ (24 * a2) + a4 ∧ (24 * a2) + a4 ≤ 2147483647) (h5 : 0 ≤ (24 * a2) + a4) (h6 : (24 * a2) + a4 < 192) (h7 : 0 ≤ (24 * a1) + a4) (h8 : (24 * a1) + a4 < 192) (h9 : -2147483648 ≤ a4 + 1 ∧ a4 + 1 ≤ 2147483647) (k : am_AtN m9_not 26 [some (vr 86), some (vi a1), some (vi a2), some (vi a3), some (vi (a4 + 1))] [] KS (am_up M 87 ((24 * a1) + a4) (M 87 ((24 * a2) + a4))) Q) : am_AtN m9_not 33 [some (vr 86), some (vi a1), some (vi a2), some (vi a3), some (vi a4)] [] KS M Q := by
  refine s_aload_n (show decode (am_cc m9_not) 33 = .ok (.aload_n 0, 1) by decide +kernel) rfl ?_
  refine s_getf (k := 2) (v := vr 87) (show decode (am_cc m9_not) 34 = .ok (.getfield 7, 3) by decide +kernel) kd86 (by decide) rfl jnX9 (by decide) lf_RX9_7 rfl ?_
  refine s_bipush (show decode (am_cc m9_not) 37 = .ok (.bipush 24, 2) by decide +kernel) ⟨by decide, by decide⟩ (by decide) ?_
  refine s_iload_n (show decode (am_cc m9_not) 39 = .ok (.iload_n 1, 1) by decide +kernel) rfl ?_
  refine s_imul (show decode (am_cc m9_not) 40 = .ok (.imul, 1) by decide +kernel) h1 ?_
  refine s_iload (show decode (am_cc m9_not) 41 = .ok (.iload 4, 2) by decide +kernel) rfl ?_
  refine s_iadd (show decode (am_cc m9_not) 43 = .ok (.iadd, 1) by decide +kernel) h2 ?_
  refine s_aload_n (show decode (am_cc m9_not) 44 = .ok (.aload_n 0, 1) by decide +kernel) rfl ?_
  refine s_getf (k := 2) (v := vr 87) (show decode (am_cc m9_not) 45 = .ok (.getfield 7, 3) by decide +kernel) kd86 (by decide) rfl jnX9 (by decide) lf_RX9_7 rfl ?_
  refine s_bipush (show decode (am_cc m9_not) 48 = .ok (.bipush 24, 2) by decide +kernel) ⟨by decide, by decide⟩ (by decide) ?_
  refine s_iload_n (show decode (am_cc m9_not) 50 = .ok (.iload_n 2, 1) by decide +kernel) rfl ?_
  refine s_imul (show decode (am_cc m9_not) 51 = .ok (.imul, 1) by decide +kernel) h3 ?_
  refine s_iload (show decode (am_cc m9_not) 52 = .ok (.iload 4, 2) by decide +kernel) rfl ?_
  refine s_iadd (show decode (am_cc m9_not) 54 = .ok (.iadd, 1) by decide +kernel) h4 ?_
  refine s_iaload (show decode (am_cc m9_not) 55 = .ok (.iaload, 1) by decide +kernel) kd87 h5 h6 ?_
  refine s_iastore (show decode (am_cc m9_not) 56 = .ok (.iastore, 1) by decide +kernel) kd87 h7 h8 ?_
  refine s_iinc (show decode (am_cc m9_not) 57 = .ok (.iinc 4 1, 3) by decide +kernel) rfl (by decide) h9 ?_
  refine s_goto (tgt := 26) (show decode (am_cc m9_not) 60 = .ok (.goto (-34), 3) by decide +kernel) (by decide) ?_
  exact k
theorem g9_not_63 {a1 a2 a3 a4 : Int} {M : am_M} {Q : Option am_V → am_M → Prop} (k : am_AtN m9_not 66 [some (vr 86), some (vi a1), some (vi a2), some (vi a3), some (vi 0)] [] KS M Q) : am_AtN m9_not 63 [some (vr 86), some (vi a1), some (vi a2), some (vi a3), some (vi a4)] [] KS M Q := by
  refine s_iconst (show decode (am_cc m9_not) 63 = .ok (.iconst 0, 1) by decide +kernel) ⟨by decide, by decide⟩ ?_
  refine s_istore (show decode (am_cc m9_not) 64 = .ok (.istore 4, 2) by decide +kernel) (by decide) ?_
  exact k
theorem g9_not_66 {a1 a2 a3 a4 : Int} {M : am_M} {Q : Option am_V → am_M → Prop} (k1 : 6 ≤ a4 → am_AtN m9_not 134 [some (vr 86), some (vi a1), some (vi a2), some (vi a3), some (vi a4)] [] KS M Q) (k2 : ¬ (6 ≤ a4) → am_AtN m9_not 73 [some (vr 86), some (vi a1), some (vi a2), some (vi a3), some (vi a4)] [] KS M Q) : am_AtN m9_not 66 [some (vr 86), some (vi a1), some (vi a2), some (vi a3), some (vi a4)] [] KS M Q := by
  refine s_iload (show decode (am_cc m9_not) 66 = .ok (.iload 4, 2) by decide +kernel) rfl ?_
  refine s_bipush (show decode (am_cc m9_not) 68 = .ok (.bipush 6, 2) by decide +kernel) ⟨by decide, by decide⟩ (by decide) ?_
  exact s_icmp_ge (tgt := 134) (show decode (am_cc m9_not) 70 = .ok (.if_icmp .ge 64, 3) by decide +kernel) (by decide) k1 k2
theorem g9_not_73 {a1 a2 a3 a4 : Int} {M : am_M} {Q : Option am_V → am_M → Prop} (h1 : -2147483648 ≤ 6 * a1 ∧ 6 * a1 ≤ 2147483647) (h2 : -2147483648 ≤ (6 * a1) + a4 ∧ (6 * a1) + a4 ≤ 2147483647) (h3 : -2147483648 ≤ 6 * a2 ∧ 6 * a2 ≤ 2147483647) (h4 : -2147483648 ≤ (6 * a2) + a4 ∧ (6 * a2) + a4 ≤ 2147483647) (h5 : 0 ≤ (6 * a2) + a4) (h6 : (6 * a2) + a4 < 48) (k1 : ¬ M 88 ((6 * a2) + a4) = 0 → am_AtN m9_not 103 [some (vr 86), some (vi a1), some (vi a2), some (vi a3), some (vi a4)] [vi ((6 * a1) + a4), vr 88] KS M Q) (k2 : M 88 ((6 * a2) + a4) = 0 → am_AtN m9_not 99 [some (vr 86), some (vi a1), some (vi a2), some (vi a3), some (vi a4)] [vi ((6 * a1) + a4), vr 88] KS M Q) : am_AtN m9_not 73 [some (vr 86), some (vi a1), some (vi a2), some (vi a3), some (vi a4)] [] KS M Q := by
  refine s_aload_n (show decode (am_cc m9_not) 73 = .ok (.aload_n 0, 1) by decide +kernel) rfl ?_
  refine s_getf (k := 3) (v := vr 88) (show decode (am_cc m9_not) 74 = .ok (.getfield 13, 3) by decide +kernel) kd86 (by decide) rfl jnX9 (by decide) lf_RX9_13 rfl ?_
  refine s_bipush (show decode (am_cc m9_not) 77 = .ok (.bipush 6, 2) by decide +kernel) ⟨by decide, by decide⟩ (by decide) ?_
  refine s_iload_n (show decode (am_cc m9_not) 79 = .ok (.iload_n 1, 1) by decide +kernel) rfl ?_
  refine s_imul (show decode (am_cc m9_not) 80 = .ok (.imul, 1) by decide +kernel) h1 ?_
  refine s_iload (show decode (am_cc m9_not) 81 = .ok (.iload 4, 2) by decide +kernel) rfl ?_
  refine s_iadd (show decode (am_cc m9_not) 83 = .ok (.iadd, 1) by decide +kernel) h2 ?_
  refine s_aload_n (show decode (am_cc m9_not) 84 = .ok (.aload_n 0, 1) by decide +kernel) rfl ?_
  refine s_getf (k := 3) (v := vr 88) (show decode (am_cc m9_not) 85 = .ok (.getfield 13, 3) by decide +kernel) kd86 (by decide) rfl jnX9 (by decide) lf_RX9_13 rfl ?_
  refine s_bipush (show decode (am_cc m9_not) 88 = .ok (.bipush 6, 2) by decide +kernel) ⟨by decide, by decide⟩ (by decide) ?_
  refine s_iload_n (show decode (am_cc m9_not) 90 = .ok (.iload_n 2, 1) by decide +kernel) rfl ?_
  refine s_imul (show decode (am_cc m9_not) 91 = .ok (.imul, 1) by decide +kernel) h3 ?_
  refine s_iload (show decode (am_cc m9_not) 92 = .ok (.iload 4, 2) by decide +kernel) rfl ?_
  refine s_iadd (show decode (am_cc m9_not) 94 = .ok (.iadd, 1) by decide +kernel) h4 ?_
  refine s_baload (show decode (am_cc m9_not) 95 = .ok (.baload, 1) by decide +kernel) kd88 h5 h6 ?_
  exact s_if_ne (tgt := 103) (show decode (am_cc m9_not) 96 = .ok (.ifCond .ne 7, 3) by decide +kernel) (by decide) k1 k2
theorem g9_not_99 {a1 a2 a3 a4 t0 t1 : Int} {M : am_M} {Q : Option am_V → am_M → Prop} (k : am_AtN m9_not 104 [some (vr 86), some (vi a1), some (vi a2), some (vi a3), some (vi a4)] [vi 1, vi t1, vr t0] KS M Q) : am_AtN m9_not 99 [some (vr 86), some (vi a1), some (vi a2), some (vi a3), some (vi a4)] [vi t1, vr t0] KS M Q := by
  refine s_iconst (show decode (am_cc m9_not) 99 = .ok (.iconst 1, 1) by decide +kernel) ⟨by decide, by decide⟩ ?_
  refine s_goto (tgt := 104) (show decode (am_cc m9_not) 100 = .ok (.goto 4, 3) by decide +kernel) (by decide) ?_
  exact k
theorem g9_not_103 {a1 a2 a3 a4 t0 t1 : Int} {M : am_M} {Q : Option am_V → am_M → Prop} (k : am_AtN m9_not 104 [some (vr 86), some (vi a1), some (vi a2), some (vi a3), some (vi a4)] [vi 0, vi t1, vr t0] KS M Q) : am_AtN m9_not 103 [some (vr 86), some (vi a1), some (vi a2), some (vi a3), some (vi a4)] [vi t1, vr t0] KS M Q := by
  refine s_iconst (show decode (am_cc m9_not) 103 = .ok (.iconst 0, 1) by decide +kernel) ⟨by decide, by decide⟩ ?_
  exact k
theorem g9_not_104 {a1 a2 a3 a4 t0 t1 t2 : Int} {M : am_M} {Q : Option am_V → am_M → Prop} {n0 : Nat} {q0 : List Int} (h1 : am_kd KS t0 = some (12, n0, q0)) (h2 : 0 ≤ t1) (h3 : t1 < (n0 : Int)) (h4 : t2 = 0 ∨ t2 = 1) (h5 : -2147483648 ≤ 6 * a1 ∧ 6 * a1 ≤ 2147483647) (h6 : -2147483648 ≤ (6 * a1) + a4 ∧ (6 * a1) + a4 ≤ 2147483647) (h7 : 0 ≤ (6 * a1) + a4) (h8 : (6 * a1) + a4 < 48) (k1 : (am_up M t0 t1 t2) 88 ((6 * a1) + a4) = 0 → am_AtN m9_not 125 [some (vr 86), some (vi a1), some (vi a2), some (vi a3), some (vi a4)] [vi a3] KS (am_up M t0 t1 t2) Q) (k2 : ¬ ((am_up M t0 t1 t2) 88 ((6 * a1) + a4) = 0) → am_AtN m9_not 121 [some (vr 86), some (vi a1), some (vi a2), some (vi a3), some (vi a4)] [vi a3] KS (am_up M t0 t1 t2) Q) : am_AtN m9_not 104 [some (vr 86), some (vi a1), some (vi a2), some (vi a3), some (vi a4)] [vi t2, vi t1, vr t0] KS M Q := by
  refine s_bastore (show decode (am_cc m9_not) 104 = .ok (.bastore, 1) by decide +kernel) h1 h2 h3 h4 ?_
  refine s_iload_n (show decode (am_cc m9_not) 105 = .ok (.iload_n 3, 1) by decide +kernel) rfl ?_
  refine s_aload_n (show decode (am_cc m9_not) 106 = .ok (.aload_n 0, 1) by decide +kernel) rfl ?_
  refine s_getf (k := 3) (v := vr 88) (show decode (am_cc m9_not) 107 = .ok (.getfield 13, 3) by decide +kernel) kd86 (by decide) rfl jnX9 (by decide) lf_RX9_13 rfl ?_
  refine s_bipush (show decode (am_cc m9_not) 110 = .ok (.bipush 6, 2) by decide +kernel) ⟨by decide, by decide⟩ (by decide) ?_
  refine s_iload_n (show decode (am_cc m9_not) 112 = .ok (.iload_n 1, 1) by decide +kernel) rfl ?_
  refine s_imul (show decode (am_cc m9_not) 113 = .ok (.imul, 1) by decide +kernel) h5 ?_
  refine s_iload (show decode (am_cc m9_not) 114 = .ok (.iload 4, 2) by decide +kernel) rfl ?_
  refine s_iadd (show decode (am_cc m9_not) 116 = .ok (.iadd, 1) by decide +kernel) h6 ?_
  refine s_baload (show decode (am_cc m9_not) 117 = .ok (.baload, 1) by decide +kernel) kd88 h7 h8 ?_
  exact s_if_eq (tgt := 125) (show decode (am_cc m9_not) 118 = .ok (.ifCond .eq 7, 3) by decide +kernel) (by decide) k1 k2
theorem g9_not_121 {a1 a2 a3 a4 t0 : Int} {M : am_M} {Q : Option am_V → am_M → Prop} (k : am_AtN m9_not 126 [some (vr 86), some (vi a1), some (vi a2), some (vi a3), some (vi a4)] [vi 1, vi t0] KS M Q) : am_AtN m9_not 121 [some (vr 86), some (vi a1), some (vi a2), some (vi a3), some (vi a4)] [vi t0] KS M Q := by
  refine s_iconst (show decode (am_cc m9_not) 121 = .ok (.iconst 1, 1) by decide +kernel) ⟨by decide, by decide⟩ ?_
  refine s_goto (tgt := 126) (show decode (am_cc m9_not) 122 = .ok (.goto 4, 3) by decide +kernel) (by decide) ?_
  exact k
theorem g9_not_125 {a1 a2 a3 a4 t0 : Int} {M : am_M} {Q : Option am_V → am_M → Prop} (k : am_AtN m9_not 126 [some (vr 86), some (vi a1), some (vi a2), some (vi a3), some (vi a4)] [vi 0, vi t0] KS M Q) : am_AtN m9_not 125 [some (vr 86), some (vi a1), some (vi a2), some (vi a3), some (vi a4)] [vi t0] KS M Q := by
  refine s_iconst (show decode (am_cc m9_not) 125 = .ok (.iconst 0, 1) by decide +kernel) ⟨by decide, by decide⟩ ?_
  exact k
theorem g9_not_126 {a1 a2 a3 a4 t0 t1 : Int} {M : am_M} {Q : Option am_V → am_M → Prop} (h1 : -2147483648 ≤ t0 + t1 ∧ t0 + t1 ≤ 2147483647) (h2 : -2147483648 ≤ a4 + 1 ∧ a4 + 1 ≤ 2147483647) (k : am_AtN m9_not 66 [some (vr 86), some (vi a1), some (vi a2), some (vi (t0 + t1)), some (vi (a4 + 1))] [] KS M Q) : am_AtN m9_not 126 [some (vr 86), some (vi a1), some (vi a2), some (vi a3), some (vi a4)] [vi t1, vi t0] KS M Q := by
  refine s_iadd (show decode (am_cc m9_not) 126 = .ok (.iadd, 1) by decide +kernel) h1 ?_
  refine s_istore_n (show decode (am_cc m9_not) 127 = .ok (.istore_n 3, 1) by decide +kernel) (by decide) ?_
  refine s_iinc (show decode (am_cc m9_not) 128 = .ok (.iinc 4 1, 3) by decide +kernel) rfl (by decide) h2 ?_
  refine s_goto (tgt := 66) (show decode (am_cc m9_not) 131 = .ok (.goto (-65), 3) by decide +kernel) (by decide) ?_
  exact k
theorem g9_not_134 {a1 a2 a3 a4 : Int} {M : am_M} {Q : Option am_V → am_M → Prop} (k : Q (some (vi a3)) M) : am_AtN m9_not 134 [some (vr 86), some (vi a1), some (vi a2), some (vi a3), some (vi a4)] [] KS M Q := by
  refine s_iload_n (show decode (am_cc m9_not) 134 = .ok (.iload_n 3, 1) by decide +kernel) rfl ?_
  exact s_ireturn (show decode (am_cc m9_not) 135 = .ok (.ireturn, 1) by decide +kernel) rfl k
theorem g9_both_0 {a1 a2 a3 : Int} {M : am_M} {Q : Option am_V → am_M → Prop} (k : am_CallN m9_noSentence [vi a1] KS (am_up M 86 0 0) (fun r M' => am_AtN m9_both 9 [some (vr 86), some (vi a1), some (vi a2), some (vi a3), none, none, none, none, none, none, none] (r.toList ++ []) KS M' Q)) : am_AtN m9_both 0 [some (vr 86), some (vi a1), some (vi a2), some (vi a3), none, none, none, none, none, none, none] [] KS M Q := by
  refine s_aload_n (show decode (am_cc m9_both) 0 = .ok (.aload_n 0, 1) by decide +kernel) rfl ?_
  refine s_iconst (show decode (am_cc m9_both) 1 = .ok (.iconst 0, 1) by decide +kernel) ⟨by decide, by decide⟩ ?_
  refine s_putf (k := 0) (x := 0) (ty0 := tyX9) (show decode (am_cc m9_both) 2 = .ok (.putfield 95, 3) by decide +kernel) kd86 (by decide) rfl jnX9 tyX9_ok nmX9 (by decide) lf_RX9_95 rfl (Or.inl ⟨rfl, rfl, rfl⟩) ?_
  refine s_iload_n (show decode (am_cc m9_both) 5 = .ok (.iload_n 1, 1) by decide +kernel) rfl ?_
  exact n_callS (as := [vi a1]) (stk := []) (show decode (am_cc m9_both) 6 = .ok (.invokestatic 122, 3) by decide +kernel) lk_RX9_122 (by decide) (Nat.le_of_ble_eq_true rfl) ⟨rfl, rfl⟩ k
theorem g9_both_9 {a1 a2 a3 t0 : Int} {M : am_M} {Q : Option am_V → am_M → Prop} (k1 : ¬ t0 = 0 → am_AtN m9_both 26 [some (vr 86), some (vi a1), some (vi a2), some (vi a3), none, none, none, none, none, none, none] [] KS M Q) (k2 : t0 = 0 → am_AtN m9_both 12 [some (vr 86), some (vi a1), some (vi a2), some (vi a3), none, none, none, none, none, none, none] [] KS M Q) : am_AtN m9_both 9 [some (vr 86), some (vi a1), some (vi a2), some (vi a3), none, none, none, none, none, none, none] [vi t0] KS M Q := by
  exact s_if_ne (tgt := 26) (show decode (am_cc m9_both) 9 = .ok (.ifCond .ne 17, 3) by decide +kernel) (by decide) k1 k2
theorem g9_both_12 {a1 a2 a3 : Int} {M : am_M} {Q : Option am_V → am_M → Prop} (k : am_CallN m9_noSentence [vi a2] KS M (fun r M' => am_AtN m9_both 16 [some (vr 86), some (vi a1), some (vi a2), some (vi a3), none, none, none, none, none, none, none] (r.toList ++ []) KS M' Q)) : am_AtN m9_both 12 [some (vr 86), some (vi a1), some (vi a2), some (vi a3), none, none, none, none, none, none, none] [] KS M Q := by
  refine s_iload_n (show decode (am_cc m9_both) 12 = .ok (.iload_n 2, 1) by decide +kernel) rfl ?_
  exact n_callS (as := [vi a2]) (stk := []) (show decode (am_cc m9_both) 13 = .ok (.invokestatic 122, 3) by decide +kernel) lk_RX9_122 (by decide) (Nat.le_of_ble_eq_true rfl) ⟨rfl, rfl⟩ k
theorem g9_both_16 {a1 a2 a3 t0 : Int} {M : am_M} {Q : Option am_V → am_M → Prop} (k1 : ¬ t0 = 0 → am_AtN m9_both 26 [some (vr 86), some (vi a1), some (vi a2), some (vi a3), none, none, none, none, none, none, none] [] KS M Q) (k2 : t0 = 0 → am_AtN m9_both 19 [some (vr 86), some (vi a1), some (vi a2), some (vi a3), none, none, none, none, none, none, none] [] KS M Q) : am_AtN m9_both 16 [some (vr 86), some (vi a1), some (vi a2), some (vi a3), none, none, none, none, none, none, none] [vi t0] KS M Q := by
  exact s_if_ne (tgt := 26) (show decode (am_cc m9_both) 16 = .ok (.ifCond .ne 10, 3) by decide +kernel) (by decide) k1 k2
theorem g9_both_19 {a1 a2 a3 : Int} {M : am_M} {Q : Option am_V → am_M → Prop} (k : am_CallN m9_noSentence [vi a3] KS M (fun r M' => am_AtN m9_both 23 [some (vr 86), some (vi a1), some (vi a2), some (vi a3), none, none, none, none, none, none, none] (r.toList ++ []) KS M' Q)) : am_AtN m9_both 19 [some (vr 86), some (vi a1), some (vi a2), some (vi a3), none, none, none, none, none, none, none] [] KS M Q := by
  refine s_iload_n (show decode (am_cc m9_both) 19 = .ok (.iload_n 3, 1) by decide +kernel) rfl ?_
  exact n_callS (as := [vi a3]) (stk := []) (show decode (am_cc m9_both) 20 = .ok (.invokestatic 122, 3) by decide +kernel) lk_RX9_122 (by decide) (Nat.le_of_ble_eq_true rfl) ⟨rfl, rfl⟩ k
theorem g9_both_23 {a1 a2 a3 t0 : Int} {M : am_M} {Q : Option am_V → am_M → Prop} (k1 : t0 = 0 → am_AtN m9_both 28 [some (vr 86), some (vi a1), some (vi a2), some (vi a3), none, none, none, none, none, none, none] [] KS M Q) (k2 : ¬ (t0 = 0) → am_AtN m9_both 26 [some (vr 86), some (vi a1), some (vi a2), some (vi a3), none, none, none, none, none, none, none] [] KS M Q) : am_AtN m9_both 23 [some (vr 86), some (vi a1), some (vi a2), some (vi a3), none, none, none, none, none, none, none] [vi t0] KS M Q := by
  exact s_if_eq (tgt := 28) (show decode (am_cc m9_both) 23 = .ok (.ifCond .eq 5, 3) by decide +kernel) (by decide) k1 k2
theorem g9_both_26 {a1 a2 a3 : Int} {M : am_M} {Q : Option am_V → am_M → Prop} (k : Q (some (vi (-1))) M) : am_AtN m9_both 26 [some (vr 86), some (vi a1), some (vi a2), some (vi a3), none, none, none, none, none, none, none] [] KS M Q := by
  refine s_iconst (show decode (am_cc m9_both) 26 = .ok (.iconst (-1), 1) by decide +kernel) ⟨by decide, by decide⟩ ?_
  exact s_ireturn (show decode (am_cc m9_both) 27 = .ok (.ireturn, 1) by decide +kernel) rfl k
theorem g9_both_28 {a1 a2 a3 : Int} {M : am_M} {Q : Option am_V → am_M → Prop} (k : am_AtN m9_both 41 [some (vr 86), some (vi a1), some (vi a2), some (vi a3), some (vi 1), some (vi 0), none, none, none, none, none] [] KS (am_up M 90 0 0) Q) : am_AtN m9_both 28 [some (vr 86), some (vi a1), some (vi a2), some (vi a3), none, none, none, none, none, none, none] [] KS M Q := by
  refine s_aload_n (show decode (am_cc m9_both) 28 = .ok (.aload_n 0, 1) by decide +kernel) rfl ?_
  refine s_getf (k := 5) (v := vr 90) (show decode (am_cc m9_both) 29 = .ok (.getfield 20, 3) by decide +kernel) kd86 (by decide) rfl jnX9 (by decide) lf_RX9_20 rfl ?_
  refine s_iconst (show decode (am_cc m9_both) 32 = .ok (.iconst 0, 1) by decide +kernel) ⟨by decide, by decide⟩ ?_
  refine s_iconst (show decode (am_cc m9_both) 33 = .ok (.iconst 0, 1) by decide +kernel) ⟨by decide, by decide⟩ ?_
  refine s_iastore (show decode (am_cc m9_both) 34 = .ok (.iastore, 1) by decide +kernel) kd90 (by decide) (by decide) ?_
  refine s_iconst (show decode (am_cc m9_both) 35 = .ok (.iconst 1, 1) by decide +kernel) ⟨by decide, by decide⟩ ?_
  refine s_istore (show decode (am_cc m9_both) 36 = .ok (.istore 4, 2) by decide +kernel) (by decide) ?_
  refine s_iconst (show decode (am_cc m9_both) 38 = .ok (.iconst 0, 1) by decide +kernel) ⟨by decide, by decide⟩ ?_
  refine s_istore (show decode (am_cc m9_both) 39 = .ok (.istore 5, 2) by decide +kernel) (by decide) ?_
  exact k
theorem g9_both_41 {a1 a2 a3 a4 a5 : Int} {M : am_M} {Q : Option am_V → am_M → Prop} (k1 : a4 ≤ a5 → am_AtN m9_both 253 [some (vr 86), some (vi a1), some (vi a2), some (vi a3), some (vi a4), some (vi a5), none, none, none, none, none] [] KS M Q) (k2 : ¬ (a4 ≤ a5) → am_AtN m9_both 48 [some (vr 86), some (vi a1), some (vi a2), some (vi a3), some (vi a4), some (vi a5), none, none, none, none, none] [] KS M Q) : am_AtN m9_both 41 [some (vr 86), some (vi a1), some (vi a2), some (vi a3), some (vi a4), some (vi a5), none, none, none, none, none] [] KS M Q := by
  refine s_iload (show decode (am_cc m9_both) 41 = .ok (.iload 5, 2) by decide +kernel) rfl ?_
  refine s_iload (show decode (am_cc m9_both) 43 = .ok (.iload 4, 2) by decide +kernel) rfl ?_
  exact s_icmp_ge (tgt := 253) (show decode (am_cc m9_both) 45 = .ok (.if_icmp .ge 208, 3) by decide +kernel) (by decide) k1 k2
theorem g9_both_48 {a1 a2 a3 a4 a5 : Int} {M : am_M} {Q : Option am_V → am_M → Prop} (k1 : 7 ≤ a4 → am_AtN m9_both 253 [some (vr 86), some (vi a1), some (vi a2), some (vi a3), some (vi a4), some (vi a5), none, none, none, none, none] [] KS M Q) (k2 : ¬ (7 ≤ a4) → am_AtN m9_both 55 [some (vr 86), some (vi a1), some (vi a2), some (vi a3), some (vi a4), some (vi a5), none, none, none, none, none] [] KS M Q) : am_AtN m9_both 48 [some (vr 86), some (vi a1), some (vi a2), some (vi a3), some (vi a4), some (vi a5), none, none, none, none, none] [] KS M Q := by
  refine s_iload (show decode (am_cc m9_both) 48 = .ok (.iload 4, 2) by decide +kernel) rfl ?_
  refine s_bipush (show decode (am_cc m9_both) 50 = .ok (.bipush 7, 2) by decide +kernel) ⟨by decide, by decide⟩ (by decide) ?_
  exact s_icmp_ge (tgt := 253) (show decode (am_cc m9_both) 52 = .ok (.if_icmp .ge 201, 3) by decide +kernel) (by decide) k1 k2
theorem g9_both_55 {a1 a2 a3 a4 a5 : Int} {M : am_M} {Q : Option am_V → am_M → Prop} (h1 : 0 ≤ a5) (h2 : a5 < 40) (h3 : 0 ≤ M 90 a5) (h4 : 0 ≤ a5) (h5 : a5 < 40) (h6 : 0 ≤ M 90 a5) (h7 : -2147483648 ≤ 6 * a2 ∧ 6 * a2 ≤ 2147483647) (h8 : -2147483648 ≤ (6 * a2) + ((M 90 a5) / 6) ∧ (6 * a2) + ((M 90 a5) / 6) ≤ 2147483647) (h9 : 0 ≤ (6 * a2) + ((M 90 a5) / 6)) (h10 : (6 * a2) + ((M 90 a5) / 6) < 48) (k1 : M 88 ((6 * a2) + ((M 90 a5) / 6)) = 0 → am_AtN m9_both 119 [some (vr 86), some (vi a1), some (vi a2), some (vi a3), some (vi a4), some (vi a5), some (vi ((M 90 a5) / 6)), some (vi ((M 90 a5) % 6)), none, none, none] [vi a5, vr 91] KS M Q) (k2 : ¬ (M 88 ((6 * a2) + ((M 90 a5) / 6)) = 0) → am_AtN m9_both 100 [some (vr 86), some (vi a1), some (vi a2), some (vi a3), some (vi a4), some (vi a5), some (vi ((M 90 a5) / 6)), some (vi ((M 90 a5) % 6)), none, none, none] [vi a5, vr 91] KS M Q) : am_AtN m9_both 55 [some (vr 86), some (vi a1), some (vi a2), some (vi a3), some (vi a4), some (vi a5), none, none, none, none, none] [] KS M Q := by
  refine s_aload_n (show decode (am_cc m9_both) 55 = .ok (.aload_n 0, 1) by decide +kernel) rfl ?_
  refine s_getf (k := 5) (v := vr 90) (show decode (am_cc m9_both) 56 = .ok (.getfield 20, 3) by decide +kernel) kd86 (by decide) rfl jnX9 (by decide) lf_RX9_20 rfl ?_
  refine s_iload (show decode (am_cc m9_both) 59 = .ok (.iload 5, 2) by decide +kernel) rfl ?_
  refine s_iaload (show decode (am_cc m9_both) 61 = .ok (.iaload, 1) by decide +kernel) kd90 h1 h2 ?_
  refine s_bipush (show decode (am_cc m9_both) 62 = .ok (.bipush 6, 2) by decide +kernel) ⟨by decide, by decide⟩ (by decide) ?_
  refine s_idiv (show decode (am_cc m9_both) 64 = .ok (.idiv, 1) by decide +kernel) h3 (by decide) ?_
  refine s_istore (show decode (am_cc m9_both) 65 = .ok (.istore 6, 2) by decide +kernel) (by decide) ?_
  refine s_aload_n (show decode (am_cc m9_both) 67 = .ok (.aload_n 0, 1) by decide +kernel) rfl ?_
  refine s_getf (k := 5) (v := vr 90) (show decode (am_cc m9_both) 68 = .ok (.getfield 20, 3) by decide +kernel) kd86 (by decide) rfl jnX9 (by decide) lf_RX9_20 rfl ?_
  refine s_iload (show decode (am_cc m9_both) 71 = .ok (.iload 5, 2) by decide +kernel) rfl ?_
  refine s_iaload (show decode (am_cc m9_both) 73 = .ok (.iaload, 1) by decide +kernel) kd90 h4 h5 ?_
  refine s_bipush (show decode (am_cc m9_both) 74 = .ok (.bipush 6, 2) by decide +kernel) ⟨by decide, by decide⟩ (by decide) ?_
  refine s_irem (show decode (am_cc m9_both) 76 = .ok (.irem, 1) by decide +kernel) h6 (by decide) ?_
  refine s_istore (show decode (am_cc m9_both) 77 = .ok (.istore 7, 2) by decide +kernel) (by decide) ?_
  refine s_aload_n (show decode (am_cc m9_both) 79 = .ok (.aload_n 0, 1) by decide +kernel) rfl ?_
  refine s_getf (k := 6) (v := vr 91) (show decode (am_cc m9_both) 80 = .ok (.getfield 23, 3) by decide +kernel) kd86 (by decide) rfl jnX9 (by decide) lf_RX9_23 rfl ?_
  refine s_iload (show decode (am_cc m9_both) 83 = .ok (.iload 5, 2) by decide +kernel) rfl ?_
  refine s_aload_n (show decode (am_cc m9_both) 85 = .ok (.aload_n 0, 1) by decide +kernel) rfl ?_
  refine s_getf (k := 3) (v := vr 88) (show decode (am_cc m9_both) 86 = .ok (.getfield 13, 3) by decide +kernel) kd86 (by decide) rfl jnX9 (by decide) lf_RX9_13 rfl ?_
  refine s_bipush (show decode (am_cc m9_both) 89 = .ok (.bipush 6, 2) by decide +kernel) ⟨by decide, by decide⟩ (by decide) ?_
  refine s_iload_n (show decode (am_cc m9_both) 91 = .ok (.iload_n 2, 1) by decide +kernel) rfl ?_
  refine s_imul (show decode (am_cc m9_both) 92 = .ok (.imul, 1) by decide +kernel) h7 ?_
  refine s_iload (show decode (am_cc m9_both) 93 = .ok (.iload 6, 2) by decide +kernel) rfl ?_
  refine s_iadd (show decode (am_cc m9_both) 95 = .ok (.iadd, 1) by decide +kernel) h8 ?_
  refine s_baload (show decode (am_cc m9_both) 96 = .ok (.baload, 1) by decide +kernel) kd88 h9 h10 ?_
  exact s_if_eq (tgt := 119) (show decode (am_cc m9_both) 97 = .ok (.ifCond .eq 22, 3) by decide +kernel) (by decide) k1 k2
theorem g9_both_100 {a1 a2 a3 a4 a5 a6 a7 t0 t1 : Int} {M : am_M} {Q : Option am_V → am_M → Prop} (h1 : -2147483648 ≤ 6 * a3 ∧ 6 * a3 ≤ 2147483647) (h2 : -2147483648 ≤ (6 * a3) + a7 ∧ (6 * a3) + a7 ≤ 2147483647) (h3 : 0 ≤ (6 * a3) + a7) (h4 : (6 * a3) + a7 < 48) (k1 : M 88 ((6 * a3) + a7) = 0 → am_AtN m9_both 119 [some (vr 86), some (vi a1), some (vi a2), some (vi a3), some (vi a4), some (vi a5), some (vi a6), some (vi a7), none, none, none] [vi t1, vr t0] KS M Q) (k2 : ¬ (M 88 ((6 * a3) + a7) = 0) → am_AtN m9_both 115 [some (vr 86), some (vi a1), some (vi a2), some (vi a3), some (vi a4), some (vi a5), some (vi a6), some (vi a7), none, none, none] [vi t1, vr t0] KS M Q) : am_AtN m9_both 100 [some (vr 86), some (vi a1), some (vi a2), some (vi a3), some (vi a4), some (vi a5), some (vi a6), some (vi a7), none, none, none] [vi t1, vr t0] KS M Q := by
  refine s_aload_n (show decode (am_cc m9_both) 100 = .ok (.aload_n 0, 1) by decide +kernel) rfl ?_
  refine s_getf (k := 3) (v := vr 88) (show decode (am_cc m9_both) 101 = .ok (.getfield 13, 3) by decide +kernel) kd86 (by decide) rfl jnX9 (by decide) lf_RX9_13 rfl ?_
  refine s_bipush (show decode (am_cc m9_both) 104 = .ok (.bipush 6, 2) by decide +kernel) ⟨by decide, by decide⟩ (by decide) ?_
  refine s_iload_n (show decode (am_cc m9_both) 106 = .ok (.iload_n 3, 1) by decide +kernel) rfl ?_
  refine s_imul (show decode (am_cc m9_both) 107 = .ok (.imul, 1) by decide +kernel) h1 ?_
  refine s_iload (show decode (am_cc m9_both) 108 = .ok (.iload 7, 2) by decide +kernel) rfl ?_
  refine s_iadd (show decode (am_cc m9_both) 110 = .ok (.iadd, 1) by decide +kernel) h2 ?_
  refine s_baload (show decode (am_cc m9_both) 111 = .ok (.baload, 1) by decide +kernel) kd88 h3 h4 ?_
  exact s_if_eq (tgt := 119) (show decode (am_cc m9_both) 112 = .ok (.ifCond .eq 7, 3) by decide +kernel) (by decide) k1 k2
theorem g9_both_115 {a1 a2 a3 a4 a5 a6 a7 t0 t1 : Int} {M : am_M} {Q : Option am_V → am_M → Prop} (k : am_AtN m9_both 120 [some (vr 86), some (vi a1), some (vi a2), some (vi a3), some (vi a4), some (vi a5), some (vi a6), some (vi a7), none, none, none] [vi 1, vi t1, vr t0] KS M Q) : am_AtN m9_both 115 [some (vr 86), some (vi a1), some (vi a2), some (vi a3), some (vi a4), some (vi a5), some (vi a6), some (vi a7), none, none, none] [vi t1, vr t0] KS M Q := by
  refine s_iconst (show decode (am_cc m9_both) 115 = .ok (.iconst 1, 1) by decide +kernel) ⟨by decide, by decide⟩ ?_
  refine s_goto (tgt := 120) (show decode (am_cc m9_both) 116 = .ok (.goto 4, 3) by decide +kernel) (by decide) ?_
  exact k
theorem g9_both_119 {a1 a2 a3 a4 a5 a6 a7 t0 t1 : Int} {M : am_M} {Q : Option am_V → am_M → Prop} (k : am_AtN m9_both 120 [some (vr 86), some (vi a1), some (vi a2), some (vi a3), some (vi a4), some (vi a5), some (vi a6), some (vi a7), none, none, none] [vi 0, vi t1, vr t0] KS M Q) : am_AtN m9_both 119 [some (vr 86), some (vi a1), some (vi a2), some (vi a3), some (vi a4), some (vi a5), some (vi a6), some (vi a7), none, none, none] [vi t1, vr t0] KS M Q := by
  refine s_iconst (show decode (am_cc m9_both) 119 = .ok (.iconst 0, 1) by decide +kernel) ⟨by decide, by decide⟩ ?_
  exact k
theorem g9_both_120 {a1 a2 a3 a4 a5 a6 a7 t0 t1 t2 : Int} {M : am_M} {Q : Option am_V → am_M → Prop} {n0 : Nat} {q0 : List Int} (h1 : am_kd KS t0 = some (12, n0, q0)) (h2 : 0 ≤ t1) (h3 : t1 < (n0 : Int)) (h4 : t2 = 0 ∨ t2 = 1) (k : am_AtN m9_both 124 [some (vr 86), some (vi a1), some (vi a2), some (vi a3), some (vi a4), some (vi a5), some (vi a6), some (vi a7), some (vi 0), none, none] [] KS (am_up M t0 t1 t2) Q) : am_AtN m9_both 120 [some (vr 86), some (vi a1), some (vi a2), some (vi a3), some (vi a4), some (vi a5), some (vi a6), some (vi a7), none, none, none] [vi t2, vi t1, vr t0] KS M Q := by
  refine s_bastore (show decode (am_cc m9_both) 120 = .ok (.bastore, 1) by decide +kernel) h1 h2 h3 h4 ?_
  refine s_iconst (show decode (am_cc m9_both) 121 = .ok (.iconst 0, 1) by decide +kernel) ⟨by decide, by decide⟩ ?_
  refine s_istore (show decode (am_cc m9_both) 122 = .ok (.istore 8, 2) by decide +kernel) (by decide) ?_
  exact k
theorem g9_both_124 {a1 a2 a3 a4 a5 a6 a7 a8 : Int} {M : am_M} {Q : Option am_V → am_M → Prop} (k1 : M 86 1 ≤ a8 → am_AtN m9_both 247 [some (vr 86), some (vi a1), some (vi a2), some (vi a3), some (vi a4), some (vi a5), some (vi a6), some (vi a7), some (vi a8), none, none] [] KS M Q) (k2 : ¬ (M 86 1 ≤ a8) → am_AtN m9_both 133 [some (vr 86), some (vi a1), some (vi a2), some (vi a3), some (vi a4), some (vi a5), some (vi a6), some (vi a7), some (vi a8), none, none] [] KS M Q) : am_AtN m9_both 124 [some (vr 86), some (vi a1), some (vi a2), some (vi a3), some (vi a4), some (vi a5), some (vi a6), some (vi a7), some (vi a8), none, none] [] KS M Q := by
  refine s_iload (show decode (am_cc m9_both) 124 = .ok (.iload 8, 2) by decide +kernel) rfl ?_
  refine s_aload_n (show decode (am_cc m9_both) 126 = .ok (.aload_n 0, 1) by decide +kernel) rfl ?_
  refine s_getf (k := 1) (v := vi (M 86 1)) (show decode (am_cc m9_both) 127 = .ok (.getfield 99, 3) by decide +kernel) kd86 (by decide) rfl jnX9 (by decide) lf_RX9_99 rfl ?_
  exact s_icmp_ge (tgt := 247) (show decode (am_cc m9_both) 130 = .ok (.if_icmp .ge 117, 3) by decide +kernel) (by decide) k1 k2
theorem g9_both_133 {a1 a2 a3 a4 a5 a6 a7 a8 : Int} {M : am_M} {Q : Option am_V → am_M → Prop} (k1 : 7 ≤ a4 → am_AtN m9_both 247 [some (vr 86), some (vi a1), some (vi a2), some (vi a3), some (vi a4), some (vi a5), some (vi a6), some (vi a7), some (vi a8), none, none] [] KS M Q) (k2 : ¬ (7 ≤ a4) → am_AtN m9_both 140 [some (vr 86), some (vi a1), some (vi a2), some (vi a3), some (vi a4), some (vi a5), some (vi a6), some (vi a7), some (vi a8), none, none] [] KS M Q) : am_AtN m9_both 133 [some (vr 86), some (vi a1), some (vi a2), some (vi a3), some (vi a4), some (vi a5), some (vi a6), some (vi a7), some (vi a8), none, none] [] KS M Q := by
  refine s_iload (show decode (am_cc m9_both) 133 = .ok (.iload 4, 2) by decide +kernel) rfl ?_
  refine s_bipush (show decode (am_cc m9_both) 135 = .ok (.bipush 7, 2) by decide +kernel) ⟨by decide, by decide⟩ (by decide) ?_
  exact s_icmp_ge (tgt := 247) (show decode (am_cc m9_both) 137 = .ok (.if_icmp .ge 110, 3) by decide +kernel) (by decide) k1 k2
theorem g9_both_140 {a1 a2 a3 a4 a5 a6 a7 a8 : Int} {M : am_M} {Q : Option am_V → am_M → Prop} (h1 : -2147483648 ≤ 24 * a2 ∧ 24 * a2 ≤ 2147483647) (h2 : -2147483648 ≤ 4 * a6 ∧ 4 * a6 ≤ 2147483647) (h3 : -2147483648 ≤ (24 * a2) + (4 * a6) ∧ (24 * a2) + (4 * a6) ≤ 2147483647) (h4 : -2147483648 ≤ ((24 * a2) + (4 * a6)) + a8 ∧ ((24 * a2) + (4 * a6)) + a8 ≤ 2147483647) (h5 : 0 ≤ ((24 * a2) + (4 * a6)) + a8) (h6 : ((24 * a2) + (4 * a6)) + a8 < 192) (h7 : -2147483648 ≤ 6 * (M 87 (((24 * a2) + (4 * a6)) + a8)) ∧ 6 * (M 87 (((24 * a2) + (4 * a6)) + a8)) ≤ 2147483647) (h8 : -2147483648 ≤ 24 * a3 ∧ 24 * a3 ≤ 2147483647) (h9 : -2147483648 ≤ 4 * a7 ∧ 4 * a7 ≤ 2147483647) (h10 : -2147483648 ≤ (24 * a3) + (4 * a7) ∧ (24 * a3) + (4 * a7) ≤ 2147483647) (h11 : -2147483648 ≤ ((24 * a3) + (4 * a7)) + a8 ∧ ((24 * a3) + (4 * a7)) + a8 ≤ 2147483647) (h12 : 0 ≤ ((24 * a3) + (4 * a7)) + a8) (h13 : ((24 * a3) + (4 * a7)) + a8 < 192) (h14 : -2147483648 ≤ (6 * (M 87 (((24 * a2) + (4 * a6)) + a8))) + (M 87 (((24 * a3) + (4 * a7)) + a8)) ∧ (6 * (M 87 (((24 * a2) + (4 * a6)) + a8))) + (M 87 (((24 * a3) + (4 * a7)) + a8)) ≤ 2147483647) (k : am_AtN m9_both 183 [some (vr 86), some (vi a1), some (vi a2), some (vi a3), some (vi a4), some (vi a5), some (vi a6), some (vi a7), some (vi a8), some (vi ((6 * (M 87 (((24 * a2) + (4 * a6)) + a8))) + (M 87 (((24 * a3) + (4 * a7)) + a8)))), some (vi 0)] [] KS M Q) : am_AtN m9_both 140 [some (vr 86), some (vi a1), some (vi a2), some (vi a3), some (vi a4), some (vi a5), some (vi a6), some (vi a7), some (vi a8), none, none] [] KS M Q := by
  refine s_bipush (show decode (am_cc m9_both) 140 = .ok (.bipush 6, 2) by decide +kernel) ⟨by decide, by decide⟩ (by decide) ?_
  refine s_aload_n (show decode (am_cc m9_both) 142 = .ok (.aload_n 0, 1) by decide +kernel) rfl ?_
  refine s_getf (k := 2) (v := vr 87) (show decode (am_cc m9_both) 143 = .ok (.getfield 7, 3) by decide +kernel) kd86 (by decide) rfl jnX9 (by decide) lf_RX9_7 rfl ?_
  refine s_bipush (show decode (am_cc m9_both) 146 = .ok (.bipush 24, 2) by decide +kernel) ⟨by decide, by decide⟩ (by decide) ?_
  refine s_iload_n (show decode (am_cc m9_both) 148 = .ok (.iload_n 2, 1) by decide +kernel) rfl ?_
  refine s_imul (show decode (am_cc m9_both) 149 = .ok (.imul, 1) by decide +kernel) h1 ?_
  refine s_iconst (show decode (am_cc m9_both) 150 = .ok (.iconst 4, 1) by decide +kernel) ⟨by decide, by decide⟩ ?_
  refine s_iload (show decode (am_cc m9_both) 151 = .ok (.iload 6, 2) by decide +kernel) rfl ?_
  refine s_imul (show decode (am_cc m9_both) 153 = .ok (.imul, 1) by decide +kernel) h2 ?_
  refine s_iadd (show decode (am_cc m9_both) 154 = .ok (.iadd, 1) by decide +kernel) h3 ?_
  refine s_iload (show decode (am_cc m9_both) 155 = .ok (.iload 8, 2) by decide +kernel) rfl ?_
  refine s_iadd (show decode (am_cc m9_both) 157 = .ok (.iadd, 1) by decide +kernel) h4 ?_
  refine s_iaload (show decode (am_cc m9_both) 158 = .ok (.iaload, 1) by decide +kernel) kd87 h5 h6 ?_
  refine s_imul (show decode (am_cc m9_both) 159 = .ok (.imul, 1) by decide +kernel) h7 ?_
  refine s_aload_n (show decode (am_cc m9_both) 160 = .ok (.aload_n 0, 1) by decide +kernel) rfl ?_
  refine s_getf (k := 2) (v := vr 87) (show decode (am_cc m9_both) 161 = .ok (.getfield 7, 3) by decide +kernel) kd86 (by decide) rfl jnX9 (by decide) lf_RX9_7 rfl ?_
  refine s_bipush (show decode (am_cc m9_both) 164 = .ok (.bipush 24, 2) by decide +kernel) ⟨by decide, by decide⟩ (by decide) ?_
  refine s_iload_n (show decode (am_cc m9_both) 166 = .ok (.iload_n 3, 1) by decide +kernel) rfl ?_
  refine s_imul (show decode (am_cc m9_both) 167 = .ok (.imul, 1) by decide +kernel) h8 ?_
  refine s_iconst (show decode (am_cc m9_both) 168 = .ok (.iconst 4, 1) by decide +kernel) ⟨by decide, by decide⟩ ?_
  refine s_iload (show decode (am_cc m9_both) 169 = .ok (.iload 7, 2) by decide +kernel) rfl ?_
  refine s_imul (show decode (am_cc m9_both) 171 = .ok (.imul, 1) by decide +kernel) h9 ?_
  refine s_iadd (show decode (am_cc m9_both) 172 = .ok (.iadd, 1) by decide +kernel) h10 ?_
  refine s_iload (show decode (am_cc m9_both) 173 = .ok (.iload 8, 2) by decide +kernel) rfl ?_
  refine s_iadd (show decode (am_cc m9_both) 175 = .ok (.iadd, 1) by decide +kernel) h11 ?_
  refine s_iaload (show decode (am_cc m9_both) 176 = .ok (.iaload, 1) by decide +kernel) kd87 h12 h13 ?_
  refine s_iadd (show decode (am_cc m9_both) 177 = .ok (.iadd, 1) by decide +kernel) h14 ?_
  refine s_istore (show decode (am_cc m9_both) 178 = .ok (.istore 9, 2) by decide +kernel) (by decide) ?_
  refine s_iconst (show decode (am_cc m9_both) 180 = .ok (.iconst 0, 1) by decide +kernel) ⟨by decide, by decide⟩ ?_
  refine s_istore (show decode (am_cc m9_both) 181 = .ok (.istore 10, 2) by decide +kernel) (by decide) ?_
  exact k
theorem g9_both_183 {a1 a2 a3 a4 a5 a6 a7 a8 a9 a10 : Int} {M : am_M} {Q : Option am_V → am_M → Prop} (k1 : a4 ≤ a10 → am_AtN m9_both 208 [some (vr 86), some (vi a1), some (vi a2), some (vi a3), some (vi a4), some (vi a5), some (vi a6), some (vi a7), some (vi a8), some (vi a9), some (vi a10)] [] KS M Q) (k2 : ¬ (a4 ≤ a10) → am_AtN m9_both 190 [some (vr 86), some (vi a1), some (vi a2), some (vi a3), some (vi a4), some (vi a5), some (vi a6), some (vi a7), some (vi a8), some (vi a9), some (vi a10)] [] KS M Q) : am_AtN m9_both 183 [some (vr 86), some (vi a1), some (vi a2), some (vi a3), some (vi a4), some (vi a5), some (vi a6), some (vi a7), some (vi a8), some (vi a9), some (vi a10)] [] KS M Q := by
  refine s_iload (show decode (am_cc m9_both) 183 = .ok (.iload 10, 2) by decide +kernel) rfl ?_
  refine s_iload (show decode (am_cc m9_both) 185 = .ok (.iload 4, 2) by decide +kernel) rfl ?_
  exact s_icmp_ge (tgt := 208) (show decode (am_cc m9_both) 187 = .ok (.if_icmp .ge 21, 3) by decide +kernel) (by decide) k1 k2
theorem g9_both_190 {a1 a2 a3 a4 a5 a6 a7 a8 a9 a10 : Int} {M : am_M} {Q : Option am_V → am_M → Prop} (h1 : 0 ≤ a10) (h2 : a10 < 40) (k1 : M 90 a10 = a9 → am_AtN m9_both 208 [some (vr 86), some (vi a1), some (vi a2), some (vi a3), some (vi a4), some (vi a5), some (vi a6), some (vi a7), some (vi a8), some (vi a9), some (vi a10)] [] KS M Q) (k2 : ¬ (M 90 a10 = a9) → am_AtN m9_both 202 [some (vr 86), some (vi a1), some (vi a2), some (vi a3), some (vi a4), some (vi a5), some (vi a6), some (vi a7), some (vi a8), some (vi a9), some (vi a10)] [] KS M Q) : am_AtN m9_both 190 [some (vr 86), some (vi a1), some (vi a2), some (vi a3), some (vi a4), some (vi a5), some (vi a6), some (vi a7), some (vi a8), some (vi a9), some (vi a10)] [] KS M Q := by
  refine s_aload_n (show decode (am_cc m9_both) 190 = .ok (.aload_n 0, 1) by decide +kernel) rfl ?_
  refine s_getf (k := 5) (v := vr 90) (show decode (am_cc m9_both) 191 = .ok (.getfield 20, 3) by decide +kernel) kd86 (by decide) rfl jnX9 (by decide) lf_RX9_20 rfl ?_
  refine s_iload (show decode (am_cc m9_both) 194 = .ok (.iload 10, 2) by decide +kernel) rfl ?_
  refine s_iaload (show decode (am_cc m9_both) 196 = .ok (.iaload, 1) by decide +kernel) kd90 h1 h2 ?_
  refine s_iload (show decode (am_cc m9_both) 197 = .ok (.iload 9, 2) by decide +kernel) rfl ?_
  exact s_icmp_eq (tgt := 208) (show decode (am_cc m9_both) 199 = .ok (.if_icmp .eq 9, 3) by decide +kernel) (by decide) k1 k2
theorem g9_both_202 {a1 a2 a3 a4 a5 a6 a7 a8 a9 a10 : Int} {M : am_M} {Q : Option am_V → am_M → Prop} (h1 : -2147483648 ≤ a10 + 1 ∧ a10 + 1 ≤ 2147483647) (k : am_AtN m9_both 183 [some (vr 86), some (vi a1), some (vi a2), some (vi a3), some (vi a4), some (vi a5), some (vi a6), some (vi a7), some (vi a8), some (vi a9), some (vi (a10 + 1))] [] KS M Q) : am_AtN m9_both 202 [some (vr 86), some (vi a1), some (vi a2), some (vi a3), some (vi a4), some (vi a5), some (vi a6), some (vi a7), some (vi a8), some (vi a9), some (vi a10)] [] KS M Q := by
  refine s_iinc (show decode (am_cc m9_both) 202 = .ok (.iinc 10 1, 3) by decide +kernel) rfl (by decide) h1 ?_
  refine s_goto (tgt := 183) (show decode (am_cc m9_both) 205 = .ok (.goto (-22), 3) by decide +kernel) (by decide) ?_
  exact k
theorem g9_both_208 {a1 a2 a3 a4 a5 a6 a7 a8 a9 a10 : Int} {M : am_M} {Q : Option am_V → am_M → Prop} (k1 : ¬ a10 = a4 → am_AtN m9_both 227 [some (vr 86), some (vi a1), some (vi a2), some (vi a3), some (vi a4), some (vi a5), some (vi a6), some (vi a7), some (vi a8), some (vi a9), some (vi a10)] [] KS M Q) (k2 : a10 = a4 → am_AtN m9_both 215 [some (vr 86), some (vi a1), some (vi a2), some (vi a3), some (vi a4), some (vi a5), some (vi a6), some (vi a7), some (vi a8), some (vi a9), some (vi a10)] [] KS M Q) : am_AtN m9_both 208 [some (vr 86), some (vi a1), some (vi a2), some (vi a3), some (vi a4), some (vi a5), some (vi a6), some (vi a7), some (vi a8), some (vi a9), some (vi a10)] [] KS M Q := by
  refine s_iload (show decode (am_cc m9_both) 208 = .ok (.iload 10, 2) by decide +kernel) rfl ?_
  refine s_iload (show decode (am_cc m9_both) 210 = .ok (.iload 4, 2) by decide +kernel) rfl ?_
  exact s_icmp_ne (tgt := 227) (show decode (am_cc m9_both) 212 = .ok (.if_icmp .ne 15, 3) by decide +kernel) (by decide) k1 k2
theorem g9_both_215 {a1 a2 a3 a4 a5 a6 a7 a8 a9 a10 : Int} {M : am_M} {Q : Option am_V → am_M → Prop} (h1 : 0 ≤ a4) (h2 : a4 < 40) (h3 : -2147483648 ≤ a4 + 1 ∧ a4 + 1 ≤ 2147483647) (k : am_AtN m9_both 227 [some (vr 86), some (vi a1), some (vi a2), some (vi a3), some (vi (a4 + 1)), some (vi a5), some (vi a6), some (vi a7), some (vi a8), some (vi a9), some (vi a10)] [] KS (am_up M 90 a4 a9) Q) : am_AtN m9_both 215 [some (vr 86), some (vi a1), some (vi a2), some (vi a3), some (vi a4), some (vi a5), some (vi a6), some (vi a7), some (vi a8), some (vi a9), some (vi a10)] [] KS M Q := by
  refine s_aload_n (show decode (am_cc m9_both) 215 = .ok (.aload_n 0, 1) by decide +kernel) rfl ?_
  refine s_getf (k := 5) (v := vr 90) (show decode (am_cc m9_both) 216 = .ok (.getfield 20, 3) by decide +kernel) kd86 (by decide) rfl jnX9 (by decide) lf_RX9_20 rfl ?_
  refine s_iload (show decode (am_cc m9_both) 219 = .ok (.iload 4, 2) by decide +kernel) rfl ?_
  refine s_iload (show decode (am_cc m9_both) 221 = .ok (.iload 9, 2) by decide +kernel) rfl ?_
  refine s_iastore (show decode (am_cc m9_both) 223 = .ok (.iastore, 1) by decide +kernel) kd90 h1 h2 ?_
  refine s_iinc (show decode (am_cc m9_both) 224 = .ok (.iinc 4 1, 3) by decide +kernel) rfl (by decide) h3 ?_
  exact k
theorem g9_both_227 {a1 a2 a3 a4 a5 a6 a7 a8 a9 a10 : Int} {M : am_M} {Q : Option am_V → am_M → Prop} (h1 : -2147483648 ≤ 4 * a5 ∧ 4 * a5 ≤ 2147483647) (h2 : -2147483648 ≤ (4 * a5) + a8 ∧ (4 * a5) + a8 ≤ 2147483647) (h3 : 0 ≤ (4 * a5) + a8) (h4 : (4 * a5) + a8 < 40) (h5 : -2147483648 ≤ a8 + 1 ∧ a8 + 1 ≤ 2147483647) (k : am_AtN m9_both 124 [some (vr 86), some (vi a1), some (vi a2), some (vi a3), some (vi a4), some (vi a5), some (vi a6), some (vi a7), some (vi (a8 + 1)), none, none] [] KS (am_up M 89 ((4 * a5) + a8) a10) Q) : am_AtN m9_both 227 [some (vr 86), some (vi a1), some (vi a2), some (vi a3), some (vi a4), some (vi a5), some (vi a6), some (vi a7), some (vi a8), some (vi a9), some (vi a10)] [] KS M Q := by
  refine s_aload_n (show decode (am_cc m9_both) 227 = .ok (.aload_n 0, 1) by decide +kernel) rfl ?_
  refine s_getf (k := 4) (v := vr 89) (show decode (am_cc m9_both) 228 = .ok (.getfield 17, 3) by decide +kernel) kd86 (by decide) rfl jnX9 (by decide) lf_RX9_17 rfl ?_
  refine s_iconst (show decode (am_cc m9_both) 231 = .ok (.iconst 4, 1) by decide +kernel) ⟨by decide, by decide⟩ ?_
  refine s_iload (show decode (am_cc m9_both) 232 = .ok (.iload 5, 2) by decide +kernel) rfl ?_
  refine s_imul (show decode (am_cc m9_both) 234 = .ok (.imul, 1) by decide +kernel) h1 ?_
  refine s_iload (show decode (am_cc m9_both) 235 = .ok (.iload 8, 2) by decide +kernel) rfl ?_
  refine s_iadd (show decode (am_cc m9_both) 237 = .ok (.iadd, 1) by decide +kernel) h2 ?_
  refine s_iload (show decode (am_cc m9_both) 238 = .ok (.iload 10, 2) by decide +kernel) rfl ?_
  refine s_iastore (show decode (am_cc m9_both) 240 = .ok (.iastore, 1) by decide +kernel) kd89 h3 h4 ?_
  refine s_iinc (show decode (am_cc m9_both) 241 = .ok (.iinc 8 1, 3) by decide +kernel) rfl (by decide) h5 ?_
  refine s_goto (tgt := 124) (show decode (am_cc m9_both) 244 = .ok (.goto (-120), 3) by decide +kernel) (by decide) ?_
  refine am_fg 9 ?_
  refine am_fg 10 ?_
  exact k
theorem g9_both_247 {a1 a2 a3 a4 a5 a6 a7 a8 : Int} {M : am_M} {Q : Option am_V → am_M → Prop} (h1 : -2147483648 ≤ a5 + 1 ∧ a5 + 1 ≤ 2147483647) (k : am_AtN m9_both 41 [some (vr 86), some (vi a1), some (vi a2), some (vi a3), some (vi a4), some (vi (a5 + 1)), none, none, none, none, none] [] KS M Q) : am_AtN m9_both 247 [some (vr 86), some (vi a1), some (vi a2), some (vi a3), some (vi a4), some (vi a5), some (vi a6), some (vi a7), some (vi a8), none, none] [] KS M Q := by
  refine s_iinc (show decode (am_cc m9_both) 247 = .ok (.iinc 5 1, 3) by decide +kernel) rfl (by decide) h1 ?_
  refine s_goto (tgt := 41) (show decode (am_cc m9_both) 250 = .ok (.goto (-209), 3) by decide +kernel) (by decide) ?_
  refine am_fg 6 ?_
  refine am_fg 7 ?_
  refine am_fg 8 ?_
  exact k
theorem g9_both_253 {a1 a2 a3 a4 a5 : Int} {M : am_M} {Q : Option am_V → am_M → Prop} (k1 : a4 ≤ 6 → am_AtN m9_both 263 [some (vr 86), some (vi a1), some (vi a2), some (vi a3), some (vi a4), some (vi a5), none, none, none, none, none] [] KS M Q) (k2 : ¬ (a4 ≤ 6) → am_AtN m9_both 260 [some (vr 86), some (vi a1), some (vi a2), some (vi a3), some (vi a4), some (vi a5), none, none, none, none, none] [] KS M Q) : am_AtN m9_both 253 [some (vr 86), some (vi a1), some (vi a2), some (vi a3), some (vi a4), some (vi a5), none, none, none, none, none] [] KS M Q := by
  refine s_iload (show decode (am_cc m9_both) 253 = .ok (.iload 4, 2) by decide +kernel) rfl ?_
  refine s_bipush (show decode (am_cc m9_both) 255 = .ok (.bipush 6, 2) by decide +kernel) ⟨by decide, by decide⟩ (by decide) ?_
  exact s_icmp_le (tgt := 263) (show decode (am_cc m9_both) 257 = .ok (.if_icmp .le 6, 3) by decide +kernel) (by decide) k1 k2
theorem g9_both_260 {a1 a2 a3 a4 a5 : Int} {M : am_M} {Q : Option am_V → am_M → Prop} (k : Q (some (vi (-4))) M) : am_AtN m9_both 260 [some (vr 86), some (vi a1), some (vi a2), some (vi a3), some (vi a4), some (vi a5), none, none, none, none, none] [] KS M Q := by
  refine s_bipush (show decode (am_cc m9_both) 260 = .ok (.bipush (-4), 2) by decide +kernel) ⟨by decide, by decide⟩ (by decide) ?_
  exact s_ireturn (show decode (am_cc m9_both) 262 = .ok (.ireturn, 1) by decide +kernel) rfl k
theorem g9_both_263 {a1 a2 a3 a4 a5 : Int} {M : am_M} {Q : Option am_V → am_M → Prop} (k : am_CallN m9_bare [vr 86, vi a1] KS M (fun r M' => am_AtN m9_both 268 [some (vr 86), some (vi a1), some (vi a2), some (vi a3), some (vi a4), some (vi a5), none, none, none, none, none] (r.toList ++ []) KS M' Q)) : am_AtN m9_both 263 [some (vr 86), some (vi a1), some (vi a2), some (vi a3), some (vi a4), some (vi a5), none, none, none, none, none] [] KS M Q := by
  refine s_aload_n (show decode (am_cc m9_both) 263 = .ok (.aload_n 0, 1) by decide +kernel) rfl ?_
  refine s_iload_n (show decode (am_cc m9_both) 264 = .ok (.iload_n 1, 1) by decide +kernel) rfl ?_
  exact n_callV (as := [vi a1]) (stk := []) (show decode (am_cc m9_both) 265 = .ok (.invokevirtual 102, 3) by decide +kernel) lk_RX9_102 kd86 (by decide) rfl rfl (by decide) (Nat.le_of_ble_eq_true rfl) ⟨rfl, rfl⟩ k
theorem g9_both_268 {a1 a2 a3 a4 a5 : Int} {M : am_M} {Q : Option am_V → am_M → Prop} (k : am_AtN m9_both 271 [some (vr 86), some (vi a1), some (vi a2), some (vi a3), some (vi a4), some (vi 0), none, none, none, none, none] [] KS M Q) : am_AtN m9_both 268 [some (vr 86), some (vi a1), some (vi a2), some (vi a3), some (vi a4), some (vi a5), none, none, none, none, none] [] KS M Q := by
  refine s_iconst (show decode (am_cc m9_both) 268 = .ok (.iconst 0, 1) by decide +kernel) ⟨by decide, by decide⟩ ?_
  refine s_istore (show decode (am_cc m9_both) 269 = .ok (.istore 5, 2) by decide +kernel) (by decide) ?_
  exact k
theorem g9_both_271 {a1 a2 a3 a4 a5 : Int} {M : am_M} {Q : Option am_V → am_M → Prop} (k1 : a4 ≤ a5 → am_AtN m9_both 350 [some (vr 86), some (vi a1), some (vi a2), some (vi a3), some (vi a4), some (vi a5), none, none, none, none, none] [] KS M Q) (k2 : ¬ (a4 ≤ a5) → am_AtN m9_both 278 [some (vr 86), some (vi a1), some (vi a2), some (vi a3), some (vi a4), some (vi a5), none, none, none, none, none] [] KS M Q) : am_AtN m9_both 271 [some (vr 86), some (vi a1), some (vi a2), some (vi a3), some (vi a4), some (vi a5), none, none, none, none, none] [] KS M Q := by
  refine s_iload (show decode (am_cc m9_both) 271 = .ok (.iload 5, 2) by decide +kernel) rfl ?_
  refine s_iload (show decode (am_cc m9_both) 273 = .ok (.iload 4, 2) by decide +kernel) rfl ?_
  exact s_icmp_ge (tgt := 350) (show decode (am_cc m9_both) 275 = .ok (.if_icmp .ge 75, 3) by decide +kernel) (by decide) k1 k2
theorem g9_both_278 {a1 a2 a3 a4 a5 : Int} {M : am_M} {Q : Option am_V → am_M → Prop} (h1 : -2147483648 ≤ 6 * a1 ∧ 6 * a1 ≤ 2147483647) (h2 : -2147483648 ≤ (6 * a1) + a5 ∧ (6 * a1) + a5 ≤ 2147483647) (h3 : 0 ≤ a5) (h4 : a5 < 40) (h5 : 0 ≤ (6 * a1) + a5) (h6 : (6 * a1) + a5 < 48) (h7 : M 91 a5 = 0 ∨ M 91 a5 = 1) (k : am_AtN m9_both 300 [some (vr 86), some (vi a1), some (vi a2), some (vi a3), some (vi a4), some (vi a5), some (vi 0), none, none, none, none] [] KS (am_up M 88 ((6 * a1) + a5) (M 91 a5)) Q) : am_AtN m9_both 278 [some (vr 86), some (vi a1), some (vi a2), some (vi a3), some (vi a4), some (vi a5), none, none, none, none, none] [] KS M Q := by
  refine s_aload_n (show decode (am_cc m9_both) 278 = .ok (.aload_n 0, 1) by decide +kernel) rfl ?_
  refine s_getf (k := 3) (v := vr 88) (show decode (am_cc m9_both) 279 = .ok (.getfield 13, 3) by decide +kernel) kd86 (by decide) rfl jnX9 (by decide) lf_RX9_13 rfl ?_
  refine s_bipush (show decode (am_cc m9_both) 282 = .ok (.bipush 6, 2) by decide +kernel) ⟨by decide, by decide⟩ (by decide) ?_
  refine s_iload_n (show decode (am_cc m9_both) 284 = .ok (.iload_n 1, 1) by decide +kernel) rfl ?_
  refine s_imul (show decode (am_cc m9_both) 285 = .ok (.imul, 1) by decide +kernel) h1 ?_
  refine s_iload (show decode (am_cc m9_both) 286 = .ok (.iload 5, 2) by decide +kernel) rfl ?_
  refine s_iadd (show decode (am_cc m9_both) 288 = .ok (.iadd, 1) by decide +kernel) h2 ?_
  refine s_aload_n (show decode (am_cc m9_both) 289 = .ok (.aload_n 0, 1) by decide +kernel) rfl ?_
  refine s_getf (k := 6) (v := vr 91) (show decode (am_cc m9_both) 290 = .ok (.getfield 23, 3) by decide +kernel) kd86 (by decide) rfl jnX9 (by decide) lf_RX9_23 rfl ?_
  refine s_iload (show decode (am_cc m9_both) 293 = .ok (.iload 5, 2) by decide +kernel) rfl ?_
  refine s_baload (show decode (am_cc m9_both) 295 = .ok (.baload, 1) by decide +kernel) kd91 h3 h4 ?_
  refine s_bastore (show decode (am_cc m9_both) 296 = .ok (.bastore, 1) by decide +kernel) kd88 h5 h6 h7 ?_
  refine s_iconst (show decode (am_cc m9_both) 297 = .ok (.iconst 0, 1) by decide +kernel) ⟨by decide, by decide⟩ ?_
  refine s_istore (show decode (am_cc m9_both) 298 = .ok (.istore 6, 2) by decide +kernel) (by decide) ?_
  exact k
theorem g9_both_300 {a1 a2 a3 a4 a5 a6 : Int} {M : am_M} {Q : Option am_V → am_M → Prop} (k1 : M 86 1 ≤ a6 → am_AtN m9_both 344 [some (vr 86), some (vi a1), some (vi a2), some (vi a3), some (vi a4), some (vi a5), some (vi a6), none, none, none, none] [] KS M Q) (k2 : ¬ (M 86 1 ≤ a6) → am_AtN m9_both 309 [some (vr 86), some (vi a1), some (vi a2), some (vi a3), some (vi a4), some (vi a5), some (vi a6), none, none, none, none] [] KS M Q) : am_AtN m9_both 300 [some (vr 86), some (vi a1), some (vi a2), some (vi a3), some (vi a4), some (vi a5), some (vi a6), none, none, none, none] [] KS M Q := by
  refine s_iload (show decode (am_cc m9_both) 300 = .ok (.iload 6, 2) by decide +kernel) rfl ?_
  refine s_aload_n (show decode (am_cc m9_both) 302 = .ok (.aload_n 0, 1) by decide +kernel) rfl ?_
  refine s_getf (k := 1) (v := vi (M 86 1)) (show decode (am_cc m9_both) 303 = .ok (.getfield 99, 3) by decide +kernel) kd86 (by decide) rfl jnX9 (by decide) lf_RX9_99 rfl ?_
  exact s_icmp_ge (tgt := 344) (show decode (am_cc m9_both) 306 = .ok (.if_icmp .ge 38, 3) by decide +kernel) (by decide) k1 k2
theorem g9_both_309 {a1 a2 a3 a4 a5 a6 : Int} {M : am_M} {Q : Option am_V → am_M → Prop} (h1 : -2147483648 ≤ 24 * a1 ∧ 24 * a1 ≤ 2147483647) (h2 : -2147483648 ≤ 4 * a5 ∧ 4 * a5 ≤ 2147483647) (h3 : -2147483648 ≤ (24 * a1) + (4 * a5) ∧ (24 * a1) + (4 * a5) ≤ 2147483647) (h4 : -2147483648 ≤ ((24 * a1) + (4 * a5)) + a6 ∧ ((24 * a1) + (4 * a5)) + a6 ≤ 2147483647) (h5 : -2147483648 ≤ 4 * a5 ∧ 4 * a5 ≤ 2147483647) (h6 : -2147483648 ≤ (4 * a5) + a6 ∧ (4 * a5) + a6 ≤ 2147483647) (h7 : 0 ≤ (4 * a5) + a6) (h8 : (4 * a5) + a6 < 40) (h9 : 0 ≤ ((24 * a1) + (4 * a5)) + a6) (h10 : ((24 * a1) + (4 * a5)) + a6 < 192) (h11 : -2147483648 ≤ a6 + 1 ∧ a6 + 1 ≤ 2147483647) (k : am_AtN m9_both 300 [some (vr 86), some (vi a1), some (vi a2), some (vi a3), some (vi a4), some (vi a5), some (vi (a6 + 1)), none, none, none, none] [] KS (am_up M 87 (((24 * a1) + (4 * a5)) + a6) (M 89 ((4 * a5) + a6))) Q) : am_AtN m9_both 309 [some (vr 86), some (vi a1), some (vi a2), some (vi a3), some (vi a4), some (vi a5), some (vi a6), none, none, none, none] [] KS M Q := by
  refine s_aload_n (show decode (am_cc m9_both) 309 = .ok (.aload_n 0, 1) by decide +kernel) rfl ?_
  refine s_getf (k := 2) (v := vr 87) (show decode (am_cc m9_both) 310 = .ok (.getfield 7, 3) by decide +kernel) kd86 (by decide) rfl jnX9 (by decide) lf_RX9_7 rfl ?_
  refine s_bipush (show decode (am_cc m9_both) 313 = .ok (.bipush 24, 2) by decide +kernel) ⟨by decide, by decide⟩ (by decide) ?_
  refine s_iload_n (show decode (am_cc m9_both) 315 = .ok (.iload_n 1, 1) by decide +kernel) rfl ?_
  refine s_imul (show decode (am_cc m9_both) 316 = .ok (.imul, 1) by decide +kernel) h1 ?_
  refine s_iconst (show decode (am_cc m9_both) 317 = .ok (.iconst 4, 1) by decide +kernel) ⟨by decide, by decide⟩ ?_
  refine s_iload (show decode (am_cc m9_both) 318 = .ok (.iload 5, 2) by decide +kernel) rfl ?_
  refine s_imul (show decode (am_cc m9_both) 320 = .ok (.imul, 1) by decide +kernel) h2 ?_
  refine s_iadd (show decode (am_cc m9_both) 321 = .ok (.iadd, 1) by decide +kernel) h3 ?_
  refine s_iload (show decode (am_cc m9_both) 322 = .ok (.iload 6, 2) by decide +kernel) rfl ?_
  refine s_iadd (show decode (am_cc m9_both) 324 = .ok (.iadd, 1) by decide +kernel) h4 ?_
  refine s_aload_n (show decode (am_cc m9_both) 325 = .ok (.aload_n 0, 1) by decide +kernel) rfl ?_
  refine s_getf (k := 4) (v := vr 89) (show decode (am_cc m9_both) 326 = .ok (.getfield 17, 3) by decide +kernel) kd86 (by decide) rfl jnX9 (by decide) lf_RX9_17 rfl ?_
  refine s_iconst (show decode (am_cc m9_both) 329 = .ok (.iconst 4, 1) by decide +kernel) ⟨by decide, by decide⟩ ?_
  refine s_iload (show decode (am_cc m9_both) 330 = .ok (.iload 5, 2) by decide +kernel) rfl ?_
  refine s_imul (show decode (am_cc m9_both) 332 = .ok (.imul, 1) by decide +kernel) h5 ?_
  refine s_iload (show decode (am_cc m9_both) 333 = .ok (.iload 6, 2) by decide +kernel) rfl ?_
  refine s_iadd (show decode (am_cc m9_both) 335 = .ok (.iadd, 1) by decide +kernel) h6 ?_
  refine s_iaload (show decode (am_cc m9_both) 336 = .ok (.iaload, 1) by decide +kernel) kd89 h7 h8 ?_
  refine s_iastore (show decode (am_cc m9_both) 337 = .ok (.iastore, 1) by decide +kernel) kd87 h9 h10 ?_
  refine s_iinc (show decode (am_cc m9_both) 338 = .ok (.iinc 6 1, 3) by decide +kernel) rfl (by decide) h11 ?_
  refine s_goto (tgt := 300) (show decode (am_cc m9_both) 341 = .ok (.goto (-41), 3) by decide +kernel) (by decide) ?_
  exact k
theorem g9_both_344 {a1 a2 a3 a4 a5 a6 : Int} {M : am_M} {Q : Option am_V → am_M → Prop} (h1 : -2147483648 ≤ a5 + 1 ∧ a5 + 1 ≤ 2147483647) (k : am_AtN m9_both 271 [some (vr 86), some (vi a1), some (vi a2), some (vi a3), some (vi a4), some (vi (a5 + 1)), none, none, none, none, none] [] KS M Q) : am_AtN m9_both 344 [some (vr 86), some (vi a1), some (vi a2), some (vi a3), some (vi a4), some (vi a5), some (vi a6), none, none, none, none] [] KS M Q := by
  refine s_iinc (show decode (am_cc m9_both) 344 = .ok (.iinc 5 1, 3) by decide +kernel) rfl (by decide) h1 ?_
  refine s_goto (tgt := 271) (show decode (am_cc m9_both) 347 = .ok (.goto (-76), 3) by decide +kernel) (by decide) ?_
  refine am_fg 6 ?_
  exact k
theorem g9_both_350 {a1 a2 a3 a4 a5 : Int} {M : am_M} {Q : Option am_V → am_M → Prop} (k : Q (some (vi a4)) M) : am_AtN m9_both 350 [some (vr 86), some (vi a1), some (vi a2), some (vi a3), some (vi a4), some (vi a5), none, none, none, none, none] [] KS M Q := by
  refine s_iload (show decode (am_cc m9_both) 350 = .ok (.iload 4, 2) by decide +kernel) rfl ?_
  exact s_ireturn (show decode (am_cc m9_both) 352 = .ok (.ireturn, 1) by decide +kernel) rfl k
theorem g9_about_0 {a1 a2 a3 : Int} {M : am_M} {Q : Option am_V → am_M → Prop} (k : am_CallN m9_noSentence [vi a1] KS (am_up M 86 0 0) (fun r M' => am_AtN m9_about 9 [some (vr 86), some (vi a1), some (vi a2), some (vi a3)] (r.toList ++ []) KS M' Q)) : am_AtN m9_about 0 [some (vr 86), some (vi a1), some (vi a2), some (vi a3)] [] KS M Q := by
  refine s_aload_n (show decode (am_cc m9_about) 0 = .ok (.aload_n 0, 1) by decide +kernel) rfl ?_
  refine s_iconst (show decode (am_cc m9_about) 1 = .ok (.iconst 0, 1) by decide +kernel) ⟨by decide, by decide⟩ ?_
  refine s_putf (k := 0) (x := 0) (ty0 := tyX9) (show decode (am_cc m9_about) 2 = .ok (.putfield 95, 3) by decide +kernel) kd86 (by decide) rfl jnX9 tyX9_ok nmX9 (by decide) lf_RX9_95 rfl (Or.inl ⟨rfl, rfl, rfl⟩) ?_
  refine s_iload_n (show decode (am_cc m9_about) 5 = .ok (.iload_n 1, 1) by decide +kernel) rfl ?_
  exact n_callS (as := [vi a1]) (stk := []) (show decode (am_cc m9_about) 6 = .ok (.invokestatic 122, 3) by decide +kernel) lk_RX9_122 (by decide) (Nat.le_of_ble_eq_true rfl) ⟨rfl, rfl⟩ k
theorem g9_about_9 {a1 a2 a3 t0 : Int} {M : am_M} {Q : Option am_V → am_M → Prop} (k1 : ¬ t0 = 0 → am_AtN m9_about 33 [some (vr 86), some (vi a1), some (vi a2), some (vi a3)] [] KS M Q) (k2 : t0 = 0 → am_AtN m9_about 12 [some (vr 86), some (vi a1), some (vi a2), some (vi a3)] [] KS M Q) : am_AtN m9_about 9 [some (vr 86), some (vi a1), some (vi a2), some (vi a3)] [vi t0] KS M Q := by
  exact s_if_ne (tgt := 33) (show decode (am_cc m9_about) 9 = .ok (.ifCond .ne 24, 3) by decide +kernel) (by decide) k1 k2
theorem g9_about_12 {a1 a2 a3 : Int} {M : am_M} {Q : Option am_V → am_M → Prop} (k : am_CallN m9_noPoint [vi a2] KS M (fun r M' => am_AtN m9_about 16 [some (vr 86), some (vi a1), some (vi a2), some (vi a3)] (r.toList ++ []) KS M' Q)) : am_AtN m9_about 12 [some (vr 86), some (vi a1), some (vi a2), some (vi a3)] [] KS M Q := by
  refine s_iload_n (show decode (am_cc m9_about) 12 = .ok (.iload_n 2, 1) by decide +kernel) rfl ?_
  exact n_callS (as := [vi a2]) (stk := []) (show decode (am_cc m9_about) 13 = .ok (.invokestatic 126, 3) by decide +kernel) lk_RX9_126 (by decide) (Nat.le_of_ble_eq_true rfl) ⟨rfl, rfl⟩ k
theorem g9_about_16 {a1 a2 a3 t0 : Int} {M : am_M} {Q : Option am_V → am_M → Prop} (k1 : ¬ t0 = 0 → am_AtN m9_about 33 [some (vr 86), some (vi a1), some (vi a2), some (vi a3)] [] KS M Q) (k2 : t0 = 0 → am_AtN m9_about 19 [some (vr 86), some (vi a1), some (vi a2), some (vi a3)] [] KS M Q) : am_AtN m9_about 16 [some (vr 86), some (vi a1), some (vi a2), some (vi a3)] [vi t0] KS M Q := by
  exact s_if_ne (tgt := 33) (show decode (am_cc m9_about) 16 = .ok (.ifCond .ne 17, 3) by decide +kernel) (by decide) k1 k2
theorem g9_about_19 {a1 a2 a3 : Int} {M : am_M} {Q : Option am_V → am_M → Prop} (k : am_CallN m9_in [vl a3, vl 0, vl (M 86 1)] KS M (fun r M' => am_AtN m9_about 30 [some (vr 86), some (vi a1), some (vi a2), some (vi a3)] (r.toList ++ []) KS M' Q)) : am_AtN m9_about 19 [some (vr 86), some (vi a1), some (vi a2), some (vi a3)] [] KS M Q := by
  refine s_iload_n (show decode (am_cc m9_about) 19 = .ok (.iload_n 3, 1) by decide +kernel) rfl ?_
  refine s_i2l (show decode (am_cc m9_about) 20 = .ok (.i2l, 1) by decide +kernel) ?_
  refine s_lconst (v := 0) (show decode (am_cc m9_about) 21 = .ok (.lconst 0, 1) by decide +kernel) (by decide) ⟨by decide, by decide⟩ ?_
  refine s_aload_n (show decode (am_cc m9_about) 22 = .ok (.aload_n 0, 1) by decide +kernel) rfl ?_
  refine s_getf (k := 1) (v := vi (M 86 1)) (show decode (am_cc m9_about) 23 = .ok (.getfield 99, 3) by decide +kernel) kd86 (by decide) rfl jnX9 (by decide) lf_RX9_99 rfl ?_
  refine s_i2l (show decode (am_cc m9_about) 26 = .ok (.i2l, 1) by decide +kernel) ?_
  exact n_callS (as := [vl a3, vl 0, vl (M 86 1)]) (stk := []) (show decode (am_cc m9_about) 27 = .ok (.invokestatic 110, 3) by decide +kernel) lk_RX9_110 (by decide) (Nat.le_of_ble_eq_true rfl) ⟨rfl, rfl⟩ k
theorem g9_about_30 {a1 a2 a3 t0 : Int} {M : am_M} {Q : Option am_V → am_M → Prop} (k1 : ¬ t0 = 0 → am_AtN m9_about 35 [some (vr 86), some (vi a1), some (vi a2), some (vi a3)] [] KS M Q) (k2 : t0 = 0 → am_AtN m9_about 33 [some (vr 86), some (vi a1), some (vi a2), some (vi a3)] [] KS M Q) : am_AtN m9_about 30 [some (vr 86), some (vi a1), some (vi a2), some (vi a3)] [vi t0] KS M Q := by
  exact s_if_ne (tgt := 35) (show decode (am_cc m9_about) 30 = .ok (.ifCond .ne 5, 3) by decide +kernel) (by decide) k1 k2
theorem g9_about_33 {a1 a2 a3 : Int} {M : am_M} {Q : Option am_V → am_M → Prop} (k : Q (some (vi (-1))) M) : am_AtN m9_about 33 [some (vr 86), some (vi a1), some (vi a2), some (vi a3)] [] KS M Q := by
  refine s_iconst (show decode (am_cc m9_about) 33 = .ok (.iconst (-1), 1) by decide +kernel) ⟨by decide, by decide⟩ ?_
  exact s_ireturn (show decode (am_cc m9_about) 34 = .ok (.ireturn, 1) by decide +kernel) rfl k
theorem g9_about_35 {a1 a2 a3 : Int} {M : am_M} {Q : Option am_V → am_M → Prop} (k1 : ¬ a3 = M 86 1 → am_AtN m9_about 65 [some (vr 86), some (vi a1), some (vi a2), some (vi a3)] [] KS M Q) (k2 : a3 = M 86 1 → am_AtN m9_about 43 [some (vr 86), some (vi a1), some (vi a2), some (vi a3)] [] KS M Q) : am_AtN m9_about 35 [some (vr 86), some (vi a1), some (vi a2), some (vi a3)] [] KS M Q := by
  refine s_iload_n (show decode (am_cc m9_about) 35 = .ok (.iload_n 3, 1) by decide +kernel) rfl ?_
  refine s_aload_n (show decode (am_cc m9_about) 36 = .ok (.aload_n 0, 1) by decide +kernel) rfl ?_
  refine s_getf (k := 1) (v := vi (M 86 1)) (show decode (am_cc m9_about) 37 = .ok (.getfield 99, 3) by decide +kernel) kd86 (by decide) rfl jnX9 (by decide) lf_RX9_99 rfl ?_
  exact s_icmp_ne (tgt := 65) (show decode (am_cc m9_about) 40 = .ok (.if_icmp .ne 25, 3) by decide +kernel) (by decide) k1 k2
theorem g9_about_43 {a1 a2 a3 : Int} {M : am_M} {Q : Option am_V → am_M → Prop} (h1 : -2147483648 ≤ 6 * a1 ∧ 6 * a1 ≤ 2147483647) (h2 : -2147483648 ≤ (6 * a1) + a2 ∧ (6 * a1) + a2 ≤ 2147483647) (h3 : 0 ≤ (6 * a1) + a2) (h4 : (6 * a1) + a2 < 48) (k1 : M 88 ((6 * a1) + a2) = 0 → am_AtN m9_about 61 [some (vr 86), some (vi a1), some (vi a2), some (vi a3)] [] KS M Q) (k2 : ¬ (M 88 ((6 * a1) + a2) = 0) → am_AtN m9_about 57 [some (vr 86), some (vi a1), some (vi a2), some (vi a3)] [] KS M Q) : am_AtN m9_about 43 [some (vr 86), some (vi a1), some (vi a2), some (vi a3)] [] KS M Q := by
  refine s_aload_n (show decode (am_cc m9_about) 43 = .ok (.aload_n 0, 1) by decide +kernel) rfl ?_
  refine s_getf (k := 3) (v := vr 88) (show decode (am_cc m9_about) 44 = .ok (.getfield 13, 3) by decide +kernel) kd86 (by decide) rfl jnX9 (by decide) lf_RX9_13 rfl ?_
  refine s_bipush (show decode (am_cc m9_about) 47 = .ok (.bipush 6, 2) by decide +kernel) ⟨by decide, by decide⟩ (by decide) ?_
  refine s_iload_n (show decode (am_cc m9_about) 49 = .ok (.iload_n 1, 1) by decide +kernel) rfl ?_
  refine s_imul (show decode (am_cc m9_about) 50 = .ok (.imul, 1) by decide +kernel) h1 ?_
  refine s_iload_n (show decode (am_cc m9_about) 51 = .ok (.iload_n 2, 1) by decide +kernel) rfl ?_
  refine s_iadd (show decode (am_cc m9_about) 52 = .ok (.iadd, 1) by decide +kernel) h2 ?_
  refine s_baload (show decode (am_cc m9_about) 53 = .ok (.baload, 1) by decide +kernel) kd88 h3 h4 ?_
  exact s_if_eq (tgt := 61) (show decode (am_cc m9_about) 54 = .ok (.ifCond .eq 7, 3) by decide +kernel) (by decide) k1 k2
theorem g9_about_57 {a1 a2 a3 : Int} {M : am_M} {Q : Option am_V → am_M → Prop} (k : am_AtN m9_about 80 [some (vr 86), some (vi a1), some (vi a2), some (vi a3)] [vi 1] KS M Q) : am_AtN m9_about 57 [some (vr 86), some (vi a1), some (vi a2), some (vi a3)] [] KS M Q := by
  refine s_iconst (show decode (am_cc m9_about) 57 = .ok (.iconst 1, 1) by decide +kernel) ⟨by decide, by decide⟩ ?_
  refine s_goto (tgt := 80) (show decode (am_cc m9_about) 58 = .ok (.goto 22, 3) by decide +kernel) (by decide) ?_
  exact k
theorem g9_about_61 {a1 a2 a3 : Int} {M : am_M} {Q : Option am_V → am_M → Prop} (k : am_AtN m9_about 80 [some (vr 86), some (vi a1), some (vi a2), some (vi a3)] [vi 0] KS M Q) : am_AtN m9_about 61 [some (vr 86), some (vi a1), some (vi a2), some (vi a3)] [] KS M Q := by
  refine s_iconst (show decode (am_cc m9_about) 61 = .ok (.iconst 0, 1) by decide +kernel) ⟨by decide, by decide⟩ ?_
  refine s_goto (tgt := 80) (show decode (am_cc m9_about) 62 = .ok (.goto 18, 3) by decide +kernel) (by decide) ?_
  exact k
theorem g9_about_65 {a1 a2 a3 : Int} {M : am_M} {Q : Option am_V → am_M → Prop} (h1 : -2147483648 ≤ 24 * a1 ∧ 24 * a1 ≤ 2147483647) (h2 : -2147483648 ≤ 4 * a2 ∧ 4 * a2 ≤ 2147483647) (h3 : -2147483648 ≤ (24 * a1) + (4 * a2) ∧ (24 * a1) + (4 * a2) ≤ 2147483647) (h4 : -2147483648 ≤ ((24 * a1) + (4 * a2)) + a3 ∧ ((24 * a1) + (4 * a2)) + a3 ≤ 2147483647) (h5 : 0 ≤ ((24 * a1) + (4 * a2)) + a3) (h6 : ((24 * a1) + (4 * a2)) + a3 < 192) (k : am_AtN m9_about 80 [some (vr 86), some (vi a1), some (vi a2), some (vi a3)] [vi (M 87 (((24 * a1) + (4 * a2)) + a3))] KS M Q) : am_AtN m9_about 65 [some (vr 86), some (vi a1), some (vi a2), some (vi a3)] [] KS M Q := by
  refine s_aload_n (show decode (am_cc m9_about) 65 = .ok (.aload_n 0, 1) by decide +kernel) rfl ?_
  refine s_getf (k := 2) (v := vr 87) (show decode (am_cc m9_about) 66 = .ok (.getfield 7, 3) by decide +kernel) kd86 (by decide) rfl jnX9 (by decide) lf_RX9_7 rfl ?_
  refine s_bipush (show decode (am_cc m9_about) 69 = .ok (.bipush 24, 2) by decide +kernel) ⟨by decide, by decide⟩ (by decide) ?_
  refine s_iload_n (show decode (am_cc m9_about) 71 = .ok (.iload_n 1, 1) by decide +kernel) rfl ?_
  refine s_imul (show decode (am_cc m9_about) 72 = .ok (.imul, 1) by decide +kernel) h1 ?_
  refine s_iconst (show decode (am_cc m9_about) 73 = .ok (.iconst 4, 1) by decide +kernel) ⟨by decide, by decide⟩ ?_
  refine s_iload_n (show decode (am_cc m9_about) 74 = .ok (.iload_n 2, 1) by decide +kernel) rfl ?_
  refine s_imul (show decode (am_cc m9_about) 75 = .ok (.imul, 1) by decide +kernel) h2 ?_
  refine s_iadd (show decode (am_cc m9_about) 76 = .ok (.iadd, 1) by decide +kernel) h3 ?_
  refine s_iload_n (show decode (am_cc m9_about) 77 = .ok (.iload_n 3, 1) by decide +kernel) rfl ?_
  refine s_iadd (show decode (am_cc m9_about) 78 = .ok (.iadd, 1) by decide +kernel) h4 ?_
  refine s_iaload (show decode (am_cc m9_about) 79 = .ok (.iaload, 1) by decide +kernel) kd87 h5 h6 ?_
  exact k
theorem g9_about_80 {a1 a2 a3 t0 : Int} {M : am_M} {Q : Option am_V → am_M → Prop} (k : Q (some (vi t0)) M) : am_AtN m9_about 80 [some (vr 86), some (vi a1), some (vi a2), some (vi a3)] [vi t0] KS M Q := by
  exact s_ireturn (show decode (am_cc m9_about) 80 = .ok (.ireturn, 1) by decide +kernel) rfl k
theorem g9_isWord_0 {a1 : Int} {M : am_M} {Q : Option am_V → am_M → Prop} (k1 : a1 = 0 → am_AtN m9_isWord 56 [some (vr 86), some (vi a1)] [] KS M Q) (k2 : ¬ (a1 = 0) → am_AtN m9_isWord 4 [some (vr 86), some (vi a1)] [] KS M Q) : am_AtN m9_isWord 0 [some (vr 86), some (vi a1)] [] KS M Q := by
  refine s_iload_n (show decode (am_cc m9_isWord) 0 = .ok (.iload_n 1, 1) by decide +kernel) rfl ?_
  exact s_if_eq (tgt := 56) (show decode (am_cc m9_isWord) 1 = .ok (.ifCond .eq 55, 3) by decide +kernel) (by decide) k1 k2
theorem g9_isWord_4 {a1 : Int} {M : am_M} {Q : Option am_V → am_M → Prop} (k : am_CallN m9_in [vl a1, vl 1, vl (M 86 1)] KS M (fun r M' => am_AtN m9_isWord 15 [some (vr 86), some (vi a1)] (r.toList ++ []) KS M' Q)) : am_AtN m9_isWord 4 [some (vr 86), some (vi a1)] [] KS M Q := by
  refine s_iload_n (show decode (am_cc m9_isWord) 4 = .ok (.iload_n 1, 1) by decide +kernel) rfl ?_
  refine s_i2l (show decode (am_cc m9_isWord) 5 = .ok (.i2l, 1) by decide +kernel) ?_
  refine s_lconst (v := 1) (show decode (am_cc m9_isWord) 6 = .ok (.lconst 1, 1) by decide +kernel) (by decide) ⟨by decide, by decide⟩ ?_
  refine s_aload_n (show decode (am_cc m9_isWord) 7 = .ok (.aload_n 0, 1) by decide +kernel) rfl ?_
  refine s_getf (k := 1) (v := vi (M 86 1)) (show decode (am_cc m9_isWord) 8 = .ok (.getfield 99, 3) by decide +kernel) kd86 (by decide) rfl jnX9 (by decide) lf_RX9_99 rfl ?_
  refine s_i2l (show decode (am_cc m9_isWord) 11 = .ok (.i2l, 1) by decide +kernel) ?_
  exact n_callS (as := [vl a1, vl 1, vl (M 86 1)]) (stk := []) (show decode (am_cc m9_isWord) 12 = .ok (.invokestatic 110, 3) by decide +kernel) lk_RX9_110 (by decide) (Nat.le_of_ble_eq_true rfl) ⟨rfl, rfl⟩ k
theorem g9_isWord_15 {a1 t0 : Int} {M : am_M} {Q : Option am_V → am_M → Prop} (k1 : ¬ t0 = 0 → am_AtN m9_isWord 56 [some (vr 86), some (vi a1)] [] KS M Q) (k2 : t0 = 0 → am_AtN m9_isWord 18 [some (vr 86), some (vi a1)] [] KS M Q) : am_AtN m9_isWord 15 [some (vr 86), some (vi a1)] [vi t0] KS M Q := by
  exact s_if_ne (tgt := 56) (show decode (am_cc m9_isWord) 15 = .ok (.ifCond .ne 41, 3) by decide +kernel) (by decide) k1 k2
theorem g9_isWord_18 {a1 : Int} {M : am_M} {Q : Option am_V → am_M → Prop} (k : am_CallN m9_in [vl a1, vl 5, vl 20] KS M (fun r M' => am_AtN m9_isWord 29 [some (vr 86), some (vi a1)] (r.toList ++ []) KS M' Q)) : am_AtN m9_isWord 18 [some (vr 86), some (vi a1)] [] KS M Q := by
  refine s_iload_n (show decode (am_cc m9_isWord) 18 = .ok (.iload_n 1, 1) by decide +kernel) rfl ?_
  refine s_i2l (show decode (am_cc m9_isWord) 19 = .ok (.i2l, 1) by decide +kernel) ?_
  refine s_ldc2 (show decode (am_cc m9_isWord) 20 = .ok (.ldc2_w 114, 3) by decide +kernel) lc_RX9_114 ⟨by decide, by decide⟩ ?_
  refine s_ldc2 (show decode (am_cc m9_isWord) 23 = .ok (.ldc2_w 142, 3) by decide +kernel) lc_RX9_142 ⟨by decide, by decide⟩ ?_
  exact n_callS (as := [vl a1, vl 5, vl 20]) (stk := []) (show decode (am_cc m9_isWord) 26 = .ok (.invokestatic 110, 3) by decide +kernel) lk_RX9_110 (by decide) (Nat.le_of_ble_eq_true rfl) ⟨rfl, rfl⟩ k
theorem g9_isWord_29 {a1 t0 : Int} {M : am_M} {Q : Option am_V → am_M → Prop} (k1 : t0 = 0 → am_AtN m9_isWord 60 [some (vr 86), some (vi a1)] [] KS M Q) (k2 : ¬ (t0 = 0) → am_AtN m9_isWord 32 [some (vr 86), some (vi a1)] [] KS M Q) : am_AtN m9_isWord 29 [some (vr 86), some (vi a1)] [vi t0] KS M Q := by
  exact s_if_eq (tgt := 60) (show decode (am_cc m9_isWord) 29 = .ok (.ifCond .eq 31, 3) by decide +kernel) (by decide) k1 k2
theorem g9_isWord_32 {a1 : Int} {M : am_M} {Q : Option am_V → am_M → Prop} (h1 : -2147483648 ≤ a1 - 5 ∧ a1 - 5 ≤ 2147483647) (h2 : 0 ≤ a1 - 5) (k1 : M 86 1 ≤ (a1 - 5) / 4 → am_AtN m9_isWord 60 [some (vr 86), some (vi a1)] [] KS M Q) (k2 : ¬ (M 86 1 ≤ (a1 - 5) / 4) → am_AtN m9_isWord 44 [some (vr 86), some (vi a1)] [] KS M Q) : am_AtN m9_isWord 32 [some (vr 86), some (vi a1)] [] KS M Q := by
  refine s_iload_n (show decode (am_cc m9_isWord) 32 = .ok (.iload_n 1, 1) by decide +kernel) rfl ?_
  refine s_iconst (show decode (am_cc m9_isWord) 33 = .ok (.iconst 5, 1) by decide +kernel) ⟨by decide, by decide⟩ ?_
  refine s_isub (show decode (am_cc m9_isWord) 34 = .ok (.isub, 1) by decide +kernel) h1 ?_
  refine s_iconst (show decode (am_cc m9_isWord) 35 = .ok (.iconst 4, 1) by decide +kernel) ⟨by decide, by decide⟩ ?_
  refine s_idiv (show decode (am_cc m9_isWord) 36 = .ok (.idiv, 1) by decide +kernel) h2 (by decide) ?_
  refine s_aload_n (show decode (am_cc m9_isWord) 37 = .ok (.aload_n 0, 1) by decide +kernel) rfl ?_
  refine s_getf (k := 1) (v := vi (M 86 1)) (show decode (am_cc m9_isWord) 38 = .ok (.getfield 99, 3) by decide +kernel) kd86 (by decide) rfl jnX9 (by decide) lf_RX9_99 rfl ?_
  exact s_icmp_ge (tgt := 60) (show decode (am_cc m9_isWord) 41 = .ok (.if_icmp .ge 19, 3) by decide +kernel) (by decide) k1 k2
theorem g9_isWord_44 {a1 : Int} {M : am_M} {Q : Option am_V → am_M → Prop} (h1 : -2147483648 ≤ a1 - 5 ∧ a1 - 5 ≤ 2147483647) (h2 : 0 ≤ a1 - 5) (k1 : M 86 1 ≤ (a1 - 5) % 4 → am_AtN m9_isWord 60 [some (vr 86), some (vi a1)] [] KS M Q) (k2 : ¬ (M 86 1 ≤ (a1 - 5) % 4) → am_AtN m9_isWord 56 [some (vr 86), some (vi a1)] [] KS M Q) : am_AtN m9_isWord 44 [some (vr 86), some (vi a1)] [] KS M Q := by
  refine s_iload_n (show decode (am_cc m9_isWord) 44 = .ok (.iload_n 1, 1) by decide +kernel) rfl ?_
  refine s_iconst (show decode (am_cc m9_isWord) 45 = .ok (.iconst 5, 1) by decide +kernel) ⟨by decide, by decide⟩ ?_
  refine s_isub (show decode (am_cc m9_isWord) 46 = .ok (.isub, 1) by decide +kernel) h1 ?_
  refine s_iconst (show decode (am_cc m9_isWord) 47 = .ok (.iconst 4, 1) by decide +kernel) ⟨by decide, by decide⟩ ?_
  refine s_irem (show decode (am_cc m9_isWord) 48 = .ok (.irem, 1) by decide +kernel) h2 (by decide) ?_
  refine s_aload_n (show decode (am_cc m9_isWord) 49 = .ok (.aload_n 0, 1) by decide +kernel) rfl ?_
  refine s_getf (k := 1) (v := vi (M 86 1)) (show decode (am_cc m9_isWord) 50 = .ok (.getfield 99, 3) by decide +kernel) kd86 (by decide) rfl jnX9 (by decide) lf_RX9_99 rfl ?_
  exact s_icmp_ge (tgt := 60) (show decode (am_cc m9_isWord) 53 = .ok (.if_icmp .ge 7, 3) by decide +kernel) (by decide) k1 k2
theorem g9_isWord_56 {a1 : Int} {M : am_M} {Q : Option am_V → am_M → Prop} (k : am_AtN m9_isWord 61 [some (vr 86), some (vi a1)] [vi 1] KS M Q) : am_AtN m9_isWord 56 [some (vr 86), some (vi a1)] [] KS M Q := by
  refine s_iconst (show decode (am_cc m9_isWord) 56 = .ok (.iconst 1, 1) by decide +kernel) ⟨by decide, by decide⟩ ?_
  refine s_goto (tgt := 61) (show decode (am_cc m9_isWord) 57 = .ok (.goto 4, 3) by decide +kernel) (by decide) ?_
  exact k
theorem g9_isWord_60 {a1 : Int} {M : am_M} {Q : Option am_V → am_M → Prop} (k : am_AtN m9_isWord 61 [some (vr 86), some (vi a1)] [vi 0] KS M Q) : am_AtN m9_isWord 60 [some (vr 86), some (vi a1)] [] KS M Q := by
  refine s_iconst (show decode (am_cc m9_isWord) 60 = .ok (.iconst 0, 1) by decide +kernel) ⟨by decide, by decide⟩ ?_
  exact k
theorem g9_isWord_61 {a1 t0 : Int} {M : am_M} {Q : Option am_V → am_M → Prop} (h1 : t0 = 0 ∨ t0 = 1) (k : Q (some (vi t0)) M) : am_AtN m9_isWord 61 [some (vr 86), some (vi a1)] [vi t0] KS M Q := by
  exact s_zreturn (show decode (am_cc m9_isWord) 61 = .ok (.ireturn, 1) by decide +kernel) rfl h1 k
theorem g9_spot_0 {a1 a2 a3 a4 a5 : Int} {M : am_M} {Q : Option am_V → am_M → Prop} (k : am_CallN m9_noProgram [vi a1] KS (am_up M 86 0 0) (fun r M' => am_AtN m9_spot 9 [some (vr 86), some (vi a1), some (vi a2), some (vi a3), some (vi a4), some (vi a5), none, none] (r.toList ++ []) KS M' Q)) : am_AtN m9_spot 0 [some (vr 86), some (vi a1), some (vi a2), some (vi a3), some (vi a4), some (vi a5), none, none] [] KS M Q := by
  refine s_aload_n (show decode (am_cc m9_spot) 0 = .ok (.aload_n 0, 1) by decide +kernel) rfl ?_
  refine s_iconst (show decode (am_cc m9_spot) 1 = .ok (.iconst 0, 1) by decide +kernel) ⟨by decide, by decide⟩ ?_
  refine s_putf (k := 0) (x := 0) (ty0 := tyX9) (show decode (am_cc m9_spot) 2 = .ok (.putfield 95, 3) by decide +kernel) kd86 (by decide) rfl jnX9 tyX9_ok nmX9 (by decide) lf_RX9_95 rfl (Or.inl ⟨rfl, rfl, rfl⟩) ?_
  refine s_iload_n (show decode (am_cc m9_spot) 5 = .ok (.iload_n 1, 1) by decide +kernel) rfl ?_
  exact n_callS (as := [vi a1]) (stk := []) (show decode (am_cc m9_spot) 6 = .ok (.invokestatic 144, 3) by decide +kernel) lk_RX9_144 (by decide) (Nat.le_of_ble_eq_true rfl) ⟨rfl, rfl⟩ k
theorem g9_spot_9 {a1 a2 a3 a4 a5 t0 : Int} {M : am_M} {Q : Option am_V → am_M → Prop} (k1 : ¬ t0 = 0 → am_AtN m9_spot 35 [some (vr 86), some (vi a1), some (vi a2), some (vi a3), some (vi a4), some (vi a5), none, none] [] KS M Q) (k2 : t0 = 0 → am_AtN m9_spot 12 [some (vr 86), some (vi a1), some (vi a2), some (vi a3), some (vi a4), some (vi a5), none, none] [] KS M Q) : am_AtN m9_spot 9 [some (vr 86), some (vi a1), some (vi a2), some (vi a3), some (vi a4), some (vi a5), none, none] [vi t0] KS M Q := by
  exact s_if_ne (tgt := 35) (show decode (am_cc m9_spot) 9 = .ok (.ifCond .ne 26, 3) by decide +kernel) (by decide) k1 k2
theorem g9_spot_12 {a1 a2 a3 a4 a5 : Int} {M : am_M} {Q : Option am_V → am_M → Prop} (k : am_CallN m9_noPoint [vi a2] KS M (fun r M' => am_AtN m9_spot 16 [some (vr 86), some (vi a1), some (vi a2), some (vi a3), some (vi a4), some (vi a5), none, none] (r.toList ++ []) KS M' Q)) : am_AtN m9_spot 12 [some (vr 86), some (vi a1), some (vi a2), some (vi a3), some (vi a4), some (vi a5), none, none] [] KS M Q := by
  refine s_iload_n (show decode (am_cc m9_spot) 12 = .ok (.iload_n 2, 1) by decide +kernel) rfl ?_
  exact n_callS (as := [vi a2]) (stk := []) (show decode (am_cc m9_spot) 13 = .ok (.invokestatic 126, 3) by decide +kernel) lk_RX9_126 (by decide) (Nat.le_of_ble_eq_true rfl) ⟨rfl, rfl⟩ k
theorem g9_spot_16 {a1 a2 a3 a4 a5 t0 : Int} {M : am_M} {Q : Option am_V → am_M → Prop} (k1 : ¬ t0 = 0 → am_AtN m9_spot 35 [some (vr 86), some (vi a1), some (vi a2), some (vi a3), some (vi a4), some (vi a5), none, none] [] KS M Q) (k2 : t0 = 0 → am_AtN m9_spot 19 [some (vr 86), some (vi a1), some (vi a2), some (vi a3), some (vi a4), some (vi a5), none, none] [] KS M Q) : am_AtN m9_spot 16 [some (vr 86), some (vi a1), some (vi a2), some (vi a3), some (vi a4), some (vi a5), none, none] [vi t0] KS M Q := by
  exact s_if_ne (tgt := 35) (show decode (am_cc m9_spot) 16 = .ok (.ifCond .ne 19, 3) by decide +kernel) (by decide) k1 k2
theorem g9_spot_19 {a1 a2 a3 a4 a5 : Int} {M : am_M} {Q : Option am_V → am_M → Prop} (k : am_CallN m9_noLetter [vr 86, vi a3] KS M (fun r M' => am_AtN m9_spot 24 [some (vr 86), some (vi a1), some (vi a2), some (vi a3), some (vi a4), some (vi a5), none, none] (r.toList ++ []) KS M' Q)) : am_AtN m9_spot 19 [some (vr 86), some (vi a1), some (vi a2), some (vi a3), some (vi a4), some (vi a5), none, none] [] KS M Q := by
  refine s_aload_n (show decode (am_cc m9_spot) 19 = .ok (.aload_n 0, 1) by decide +kernel) rfl ?_
  refine s_iload_n (show decode (am_cc m9_spot) 20 = .ok (.iload_n 3, 1) by decide +kernel) rfl ?_
  exact n_callV (as := [vi a3]) (stk := []) (show decode (am_cc m9_spot) 21 = .ok (.invokevirtual 129, 3) by decide +kernel) lk_RX9_129 kd86 (by decide) rfl rfl (by decide) (Nat.le_of_ble_eq_true rfl) ⟨rfl, rfl⟩ k
theorem g9_spot_24 {a1 a2 a3 a4 a5 t0 : Int} {M : am_M} {Q : Option am_V → am_M → Prop} (k1 : ¬ t0 = 0 → am_AtN m9_spot 35 [some (vr 86), some (vi a1), some (vi a2), some (vi a3), some (vi a4), some (vi a5), none, none] [] KS M Q) (k2 : t0 = 0 → am_AtN m9_spot 27 [some (vr 86), some (vi a1), some (vi a2), some (vi a3), some (vi a4), some (vi a5), none, none] [] KS M Q) : am_AtN m9_spot 24 [some (vr 86), some (vi a1), some (vi a2), some (vi a3), some (vi a4), some (vi a5), none, none] [vi t0] KS M Q := by
  exact s_if_ne (tgt := 35) (show decode (am_cc m9_spot) 24 = .ok (.ifCond .ne 11, 3) by decide +kernel) (by decide) k1 k2
theorem g9_spot_27 {a1 a2 a3 a4 a5 : Int} {M : am_M} {Q : Option am_V → am_M → Prop} (k : am_CallN m9_noPoint [vi a4] KS M (fun r M' => am_AtN m9_spot 32 [some (vr 86), some (vi a1), some (vi a2), some (vi a3), some (vi a4), some (vi a5), none, none] (r.toList ++ []) KS M' Q)) : am_AtN m9_spot 27 [some (vr 86), some (vi a1), some (vi a2), some (vi a3), some (vi a4), some (vi a5), none, none] [] KS M Q := by
  refine s_iload (show decode (am_cc m9_spot) 27 = .ok (.iload 4, 2) by decide +kernel) rfl ?_
  exact n_callS (as := [vi a4]) (stk := []) (show decode (am_cc m9_spot) 29 = .ok (.invokestatic 126, 3) by decide +kernel) lk_RX9_126 (by decide) (Nat.le_of_ble_eq_true rfl) ⟨rfl, rfl⟩ k
theorem g9_spot_32 {a1 a2 a3 a4 a5 t0 : Int} {M : am_M} {Q : Option am_V → am_M → Prop} (k1 : t0 = 0 → am_AtN m9_spot 37 [some (vr 86), some (vi a1), some (vi a2), some (vi a3), some (vi a4), some (vi a5), none, none] [] KS M Q) (k2 : ¬ (t0 = 0) → am_AtN m9_spot 35 [some (vr 86), some (vi a1), some (vi a2), some (vi a3), some (vi a4), some (vi a5), none, none] [] KS M Q) : am_AtN m9_spot 32 [some (vr 86), some (vi a1), some (vi a2), some (vi a3), some (vi a4), some (vi a5), none, none] [vi t0] KS M Q := by
  exact s_if_eq (tgt := 37) (show decode (am_cc m9_spot) 32 = .ok (.ifCond .eq 5, 3) by decide +kernel) (by decide) k1 k2
theorem g9_spot_35 {a1 a2 a3 a4 a5 : Int} {M : am_M} {Q : Option am_V → am_M → Prop} (k : Q (some (vi (-1))) M) : am_AtN m9_spot 35 [some (vr 86), some (vi a1), some (vi a2), some (vi a3), some (vi a4), some (vi a5), none, none] [] KS M Q := by
  refine s_iconst (show decode (am_cc m9_spot) 35 = .ok (.iconst (-1), 1) by decide +kernel) ⟨by decide, by decide⟩ ?_
  exact s_ireturn (show decode (am_cc m9_spot) 36 = .ok (.ireturn, 1) by decide +kernel) rfl k
theorem g9_spot_37 {a1 a2 a3 a4 a5 : Int} {M : am_M} {Q : Option am_V → am_M → Prop} (k : am_CallN m9_isWord [vr 86, vi a5] KS M (fun r M' => am_AtN m9_spot 43 [some (vr 86), some (vi a1), some (vi a2), some (vi a3), some (vi a4), some (vi a5), none, none] (r.toList ++ []) KS M' Q)) : am_AtN m9_spot 37 [some (vr 86), some (vi a1), some (vi a2), some (vi a3), some (vi a4), some (vi a5), none, none] [] KS M Q := by
  refine s_aload_n (show decode (am_cc m9_spot) 37 = .ok (.aload_n 0, 1) by decide +kernel) rfl ?_
  refine s_iload (show decode (am_cc m9_spot) 38 = .ok (.iload 5, 2) by decide +kernel) rfl ?_
  exact n_callV (as := [vi a5]) (stk := []) (show decode (am_cc m9_spot) 40 = .ok (.invokevirtual 147, 3) by decide +kernel) lk_RX9_147 kd86 (by decide) rfl rfl (by decide) (Nat.le_of_ble_eq_true rfl) ⟨rfl, rfl⟩ k
theorem g9_spot_43 {a1 a2 a3 a4 a5 t0 : Int} {M : am_M} {Q : Option am_V → am_M → Prop} (k1 : ¬ t0 = 0 → am_AtN m9_spot 49 [some (vr 86), some (vi a1), some (vi a2), some (vi a3), some (vi a4), some (vi a5), none, none] [] KS M Q) (k2 : t0 = 0 → am_AtN m9_spot 46 [some (vr 86), some (vi a1), some (vi a2), some (vi a3), some (vi a4), some (vi a5), none, none] [] KS M Q) : am_AtN m9_spot 43 [some (vr 86), some (vi a1), some (vi a2), some (vi a3), some (vi a4), some (vi a5), none, none] [vi t0] KS M Q := by
  exact s_if_ne (tgt := 49) (show decode (am_cc m9_spot) 43 = .ok (.ifCond .ne 6, 3) by decide +kernel) (by decide) k1 k2
theorem g9_spot_46 {a1 a2 a3 a4 a5 : Int} {M : am_M} {Q : Option am_V → am_M → Prop} (k : Q (some (vi (-2))) M) : am_AtN m9_spot 46 [some (vr 86), some (vi a1), some (vi a2), some (vi a3), some (vi a4), some (vi a5), none, none] [] KS M Q := by
  refine s_bipush (show decode (am_cc m9_spot) 46 = .ok (.bipush (-2), 2) by decide +kernel) ⟨by decide, by decide⟩ (by decide) ?_
  exact s_ireturn (show decode (am_cc m9_spot) 48 = .ok (.ireturn, 1) by decide +kernel) rfl k
theorem g9_spot_49 {a1 a2 a3 a4 a5 : Int} {M : am_M} {Q : Option am_V → am_M → Prop} (h1 : -2147483648 ≤ 24 * a1 ∧ 24 * a1 ≤ 2147483647) (h2 : -2147483648 ≤ 4 * a2 ∧ 4 * a2 ≤ 2147483647) (h3 : -2147483648 ≤ (24 * a1) + (4 * a2) ∧ (24 * a1) + (4 * a2) ≤ 2147483647) (h4 : -2147483648 ≤ ((24 * a1) + (4 * a2)) + a3 ∧ ((24 * a1) + (4 * a2)) + a3 ≤ 2147483647) (h5 : 0 ≤ ((24 * a1) + (4 * a2)) + a3) (h6 : ((24 * a1) + (4 * a2)) + a3 < 96) (h7 : 0 ≤ ((24 * a1) + (4 * a2)) + a3) (h8 : ((24 * a1) + (4 * a2)) + a3 < 96) (h9 : 0 ≤ ((24 * a1) + (4 * a2)) + a3) (h10 : ((24 * a1) + (4 * a2)) + a3 < 96) (k : Q (some (vi (M 93 (((24 * a1) + (4 * a2)) + a3)))) (am_up (am_up M 93 (((24 * a1) + (4 * a2)) + a3) a5) 92 (((24 * a1) + (4 * a2)) + a3) a4)) : am_AtN m9_spot 49 [some (vr 86), some (vi a1), some (vi a2), some (vi a3), some (vi a4), some (vi a5), none, none] [] KS M Q := by
  refine s_bipush (show decode (am_cc m9_spot) 49 = .ok (.bipush 24, 2) by decide +kernel) ⟨by decide, by decide⟩ (by decide) ?_
  refine s_iload_n (show decode (am_cc m9_spot) 51 = .ok (.iload_n 1, 1) by decide +kernel) rfl ?_
  refine s_imul (show decode (am_cc m9_spot) 52 = .ok (.imul, 1) by decide +kernel) h1 ?_
  refine s_iconst (show decode (am_cc m9_spot) 53 = .ok (.iconst 4, 1) by decide +kernel) ⟨by decide, by decide⟩ ?_
  refine s_iload_n (show decode (am_cc m9_spot) 54 = .ok (.iload_n 2, 1) by decide +kernel) rfl ?_
  refine s_imul (show decode (am_cc m9_spot) 55 = .ok (.imul, 1) by decide +kernel) h2 ?_
  refine s_iadd (show decode (am_cc m9_spot) 56 = .ok (.iadd, 1) by decide +kernel) h3 ?_
  refine s_iload_n (show decode (am_cc m9_spot) 57 = .ok (.iload_n 3, 1) by decide +kernel) rfl ?_
  refine s_iadd (show decode (am_cc m9_spot) 58 = .ok (.iadd, 1) by decide +kernel) h4 ?_
  refine s_istore (show decode (am_cc m9_spot) 59 = .ok (.istore 6, 2) by decide +kernel) (by decide) ?_
  refine s_aload_n (show decode (am_cc m9_spot) 61 = .ok (.aload_n 0, 1) by decide +kernel) rfl ?_
  refine s_getf (k := 8) (v := vr 93) (show decode (am_cc m9_spot) 62 = .ok (.getfield 29, 3) by decide +kernel) kd86 (by decide) rfl jnX9 (by decide) lf_RX9_29 rfl ?_
  refine s_iload (show decode (am_cc m9_spot) 65 = .ok (.iload 6, 2) by decide +kernel) rfl ?_
  refine s_iaload (show decode (am_cc m9_spot) 67 = .ok (.iaload, 1) by decide +kernel) kd93 h5 h6 ?_
  refine s_istore (show decode (am_cc m9_spot) 68 = .ok (.istore 7, 2) by decide +kernel) (by decide) ?_
  refine s_aload_n (show decode (am_cc m9_spot) 70 = .ok (.aload_n 0, 1) by decide +kernel) rfl ?_
  refine s_getf (k := 8) (v := vr 93) (show decode (am_cc m9_spot) 71 = .ok (.getfield 29, 3) by decide +kernel) kd86 (by decide) rfl jnX9 (by decide) lf_RX9_29 rfl ?_
  refine s_iload (show decode (am_cc m9_spot) 74 = .ok (.iload 6, 2) by decide +kernel) rfl ?_
  refine s_iload (show decode (am_cc m9_spot) 76 = .ok (.iload 5, 2) by decide +kernel) rfl ?_
  refine s_iastore (show decode (am_cc m9_spot) 78 = .ok (.iastore, 1) by decide +kernel) kd93 h7 h8 ?_
  refine s_aload_n (show decode (am_cc m9_spot) 79 = .ok (.aload_n 0, 1) by decide +kernel) rfl ?_
  refine s_getf (k := 7) (v := vr 92) (show decode (am_cc m9_spot) 80 = .ok (.getfield 26, 3) by decide +kernel) kd86 (by decide) rfl jnX9 (by decide) lf_RX9_26 rfl ?_
  refine s_iload (show decode (am_cc m9_spot) 83 = .ok (.iload 6, 2) by decide +kernel) rfl ?_
  refine s_iload (show decode (am_cc m9_spot) 85 = .ok (.iload 4, 2) by decide +kernel) rfl ?_
  refine s_iastore (show decode (am_cc m9_spot) 87 = .ok (.iastore, 1) by decide +kernel) kd92 h9 h10 ?_
  refine s_iload (show decode (am_cc m9_spot) 88 = .ok (.iload 7, 2) by decide +kernel) rfl ?_
  exact s_ireturn (show decode (am_cc m9_spot) 90 = .ok (.ireturn, 1) by decide +kernel) rfl k
theorem g9_end_0 {a1 a2 a3 : Int} {M : am_M} {Q : Option am_V → am_M → Prop} (k : am_CallN m9_noProgram [vi a1] KS (am_up M 86 0 0) (fun r M' => am_AtN m9_end 9 [some (vr 86), some (vi a1), some (vi a2), some (vi a3), none] (r.toList ++ []) KS M' Q)) : am_AtN m9_end 0 [some (vr 86), some (vi a1), some (vi a2), some (vi a3), none] [] KS M Q := by
  refine s_aload_n (show decode (am_cc m9_end) 0 = .ok (.aload_n 0, 1) by decide +kernel) rfl ?_
  refine s_iconst (show decode (am_cc m9_end) 1 = .ok (.iconst 0, 1) by decide +kernel) ⟨by decide, by decide⟩ ?_
  refine s_putf (k := 0) (x := 0) (ty0 := tyX9) (show decode (am_cc m9_end) 2 = .ok (.putfield 95, 3) by decide +kernel) kd86 (by decide) rfl jnX9 tyX9_ok nmX9 (by decide) lf_RX9_95 rfl (Or.inl ⟨rfl, rfl, rfl⟩) ?_
  refine s_iload_n (show decode (am_cc m9_end) 5 = .ok (.iload_n 1, 1) by decide +kernel) rfl ?_
  exact n_callS (as := [vi a1]) (stk := []) (show decode (am_cc m9_end) 6 = .ok (.invokestatic 144, 3) by decide +kernel) lk_RX9_144 (by decide) (Nat.le_of_ble_eq_true rfl) ⟨rfl, rfl⟩ k
theorem g9_end_9 {a1 a2 a3 t0 : Int} {M : am_M} {Q : Option am_V → am_M → Prop} (k1 : ¬ t0 = 0 → am_AtN m9_end 19 [some (vr 86), some (vi a1), some (vi a2), some (vi a3), none] [] KS M Q) (k2 : t0 = 0 → am_AtN m9_end 12 [some (vr 86), some (vi a1), some (vi a2), some (vi a3), none] [] KS M Q) : am_AtN m9_end 9 [some (vr 86), some (vi a1), some (vi a2), some (vi a3), none] [vi t0] KS M Q := by
  exact s_if_ne (tgt := 19) (show decode (am_cc m9_end) 9 = .ok (.ifCond .ne 10, 3) by decide +kernel) (by decide) k1 k2
theorem g9_end_12 {a1 a2 a3 : Int} {M : am_M} {Q : Option am_V → am_M → Prop} (k : am_CallN m9_noPoint [vi a2] KS M (fun r M' => am_AtN m9_end 16 [some (vr 86), some (vi a1), some (vi a2), some (vi a3), none] (r.toList ++ []) KS M' Q)) : am_AtN m9_end 12 [some (vr 86), some (vi a1), some (vi a2), some (vi a3), none] [] KS M Q := by
  refine s_iload_n (show decode (am_cc m9_end) 12 = .ok (.iload_n 2, 1) by decide +kernel) rfl ?_
  exact n_callS (as := [vi a2]) (stk := []) (show decode (am_cc m9_end) 13 = .ok (.invokestatic 126, 3) by decide +kernel) lk_RX9_126 (by decide) (Nat.le_of_ble_eq_true rfl) ⟨rfl, rfl⟩ k
theorem g9_end_16 {a1 a2 a3 t0 : Int} {M : am_M} {Q : Option am_V → am_M → Prop} (k1 : t0 = 0 → am_AtN m9_end 21 [some (vr 86), some (vi a1), some (vi a2), some (vi a3), none] [] KS M Q) (k2 : ¬ (t0 = 0) → am_AtN m9_end 19 [some (vr 86), some (vi a1), some (vi a2), some (vi a3), none] [] KS M Q) : am_AtN m9_end 16 [some (vr 86), some (vi a1), some (vi a2), some (vi a3), none] [vi t0] KS M Q := by
  exact s_if_eq (tgt := 21) (show decode (am_cc m9_end) 16 = .ok (.ifCond .eq 5, 3) by decide +kernel) (by decide) k1 k2
theorem g9_end_19 {a1 a2 a3 : Int} {M : am_M} {Q : Option am_V → am_M → Prop} (k : Q (some (vi (-1))) M) : am_AtN m9_end 19 [some (vr 86), some (vi a1), some (vi a2), some (vi a3), none] [] KS M Q := by
  refine s_iconst (show decode (am_cc m9_end) 19 = .ok (.iconst (-1), 1) by decide +kernel) ⟨by decide, by decide⟩ ?_
  exact s_ireturn (show decode (am_cc m9_end) 20 = .ok (.ireturn, 1) by decide +kernel) rfl k
theorem g9_end_21 {a1 a2 a3 : Int} {M : am_M} {Q : Option am_V → am_M → Prop} (k1 : a3 = -1 → am_AtN m9_end 37 [some (vr 86), some (vi a1), some (vi a2), some (vi a3), none] [] KS M Q) (k2 : ¬ (a3 = -1) → am_AtN m9_end 26 [some (vr 86), some (vi a1), some (vi a2), some (vi a3), none] [] KS M Q) : am_AtN m9_end 21 [some (vr 86), some (vi a1), some (vi a2), some (vi a3), none] [] KS M Q := by
  refine s_iload_n (show decode (am_cc m9_end) 21 = .ok (.iload_n 3, 1) by decide +kernel) rfl ?_
  refine s_iconst (show decode (am_cc m9_end) 22 = .ok (.iconst (-1), 1) by decide +kernel) ⟨by decide, by decide⟩ ?_
  exact s_icmp_eq (tgt := 37) (show decode (am_cc m9_end) 23 = .ok (.if_icmp .eq 14, 3) by decide +kernel) (by decide) k1 k2
theorem g9_end_26 {a1 a2 a3 : Int} {M : am_M} {Q : Option am_V → am_M → Prop} (k : am_CallN m9_isWord [vr 86, vi a3] KS M (fun r M' => am_AtN m9_end 31 [some (vr 86), some (vi a1), some (vi a2), some (vi a3), none] (r.toList ++ []) KS M' Q)) : am_AtN m9_end 26 [some (vr 86), some (vi a1), some (vi a2), some (vi a3), none] [] KS M Q := by
  refine s_aload_n (show decode (am_cc m9_end) 26 = .ok (.aload_n 0, 1) by decide +kernel) rfl ?_
  refine s_iload_n (show decode (am_cc m9_end) 27 = .ok (.iload_n 3, 1) by decide +kernel) rfl ?_
  exact n_callV (as := [vi a3]) (stk := []) (show decode (am_cc m9_end) 28 = .ok (.invokevirtual 147, 3) by decide +kernel) lk_RX9_147 kd86 (by decide) rfl rfl (by decide) (Nat.le_of_ble_eq_true rfl) ⟨rfl, rfl⟩ k
theorem g9_end_31 {a1 a2 a3 t0 : Int} {M : am_M} {Q : Option am_V → am_M → Prop} (k1 : ¬ t0 = 0 → am_AtN m9_end 37 [some (vr 86), some (vi a1), some (vi a2), some (vi a3), none] [] KS M Q) (k2 : t0 = 0 → am_AtN m9_end 34 [some (vr 86), some (vi a1), some (vi a2), some (vi a3), none] [] KS M Q) : am_AtN m9_end 31 [some (vr 86), some (vi a1), some (vi a2), some (vi a3), none] [vi t0] KS M Q := by
  exact s_if_ne (tgt := 37) (show decode (am_cc m9_end) 31 = .ok (.ifCond .ne 6, 3) by decide +kernel) (by decide) k1 k2
theorem g9_end_34 {a1 a2 a3 : Int} {M : am_M} {Q : Option am_V → am_M → Prop} (k : Q (some (vi (-2))) M) : am_AtN m9_end 34 [some (vr 86), some (vi a1), some (vi a2), some (vi a3), none] [] KS M Q := by
  refine s_bipush (show decode (am_cc m9_end) 34 = .ok (.bipush (-2), 2) by decide +kernel) ⟨by decide, by decide⟩ (by decide) ?_
  exact s_ireturn (show decode (am_cc m9_end) 36 = .ok (.ireturn, 1) by decide +kernel) rfl k
theorem g9_end_37 {a1 a2 a3 : Int} {M : am_M} {Q : Option am_V → am_M → Prop} (h1 : -2147483648 ≤ 6 * a1 ∧ 6 * a1 ≤ 2147483647) (h2 : -2147483648 ≤ (6 * a1) + a2 ∧ (6 * a1) + a2 ≤ 2147483647) (h3 : 0 ≤ (6 * a1) + a2) (h4 : (6 * a1) + a2 < 24) (h5 : -2147483648 ≤ 6 * a1 ∧ 6 * a1 ≤ 2147483647) (h6 : -2147483648 ≤ (6 * a1) + a2 ∧ (6 * a1) + a2 ≤ 2147483647) (h7 : 0 ≤ (6 * a1) + a2) (h8 : (6 * a1) + a2 < 24) (k : Q (some (vi (M 94 ((6 * a1) + a2)))) (am_up M 94 ((6 * a1) + a2) a3)) : am_AtN m9_end 37 [some (vr 86), some (vi a1), some (vi a2), some (vi a3), none] [] KS M Q := by
  refine s_aload_n (show decode (am_cc m9_end) 37 = .ok (.aload_n 0, 1) by decide +kernel) rfl ?_
  refine s_getf (k := 9) (v := vr 94) (show decode (am_cc m9_end) 38 = .ok (.getfield 32, 3) by decide +kernel) kd86 (by decide) rfl jnX9 (by decide) lf_RX9_32 rfl ?_
  refine s_bipush (show decode (am_cc m9_end) 41 = .ok (.bipush 6, 2) by decide +kernel) ⟨by decide, by decide⟩ (by decide) ?_
  refine s_iload_n (show decode (am_cc m9_end) 43 = .ok (.iload_n 1, 1) by decide +kernel) rfl ?_
  refine s_imul (show decode (am_cc m9_end) 44 = .ok (.imul, 1) by decide +kernel) h1 ?_
  refine s_iload_n (show decode (am_cc m9_end) 45 = .ok (.iload_n 2, 1) by decide +kernel) rfl ?_
  refine s_iadd (show decode (am_cc m9_end) 46 = .ok (.iadd, 1) by decide +kernel) h2 ?_
  refine s_iaload (show decode (am_cc m9_end) 47 = .ok (.iaload, 1) by decide +kernel) kd94 h3 h4 ?_
  refine s_istore (show decode (am_cc m9_end) 48 = .ok (.istore 4, 2) by decide +kernel) (by decide) ?_
  refine s_aload_n (show decode (am_cc m9_end) 50 = .ok (.aload_n 0, 1) by decide +kernel) rfl ?_
  refine s_getf (k := 9) (v := vr 94) (show decode (am_cc m9_end) 51 = .ok (.getfield 32, 3) by decide +kernel) kd86 (by decide) rfl jnX9 (by decide) lf_RX9_32 rfl ?_
  refine s_bipush (show decode (am_cc m9_end) 54 = .ok (.bipush 6, 2) by decide +kernel) ⟨by decide, by decide⟩ (by decide) ?_
  refine s_iload_n (show decode (am_cc m9_end) 56 = .ok (.iload_n 1, 1) by decide +kernel) rfl ?_
  refine s_imul (show decode (am_cc m9_end) 57 = .ok (.imul, 1) by decide +kernel) h5 ?_
  refine s_iload_n (show decode (am_cc m9_end) 58 = .ok (.iload_n 2, 1) by decide +kernel) rfl ?_
  refine s_iadd (show decode (am_cc m9_end) 59 = .ok (.iadd, 1) by decide +kernel) h6 ?_
  refine s_iload_n (show decode (am_cc m9_end) 60 = .ok (.iload_n 3, 1) by decide +kernel) rfl ?_
  refine s_iastore (show decode (am_cc m9_end) 61 = .ok (.iastore, 1) by decide +kernel) kd94 h7 h8 ?_
  refine s_iload (show decode (am_cc m9_end) 62 = .ok (.iload 4, 2) by decide +kernel) rfl ?_
  exact s_ireturn (show decode (am_cc m9_end) 64 = .ok (.ireturn, 1) by decide +kernel) rfl k
theorem g9_of_0 {a1 a2 a3 a4 : Int} {M : am_M} {Q : Option am_V → am_M → Prop} (k : am_CallN m9_noProgram [vi a1] KS (am_up M 86 0 0) (fun r M' => am_AtN m9_of 9 [some (vr 86), some (vi a1), some (vi a2), some (vi a3), some (vi a4), none] (r.toList ++ []) KS M' Q)) : am_AtN m9_of 0 [some (vr 86), some (vi a1), some (vi a2), some (vi a3), some (vi a4), none] [] KS M Q := by
  refine s_aload_n (show decode (am_cc m9_of) 0 = .ok (.aload_n 0, 1) by decide +kernel) rfl ?_
  refine s_iconst (show decode (am_cc m9_of) 1 = .ok (.iconst 0, 1) by decide +kernel) ⟨by decide, by decide⟩ ?_
  refine s_putf (k := 0) (x := 0) (ty0 := tyX9) (show decode (am_cc m9_of) 2 = .ok (.putfield 95, 3) by decide +kernel) kd86 (by decide) rfl jnX9 tyX9_ok nmX9 (by decide) lf_RX9_95 rfl (Or.inl ⟨rfl, rfl, rfl⟩) ?_
  refine s_iload_n (show decode (am_cc m9_of) 5 = .ok (.iload_n 1, 1) by decide +kernel) rfl ?_
  exact n_callS (as := [vi a1]) (stk := []) (show decode (am_cc m9_of) 6 = .ok (.invokestatic 144, 3) by decide +kernel) lk_RX9_144 (by decide) (Nat.le_of_ble_eq_true rfl) ⟨rfl, rfl⟩ k
theorem g9_of_9 {a1 a2 a3 a4 t0 : Int} {M : am_M} {Q : Option am_V → am_M → Prop} (k1 : ¬ t0 = 0 → am_AtN m9_of 33 [some (vr 86), some (vi a1), some (vi a2), some (vi a3), some (vi a4), none] [] KS M Q) (k2 : t0 = 0 → am_AtN m9_of 12 [some (vr 86), some (vi a1), some (vi a2), some (vi a3), some (vi a4), none] [] KS M Q) : am_AtN m9_of 9 [some (vr 86), some (vi a1), some (vi a2), some (vi a3), some (vi a4), none] [vi t0] KS M Q := by
  exact s_if_ne (tgt := 33) (show decode (am_cc m9_of) 9 = .ok (.ifCond .ne 24, 3) by decide +kernel) (by decide) k1 k2
theorem g9_of_12 {a1 a2 a3 a4 : Int} {M : am_M} {Q : Option am_V → am_M → Prop} (k : am_CallN m9_noPoint [vi a2] KS M (fun r M' => am_AtN m9_of 16 [some (vr 86), some (vi a1), some (vi a2), some (vi a3), some (vi a4), none] (r.toList ++ []) KS M' Q)) : am_AtN m9_of 12 [some (vr 86), some (vi a1), some (vi a2), some (vi a3), some (vi a4), none] [] KS M Q := by
  refine s_iload_n (show decode (am_cc m9_of) 12 = .ok (.iload_n 2, 1) by decide +kernel) rfl ?_
  exact n_callS (as := [vi a2]) (stk := []) (show decode (am_cc m9_of) 13 = .ok (.invokestatic 126, 3) by decide +kernel) lk_RX9_126 (by decide) (Nat.le_of_ble_eq_true rfl) ⟨rfl, rfl⟩ k
theorem g9_of_16 {a1 a2 a3 a4 t0 : Int} {M : am_M} {Q : Option am_V → am_M → Prop} (k1 : ¬ t0 = 0 → am_AtN m9_of 33 [some (vr 86), some (vi a1), some (vi a2), some (vi a3), some (vi a4), none] [] KS M Q) (k2 : t0 = 0 → am_AtN m9_of 19 [some (vr 86), some (vi a1), some (vi a2), some (vi a3), some (vi a4), none] [] KS M Q) : am_AtN m9_of 16 [some (vr 86), some (vi a1), some (vi a2), some (vi a3), some (vi a4), none] [vi t0] KS M Q := by
  exact s_if_ne (tgt := 33) (show decode (am_cc m9_of) 16 = .ok (.ifCond .ne 17, 3) by decide +kernel) (by decide) k1 k2
theorem g9_of_19 {a1 a2 a3 a4 : Int} {M : am_M} {Q : Option am_V → am_M → Prop} (k : am_CallN m9_in [vl a3, vl 0, vl (M 86 1)] KS M (fun r M' => am_AtN m9_of 30 [some (vr 86), some (vi a1), some (vi a2), some (vi a3), some (vi a4), none] (r.toList ++ []) KS M' Q)) : am_AtN m9_of 19 [some (vr 86), some (vi a1), some (vi a2), some (vi a3), some (vi a4), none] [] KS M Q := by
  refine s_iload_n (show decode (am_cc m9_of) 19 = .ok (.iload_n 3, 1) by decide +kernel) rfl ?_
  refine s_i2l (show decode (am_cc m9_of) 20 = .ok (.i2l, 1) by decide +kernel) ?_
  refine s_lconst (v := 0) (show decode (am_cc m9_of) 21 = .ok (.lconst 0, 1) by decide +kernel) (by decide) ⟨by decide, by decide⟩ ?_
  refine s_aload_n (show decode (am_cc m9_of) 22 = .ok (.aload_n 0, 1) by decide +kernel) rfl ?_
  refine s_getf (k := 1) (v := vi (M 86 1)) (show decode (am_cc m9_of) 23 = .ok (.getfield 99, 3) by decide +kernel) kd86 (by decide) rfl jnX9 (by decide) lf_RX9_99 rfl ?_
  refine s_i2l (show decode (am_cc m9_of) 26 = .ok (.i2l, 1) by decide +kernel) ?_
  exact n_callS (as := [vl a3, vl 0, vl (M 86 1)]) (stk := []) (show decode (am_cc m9_of) 27 = .ok (.invokestatic 110, 3) by decide +kernel) lk_RX9_110 (by decide) (Nat.le_of_ble_eq_true rfl) ⟨rfl, rfl⟩ k
theorem g9_of_30 {a1 a2 a3 a4 t0 : Int} {M : am_M} {Q : Option am_V → am_M → Prop} (k1 : ¬ t0 = 0 → am_AtN m9_of 35 [some (vr 86), some (vi a1), some (vi a2), some (vi a3), some (vi a4), none] [] KS M Q) (k2 : t0 = 0 → am_AtN m9_of 33 [some (vr 86), some (vi a1), some (vi a2), some (vi a3), some (vi a4), none] [] KS M Q) : am_AtN m9_of 30 [some (vr 86), some (vi a1), some (vi a2), some (vi a3), some (vi a4), none] [vi t0] KS M Q := by
  exact s_if_ne (tgt := 35) (show decode (am_cc m9_of) 30 = .ok (.ifCond .ne 5, 3) by decide +kernel) (by decide) k1 k2
theorem g9_of_33 {a1 a2 a3 a4 : Int} {M : am_M} {Q : Option am_V → am_M → Prop} (k : Q (some (vi (-1))) M) : am_AtN m9_of 33 [some (vr 86), some (vi a1), some (vi a2), some (vi a3), some (vi a4), none] [] KS M Q := by
  refine s_iconst (show decode (am_cc m9_of) 33 = .ok (.iconst (-1), 1) by decide +kernel) ⟨by decide, by decide⟩ ?_
  exact s_ireturn (show decode (am_cc m9_of) 34 = .ok (.ireturn, 1) by decide +kernel) rfl k
theorem g9_of_35 {a1 a2 a3 a4 : Int} {M : am_M} {Q : Option am_V → am_M → Prop} (k : am_CallN m9_in [vl a4, vl 0, vl 1] KS M (fun r M' => am_AtN m9_of 43 [some (vr 86), some (vi a1), some (vi a2), some (vi a3), some (vi a4), none] (r.toList ++ []) KS M' Q)) : am_AtN m9_of 35 [some (vr 86), some (vi a1), some (vi a2), some (vi a3), some (vi a4), none] [] KS M Q := by
  refine s_iload (show decode (am_cc m9_of) 35 = .ok (.iload 4, 2) by decide +kernel) rfl ?_
  refine s_i2l (show decode (am_cc m9_of) 37 = .ok (.i2l, 1) by decide +kernel) ?_
  refine s_lconst (v := 0) (show decode (am_cc m9_of) 38 = .ok (.lconst 0, 1) by decide +kernel) (by decide) ⟨by decide, by decide⟩ ?_
  refine s_lconst (v := 1) (show decode (am_cc m9_of) 39 = .ok (.lconst 1, 1) by decide +kernel) (by decide) ⟨by decide, by decide⟩ ?_
  exact n_callS (as := [vl a4, vl 0, vl 1]) (stk := []) (show decode (am_cc m9_of) 40 = .ok (.invokestatic 110, 3) by decide +kernel) lk_RX9_110 (by decide) (Nat.le_of_ble_eq_true rfl) ⟨rfl, rfl⟩ k
theorem g9_of_43 {a1 a2 a3 a4 t0 : Int} {M : am_M} {Q : Option am_V → am_M → Prop} (k1 : t0 = 0 → am_AtN m9_of 59 [some (vr 86), some (vi a1), some (vi a2), some (vi a3), some (vi a4), none] [] KS M Q) (k2 : ¬ (t0 = 0) → am_AtN m9_of 46 [some (vr 86), some (vi a1), some (vi a2), some (vi a3), some (vi a4), none] [] KS M Q) : am_AtN m9_of 43 [some (vr 86), some (vi a1), some (vi a2), some (vi a3), some (vi a4), none] [vi t0] KS M Q := by
  exact s_if_eq (tgt := 59) (show decode (am_cc m9_of) 43 = .ok (.ifCond .eq 16, 3) by decide +kernel) (by decide) k1 k2
theorem g9_of_46 {a1 a2 a3 a4 : Int} {M : am_M} {Q : Option am_V → am_M → Prop} (k1 : ¬ a3 = M 86 1 → am_AtN m9_of 62 [some (vr 86), some (vi a1), some (vi a2), some (vi a3), some (vi a4), none] [] KS M Q) (k2 : a3 = M 86 1 → am_AtN m9_of 54 [some (vr 86), some (vi a1), some (vi a2), some (vi a3), some (vi a4), none] [] KS M Q) : am_AtN m9_of 46 [some (vr 86), some (vi a1), some (vi a2), some (vi a3), some (vi a4), none] [] KS M Q := by
  refine s_iload_n (show decode (am_cc m9_of) 46 = .ok (.iload_n 3, 1) by decide +kernel) rfl ?_
  refine s_aload_n (show decode (am_cc m9_of) 47 = .ok (.aload_n 0, 1) by decide +kernel) rfl ?_
  refine s_getf (k := 1) (v := vi (M 86 1)) (show decode (am_cc m9_of) 48 = .ok (.getfield 99, 3) by decide +kernel) kd86 (by decide) rfl jnX9 (by decide) lf_RX9_99 rfl ?_
  exact s_icmp_ne (tgt := 62) (show decode (am_cc m9_of) 51 = .ok (.if_icmp .ne 11, 3) by decide +kernel) (by decide) k1 k2
theorem g9_of_54 {a1 a2 a3 a4 : Int} {M : am_M} {Q : Option am_V → am_M → Prop} (k1 : ¬ a4 = 0 → am_AtN m9_of 62 [some (vr 86), some (vi a1), some (vi a2), some (vi a3), some (vi a4), none] [] KS M Q) (k2 : a4 = 0 → am_AtN m9_of 59 [some (vr 86), some (vi a1), some (vi a2), some (vi a3), some (vi a4), none] [] KS M Q) : am_AtN m9_of 54 [some (vr 86), some (vi a1), some (vi a2), some (vi a3), some (vi a4), none] [] KS M Q := by
  refine s_iload (show decode (am_cc m9_of) 54 = .ok (.iload 4, 2) by decide +kernel) rfl ?_
  exact s_if_ne (tgt := 62) (show decode (am_cc m9_of) 56 = .ok (.ifCond .ne 6, 3) by decide +kernel) (by decide) k1 k2
theorem g9_of_59 {a1 a2 a3 a4 : Int} {M : am_M} {Q : Option am_V → am_M → Prop} (k : Q (some (vi (-2))) M) : am_AtN m9_of 59 [some (vr 86), some (vi a1), some (vi a2), some (vi a3), some (vi a4), none] [] KS M Q := by
  refine s_bipush (show decode (am_cc m9_of) 59 = .ok (.bipush (-2), 2) by decide +kernel) ⟨by decide, by decide⟩ (by decide) ?_
  exact s_ireturn (show decode (am_cc m9_of) 61 = .ok (.ireturn, 1) by decide +kernel) rfl k
theorem g9_of_62 {a1 a2 a3 a4 : Int} {M : am_M} {Q : Option am_V → am_M → Prop} (h1 : -2147483648 ≤ 24 * a1 ∧ 24 * a1 ≤ 2147483647) (h2 : -2147483648 ≤ 4 * a2 ∧ 4 * a2 ≤ 2147483647) (h3 : -2147483648 ≤ (24 * a1) + (4 * a2) ∧ (24 * a1) + (4 * a2) ≤ 2147483647) (h4 : -2147483648 ≤ ((24 * a1) + (4 * a2)) + a3 ∧ ((24 * a1) + (4 * a2)) + a3 ≤ 2147483647) (k1 : ¬ a3 = M 86 1 → am_AtN m9_of 96 [some (vr 86), some (vi a1), some (vi a2), some (vi a3), some (vi a4), some (vi (((24 * a1) + (4 * a2)) + a3))] [] KS M Q) (k2 : a3 = M 86 1 → am_AtN m9_of 82 [some (vr 86), some (vi a1), some (vi a2), some (vi a3), some (vi a4), some (vi (((24 * a1) + (4 * a2)) + a3))] [] KS M Q) : am_AtN m9_of 62 [some (vr 86), some (vi a1), some (vi a2), some (vi a3), some (vi a4), none] [] KS M Q := by
  refine s_bipush (show decode (am_cc m9_of) 62 = .ok (.bipush 24, 2) by decide +kernel) ⟨by decide, by decide⟩ (by decide) ?_
  refine s_iload_n (show decode (am_cc m9_of) 64 = .ok (.iload_n 1, 1) by decide +kernel) rfl ?_
  refine s_imul (show decode (am_cc m9_of) 65 = .ok (.imul, 1) by decide +kernel) h1 ?_
  refine s_iconst (show decode (am_cc m9_of) 66 = .ok (.iconst 4, 1) by decide +kernel) ⟨by decide, by decide⟩ ?_
  refine s_iload_n (show decode (am_cc m9_of) 67 = .ok (.iload_n 2, 1) by decide +kernel) rfl ?_
  refine s_imul (show decode (am_cc m9_of) 68 = .ok (.imul, 1) by decide +kernel) h2 ?_
  refine s_iadd (show decode (am_cc m9_of) 69 = .ok (.iadd, 1) by decide +kernel) h3 ?_
  refine s_iload_n (show decode (am_cc m9_of) 70 = .ok (.iload_n 3, 1) by decide +kernel) rfl ?_
  refine s_iadd (show decode (am_cc m9_of) 71 = .ok (.iadd, 1) by decide +kernel) h4 ?_
  refine s_istore (show decode (am_cc m9_of) 72 = .ok (.istore 5, 2) by decide +kernel) (by decide) ?_
  refine s_iload_n (show decode (am_cc m9_of) 74 = .ok (.iload_n 3, 1) by decide +kernel) rfl ?_
  refine s_aload_n (show decode (am_cc m9_of) 75 = .ok (.aload_n 0, 1) by decide +kernel) rfl ?_
  refine s_getf (k := 1) (v := vi (M 86 1)) (show decode (am_cc m9_of) 76 = .ok (.getfield 99, 3) by decide +kernel) kd86 (by decide) rfl jnX9 (by decide) lf_RX9_99 rfl ?_
  exact s_icmp_ne (tgt := 96) (show decode (am_cc m9_of) 79 = .ok (.if_icmp .ne 17, 3) by decide +kernel) (by decide) k1 k2
theorem g9_of_82 {a1 a2 a3 a4 a5 : Int} {M : am_M} {Q : Option am_V → am_M → Prop} (h1 : -2147483648 ≤ 6 * a1 ∧ 6 * a1 ≤ 2147483647) (h2 : -2147483648 ≤ (6 * a1) + a2 ∧ (6 * a1) + a2 ≤ 2147483647) (h3 : 0 ≤ (6 * a1) + a2) (h4 : (6 * a1) + a2 < 24) (k : am_AtN m9_of 118 [some (vr 86), some (vi a1), some (vi a2), some (vi a3), some (vi a4), some (vi a5)] [vi (M 94 ((6 * a1) + a2))] KS M Q) : am_AtN m9_of 82 [some (vr 86), some (vi a1), some (vi a2), some (vi a3), some (vi a4), some (vi a5)] [] KS M Q := by
  refine s_aload_n (show decode (am_cc m9_of) 82 = .ok (.aload_n 0, 1) by decide +kernel) rfl ?_
  refine s_getf (k := 9) (v := vr 94) (show decode (am_cc m9_of) 83 = .ok (.getfield 32, 3) by decide +kernel) kd86 (by decide) rfl jnX9 (by decide) lf_RX9_32 rfl ?_
  refine s_bipush (show decode (am_cc m9_of) 86 = .ok (.bipush 6, 2) by decide +kernel) ⟨by decide, by decide⟩ (by decide) ?_
  refine s_iload_n (show decode (am_cc m9_of) 88 = .ok (.iload_n 1, 1) by decide +kernel) rfl ?_
  refine s_imul (show decode (am_cc m9_of) 89 = .ok (.imul, 1) by decide +kernel) h1 ?_
  refine s_iload_n (show decode (am_cc m9_of) 90 = .ok (.iload_n 2, 1) by decide +kernel) rfl ?_
  refine s_iadd (show decode (am_cc m9_of) 91 = .ok (.iadd, 1) by decide +kernel) h2 ?_
  refine s_iaload (show decode (am_cc m9_of) 92 = .ok (.iaload, 1) by decide +kernel) kd94 h3 h4 ?_
  refine s_goto (tgt := 118) (show decode (am_cc m9_of) 93 = .ok (.goto 25, 3) by decide +kernel) (by decide) ?_
  exact k
theorem g9_of_96 {a1 a2 a3 a4 a5 : Int} {M : am_M} {Q : Option am_V → am_M → Prop} (k1 : ¬ a4 = 0 → am_AtN m9_of 111 [some (vr 86), some (vi a1), some (vi a2), some (vi a3), some (vi a4), some (vi a5)] [] KS M Q) (k2 : a4 = 0 → am_AtN m9_of 101 [some (vr 86), some (vi a1), some (vi a2), some (vi a3), some (vi a4), some (vi a5)] [] KS M Q) : am_AtN m9_of 96 [some (vr 86), some (vi a1), some (vi a2), some (vi a3), some (vi a4), some (vi a5)] [] KS M Q := by
  refine s_iload (show decode (am_cc m9_of) 96 = .ok (.iload 4, 2) by decide +kernel) rfl ?_
  exact s_if_ne (tgt := 111) (show decode (am_cc m9_of) 98 = .ok (.ifCond .ne 13, 3) by decide +kernel) (by decide) k1 k2
theorem g9_of_101 {a1 a2 a3 a4 a5 : Int} {M : am_M} {Q : Option am_V → am_M → Prop} (h1 : 0 ≤ a5) (h2 : a5 < 96) (k : am_AtN m9_of 118 [some (vr 86), some (vi a1), some (vi a2), some (vi a3), some (vi a4), some (vi a5)] [vi (M 92 a5)] KS M Q) : am_AtN m9_of 101 [some (vr 86), some (vi a1), some (vi a2), some (vi a3), some (vi a4), some (vi a5)] [] KS M Q := by
  refine s_aload_n (show decode (am_cc m9_of) 101 = .ok (.aload_n 0, 1) by decide +kernel) rfl ?_
  refine s_getf (k := 7) (v := vr 92) (show decode (am_cc m9_of) 102 = .ok (.getfield 26, 3) by decide +kernel) kd86 (by decide) rfl jnX9 (by decide) lf_RX9_26 rfl ?_
  refine s_iload (show decode (am_cc m9_of) 105 = .ok (.iload 5, 2) by decide +kernel) rfl ?_
  refine s_iaload (show decode (am_cc m9_of) 107 = .ok (.iaload, 1) by decide +kernel) kd92 h1 h2 ?_
  refine s_goto (tgt := 118) (show decode (am_cc m9_of) 108 = .ok (.goto 10, 3) by decide +kernel) (by decide) ?_
  exact k
theorem g9_of_111 {a1 a2 a3 a4 a5 : Int} {M : am_M} {Q : Option am_V → am_M → Prop} (h1 : 0 ≤ a5) (h2 : a5 < 96) (k : am_AtN m9_of 118 [some (vr 86), some (vi a1), some (vi a2), some (vi a3), some (vi a4), some (vi a5)] [vi (M 93 a5)] KS M Q) : am_AtN m9_of 111 [some (vr 86), some (vi a1), some (vi a2), some (vi a3), some (vi a4), some (vi a5)] [] KS M Q := by
  refine s_aload_n (show decode (am_cc m9_of) 111 = .ok (.aload_n 0, 1) by decide +kernel) rfl ?_
  refine s_getf (k := 8) (v := vr 93) (show decode (am_cc m9_of) 112 = .ok (.getfield 29, 3) by decide +kernel) kd86 (by decide) rfl jnX9 (by decide) lf_RX9_29 rfl ?_
  refine s_iload (show decode (am_cc m9_of) 115 = .ok (.iload 5, 2) by decide +kernel) rfl ?_
  refine s_iaload (show decode (am_cc m9_of) 117 = .ok (.iaload, 1) by decide +kernel) kd93 h1 h2 ?_
  exact k
theorem g9_of_118 {a1 a2 a3 a4 a5 t0 : Int} {M : am_M} {Q : Option am_V → am_M → Prop} (k : Q (some (vi t0)) M) : am_AtN m9_of 118 [some (vr 86), some (vi a1), some (vi a2), some (vi a3), some (vi a4), some (vi a5)] [vi t0] KS M Q := by
  exact s_ireturn (show decode (am_cc m9_of) 118 = .ok (.ireturn, 1) by decide +kernel) rfl k
theorem g9_longOf_0 {a0 : Int} {K : am_K} {M : am_M} {Q : Option am_V → am_M → Prop} (k1 : ¬ a0 = 0 → am_AtN m9_longOf 8 [some (vi a0)] [] K M Q) (k2 : a0 = 0 → am_AtN m9_longOf 4 [some (vi a0)] [] K M Q) : am_AtN m9_longOf 0 [some (vi a0)] [] K M Q := by
  refine s_iload_n (show decode (am_cc m9_longOf) 0 = .ok (.iload_n 0, 1) by decide +kernel) rfl ?_
  exact s_if_ne (tgt := 8) (show decode (am_cc m9_longOf) 1 = .ok (.ifCond .ne 7, 3) by decide +kernel) (by decide) k1 k2
theorem g9_longOf_4 {a0 : Int} {K : am_K} {M : am_M} {Q : Option am_V → am_M → Prop} (k : am_AtN m9_longOf 18 [some (vi a0)] [vi 0] K M Q) : am_AtN m9_longOf 4 [some (vi a0)] [] K M Q := by
  refine s_iconst (show decode (am_cc m9_longOf) 4 = .ok (.iconst 0, 1) by decide +kernel) ⟨by decide, by decide⟩ ?_
  refine s_goto (tgt := 18) (show decode (am_cc m9_longOf) 5 = .ok (.goto 13, 3) by decide +kernel) (by decide) ?_
  exact k
theorem g9_longOf_8 {a0 : Int} {K : am_K} {M : am_M} {Q : Option am_V → am_M → Prop} (k1 : 5 ≤ a0 → am_AtN m9_longOf 17 [some (vi a0)] [] K M Q) (k2 : ¬ (5 ≤ a0) → am_AtN m9_longOf 13 [some (vi a0)] [] K M Q) : am_AtN m9_longOf 8 [some (vi a0)] [] K M Q := by
  refine s_iload_n (show decode (am_cc m9_longOf) 8 = .ok (.iload_n 0, 1) by decide +kernel) rfl ?_
  refine s_iconst (show decode (am_cc m9_longOf) 9 = .ok (.iconst 5, 1) by decide +kernel) ⟨by decide, by decide⟩ ?_
  exact s_icmp_ge (tgt := 17) (show decode (am_cc m9_longOf) 10 = .ok (.if_icmp .ge 7, 3) by decide +kernel) (by decide) k1 k2
theorem g9_longOf_13 {a0 : Int} {K : am_K} {M : am_M} {Q : Option am_V → am_M → Prop} (k : am_AtN m9_longOf 18 [some (vi a0)] [vi 1] K M Q) : am_AtN m9_longOf 13 [some (vi a0)] [] K M Q := by
  refine s_iconst (show decode (am_cc m9_longOf) 13 = .ok (.iconst 1, 1) by decide +kernel) ⟨by decide, by decide⟩ ?_
  refine s_goto (tgt := 18) (show decode (am_cc m9_longOf) 14 = .ok (.goto 4, 3) by decide +kernel) (by decide) ?_
  exact k
theorem g9_longOf_17 {a0 : Int} {K : am_K} {M : am_M} {Q : Option am_V → am_M → Prop} (k : am_AtN m9_longOf 18 [some (vi a0)] [vi 2] K M Q) : am_AtN m9_longOf 17 [some (vi a0)] [] K M Q := by
  refine s_iconst (show decode (am_cc m9_longOf) 17 = .ok (.iconst 2, 1) by decide +kernel) ⟨by decide, by decide⟩ ?_
  exact k
theorem g9_longOf_18 {a0 t0 : Int} {K : am_K} {M : am_M} {Q : Option am_V → am_M → Prop} (k : Q (some (vi t0)) M) : am_AtN m9_longOf 18 [some (vi a0)] [vi t0] K M Q := by
  exact s_ireturn (show decode (am_cc m9_longOf) 18 = .ok (.ireturn, 1) by decide +kernel) rfl k
theorem g9_letterOf_0 {a0 a1 : Int} {K : am_K} {M : am_M} {Q : Option am_V → am_M → Prop} (k1 : 5 ≤ a0 → am_AtN m9_letterOf 11 [some (vi a0), some (vi a1)] [] K M Q) (k2 : ¬ (5 ≤ a0) → am_AtN m9_letterOf 5 [some (vi a0), some (vi a1)] [] K M Q) : am_AtN m9_letterOf 0 [some (vi a0), some (vi a1)] [] K M Q := by
  refine s_iload_n (show decode (am_cc m9_letterOf) 0 = .ok (.iload_n 0, 1) by decide +kernel) rfl ?_
  refine s_iconst (show decode (am_cc m9_letterOf) 1 = .ok (.iconst 5, 1) by decide +kernel) ⟨by decide, by decide⟩ ?_
  exact s_icmp_ge (tgt := 11) (show decode (am_cc m9_letterOf) 2 = .ok (.if_icmp .ge 9, 3) by decide +kernel) (by decide) k1 k2
theorem g9_letterOf_5 {a0 a1 : Int} {K : am_K} {M : am_M} {Q : Option am_V → am_M → Prop} (h1 : -2147483648 ≤ a0 - 1 ∧ a0 - 1 ≤ 2147483647) (k : am_AtN m9_letterOf 28 [some (vi a0), some (vi a1)] [vi (a0 - 1)] K M Q) : am_AtN m9_letterOf 5 [some (vi a0), some (vi a1)] [] K M Q := by
  refine s_iload_n (show decode (am_cc m9_letterOf) 5 = .ok (.iload_n 0, 1) by decide +kernel) rfl ?_
  refine s_iconst (show decode (am_cc m9_letterOf) 6 = .ok (.iconst 1, 1) by decide +kernel) ⟨by decide, by decide⟩ ?_
  refine s_isub (show decode (am_cc m9_letterOf) 7 = .ok (.isub, 1) by decide +kernel) h1 ?_
  refine s_goto (tgt := 28) (show decode (am_cc m9_letterOf) 8 = .ok (.goto 20, 3) by decide +kernel) (by decide) ?_
  exact k
theorem g9_letterOf_11 {a0 a1 : Int} {K : am_K} {M : am_M} {Q : Option am_V → am_M → Prop} (k1 : ¬ a1 = 0 → am_AtN m9_letterOf 23 [some (vi a0), some (vi a1)] [] K M Q) (k2 : a1 = 0 → am_AtN m9_letterOf 15 [some (vi a0), some (vi a1)] [] K M Q) : am_AtN m9_letterOf 11 [some (vi a0), some (vi a1)] [] K M Q := by
  refine s_iload_n (show decode (am_cc m9_letterOf) 11 = .ok (.iload_n 1, 1) by decide +kernel) rfl ?_
  exact s_if_ne (tgt := 23) (show decode (am_cc m9_letterOf) 12 = .ok (.ifCond .ne 11, 3) by decide +kernel) (by decide) k1 k2
theorem g9_letterOf_15 {a0 a1 : Int} {K : am_K} {M : am_M} {Q : Option am_V → am_M → Prop} (h1 : -2147483648 ≤ a0 - 5 ∧ a0 - 5 ≤ 2147483647) (h2 : 0 ≤ a0 - 5) (k : am_AtN m9_letterOf 28 [some (vi a0), some (vi a1)] [vi ((a0 - 5) / 4)] K M Q) : am_AtN m9_letterOf 15 [some (vi a0), some (vi a1)] [] K M Q := by
  refine s_iload_n (show decode (am_cc m9_letterOf) 15 = .ok (.iload_n 0, 1) by decide +kernel) rfl ?_
  refine s_iconst (show decode (am_cc m9_letterOf) 16 = .ok (.iconst 5, 1) by decide +kernel) ⟨by decide, by decide⟩ ?_
  refine s_isub (show decode (am_cc m9_letterOf) 17 = .ok (.isub, 1) by decide +kernel) h1 ?_
  refine s_iconst (show decode (am_cc m9_letterOf) 18 = .ok (.iconst 4, 1) by decide +kernel) ⟨by decide, by decide⟩ ?_
  refine s_idiv (show decode (am_cc m9_letterOf) 19 = .ok (.idiv, 1) by decide +kernel) h2 (by decide) ?_
  refine s_goto (tgt := 28) (show decode (am_cc m9_letterOf) 20 = .ok (.goto 8, 3) by decide +kernel) (by decide) ?_
  exact k
theorem g9_letterOf_23 {a0 a1 : Int} {K : am_K} {M : am_M} {Q : Option am_V → am_M → Prop} (h1 : -2147483648 ≤ a0 - 5 ∧ a0 - 5 ≤ 2147483647) (h2 : 0 ≤ a0 - 5) (k : am_AtN m9_letterOf 28 [some (vi a0), some (vi a1)] [vi ((a0 - 5) % 4)] K M Q) : am_AtN m9_letterOf 23 [some (vi a0), some (vi a1)] [] K M Q := by
  refine s_iload_n (show decode (am_cc m9_letterOf) 23 = .ok (.iload_n 0, 1) by decide +kernel) rfl ?_
  refine s_iconst (show decode (am_cc m9_letterOf) 24 = .ok (.iconst 5, 1) by decide +kernel) ⟨by decide, by decide⟩ ?_
  refine s_isub (show decode (am_cc m9_letterOf) 25 = .ok (.isub, 1) by decide +kernel) h1 ?_
  refine s_iconst (show decode (am_cc m9_letterOf) 26 = .ok (.iconst 4, 1) by decide +kernel) ⟨by decide, by decide⟩ ?_
  refine s_irem (show decode (am_cc m9_letterOf) 27 = .ok (.irem, 1) by decide +kernel) h2 (by decide) ?_
  exact k
theorem g9_letterOf_28 {a0 a1 t0 : Int} {K : am_K} {M : am_M} {Q : Option am_V → am_M → Prop} (k : Q (some (vi t0)) M) : am_AtN m9_letterOf 28 [some (vi a0), some (vi a1)] [vi t0] K M Q := by
  exact s_ireturn (show decode (am_cc m9_letterOf) 28 = .ok (.ireturn, 1) by decide +kernel) rfl k
theorem g9_noClaim_0 {a0 a1 a2 a3 : Int} {K : am_K} {M : am_M} {Q : Option am_V → am_M → Prop} (k : am_CallN m9_noSentence [vi a0] K M (fun r M' => am_AtN m9_noClaim 4 [some (vi a0), some (vi a1), some (vi a2), some (vi a3)] (r.toList ++ []) K M' Q)) : am_AtN m9_noClaim 0 [some (vi a0), some (vi a1), some (vi a2), some (vi a3)] [] K M Q := by
  refine s_iload_n (show decode (am_cc m9_noClaim) 0 = .ok (.iload_n 0, 1) by decide +kernel) rfl ?_
  exact n_callS (as := [vi a0]) (stk := []) (show decode (am_cc m9_noClaim) 1 = .ok (.invokestatic 122, 3) by decide +kernel) lk_RX9_122 (by decide) (Nat.le_of_ble_eq_true rfl) ⟨rfl, rfl⟩ k
theorem g9_noClaim_4 {a0 a1 a2 a3 t0 : Int} {K : am_K} {M : am_M} {Q : Option am_V → am_M → Prop} (k1 : ¬ t0 = 0 → am_AtN m9_noClaim 35 [some (vi a0), some (vi a1), some (vi a2), some (vi a3)] [] K M Q) (k2 : t0 = 0 → am_AtN m9_noClaim 7 [some (vi a0), some (vi a1), some (vi a2), some (vi a3)] [] K M Q) : am_AtN m9_noClaim 4 [some (vi a0), some (vi a1), some (vi a2), some (vi a3)] [vi t0] K M Q := by
  exact s_if_ne (tgt := 35) (show decode (am_cc m9_noClaim) 4 = .ok (.ifCond .ne 31, 3) by decide +kernel) (by decide) k1 k2
theorem g9_noClaim_7 {a0 a1 a2 a3 : Int} {K : am_K} {M : am_M} {Q : Option am_V → am_M → Prop} (k : am_CallN m9_noProgram [vi a1] K M (fun r M' => am_AtN m9_noClaim 11 [some (vi a0), some (vi a1), some (vi a2), some (vi a3)] (r.toList ++ []) K M' Q)) : am_AtN m9_noClaim 7 [some (vi a0), some (vi a1), some (vi a2), some (vi a3)] [] K M Q := by
  refine s_iload_n (show decode (am_cc m9_noClaim) 7 = .ok (.iload_n 1, 1) by decide +kernel) rfl ?_
  exact n_callS (as := [vi a1]) (stk := []) (show decode (am_cc m9_noClaim) 8 = .ok (.invokestatic 144, 3) by decide +kernel) lk_RX9_144 (by decide) (Nat.le_of_ble_eq_true rfl) ⟨rfl, rfl⟩ k
theorem g9_noClaim_11 {a0 a1 a2 a3 t0 : Int} {K : am_K} {M : am_M} {Q : Option am_V → am_M → Prop} (k1 : ¬ t0 = 0 → am_AtN m9_noClaim 35 [some (vi a0), some (vi a1), some (vi a2), some (vi a3)] [] K M Q) (k2 : t0 = 0 → am_AtN m9_noClaim 14 [some (vi a0), some (vi a1), some (vi a2), some (vi a3)] [] K M Q) : am_AtN m9_noClaim 11 [some (vi a0), some (vi a1), some (vi a2), some (vi a3)] [vi t0] K M Q := by
  exact s_if_ne (tgt := 35) (show decode (am_cc m9_noClaim) 11 = .ok (.ifCond .ne 24, 3) by decide +kernel) (by decide) k1 k2
theorem g9_noClaim_14 {a0 a1 a2 a3 : Int} {K : am_K} {M : am_M} {Q : Option am_V → am_M → Prop} (k : am_CallN m9_in [vl a2, vl (-1), vl 3] K M (fun r M' => am_AtN m9_noClaim 25 [some (vi a0), some (vi a1), some (vi a2), some (vi a3)] (r.toList ++ []) K M' Q)) : am_AtN m9_noClaim 14 [some (vi a0), some (vi a1), some (vi a2), some (vi a3)] [] K M Q := by
  refine s_iload_n (show decode (am_cc m9_noClaim) 14 = .ok (.iload_n 2, 1) by decide +kernel) rfl ?_
  refine s_i2l (show decode (am_cc m9_noClaim) 15 = .ok (.i2l, 1) by decide +kernel) ?_
  refine s_ldc2 (show decode (am_cc m9_noClaim) 16 = .ok (.ldc2_w 150, 3) by decide +kernel) lc_RX9_150 ⟨by decide, by decide⟩ ?_
  refine s_ldc2 (show decode (am_cc m9_noClaim) 19 = .ok (.ldc2_w 116, 3) by decide +kernel) lc_RX9_116 ⟨by decide, by decide⟩ ?_
  exact n_callS (as := [vl a2, vl (-1), vl 3]) (stk := []) (show decode (am_cc m9_noClaim) 22 = .ok (.invokestatic 110, 3) by decide +kernel) lk_RX9_110 (by decide) (Nat.le_of_ble_eq_true rfl) ⟨rfl, rfl⟩ k
theorem g9_noClaim_25 {a0 a1 a2 a3 t0 : Int} {K : am_K} {M : am_M} {Q : Option am_V → am_M → Prop} (k1 : t0 = 0 → am_AtN m9_noClaim 35 [some (vi a0), some (vi a1), some (vi a2), some (vi a3)] [] K M Q) (k2 : ¬ (t0 = 0) → am_AtN m9_noClaim 28 [some (vi a0), some (vi a1), some (vi a2), some (vi a3)] [] K M Q) : am_AtN m9_noClaim 25 [some (vi a0), some (vi a1), some (vi a2), some (vi a3)] [vi t0] K M Q := by
  exact s_if_eq (tgt := 35) (show decode (am_cc m9_noClaim) 25 = .ok (.ifCond .eq 10, 3) by decide +kernel) (by decide) k1 k2
theorem g9_noClaim_28 {a0 a1 a2 a3 : Int} {K : am_K} {M : am_M} {Q : Option am_V → am_M → Prop} (k : am_CallN m9_noSentence [vi a3] K M (fun r M' => am_AtN m9_noClaim 32 [some (vi a0), some (vi a1), some (vi a2), some (vi a3)] (r.toList ++ []) K M' Q)) : am_AtN m9_noClaim 28 [some (vi a0), some (vi a1), some (vi a2), some (vi a3)] [] K M Q := by
  refine s_iload_n (show decode (am_cc m9_noClaim) 28 = .ok (.iload_n 3, 1) by decide +kernel) rfl ?_
  exact n_callS (as := [vi a3]) (stk := []) (show decode (am_cc m9_noClaim) 29 = .ok (.invokestatic 122, 3) by decide +kernel) lk_RX9_122 (by decide) (Nat.le_of_ble_eq_true rfl) ⟨rfl, rfl⟩ k
theorem g9_noClaim_32 {a0 a1 a2 a3 t0 : Int} {K : am_K} {M : am_M} {Q : Option am_V → am_M → Prop} (k1 : t0 = 0 → am_AtN m9_noClaim 39 [some (vi a0), some (vi a1), some (vi a2), some (vi a3)] [] K M Q) (k2 : ¬ (t0 = 0) → am_AtN m9_noClaim 35 [some (vi a0), some (vi a1), some (vi a2), some (vi a3)] [] K M Q) : am_AtN m9_noClaim 32 [some (vi a0), some (vi a1), some (vi a2), some (vi a3)] [vi t0] K M Q := by
  exact s_if_eq (tgt := 39) (show decode (am_cc m9_noClaim) 32 = .ok (.ifCond .eq 7, 3) by decide +kernel) (by decide) k1 k2
theorem g9_noClaim_35 {a0 a1 a2 a3 : Int} {K : am_K} {M : am_M} {Q : Option am_V → am_M → Prop} (k : am_AtN m9_noClaim 40 [some (vi a0), some (vi a1), some (vi a2), some (vi a3)] [vi 1] K M Q) : am_AtN m9_noClaim 35 [some (vi a0), some (vi a1), some (vi a2), some (vi a3)] [] K M Q := by
  refine s_iconst (show decode (am_cc m9_noClaim) 35 = .ok (.iconst 1, 1) by decide +kernel) ⟨by decide, by decide⟩ ?_
  refine s_goto (tgt := 40) (show decode (am_cc m9_noClaim) 36 = .ok (.goto 4, 3) by decide +kernel) (by decide) ?_
  exact k
theorem g9_noClaim_39 {a0 a1 a2 a3 : Int} {K : am_K} {M : am_M} {Q : Option am_V → am_M → Prop} (k : am_AtN m9_noClaim 40 [some (vi a0), some (vi a1), some (vi a2), some (vi a3)] [vi 0] K M Q) : am_AtN m9_noClaim 39 [some (vi a0), some (vi a1), some (vi a2), some (vi a3)] [] K M Q := by
  refine s_iconst (show decode (am_cc m9_noClaim) 39 = .ok (.iconst 0, 1) by decide +kernel) ⟨by decide, by decide⟩ ?_
  exact k
theorem g9_noClaim_40 {a0 a1 a2 a3 t0 : Int} {K : am_K} {M : am_M} {Q : Option am_V → am_M → Prop} (h1 : t0 = 0 ∨ t0 = 1) (k : Q (some (vi t0)) M) : am_AtN m9_noClaim 40 [some (vi a0), some (vi a1), some (vi a2), some (vi a3)] [vi t0] K M Q := by
  exact s_zreturn (show decode (am_cc m9_noClaim) 40 = .ok (.ireturn, 1) by decide +kernel) rfl h1 k
theorem g9_read_0 {a1 a2 a3 : Int} {M : am_M} {Q : Option am_V → am_M → Prop} (k : am_AtN m9_read 3 [some (vr 86), some (vi a1), some (vi a2), some (vi a3), some (vi 0), none, none] [] KS M Q) : am_AtN m9_read 0 [some (vr 86), some (vi a1), some (vi a2), some (vi a3), none, none, none] [] KS M Q := by
  refine s_iconst (show decode (am_cc m9_read) 0 = .ok (.iconst 0, 1) by decide +kernel) ⟨by decide, by decide⟩ ?_
  refine s_istore (show decode (am_cc m9_read) 1 = .ok (.istore 4, 2) by decide +kernel) (by decide) ?_
  exact k
theorem g9_read_3 {a1 a2 a3 a4 : Int} {M : am_M} {Q : Option am_V → am_M → Prop} (k : am_CallN m9_longOf [vi a1] KS M (fun r M' => am_AtN m9_read 9 [some (vr 86), some (vi a1), some (vi a2), some (vi a3), some (vi a4), none, none] (r.toList ++ [vi a4]) KS M' Q)) : am_AtN m9_read 3 [some (vr 86), some (vi a1), some (vi a2), some (vi a3), some (vi a4), none, none] [] KS M Q := by
  refine s_iload (show decode (am_cc m9_read) 3 = .ok (.iload 4, 2) by decide +kernel) rfl ?_
  refine s_iload_n (show decode (am_cc m9_read) 5 = .ok (.iload_n 1, 1) by decide +kernel) rfl ?_
  exact n_callS (as := [vi a1]) (stk := [vi a4]) (show decode (am_cc m9_read) 6 = .ok (.invokestatic 152, 3) by decide +kernel) lk_RX9_152 (by decide) (Nat.le_of_ble_eq_true rfl) ⟨rfl, rfl⟩ k
theorem g9_read_9 {a1 a2 a3 a4 t0 t1 : Int} {M : am_M} {Q : Option am_V → am_M → Prop} (k1 : t1 ≤ t0 → am_AtN m9_read 95 [some (vr 86), some (vi a1), some (vi a2), some (vi a3), some (vi a4), none, none] [] KS M Q) (k2 : ¬ (t1 ≤ t0) → am_AtN m9_read 12 [some (vr 86), some (vi a1), some (vi a2), some (vi a3), some (vi a4), none, none] [] KS M Q) : am_AtN m9_read 9 [some (vr 86), some (vi a1), some (vi a2), some (vi a3), some (vi a4), none, none] [vi t1, vi t0] KS M Q := by
  exact s_icmp_ge (tgt := 95) (show decode (am_cc m9_read) 9 = .ok (.if_icmp .ge 86, 3) by decide +kernel) (by decide) k1 k2
theorem g9_read_12 {a1 a2 a3 a4 : Int} {M : am_M} {Q : Option am_V → am_M → Prop} (k : am_CallN m9_letterOf [vi a1, vi a4] KS M (fun r M' => am_AtN m9_read 18 [some (vr 86), some (vi a1), some (vi a2), some (vi a3), some (vi a4), none, none] (r.toList ++ []) KS M' Q)) : am_AtN m9_read 12 [some (vr 86), some (vi a1), some (vi a2), some (vi a3), some (vi a4), none, none] [] KS M Q := by
  refine s_iload_n (show decode (am_cc m9_read) 12 = .ok (.iload_n 1, 1) by decide +kernel) rfl ?_
  refine s_iload (show decode (am_cc m9_read) 13 = .ok (.iload 4, 2) by decide +kernel) rfl ?_
  exact n_callS (as := [vi a1, vi a4]) (stk := []) (show decode (am_cc m9_read) 15 = .ok (.invokestatic 156, 3) by decide +kernel) lk_RX9_156 (by decide) (Nat.le_of_ble_eq_true rfl) ⟨rfl, rfl⟩ k
theorem g9_read_18 {a1 a2 a3 a4 t0 : Int} {M : am_M} {Q : Option am_V → am_M → Prop} (k1 : 0 ≤ a2 → am_AtN m9_read 50 [some (vr 86), some (vi a1), some (vi a2), some (vi a3), some (vi a4), some (vi t0), none] [] KS M Q) (k2 : ¬ (0 ≤ a2) → am_AtN m9_read 24 [some (vr 86), some (vi a1), some (vi a2), some (vi a3), some (vi a4), some (vi t0), none] [] KS M Q) : am_AtN m9_read 18 [some (vr 86), some (vi a1), some (vi a2), some (vi a3), some (vi a4), none, none] [vi t0] KS M Q := by
  refine s_istore (show decode (am_cc m9_read) 18 = .ok (.istore 5, 2) by decide +kernel) (by decide) ?_
  refine s_iload_n (show decode (am_cc m9_read) 20 = .ok (.iload_n 2, 1) by decide +kernel) rfl ?_
  exact s_if_ge (tgt := 50) (show decode (am_cc m9_read) 21 = .ok (.ifCond .ge 29, 3) by decide +kernel) (by decide) k1 k2
theorem g9_read_24 {a1 a2 a3 a4 a5 : Int} {M : am_M} {Q : Option am_V → am_M → Prop} (h1 : -2147483648 ≤ 24 * a3 ∧ 24 * a3 ≤ 2147483647) (h2 : -2147483648 ≤ 4 * (M 86 17) ∧ 4 * (M 86 17) ≤ 2147483647) (h3 : -2147483648 ≤ (24 * a3) + (4 * (M 86 17)) ∧ (24 * a3) + (4 * (M 86 17)) ≤ 2147483647) (h4 : -2147483648 ≤ ((24 * a3) + (4 * (M 86 17))) + a5 ∧ ((24 * a3) + (4 * (M 86 17))) + a5 ≤ 2147483647) (h5 : 0 ≤ ((24 * a3) + (4 * (M 86 17))) + a5) (h6 : ((24 * a3) + (4 * (M 86 17))) + a5 < 192) (k : am_AtN m9_read 89 [some (vr 86), some (vi a1), some (vi a2), some (vi a3), some (vi a4), some (vi a5), none] [] KS (am_up M 86 17 (M 87 (((24 * a3) + (4 * (M 86 17))) + a5))) Q) : am_AtN m9_read 24 [some (vr 86), some (vi a1), some (vi a2), some (vi a3), some (vi a4), some (vi a5), none] [] KS M Q := by
  refine s_aload_n (show decode (am_cc m9_read) 24 = .ok (.aload_n 0, 1) by decide +kernel) rfl ?_
  refine s_aload_n (show decode (am_cc m9_read) 25 = .ok (.aload_n 0, 1) by decide +kernel) rfl ?_
  refine s_getf (k := 2) (v := vr 87) (show decode (am_cc m9_read) 26 = .ok (.getfield 7, 3) by decide +kernel) kd86 (by decide) rfl jnX9 (by decide) lf_RX9_7 rfl ?_
  refine s_bipush (show decode (am_cc m9_read) 29 = .ok (.bipush 24, 2) by decide +kernel) ⟨by decide, by decide⟩ (by decide) ?_
  refine s_iload_n (show decode (am_cc m9_read) 31 = .ok (.iload_n 3, 1) by decide +kernel) rfl ?_
  refine s_imul (show decode (am_cc m9_read) 32 = .ok (.imul, 1) by decide +kernel) h1 ?_
  refine s_iconst (show decode (am_cc m9_read) 33 = .ok (.iconst 4, 1) by decide +kernel) ⟨by decide, by decide⟩ ?_
  refine s_aload_n (show decode (am_cc m9_read) 34 = .ok (.aload_n 0, 1) by decide +kernel) rfl ?_
  refine s_getf (k := 17) (v := vi (M 86 17)) (show decode (am_cc m9_read) 35 = .ok (.getfield 160, 3) by decide +kernel) kd86 (by decide) rfl jnX9 (by decide) lf_RX9_160 rfl ?_
  refine s_imul (show decode (am_cc m9_read) 38 = .ok (.imul, 1) by decide +kernel) h2 ?_
  refine s_iadd (show decode (am_cc m9_read) 39 = .ok (.iadd, 1) by decide +kernel) h3 ?_
  refine s_iload (show decode (am_cc m9_read) 40 = .ok (.iload 5, 2) by decide +kernel) rfl ?_
  refine s_iadd (show decode (am_cc m9_read) 42 = .ok (.iadd, 1) by decide +kernel) h4 ?_
  refine s_iaload (show decode (am_cc m9_read) 43 = .ok (.iaload, 1) by decide +kernel) kd87 h5 h6 ?_
  refine s_putf (k := 17) (x := M 87 (((24 * a3) + (4 * (M 86 17))) + a5)) (ty0 := tyX9) (show decode (am_cc m9_read) 44 = .ok (.putfield 160, 3) by decide +kernel) kd86 (by decide) rfl jnX9 tyX9_ok nmX9 (by decide) lf_RX9_160 rfl (Or.inl ⟨rfl, rfl, rfl⟩) ?_
  refine s_goto (tgt := 89) (show decode (am_cc m9_read) 47 = .ok (.goto 42, 3) by decide +kernel) (by decide) ?_
  exact k
theorem g9_read_50 {a1 a2 a3 a4 a5 : Int} {M : am_M} {Q : Option am_V → am_M → Prop} (h1 : -2147483648 ≤ 24 * a2 ∧ 24 * a2 ≤ 2147483647) (h2 : -2147483648 ≤ 4 * (M 86 16) ∧ 4 * (M 86 16) ≤ 2147483647) (h3 : -2147483648 ≤ (24 * a2) + (4 * (M 86 16)) ∧ (24 * a2) + (4 * (M 86 16)) ≤ 2147483647) (h4 : -2147483648 ≤ ((24 * a2) + (4 * (M 86 16))) + a5 ∧ ((24 * a2) + (4 * (M 86 16))) + a5 ≤ 2147483647) (h5 : 0 ≤ ((24 * a2) + (4 * (M 86 16))) + a5) (h6 : ((24 * a2) + (4 * (M 86 16))) + a5 < 96) (h7 : 0 ≤ ((24 * a2) + (4 * (M 86 16))) + a5) (h8 : ((24 * a2) + (4 * (M 86 16))) + a5 < 96) (k : am_CallN m9_say [vr 86, vi ((am_up M 86 16 (M 92 (((24 * a2) + (4 * (M 86 16))) + a5))) 93 (((24 * a2) + (4 * (M 86 16))) + a5)), vi a3] KS (am_up M 86 16 (M 92 (((24 * a2) + (4 * (M 86 16))) + a5))) (fun r M' => am_AtN m9_read 89 [some (vr 86), some (vi a1), some (vi a2), some (vi a3), some (vi a4), some (vi a5), none] (r.toList ++ []) KS M' Q)) : am_AtN m9_read 50 [some (vr 86), some (vi a1), some (vi a2), some (vi a3), some (vi a4), some (vi a5), none] [] KS M Q := by
  refine s_bipush (show decode (am_cc m9_read) 50 = .ok (.bipush 24, 2) by decide +kernel) ⟨by decide, by decide⟩ (by decide) ?_
  refine s_iload_n (show decode (am_cc m9_read) 52 = .ok (.iload_n 2, 1) by decide +kernel) rfl ?_
  refine s_imul (show decode (am_cc m9_read) 53 = .ok (.imul, 1) by decide +kernel) h1 ?_
  refine s_iconst (show decode (am_cc m9_read) 54 = .ok (.iconst 4, 1) by decide +kernel) ⟨by decide, by decide⟩ ?_
  refine s_aload_n (show decode (am_cc m9_read) 55 = .ok (.aload_n 0, 1) by decide +kernel) rfl ?_
  refine s_getf (k := 16) (v := vi (M 86 16)) (show decode (am_cc m9_read) 56 = .ok (.getfield 163, 3) by decide +kernel) kd86 (by decide) rfl jnX9 (by decide) lf_RX9_163 rfl ?_
  refine s_imul (show decode (am_cc m9_read) 59 = .ok (.imul, 1) by decide +kernel) h2 ?_
  refine s_iadd (show decode (am_cc m9_read) 60 = .ok (.iadd, 1) by decide +kernel) h3 ?_
  refine s_iload (show decode (am_cc m9_read) 61 = .ok (.iload 5, 2) by decide +kernel) rfl ?_
  refine s_iadd (show decode (am_cc m9_read) 63 = .ok (.iadd, 1) by decide +kernel) h4 ?_
  refine s_istore (show decode (am_cc m9_read) 64 = .ok (.istore 6, 2) by decide +kernel) (by decide) ?_
  refine s_aload_n (show decode (am_cc m9_read) 66 = .ok (.aload_n 0, 1) by decide +kernel) rfl ?_
  refine s_aload_n (show decode (am_cc m9_read) 67 = .ok (.aload_n 0, 1) by decide +kernel) rfl ?_
  refine s_getf (k := 7) (v := vr 92) (show decode (am_cc m9_read) 68 = .ok (.getfield 26, 3) by decide +kernel) kd86 (by decide) rfl jnX9 (by decide) lf_RX9_26 rfl ?_
  refine s_iload (show decode (am_cc m9_read) 71 = .ok (.iload 6, 2) by decide +kernel) rfl ?_
  refine s_iaload (show decode (am_cc m9_read) 73 = .ok (.iaload, 1) by decide +kernel) kd92 h5 h6 ?_
  refine s_putf (k := 16) (x := M 92 (((24 * a2) + (4 * (M 86 16))) + a5)) (ty0 := tyX9) (show decode (am_cc m9_read) 74 = .ok (.putfield 163, 3) by decide +kernel) kd86 (by decide) rfl jnX9 tyX9_ok nmX9 (by decide) lf_RX9_163 rfl (Or.inl ⟨rfl, rfl, rfl⟩) ?_
  refine s_aload_n (show decode (am_cc m9_read) 77 = .ok (.aload_n 0, 1) by decide +kernel) rfl ?_
  refine s_aload_n (show decode (am_cc m9_read) 78 = .ok (.aload_n 0, 1) by decide +kernel) rfl ?_
  refine s_getf (k := 8) (v := vr 93) (show decode (am_cc m9_read) 79 = .ok (.getfield 29, 3) by decide +kernel) kd86 (by decide) rfl jnX9 (by decide) lf_RX9_29 rfl ?_
  refine s_iload (show decode (am_cc m9_read) 82 = .ok (.iload 6, 2) by decide +kernel) rfl ?_
  refine s_iaload (show decode (am_cc m9_read) 84 = .ok (.iaload, 1) by decide +kernel) kd93 h7 h8 ?_
  refine s_iload_n (show decode (am_cc m9_read) 85 = .ok (.iload_n 3, 1) by decide +kernel) rfl ?_
  exact n_callV (as := [vi ((am_up M 86 16 (M 92 (((24 * a2) + (4 * (M 86 16))) + a5))) 93 (((24 * a2) + (4 * (M 86 16))) + a5)), vi a3]) (stk := []) (show decode (am_cc m9_read) 86 = .ok (.invokevirtual 166, 3) by decide +kernel) lk_RX9_166 kd86 (by decide) rfl rfl (by decide) (Nat.le_of_ble_eq_true rfl) ⟨rfl, rfl⟩ (am_CallN_mono (fun r M' h => (am_fg 6 h)) k)
theorem g9_read_89 {a1 a2 a3 a4 a5 : Int} {M : am_M} {Q : Option am_V → am_M → Prop} (h1 : -2147483648 ≤ a4 + 1 ∧ a4 + 1 ≤ 2147483647) (k : am_AtN m9_read 3 [some (vr 86), some (vi a1), some (vi a2), some (vi a3), some (vi (a4 + 1)), none, none] [] KS M Q) : am_AtN m9_read 89 [some (vr 86), some (vi a1), some (vi a2), some (vi a3), some (vi a4), some (vi a5), none] [] KS M Q := by
  refine s_iinc (show decode (am_cc m9_read) 89 = .ok (.iinc 4 1, 3) by decide +kernel) rfl (by decide) h1 ?_
  refine s_goto (tgt := 3) (show decode (am_cc m9_read) 92 = .ok (.goto (-89), 3) by decide +kernel) (by decide) ?_
  refine am_fg 5 ?_
  exact k
theorem g9_read_95 {a1 a2 a3 a4 : Int} {M : am_M} {Q : Option am_V → am_M → Prop} (k : Q none M) : am_AtN m9_read 95 [some (vr 86), some (vi a1), some (vi a2), some (vi a3), some (vi a4), none, none] [] KS M Q := by
  exact s_return (show decode (am_cc m9_read) 95 = .ok (.return_, 1) by decide +kernel) rfl k
theorem g9_say_0 {a1 a2 : Int} {M : am_M} {Q : Option am_V → am_M → Prop} (k : am_AtN m9_say 2 [some (vr 86), some (vi a1), some (vi a2), some (vi 0)] [] KS M Q) : am_AtN m9_say 0 [some (vr 86), some (vi a1), some (vi a2), none] [] KS M Q := by
  refine s_iconst (show decode (am_cc m9_say) 0 = .ok (.iconst 0, 1) by decide +kernel) ⟨by decide, by decide⟩ ?_
  refine s_istore_n (show decode (am_cc m9_say) 1 = .ok (.istore_n 3, 1) by decide +kernel) (by decide) ?_
  exact k
theorem g9_say_2 {a1 a2 a3 : Int} {M : am_M} {Q : Option am_V → am_M → Prop} (k : am_CallN m9_longOf [vi a1] KS M (fun r M' => am_AtN m9_say 7 [some (vr 86), some (vi a1), some (vi a2), some (vi a3)] (r.toList ++ [vi a3]) KS M' Q)) : am_AtN m9_say 2 [some (vr 86), some (vi a1), some (vi a2), some (vi a3)] [] KS M Q := by
  refine s_iload_n (show decode (am_cc m9_say) 2 = .ok (.iload_n 3, 1) by decide +kernel) rfl ?_
  refine s_iload_n (show decode (am_cc m9_say) 3 = .ok (.iload_n 1, 1) by decide +kernel) rfl ?_
  exact n_callS (as := [vi a1]) (stk := [vi a3]) (show decode (am_cc m9_say) 4 = .ok (.invokestatic 152, 3) by decide +kernel) lk_RX9_152 (by decide) (Nat.le_of_ble_eq_true rfl) ⟨rfl, rfl⟩ k
theorem g9_say_7 {a1 a2 a3 t0 t1 : Int} {M : am_M} {Q : Option am_V → am_M → Prop} (k1 : t1 ≤ t0 → am_AtN m9_say 42 [some (vr 86), some (vi a1), some (vi a2), some (vi a3)] [] KS M Q) (k2 : ¬ (t1 ≤ t0) → am_AtN m9_say 10 [some (vr 86), some (vi a1), some (vi a2), some (vi a3)] [] KS M Q) : am_AtN m9_say 7 [some (vr 86), some (vi a1), some (vi a2), some (vi a3)] [vi t1, vi t0] KS M Q := by
  exact s_icmp_ge (tgt := 42) (show decode (am_cc m9_say) 7 = .ok (.if_icmp .ge 35, 3) by decide +kernel) (by decide) k1 k2
theorem g9_say_10 {a1 a2 a3 : Int} {M : am_M} {Q : Option am_V → am_M → Prop} (h1 : -2147483648 ≤ 24 * a2 ∧ 24 * a2 ≤ 2147483647) (h2 : -2147483648 ≤ 4 * (M 86 17) ∧ 4 * (M 86 17) ≤ 2147483647) (h3 : -2147483648 ≤ (24 * a2) + (4 * (M 86 17)) ∧ (24 * a2) + (4 * (M 86 17)) ≤ 2147483647) (k : am_CallN m9_letterOf [vi a1, vi a3] KS M (fun r M' => am_AtN m9_say 31 [some (vr 86), some (vi a1), some (vi a2), some (vi a3)] (r.toList ++ [vi ((24 * a2) + (4 * (M 86 17))), vr 87, vr 86]) KS M' Q)) : am_AtN m9_say 10 [some (vr 86), some (vi a1), some (vi a2), some (vi a3)] [] KS M Q := by
  refine s_aload_n (show decode (am_cc m9_say) 10 = .ok (.aload_n 0, 1) by decide +kernel) rfl ?_
  refine s_aload_n (show decode (am_cc m9_say) 11 = .ok (.aload_n 0, 1) by decide +kernel) rfl ?_
  refine s_getf (k := 2) (v := vr 87) (show decode (am_cc m9_say) 12 = .ok (.getfield 7, 3) by decide +kernel) kd86 (by decide) rfl jnX9 (by decide) lf_RX9_7 rfl ?_
  refine s_bipush (show decode (am_cc m9_say) 15 = .ok (.bipush 24, 2) by decide +kernel) ⟨by decide, by decide⟩ (by decide) ?_
  refine s_iload_n (show decode (am_cc m9_say) 17 = .ok (.iload_n 2, 1) by decide +kernel) rfl ?_
  refine s_imul (show decode (am_cc m9_say) 18 = .ok (.imul, 1) by decide +kernel) h1 ?_
  refine s_iconst (show decode (am_cc m9_say) 19 = .ok (.iconst 4, 1) by decide +kernel) ⟨by decide, by decide⟩ ?_
  refine s_aload_n (show decode (am_cc m9_say) 20 = .ok (.aload_n 0, 1) by decide +kernel) rfl ?_
  refine s_getf (k := 17) (v := vi (M 86 17)) (show decode (am_cc m9_say) 21 = .ok (.getfield 160, 3) by decide +kernel) kd86 (by decide) rfl jnX9 (by decide) lf_RX9_160 rfl ?_
  refine s_imul (show decode (am_cc m9_say) 24 = .ok (.imul, 1) by decide +kernel) h2 ?_
  refine s_iadd (show decode (am_cc m9_say) 25 = .ok (.iadd, 1) by decide +kernel) h3 ?_
  refine s_iload_n (show decode (am_cc m9_say) 26 = .ok (.iload_n 1, 1) by decide +kernel) rfl ?_
  refine s_iload_n (show decode (am_cc m9_say) 27 = .ok (.iload_n 3, 1) by decide +kernel) rfl ?_
  exact n_callS (as := [vi a1, vi a3]) (stk := [vi ((24 * a2) + (4 * (M 86 17))), vr 87, vr 86]) (show decode (am_cc m9_say) 28 = .ok (.invokestatic 156, 3) by decide +kernel) lk_RX9_156 (by decide) (Nat.le_of_ble_eq_true rfl) ⟨rfl, rfl⟩ k
theorem g9_say_31 {a1 a2 a3 t0 t1 t2 t3 : Int} {M : am_M} {Q : Option am_V → am_M → Prop} {n0 : Nat} {q0 : List Int} {r1_0 : Int} {r1_1 : Int} {r1_2 : Int} {r1_3 : Int} {r1_4 : Int} {r1_5 : Int} {r1_6 : Int} {r1_7 : Int} {r1_8 : Int} {r1_9 : Int} {r1_10 : Int} {r1_11 : Int} {r1_12 : Int} {r1_13 : Int} {r1_14 : Int} {r1_15 : Int} {r1_16 : Int} {r1_17 : Int} {r1_18 : Int} {r1_19 : Int} {r1_20 : Int} {r1_21 : Int} {r1_22 : Int} {r1_23 : Int} {r1_24 : Int} {r1_25 : Int} {r1_26 : Int} {r1_27 : Int} {r1_28 : Int} {r1_29 : Int} {r1_30 : Int} {r1_31 : Int} {r1_32 : Int} {r1_33 : Int} {r1_34 : Int} {r1_35 : Int} (h1 : -2147483648 ≤ t2 + t3 ∧ t2 + t3 ≤ 2147483647) (h2 : am_kd KS t1 = some (11, n0, q0)) (h3 : 0 ≤ t2 + t3) (h4 : t2 + t3 < (n0 : Int)) (h5 : am_kd KS t0 = some (9, 36, [r1_0, r1_1, r1_2, r1_3, r1_4, r1_5, r1_6, r1_7, r1_8, r1_9, r1_10, r1_11, r1_12, r1_13, r1_14, r1_15, r1_16, r1_17, r1_18, r1_19, r1_20, r1_21, r1_22, r1_23, r1_24, r1_25, r1_26, r1_27, r1_28, r1_29, r1_30, r1_31, r1_32, r1_33, r1_34, r1_35])) (h6 : -2147483648 ≤ a3 + 1 ∧ a3 + 1 ≤ 2147483647) (k : am_AtN m9_say 2 [some (vr 86), some (vi a1), some (vi a2), some (vi (a3 + 1))] [] KS (am_up M t0 17 (M t1 (t2 + t3))) Q) : am_AtN m9_say 31 [some (vr 86), some (vi a1), some (vi a2), some (vi a3)] [vi t3, vi t2, vr t1, vr t0] KS M Q := by
  refine s_iadd (show decode (am_cc m9_say) 31 = .ok (.iadd, 1) by decide +kernel) h1 ?_
  refine s_iaload (show decode (am_cc m9_say) 32 = .ok (.iaload, 1) by decide +kernel) h2 h3 h4 ?_
  refine s_putf (k := 17) (x := M t1 (t2 + t3)) (ty0 := tyX9) (show decode (am_cc m9_say) 33 = .ok (.putfield 160, 3) by decide +kernel) h5 (by decide) rfl jnX9 tyX9_ok nmX9 (by decide) lf_RX9_160 rfl (Or.inl ⟨rfl, rfl, rfl⟩) ?_
  refine s_iinc (show decode (am_cc m9_say) 36 = .ok (.iinc 3 1, 3) by decide +kernel) rfl (by decide) h6 ?_
  refine s_goto (tgt := 2) (show decode (am_cc m9_say) 39 = .ok (.goto (-37), 3) by decide +kernel) (by decide) ?_
  exact k
theorem g9_say_42 {a1 a2 a3 : Int} {M : am_M} {Q : Option am_V → am_M → Prop} (k : Q none M) : am_AtN m9_say 42 [some (vr 86), some (vi a1), some (vi a2), some (vi a3)] [] KS M Q := by
  exact s_return (show decode (am_cc m9_say) 42 = .ok (.return_, 1) by decide +kernel) rfl k
theorem g9_leadsTo_0 {a1 a2 a3 a4 a5 a6 : Int} {M : am_M} {Q : Option am_V → am_M → Prop} (h1 : 0 ≤ a1) (h2 : 0 ≤ a1 / 36) (h3 : 0 ≤ a1) (h4 : 0 ≤ a1 / 6) (h5 : 0 ≤ a1) (h6 : -2147483648 ≤ 24 * a4 ∧ 24 * a4 ≤ 2147483647) (h7 : -2147483648 ≤ 4 * ((a1 / 36) % 6) ∧ 4 * ((a1 / 36) % 6) ≤ 2147483647) (h8 : -2147483648 ≤ (24 * a4) + (4 * ((a1 / 36) % 6)) ∧ (24 * a4) + (4 * ((a1 / 36) % 6)) ≤ 2147483647) (h9 : -2147483648 ≤ ((24 * a4) + (4 * ((a1 / 36) % 6))) + a2 ∧ ((24 * a4) + (4 * ((a1 / 36) % 6))) + a2 ≤ 2147483647) (h10 : 0 ≤ ((24 * a4) + (4 * ((a1 / 36) % 6))) + a2) (h11 : ((24 * a4) + (4 * ((a1 / 36) % 6))) + a2 < 96) (k : am_CallN m9_read [vr 86, vi ((am_up (am_up M 86 16 ((a1 / 6) % 6)) 86 17 (a1 % 6)) 93 (((24 * a4) + (4 * ((a1 / 36) % 6))) + a2)), vi a5, vi a6] KS (am_up (am_up M 86 16 ((a1 / 6) % 6)) 86 17 (a1 % 6)) (fun r M' => am_AtN m9_leadsTo 57 [some (vr 86), some (vi a1), some (vi a2), some (vi a3), some (vi a4), some (vi a5), some (vi a6), some (vi ((a1 / 36) % 6)), some (vi (((24 * a4) + (4 * ((a1 / 36) % 6))) + a2))] (r.toList ++ []) KS M' Q)) : am_AtN m9_leadsTo 0 [some (vr 86), some (vi a1), some (vi a2), some (vi a3), some (vi a4), some (vi a5), some (vi a6), none, none] [] KS M Q := by
  refine s_iload_n (show decode (am_cc m9_leadsTo) 0 = .ok (.iload_n 1, 1) by decide +kernel) rfl ?_
  refine s_bipush (show decode (am_cc m9_leadsTo) 1 = .ok (.bipush 36, 2) by decide +kernel) ⟨by decide, by decide⟩ (by decide) ?_
  refine s_idiv (show decode (am_cc m9_leadsTo) 3 = .ok (.idiv, 1) by decide +kernel) h1 (by decide) ?_
  refine s_bipush (show decode (am_cc m9_leadsTo) 4 = .ok (.bipush 6, 2) by decide +kernel) ⟨by decide, by decide⟩ (by decide) ?_
  refine s_irem (show decode (am_cc m9_leadsTo) 6 = .ok (.irem, 1) by decide +kernel) h2 (by decide) ?_
  refine s_istore (show decode (am_cc m9_leadsTo) 7 = .ok (.istore 7, 2) by decide +kernel) (by decide) ?_
  refine s_aload_n (show decode (am_cc m9_leadsTo) 9 = .ok (.aload_n 0, 1) by decide +kernel) rfl ?_
  refine s_iload_n (show decode (am_cc m9_leadsTo) 10 = .ok (.iload_n 1, 1) by decide +kernel) rfl ?_
  refine s_bipush (show decode (am_cc m9_leadsTo) 11 = .ok (.bipush 6, 2) by decide +kernel) ⟨by decide, by decide⟩ (by decide) ?_
  refine s_idiv (show decode (am_cc m9_leadsTo) 13 = .ok (.idiv, 1) by decide +kernel) h3 (by decide) ?_
  refine s_bipush (show decode (am_cc m9_leadsTo) 14 = .ok (.bipush 6, 2) by decide +kernel) ⟨by decide, by decide⟩ (by decide) ?_
  refine s_irem (show decode (am_cc m9_leadsTo) 16 = .ok (.irem, 1) by decide +kernel) h4 (by decide) ?_
  refine s_putf (k := 16) (x := (a1 / 6) % 6) (ty0 := tyX9) (show decode (am_cc m9_leadsTo) 17 = .ok (.putfield 163, 3) by decide +kernel) kd86 (by decide) rfl jnX9 tyX9_ok nmX9 (by decide) lf_RX9_163 rfl (Or.inl ⟨rfl, rfl, rfl⟩) ?_
  refine s_aload_n (show decode (am_cc m9_leadsTo) 20 = .ok (.aload_n 0, 1) by decide +kernel) rfl ?_
  refine s_iload_n (show decode (am_cc m9_leadsTo) 21 = .ok (.iload_n 1, 1) by decide +kernel) rfl ?_
  refine s_bipush (show decode (am_cc m9_leadsTo) 22 = .ok (.bipush 6, 2) by decide +kernel) ⟨by decide, by decide⟩ (by decide) ?_
  refine s_irem (show decode (am_cc m9_leadsTo) 24 = .ok (.irem, 1) by decide +kernel) h5 (by decide) ?_
  refine s_putf (k := 17) (x := a1 % 6) (ty0 := tyX9) (show decode (am_cc m9_leadsTo) 25 = .ok (.putfield 160, 3) by decide +kernel) kd86 (by decide) rfl jnX9 tyX9_ok nmX9 (by decide) lf_RX9_160 rfl (Or.inl ⟨rfl, rfl, rfl⟩) ?_
  refine s_bipush (show decode (am_cc m9_leadsTo) 28 = .ok (.bipush 24, 2) by decide +kernel) ⟨by decide, by decide⟩ (by decide) ?_
  refine s_iload (show decode (am_cc m9_leadsTo) 30 = .ok (.iload 4, 2) by decide +kernel) rfl ?_
  refine s_imul (show decode (am_cc m9_leadsTo) 32 = .ok (.imul, 1) by decide +kernel) h6 ?_
  refine s_iconst (show decode (am_cc m9_leadsTo) 33 = .ok (.iconst 4, 1) by decide +kernel) ⟨by decide, by decide⟩ ?_
  refine s_iload (show decode (am_cc m9_leadsTo) 34 = .ok (.iload 7, 2) by decide +kernel) rfl ?_
  refine s_imul (show decode (am_cc m9_leadsTo) 36 = .ok (.imul, 1) by decide +kernel) h7 ?_
  refine s_iadd (show decode (am_cc m9_leadsTo) 37 = .ok (.iadd, 1) by decide +kernel) h8 ?_
  refine s_iload_n (show decode (am_cc m9_leadsTo) 38 = .ok (.iload_n 2, 1) by decide +kernel) rfl ?_
  refine s_iadd (show decode (am_cc m9_leadsTo) 39 = .ok (.iadd, 1) by decide +kernel) h9 ?_
  refine s_istore (show decode (am_cc m9_leadsTo) 40 = .ok (.istore 8, 2) by decide +kernel) (by decide) ?_
  refine s_aload_n (show decode (am_cc m9_leadsTo) 42 = .ok (.aload_n 0, 1) by decide +kernel) rfl ?_
  refine s_aload_n (show decode (am_cc m9_leadsTo) 43 = .ok (.aload_n 0, 1) by decide +kernel) rfl ?_
  refine s_getf (k := 8) (v := vr 93) (show decode (am_cc m9_leadsTo) 44 = .ok (.getfield 29, 3) by decide +kernel) kd86 (by decide) rfl jnX9 (by decide) lf_RX9_29 rfl ?_
  refine s_iload (show decode (am_cc m9_leadsTo) 47 = .ok (.iload 8, 2) by decide +kernel) rfl ?_
  refine s_iaload (show decode (am_cc m9_leadsTo) 49 = .ok (.iaload, 1) by decide +kernel) kd93 h10 h11 ?_
  refine s_iload (show decode (am_cc m9_leadsTo) 50 = .ok (.iload 5, 2) by decide +kernel) rfl ?_
  refine s_iload (show decode (am_cc m9_leadsTo) 52 = .ok (.iload 6, 2) by decide +kernel) rfl ?_
  exact n_callV (as := [vi ((am_up (am_up M 86 16 ((a1 / 6) % 6)) 86 17 (a1 % 6)) 93 (((24 * a4) + (4 * ((a1 / 36) % 6))) + a2)), vi a5, vi a6]) (stk := []) (show decode (am_cc m9_leadsTo) 54 = .ok (.invokevirtual 170, 3) by decide +kernel) lk_RX9_170 kd86 (by decide) rfl rfl (by decide) (Nat.le_of_ble_eq_true rfl) ⟨rfl, rfl⟩ k
theorem g9_leadsTo_57 {a1 a2 a3 a4 a5 a6 a7 a8 : Int} {M : am_M} {Q : Option am_V → am_M → Prop} (h1 : -2147483648 ≤ 24 * a3 ∧ 24 * a3 ≤ 2147483647) (h2 : 0 ≤ a1) (h3 : -2147483648 ≤ 4 * (a1 / 216) ∧ 4 * (a1 / 216) ≤ 2147483647) (h4 : -2147483648 ≤ (24 * a3) + (4 * (a1 / 216)) ∧ (24 * a3) + (4 * (a1 / 216)) ≤ 2147483647) (h5 : -2147483648 ≤ ((24 * a3) + (4 * (a1 / 216))) + a2 ∧ ((24 * a3) + (4 * (a1 / 216))) + a2 ≤ 2147483647) (h6 : 0 ≤ ((24 * a3) + (4 * (a1 / 216))) + a2) (h7 : ((24 * a3) + (4 * (a1 / 216))) + a2 < 192) (h8 : -2147483648 ≤ 216 * (M 87 (((24 * a3) + (4 * (a1 / 216))) + a2)) ∧ 216 * (M 87 (((24 * a3) + (4 * (a1 / 216))) + a2)) ≤ 2147483647) (h9 : 0 ≤ a8) (h10 : a8 < 96) (h11 : -2147483648 ≤ 36 * (M 92 a8) ∧ 36 * (M 92 a8) ≤ 2147483647) (h12 : -2147483648 ≤ (216 * (M 87 (((24 * a3) + (4 * (a1 / 216))) + a2))) + (36 * (M 92 a8)) ∧ (216 * (M 87 (((24 * a3) + (4 * (a1 / 216))) + a2))) + (36 * (M 92 a8)) ≤ 2147483647) (h13 : -2147483648 ≤ 6 * (M 86 16) ∧ 6 * (M 86 16) ≤ 2147483647) (h14 : -2147483648 ≤ ((216 * (M 87 (((24 * a3) + (4 * (a1 / 216))) + a2))) + (36 * (M 92 a8))) + (6 * (M 86 16)) ∧ ((216 * (M 87 (((24 * a3) + (4 * (a1 / 216))) + a2))) + (36 * (M 92 a8))) + (6 * (M 86 16)) ≤ 2147483647) (h15 : -2147483648 ≤ (((216 * (M 87 (((24 * a3) + (4 * (a1 / 216))) + a2))) + (36 * (M 92 a8))) + (6 * (M 86 16))) + (M 86 17) ∧ (((216 * (M 87 (((24 * a3) + (4 * (a1 / 216))) + a2))) + (36 * (M 92 a8))) + (6 * (M 86 16))) + (M 86 17) ≤ 2147483647) (k : Q (some (vi ((((216 * (M 87 (((24 * a3) + (4 * (a1 / 216))) + a2))) + (36 * (M 92 a8))) + (6 * (M 86 16))) + (M 86 17)))) M) : am_AtN m9_leadsTo 57 [some (vr 86), some (vi a1), some (vi a2), some (vi a3), some (vi a4), some (vi a5), some (vi a6), some (vi a7), some (vi a8)] [] KS M Q := by
  refine s_sipush (show decode (am_cc m9_leadsTo) 57 = .ok (.sipush 216, 3) by decide +kernel) ⟨by decide, by decide⟩ (by decide) ?_
  refine s_aload_n (show decode (am_cc m9_leadsTo) 60 = .ok (.aload_n 0, 1) by decide +kernel) rfl ?_
  refine s_getf (k := 2) (v := vr 87) (show decode (am_cc m9_leadsTo) 61 = .ok (.getfield 7, 3) by decide +kernel) kd86 (by decide) rfl jnX9 (by decide) lf_RX9_7 rfl ?_
  refine s_bipush (show decode (am_cc m9_leadsTo) 64 = .ok (.bipush 24, 2) by decide +kernel) ⟨by decide, by decide⟩ (by decide) ?_
  refine s_iload_n (show decode (am_cc m9_leadsTo) 66 = .ok (.iload_n 3, 1) by decide +kernel) rfl ?_
  refine s_imul (show decode (am_cc m9_leadsTo) 67 = .ok (.imul, 1) by decide +kernel) h1 ?_
  refine s_iconst (show decode (am_cc m9_leadsTo) 68 = .ok (.iconst 4, 1) by decide +kernel) ⟨by decide, by decide⟩ ?_
  refine s_iload_n (show decode (am_cc m9_leadsTo) 69 = .ok (.iload_n 1, 1) by decide +kernel) rfl ?_
  refine s_sipush (show decode (am_cc m9_leadsTo) 70 = .ok (.sipush 216, 3) by decide +kernel) ⟨by decide, by decide⟩ (by decide) ?_
  refine s_idiv (show decode (am_cc m9_leadsTo) 73 = .ok (.idiv, 1) by decide +kernel) h2 (by decide) ?_
  refine s_imul (show decode (am_cc m9_leadsTo) 74 = .ok (.imul, 1) by decide +kernel) h3 ?_
  refine s_iadd (show decode (am_cc m9_leadsTo) 75 = .ok (.iadd, 1) by decide +kernel) h4 ?_
  refine s_iload_n (show decode (am_cc m9_leadsTo) 76 = .ok (.iload_n 2, 1) by decide +kernel) rfl ?_
  refine s_iadd (show decode (am_cc m9_leadsTo) 77 = .ok (.iadd, 1) by decide +kernel) h5 ?_
  refine s_iaload (show decode (am_cc m9_leadsTo) 78 = .ok (.iaload, 1) by decide +kernel) kd87 h6 h7 ?_
  refine s_imul (show decode (am_cc m9_leadsTo) 79 = .ok (.imul, 1) by decide +kernel) h8 ?_
  refine s_bipush (show decode (am_cc m9_leadsTo) 80 = .ok (.bipush 36, 2) by decide +kernel) ⟨by decide, by decide⟩ (by decide) ?_
  refine s_aload_n (show decode (am_cc m9_leadsTo) 82 = .ok (.aload_n 0, 1) by decide +kernel) rfl ?_
  refine s_getf (k := 7) (v := vr 92) (show decode (am_cc m9_leadsTo) 83 = .ok (.getfield 26, 3) by decide +kernel) kd86 (by decide) rfl jnX9 (by decide) lf_RX9_26 rfl ?_
  refine s_iload (show decode (am_cc m9_leadsTo) 86 = .ok (.iload 8, 2) by decide +kernel) rfl ?_
  refine s_iaload (show decode (am_cc m9_leadsTo) 88 = .ok (.iaload, 1) by decide +kernel) kd92 h9 h10 ?_
  refine s_imul (show decode (am_cc m9_leadsTo) 89 = .ok (.imul, 1) by decide +kernel) h11 ?_
  refine s_iadd (show decode (am_cc m9_leadsTo) 90 = .ok (.iadd, 1) by decide +kernel) h12 ?_
  refine s_bipush (show decode (am_cc m9_leadsTo) 91 = .ok (.bipush 6, 2) by decide +kernel) ⟨by decide, by decide⟩ (by decide) ?_
  refine s_aload_n (show decode (am_cc m9_leadsTo) 93 = .ok (.aload_n 0, 1) by decide +kernel) rfl ?_
  refine s_getf (k := 16) (v := vi (M 86 16)) (show decode (am_cc m9_leadsTo) 94 = .ok (.getfield 163, 3) by decide +kernel) kd86 (by decide) rfl jnX9 (by decide) lf_RX9_163 rfl ?_
  refine s_imul (show decode (am_cc m9_leadsTo) 97 = .ok (.imul, 1) by decide +kernel) h13 ?_
  refine s_iadd (show decode (am_cc m9_leadsTo) 98 = .ok (.iadd, 1) by decide +kernel) h14 ?_
  refine s_aload_n (show decode (am_cc m9_leadsTo) 99 = .ok (.aload_n 0, 1) by decide +kernel) rfl ?_
  refine s_getf (k := 17) (v := vi (M 86 17)) (show decode (am_cc m9_leadsTo) 100 = .ok (.getfield 160, 3) by decide +kernel) kd86 (by decide) rfl jnX9 (by decide) lf_RX9_160 rfl ?_
  refine s_iadd (show decode (am_cc m9_leadsTo) 103 = .ok (.iadd, 1) by decide +kernel) h15 ?_
  exact s_ireturn (show decode (am_cc m9_leadsTo) 104 = .ok (.ireturn, 1) by decide +kernel) rfl k
theorem g9_isBad_0 {a1 a2 a3 a4 a5 : Int} {M : am_M} {Q : Option am_V → am_M → Prop} (h1 : -2147483648 ≤ 6 * a2 ∧ 6 * a2 ≤ 2147483647) (h2 : 0 ≤ a1) (h3 : -2147483648 ≤ (6 * a2) + (a1 / 216) ∧ (6 * a2) + (a1 / 216) ≤ 2147483647) (h4 : 0 ≤ (6 * a2) + (a1 / 216)) (h5 : (6 * a2) + (a1 / 216) < 48) (k1 : ¬ M 88 ((6 * a2) + (a1 / 216)) = 0 → am_AtN m9_isBad 20 [some (vr 86), some (vi a1), some (vi a2), some (vi a3), some (vi a4), some (vi a5), none, none] [] KS M Q) (k2 : M 88 ((6 * a2) + (a1 / 216)) = 0 → am_AtN m9_isBad 18 [some (vr 86), some (vi a1), some (vi a2), some (vi a3), some (vi a4), some (vi a5), none, none] [] KS M Q) : am_AtN m9_isBad 0 [some (vr 86), some (vi a1), some (vi a2), some (vi a3), some (vi a4), some (vi a5), none, none] [] KS M Q := by
  refine s_aload_n (show decode (am_cc m9_isBad) 0 = .ok (.aload_n 0, 1) by decide +kernel) rfl ?_
  refine s_getf (k := 3) (v := vr 88) (show decode (am_cc m9_isBad) 1 = .ok (.getfield 13, 3) by decide +kernel) kd86 (by decide) rfl jnX9 (by decide) lf_RX9_13 rfl ?_
  refine s_bipush (show decode (am_cc m9_isBad) 4 = .ok (.bipush 6, 2) by decide +kernel) ⟨by decide, by decide⟩ (by decide) ?_
  refine s_iload_n (show decode (am_cc m9_isBad) 6 = .ok (.iload_n 2, 1) by decide +kernel) rfl ?_
  refine s_imul (show decode (am_cc m9_isBad) 7 = .ok (.imul, 1) by decide +kernel) h1 ?_
  refine s_iload_n (show decode (am_cc m9_isBad) 8 = .ok (.iload_n 1, 1) by decide +kernel) rfl ?_
  refine s_sipush (show decode (am_cc m9_isBad) 9 = .ok (.sipush 216, 3) by decide +kernel) ⟨by decide, by decide⟩ (by decide) ?_
  refine s_idiv (show decode (am_cc m9_isBad) 12 = .ok (.idiv, 1) by decide +kernel) h2 (by decide) ?_
  refine s_iadd (show decode (am_cc m9_isBad) 13 = .ok (.iadd, 1) by decide +kernel) h3 ?_
  refine s_baload (show decode (am_cc m9_isBad) 14 = .ok (.baload, 1) by decide +kernel) kd88 h4 h5 ?_
  exact s_if_ne (tgt := 20) (show decode (am_cc m9_isBad) 15 = .ok (.ifCond .ne 5, 3) by decide +kernel) (by decide) k1 k2
theorem g9_isBad_18 {a1 a2 a3 a4 a5 : Int} {M : am_M} {Q : Option am_V → am_M → Prop} (k : Q (some (vi 0)) M) : am_AtN m9_isBad 18 [some (vr 86), some (vi a1), some (vi a2), some (vi a3), some (vi a4), some (vi a5), none, none] [] KS M Q := by
  refine s_iconst (show decode (am_cc m9_isBad) 18 = .ok (.iconst 0, 1) by decide +kernel) ⟨by decide, by decide⟩ ?_
  exact s_zreturn (show decode (am_cc m9_isBad) 19 = .ok (.ireturn, 1) by decide +kernel) rfl (by decide) k
theorem g9_isBad_20 {a1 a2 a3 a4 a5 : Int} {M : am_M} {Q : Option am_V → am_M → Prop} (h1 : 0 ≤ a1) (h2 : 0 ≤ a1 / 6) (h3 : 0 ≤ a1) (h4 : -2147483648 ≤ 6 * a3 ∧ 6 * a3 ≤ 2147483647) (h5 : 0 ≤ a1) (h6 : 0 ≤ a1 / 36) (h7 : -2147483648 ≤ (6 * a3) + ((a1 / 36) % 6) ∧ (6 * a3) + ((a1 / 36) % 6) ≤ 2147483647) (h8 : 0 ≤ (6 * a3) + ((a1 / 36) % 6)) (h9 : (6 * a3) + ((a1 / 36) % 6) < 24) (k1 : ¬ (am_up (am_up M 86 16 ((a1 / 6) % 6)) 86 17 (a1 % 6)) 94 ((6 * a3) + ((a1 / 36) % 6)) = -1 → am_AtN m9_isBad 66 [some (vr 86), some (vi a1), some (vi a2), some (vi a3), some (vi a4), some (vi a5), some (vi ((am_up (am_up M 86 16 ((a1 / 6) % 6)) 86 17 (a1 % 6)) 94 ((6 * a3) + ((a1 / 36) % 6)))), none] [] KS (am_up (am_up M 86 16 ((a1 / 6) % 6)) 86 17 (a1 % 6)) Q) (k2 : (am_up (am_up M 86 16 ((a1 / 6) % 6)) 86 17 (a1 % 6)) 94 ((6 * a3) + ((a1 / 36) % 6)) = -1 → am_AtN m9_isBad 64 [some (vr 86), some (vi a1), some (vi a2), some (vi a3), some (vi a4), some (vi a5), some (vi ((am_up (am_up M 86 16 ((a1 / 6) % 6)) 86 17 (a1 % 6)) 94 ((6 * a3) + ((a1 / 36) % 6)))), none] [] KS (am_up (am_up M 86 16 ((a1 / 6) % 6)) 86 17 (a1 % 6)) Q) : am_AtN m9_isBad 20 [some (vr 86), some (vi a1), some (vi a2), some (vi a3), some (vi a4), some (vi a5), none, none] [] KS M Q := by
  refine s_aload_n (show decode (am_cc m9_isBad) 20 = .ok (.aload_n 0, 1) by decide +kernel) rfl ?_
  refine s_iload_n (show decode (am_cc m9_isBad) 21 = .ok (.iload_n 1, 1) by decide +kernel) rfl ?_
  refine s_bipush (show decode (am_cc m9_isBad) 22 = .ok (.bipush 6, 2) by decide +kernel) ⟨by decide, by decide⟩ (by decide) ?_
  refine s_idiv (show decode (am_cc m9_isBad) 24 = .ok (.idiv, 1) by decide +kernel) h1 (by decide) ?_
  refine s_bipush (show decode (am_cc m9_isBad) 25 = .ok (.bipush 6, 2) by decide +kernel) ⟨by decide, by decide⟩ (by decide) ?_
  refine s_irem (show decode (am_cc m9_isBad) 27 = .ok (.irem, 1) by decide +kernel) h2 (by decide) ?_
  refine s_putf (k := 16) (x := (a1 / 6) % 6) (ty0 := tyX9) (show decode (am_cc m9_isBad) 28 = .ok (.putfield 163, 3) by decide +kernel) kd86 (by decide) rfl jnX9 tyX9_ok nmX9 (by decide) lf_RX9_163 rfl (Or.inl ⟨rfl, rfl, rfl⟩) ?_
  refine s_aload_n (show decode (am_cc m9_isBad) 31 = .ok (.aload_n 0, 1) by decide +kernel) rfl ?_
  refine s_iload_n (show decode (am_cc m9_isBad) 32 = .ok (.iload_n 1, 1) by decide +kernel) rfl ?_
  refine s_bipush (show decode (am_cc m9_isBad) 33 = .ok (.bipush 6, 2) by decide +kernel) ⟨by decide, by decide⟩ (by decide) ?_
  refine s_irem (show decode (am_cc m9_isBad) 35 = .ok (.irem, 1) by decide +kernel) h3 (by decide) ?_
  refine s_putf (k := 17) (x := a1 % 6) (ty0 := tyX9) (show decode (am_cc m9_isBad) 36 = .ok (.putfield 160, 3) by decide +kernel) kd86 (by decide) rfl jnX9 tyX9_ok nmX9 (by decide) lf_RX9_160 rfl (Or.inl ⟨rfl, rfl, rfl⟩) ?_
  refine s_aload_n (show decode (am_cc m9_isBad) 39 = .ok (.aload_n 0, 1) by decide +kernel) rfl ?_
  refine s_getf (k := 9) (v := vr 94) (show decode (am_cc m9_isBad) 40 = .ok (.getfield 32, 3) by decide +kernel) kd86 (by decide) rfl jnX9 (by decide) lf_RX9_32 rfl ?_
  refine s_bipush (show decode (am_cc m9_isBad) 43 = .ok (.bipush 6, 2) by decide +kernel) ⟨by decide, by decide⟩ (by decide) ?_
  refine s_iload_n (show decode (am_cc m9_isBad) 45 = .ok (.iload_n 3, 1) by decide +kernel) rfl ?_
  refine s_imul (show decode (am_cc m9_isBad) 46 = .ok (.imul, 1) by decide +kernel) h4 ?_
  refine s_iload_n (show decode (am_cc m9_isBad) 47 = .ok (.iload_n 1, 1) by decide +kernel) rfl ?_
  refine s_bipush (show decode (am_cc m9_isBad) 48 = .ok (.bipush 36, 2) by decide +kernel) ⟨by decide, by decide⟩ (by decide) ?_
  refine s_idiv (show decode (am_cc m9_isBad) 50 = .ok (.idiv, 1) by decide +kernel) h5 (by decide) ?_
  refine s_bipush (show decode (am_cc m9_isBad) 51 = .ok (.bipush 6, 2) by decide +kernel) ⟨by decide, by decide⟩ (by decide) ?_
  refine s_irem (show decode (am_cc m9_isBad) 53 = .ok (.irem, 1) by decide +kernel) h6 (by decide) ?_
  refine s_iadd (show decode (am_cc m9_isBad) 54 = .ok (.iadd, 1) by decide +kernel) h7 ?_
  refine s_iaload (show decode (am_cc m9_isBad) 55 = .ok (.iaload, 1) by decide +kernel) kd94 h8 h9 ?_
  refine s_istore (show decode (am_cc m9_isBad) 56 = .ok (.istore 6, 2) by decide +kernel) (by decide) ?_
  refine s_iload (show decode (am_cc m9_isBad) 58 = .ok (.iload 6, 2) by decide +kernel) rfl ?_
  refine s_iconst (show decode (am_cc m9_isBad) 60 = .ok (.iconst (-1), 1) by decide +kernel) ⟨by decide, by decide⟩ ?_
  exact s_icmp_ne (tgt := 66) (show decode (am_cc m9_isBad) 61 = .ok (.if_icmp .ne 5, 3) by decide +kernel) (by decide) k1 k2
theorem g9_isBad_64 {a1 a2 a3 a4 a5 a6 : Int} {M : am_M} {Q : Option am_V → am_M → Prop} (k : Q (some (vi 1)) M) : am_AtN m9_isBad 64 [some (vr 86), some (vi a1), some (vi a2), some (vi a3), some (vi a4), some (vi a5), some (vi a6), none] [] KS M Q := by
  refine s_iconst (show decode (am_cc m9_isBad) 64 = .ok (.iconst 1, 1) by decide +kernel) ⟨by decide, by decide⟩ ?_
  exact s_zreturn (show decode (am_cc m9_isBad) 65 = .ok (.ireturn, 1) by decide +kernel) rfl (by decide) k
theorem g9_isBad_66 {a1 a2 a3 a4 a5 a6 : Int} {M : am_M} {Q : Option am_V → am_M → Prop} (k : am_CallN m9_read [vr 86, vi a6, vi a4, vi a5] KS M (fun r M' => am_AtN m9_isBad 76 [some (vr 86), some (vi a1), some (vi a2), some (vi a3), some (vi a4), some (vi a5), some (vi a6), none] (r.toList ++ []) KS M' Q)) : am_AtN m9_isBad 66 [some (vr 86), some (vi a1), some (vi a2), some (vi a3), some (vi a4), some (vi a5), some (vi a6), none] [] KS M Q := by
  refine s_aload_n (show decode (am_cc m9_isBad) 66 = .ok (.aload_n 0, 1) by decide +kernel) rfl ?_
  refine s_iload (show decode (am_cc m9_isBad) 67 = .ok (.iload 6, 2) by decide +kernel) rfl ?_
  refine s_iload (show decode (am_cc m9_isBad) 69 = .ok (.iload 4, 2) by decide +kernel) rfl ?_
  refine s_iload (show decode (am_cc m9_isBad) 71 = .ok (.iload 5, 2) by decide +kernel) rfl ?_
  exact n_callV (as := [vi a6, vi a4, vi a5]) (stk := []) (show decode (am_cc m9_isBad) 73 = .ok (.invokevirtual 170, 3) by decide +kernel) lk_RX9_170 kd86 (by decide) rfl rfl (by decide) (Nat.le_of_ble_eq_true rfl) ⟨rfl, rfl⟩ k
theorem g9_isBad_76 {a1 a2 a3 a4 a5 a6 : Int} {M : am_M} {Q : Option am_V → am_M → Prop} (k1 : a4 < 0 → am_AtN m9_isBad 114 [some (vr 86), some (vi a1), some (vi a2), some (vi a3), some (vi a4), some (vi a5), some (vi a6), none] [] KS M Q) (k2 : ¬ (a4 < 0) → am_AtN m9_isBad 81 [some (vr 86), some (vi a1), some (vi a2), some (vi a3), some (vi a4), some (vi a5), some (vi a6), none] [] KS M Q) : am_AtN m9_isBad 76 [some (vr 86), some (vi a1), some (vi a2), some (vi a3), some (vi a4), some (vi a5), some (vi a6), none] [] KS M Q := by
  refine s_iload (show decode (am_cc m9_isBad) 76 = .ok (.iload 4, 2) by decide +kernel) rfl ?_
  exact s_if_lt (tgt := 114) (show decode (am_cc m9_isBad) 78 = .ok (.ifCond .lt 36, 3) by decide +kernel) (by decide) k1 k2
theorem g9_isBad_81 {a1 a2 a3 a4 a5 a6 : Int} {M : am_M} {Q : Option am_V → am_M → Prop} (h1 : -2147483648 ≤ 6 * a4 ∧ 6 * a4 ≤ 2147483647) (h2 : -2147483648 ≤ (6 * a4) + (M 86 16) ∧ (6 * a4) + (M 86 16) ≤ 2147483647) (h3 : 0 ≤ (6 * a4) + (M 86 16)) (h4 : (6 * a4) + (M 86 16) < 24) (k1 : ¬ M 94 ((6 * a4) + (M 86 16)) = -1 → am_AtN m9_isBad 106 [some (vr 86), some (vi a1), some (vi a2), some (vi a3), some (vi a4), some (vi a5), some (vi a6), some (vi (M 94 ((6 * a4) + (M 86 16))))] [] KS M Q) (k2 : M 94 ((6 * a4) + (M 86 16)) = -1 → am_AtN m9_isBad 104 [some (vr 86), some (vi a1), some (vi a2), some (vi a3), some (vi a4), some (vi a5), some (vi a6), some (vi (M 94 ((6 * a4) + (M 86 16))))] [] KS M Q) : am_AtN m9_isBad 81 [some (vr 86), some (vi a1), some (vi a2), some (vi a3), some (vi a4), some (vi a5), some (vi a6), none] [] KS M Q := by
  refine s_aload_n (show decode (am_cc m9_isBad) 81 = .ok (.aload_n 0, 1) by decide +kernel) rfl ?_
  refine s_getf (k := 9) (v := vr 94) (show decode (am_cc m9_isBad) 82 = .ok (.getfield 32, 3) by decide +kernel) kd86 (by decide) rfl jnX9 (by decide) lf_RX9_32 rfl ?_
  refine s_bipush (show decode (am_cc m9_isBad) 85 = .ok (.bipush 6, 2) by decide +kernel) ⟨by decide, by decide⟩ (by decide) ?_
  refine s_iload (show decode (am_cc m9_isBad) 87 = .ok (.iload 4, 2) by decide +kernel) rfl ?_
  refine s_imul (show decode (am_cc m9_isBad) 89 = .ok (.imul, 1) by decide +kernel) h1 ?_
  refine s_aload_n (show decode (am_cc m9_isBad) 90 = .ok (.aload_n 0, 1) by decide +kernel) rfl ?_
  refine s_getf (k := 16) (v := vi (M 86 16)) (show decode (am_cc m9_isBad) 91 = .ok (.getfield 163, 3) by decide +kernel) kd86 (by decide) rfl jnX9 (by decide) lf_RX9_163 rfl ?_
  refine s_iadd (show decode (am_cc m9_isBad) 94 = .ok (.iadd, 1) by decide +kernel) h2 ?_
  refine s_iaload (show decode (am_cc m9_isBad) 95 = .ok (.iaload, 1) by decide +kernel) kd94 h3 h4 ?_
  refine s_istore (show decode (am_cc m9_isBad) 96 = .ok (.istore 7, 2) by decide +kernel) (by decide) ?_
  refine s_iload (show decode (am_cc m9_isBad) 98 = .ok (.iload 7, 2) by decide +kernel) rfl ?_
  refine s_iconst (show decode (am_cc m9_isBad) 100 = .ok (.iconst (-1), 1) by decide +kernel) ⟨by decide, by decide⟩ ?_
  exact s_icmp_ne (tgt := 106) (show decode (am_cc m9_isBad) 101 = .ok (.if_icmp .ne 5, 3) by decide +kernel) (by decide) k1 k2
theorem g9_isBad_104 {a1 a2 a3 a4 a5 a6 a7 : Int} {M : am_M} {Q : Option am_V → am_M → Prop} (k : Q (some (vi 1)) M) : am_AtN m9_isBad 104 [some (vr 86), some (vi a1), some (vi a2), some (vi a3), some (vi a4), some (vi a5), some (vi a6), some (vi a7)] [] KS M Q := by
  refine s_iconst (show decode (am_cc m9_isBad) 104 = .ok (.iconst 1, 1) by decide +kernel) ⟨by decide, by decide⟩ ?_
  exact s_zreturn (show decode (am_cc m9_isBad) 105 = .ok (.ireturn, 1) by decide +kernel) rfl (by decide) k
theorem g9_isBad_106 {a1 a2 a3 a4 a5 a6 a7 : Int} {M : am_M} {Q : Option am_V → am_M → Prop} (k : am_CallN m9_say [vr 86, vi a7, vi a5] KS M (fun r M' => am_AtN m9_isBad 114 [some (vr 86), some (vi a1), some (vi a2), some (vi a3), some (vi a4), some (vi a5), some (vi a6), none] (r.toList ++ []) KS M' Q)) : am_AtN m9_isBad 106 [some (vr 86), some (vi a1), some (vi a2), some (vi a3), some (vi a4), some (vi a5), some (vi a6), some (vi a7)] [] KS M Q := by
  refine s_aload_n (show decode (am_cc m9_isBad) 106 = .ok (.aload_n 0, 1) by decide +kernel) rfl ?_
  refine s_iload (show decode (am_cc m9_isBad) 107 = .ok (.iload 7, 2) by decide +kernel) rfl ?_
  refine s_iload (show decode (am_cc m9_isBad) 109 = .ok (.iload 5, 2) by decide +kernel) rfl ?_
  exact n_callV (as := [vi a7, vi a5]) (stk := []) (show decode (am_cc m9_isBad) 111 = .ok (.invokevirtual 166, 3) by decide +kernel) lk_RX9_166 kd86 (by decide) rfl rfl (by decide) (Nat.le_of_ble_eq_true rfl) ⟨rfl, rfl⟩ (am_CallN_mono (fun r M' h => (am_fg 7 h)) k)
theorem g9_isBad_114 {a1 a2 a3 a4 a5 a6 : Int} {M : am_M} {Q : Option am_V → am_M → Prop} (h1 : -2147483648 ≤ 6 * a5 ∧ 6 * a5 ≤ 2147483647) (h2 : -2147483648 ≤ (6 * a5) + (M 86 17) ∧ (6 * a5) + (M 86 17) ≤ 2147483647) (h3 : 0 ≤ (6 * a5) + (M 86 17)) (h4 : (6 * a5) + (M 86 17) < 48) (k1 : ¬ M 88 ((6 * a5) + (M 86 17)) = 0 → am_AtN m9_isBad 136 [some (vr 86), some (vi a1), some (vi a2), some (vi a3), some (vi a4), some (vi a5), some (vi a6), none] [] KS M Q) (k2 : M 88 ((6 * a5) + (M 86 17)) = 0 → am_AtN m9_isBad 132 [some (vr 86), some (vi a1), some (vi a2), some (vi a3), some (vi a4), some (vi a5), some (vi a6), none] [] KS M Q) : am_AtN m9_isBad 114 [some (vr 86), some (vi a1), some (vi a2), some (vi a3), some (vi a4), some (vi a5), some (vi a6), none] [] KS M Q := by
  refine s_aload_n (show decode (am_cc m9_isBad) 114 = .ok (.aload_n 0, 1) by decide +kernel) rfl ?_
  refine s_getf (k := 3) (v := vr 88) (show decode (am_cc m9_isBad) 115 = .ok (.getfield 13, 3) by decide +kernel) kd86 (by decide) rfl jnX9 (by decide) lf_RX9_13 rfl ?_
  refine s_bipush (show decode (am_cc m9_isBad) 118 = .ok (.bipush 6, 2) by decide +kernel) ⟨by decide, by decide⟩ (by decide) ?_
  refine s_iload (show decode (am_cc m9_isBad) 120 = .ok (.iload 5, 2) by decide +kernel) rfl ?_
  refine s_imul (show decode (am_cc m9_isBad) 122 = .ok (.imul, 1) by decide +kernel) h1 ?_
  refine s_aload_n (show decode (am_cc m9_isBad) 123 = .ok (.aload_n 0, 1) by decide +kernel) rfl ?_
  refine s_getf (k := 17) (v := vi (M 86 17)) (show decode (am_cc m9_isBad) 124 = .ok (.getfield 160, 3) by decide +kernel) kd86 (by decide) rfl jnX9 (by decide) lf_RX9_160 rfl ?_
  refine s_iadd (show decode (am_cc m9_isBad) 127 = .ok (.iadd, 1) by decide +kernel) h2 ?_
  refine s_baload (show decode (am_cc m9_isBad) 128 = .ok (.baload, 1) by decide +kernel) kd88 h3 h4 ?_
  exact s_if_ne (tgt := 136) (show decode (am_cc m9_isBad) 129 = .ok (.ifCond .ne 7, 3) by decide +kernel) (by decide) k1 k2
theorem g9_isBad_132 {a1 a2 a3 a4 a5 a6 : Int} {M : am_M} {Q : Option am_V → am_M → Prop} (k : am_AtN m9_isBad 137 [some (vr 86), some (vi a1), some (vi a2), some (vi a3), some (vi a4), some (vi a5), some (vi a6), none] [vi 1] KS M Q) : am_AtN m9_isBad 132 [some (vr 86), some (vi a1), some (vi a2), some (vi a3), some (vi a4), some (vi a5), some (vi a6), none] [] KS M Q := by
  refine s_iconst (show decode (am_cc m9_isBad) 132 = .ok (.iconst 1, 1) by decide +kernel) ⟨by decide, by decide⟩ ?_
  refine s_goto (tgt := 137) (show decode (am_cc m9_isBad) 133 = .ok (.goto 4, 3) by decide +kernel) (by decide) ?_
  exact k
theorem g9_isBad_136 {a1 a2 a3 a4 a5 a6 : Int} {M : am_M} {Q : Option am_V → am_M → Prop} (k : am_AtN m9_isBad 137 [some (vr 86), some (vi a1), some (vi a2), some (vi a3), some (vi a4), some (vi a5), some (vi a6), none] [vi 0] KS M Q) : am_AtN m9_isBad 136 [some (vr 86), some (vi a1), some (vi a2), some (vi a3), some (vi a4), some (vi a5), some (vi a6), none] [] KS M Q := by
  refine s_iconst (show decode (am_cc m9_isBad) 136 = .ok (.iconst 0, 1) by decide +kernel) ⟨by decide, by decide⟩ ?_
  exact k
theorem g9_isBad_137 {a1 a2 a3 a4 a5 a6 t0 : Int} {M : am_M} {Q : Option am_V → am_M → Prop} (h1 : t0 = 0 ∨ t0 = 1) (k : Q (some (vi t0)) M) : am_AtN m9_isBad 137 [some (vr 86), some (vi a1), some (vi a2), some (vi a3), some (vi a4), some (vi a5), some (vi a6), none] [vi t0] KS M Q := by
  exact s_zreturn (show decode (am_cc m9_isBad) 137 = .ok (.ireturn, 1) by decide +kernel) rfl h1 k
theorem g9_meet_0 {a1 a2 a3 a4 : Int} {M : am_M} {Q : Option am_V → am_M → Prop} (k : am_AtN m9_meet 3 [some (vr 86), some (vi a1), some (vi a2), some (vi a3), some (vi a4), some (vi 0), none, none, none, none] [] KS M Q) : am_AtN m9_meet 0 [some (vr 86), some (vi a1), some (vi a2), some (vi a3), some (vi a4), none, none, none, none, none] [] KS M Q := by
  refine s_iconst (show decode (am_cc m9_meet) 0 = .ok (.iconst 0, 1) by decide +kernel) ⟨by decide, by decide⟩ ?_
  refine s_istore (show decode (am_cc m9_meet) 1 = .ok (.istore 5, 2) by decide +kernel) (by decide) ?_
  exact k
theorem g9_meet_3 {a1 a2 a3 a4 a5 : Int} {M : am_M} {Q : Option am_V → am_M → Prop} (k1 : 1296 ≤ a5 → am_AtN m9_meet 25 [some (vr 86), some (vi a1), some (vi a2), some (vi a3), some (vi a4), some (vi a5), none, none, none, none] [] KS M Q) (k2 : ¬ (1296 ≤ a5) → am_AtN m9_meet 11 [some (vr 86), some (vi a1), some (vi a2), some (vi a3), some (vi a4), some (vi a5), none, none, none, none] [] KS M Q) : am_AtN m9_meet 3 [some (vr 86), some (vi a1), some (vi a2), some (vi a3), some (vi a4), some (vi a5), none, none, none, none] [] KS M Q := by
  refine s_iload (show decode (am_cc m9_meet) 3 = .ok (.iload 5, 2) by decide +kernel) rfl ?_
  refine s_sipush (show decode (am_cc m9_meet) 5 = .ok (.sipush 1296, 3) by decide +kernel) ⟨by decide, by decide⟩ (by decide) ?_
  exact s_icmp_ge (tgt := 25) (show decode (am_cc m9_meet) 8 = .ok (.if_icmp .ge 17, 3) by decide +kernel) (by decide) k1 k2
theorem g9_meet_11 {a1 a2 a3 a4 a5 : Int} {M : am_M} {Q : Option am_V → am_M → Prop} (h1 : 0 ≤ a5) (h2 : a5 < 1296) (h3 : -2147483648 ≤ a5 + 1 ∧ a5 + 1 ≤ 2147483647) (k : am_AtN m9_meet 3 [some (vr 86), some (vi a1), some (vi a2), some (vi a3), some (vi a4), some (vi (a5 + 1)), none, none, none, none] [] KS (am_up M 98 a5 0) Q) : am_AtN m9_meet 11 [some (vr 86), some (vi a1), some (vi a2), some (vi a3), some (vi a4), some (vi a5), none, none, none, none] [] KS M Q := by
  refine s_aload_n (show decode (am_cc m9_meet) 11 = .ok (.aload_n 0, 1) by decide +kernel) rfl ?_
  refine s_getf (k := 13) (v := vr 98) (show decode (am_cc m9_meet) 12 = .ok (.getfield 44, 3) by decide +kernel) kd86 (by decide) rfl jnX9 (by decide) lf_RX9_44 rfl ?_
  refine s_iload (show decode (am_cc m9_meet) 15 = .ok (.iload 5, 2) by decide +kernel) rfl ?_
  refine s_iconst (show decode (am_cc m9_meet) 17 = .ok (.iconst 0, 1) by decide +kernel) ⟨by decide, by decide⟩ ?_
  refine s_bastore (show decode (am_cc m9_meet) 18 = .ok (.bastore, 1) by decide +kernel) kd98 h1 h2 (by decide) ?_
  refine s_iinc (show decode (am_cc m9_meet) 19 = .ok (.iinc 5 1, 3) by decide +kernel) rfl (by decide) h3 ?_
  refine s_goto (tgt := 3) (show decode (am_cc m9_meet) 22 = .ok (.goto (-19), 3) by decide +kernel) (by decide) ?_
  exact k
theorem g9_meet_25 {a1 a2 a3 a4 a5 : Int} {M : am_M} {Q : Option am_V → am_M → Prop} (k : am_AtN m9_meet 59 [some (vr 86), some (vi a1), some (vi a2), some (vi a3), some (vi a4), some (vi (-9)), some (vi 0), none, none, none] [] KS (am_up (am_up (am_up (am_up M 98 0 1) 95 0 0) 96 0 (-9)) 86 15 1) Q) : am_AtN m9_meet 25 [some (vr 86), some (vi a1), some (vi a2), some (vi a3), some (vi a4), some (vi a5), none, none, none, none] [] KS M Q := by
  refine s_aload_n (show decode (am_cc m9_meet) 25 = .ok (.aload_n 0, 1) by decide +kernel) rfl ?_
  refine s_getf (k := 13) (v := vr 98) (show decode (am_cc m9_meet) 26 = .ok (.getfield 44, 3) by decide +kernel) kd86 (by decide) rfl jnX9 (by decide) lf_RX9_44 rfl ?_
  refine s_iconst (show decode (am_cc m9_meet) 29 = .ok (.iconst 0, 1) by decide +kernel) ⟨by decide, by decide⟩ ?_
  refine s_iconst (show decode (am_cc m9_meet) 30 = .ok (.iconst 1, 1) by decide +kernel) ⟨by decide, by decide⟩ ?_
  refine s_bastore (show decode (am_cc m9_meet) 31 = .ok (.bastore, 1) by decide +kernel) kd98 (by decide) (by decide) (by decide) ?_
  refine s_aload_n (show decode (am_cc m9_meet) 32 = .ok (.aload_n 0, 1) by decide +kernel) rfl ?_
  refine s_getf (k := 10) (v := vr 95) (show decode (am_cc m9_meet) 33 = .ok (.getfield 35, 3) by decide +kernel) kd86 (by decide) rfl jnX9 (by decide) lf_RX9_35 rfl ?_
  refine s_iconst (show decode (am_cc m9_meet) 36 = .ok (.iconst 0, 1) by decide +kernel) ⟨by decide, by decide⟩ ?_
  refine s_iconst (show decode (am_cc m9_meet) 37 = .ok (.iconst 0, 1) by decide +kernel) ⟨by decide, by decide⟩ ?_
  refine s_iastore (show decode (am_cc m9_meet) 38 = .ok (.iastore, 1) by decide +kernel) kd95 (by decide) (by decide) ?_
  refine s_aload_n (show decode (am_cc m9_meet) 39 = .ok (.aload_n 0, 1) by decide +kernel) rfl ?_
  refine s_getf (k := 11) (v := vr 96) (show decode (am_cc m9_meet) 40 = .ok (.getfield 38, 3) by decide +kernel) kd86 (by decide) rfl jnX9 (by decide) lf_RX9_38 rfl ?_
  refine s_iconst (show decode (am_cc m9_meet) 43 = .ok (.iconst 0, 1) by decide +kernel) ⟨by decide, by decide⟩ ?_
  refine s_bipush (show decode (am_cc m9_meet) 44 = .ok (.bipush (-9), 2) by decide +kernel) ⟨by decide, by decide⟩ (by decide) ?_
  refine s_iastore (show decode (am_cc m9_meet) 46 = .ok (.iastore, 1) by decide +kernel) kd96 (by decide) (by decide) ?_
  refine s_aload_n (show decode (am_cc m9_meet) 47 = .ok (.aload_n 0, 1) by decide +kernel) rfl ?_
  refine s_iconst (show decode (am_cc m9_meet) 48 = .ok (.iconst 1, 1) by decide +kernel) ⟨by decide, by decide⟩ ?_
  refine s_putf (k := 15) (x := 1) (ty0 := tyX9) (show decode (am_cc m9_meet) 49 = .ok (.putfield 174, 3) by decide +kernel) kd86 (by decide) rfl jnX9 tyX9_ok nmX9 (by decide) lf_RX9_174 rfl (Or.inl ⟨rfl, rfl, rfl⟩) ?_
  refine s_bipush (show decode (am_cc m9_meet) 52 = .ok (.bipush (-9), 2) by decide +kernel) ⟨by decide, by decide⟩ (by decide) ?_
  refine s_istore (show decode (am_cc m9_meet) 54 = .ok (.istore 5, 2) by decide +kernel) (by decide) ?_
  refine s_iconst (show decode (am_cc m9_meet) 56 = .ok (.iconst 0, 1) by decide +kernel) ⟨by decide, by decide⟩ ?_
  refine s_istore (show decode (am_cc m9_meet) 57 = .ok (.istore 6, 2) by decide +kernel) (by decide) ?_
  exact k
theorem g9_meet_59 {a1 a2 a3 a4 a5 a6 : Int} {M : am_M} {Q : Option am_V → am_M → Prop} (k1 : M 86 15 ≤ a6 → am_AtN m9_meet 203 [some (vr 86), some (vi a1), some (vi a2), some (vi a3), some (vi a4), some (vi a5), some (vi a6), none, none, none] [] KS M Q) (k2 : ¬ (M 86 15 ≤ a6) → am_AtN m9_meet 68 [some (vr 86), some (vi a1), some (vi a2), some (vi a3), some (vi a4), some (vi a5), some (vi a6), none, none, none] [] KS M Q) : am_AtN m9_meet 59 [some (vr 86), some (vi a1), some (vi a2), some (vi a3), some (vi a4), some (vi a5), some (vi a6), none, none, none] [] KS M Q := by
  refine s_iload (show decode (am_cc m9_meet) 59 = .ok (.iload 6, 2) by decide +kernel) rfl ?_
  refine s_aload_n (show decode (am_cc m9_meet) 61 = .ok (.aload_n 0, 1) by decide +kernel) rfl ?_
  refine s_getf (k := 15) (v := vi (M 86 15)) (show decode (am_cc m9_meet) 62 = .ok (.getfield 174, 3) by decide +kernel) kd86 (by decide) rfl jnX9 (by decide) lf_RX9_174 rfl ?_
  exact s_icmp_ge (tgt := 203) (show decode (am_cc m9_meet) 65 = .ok (.if_icmp .ge 138, 3) by decide +kernel) (by decide) k1 k2
theorem g9_meet_68 {a1 a2 a3 a4 a5 a6 : Int} {M : am_M} {Q : Option am_V → am_M → Prop} (h1 : 0 ≤ a6) (h2 : a6 < 1296) (k1 : ¬ a5 = -9 → am_AtN m9_meet 103 [some (vr 86), some (vi a1), some (vi a2), some (vi a3), some (vi a4), some (vi a5), some (vi a6), some (vi (M 95 a6)), none, none] [] KS M Q) (k2 : a5 = -9 → am_AtN m9_meet 84 [some (vr 86), some (vi a1), some (vi a2), some (vi a3), some (vi a4), some (vi a5), some (vi a6), some (vi (M 95 a6)), none, none] [] KS M Q) : am_AtN m9_meet 68 [some (vr 86), some (vi a1), some (vi a2), some (vi a3), some (vi a4), some (vi a5), some (vi a6), none, none, none] [] KS M Q := by
  refine s_aload_n (show decode (am_cc m9_meet) 68 = .ok (.aload_n 0, 1) by decide +kernel) rfl ?_
  refine s_getf (k := 10) (v := vr 95) (show decode (am_cc m9_meet) 69 = .ok (.getfield 35, 3) by decide +kernel) kd86 (by decide) rfl jnX9 (by decide) lf_RX9_35 rfl ?_
  refine s_iload (show decode (am_cc m9_meet) 72 = .ok (.iload 6, 2) by decide +kernel) rfl ?_
  refine s_iaload (show decode (am_cc m9_meet) 74 = .ok (.iaload, 1) by decide +kernel) kd95 h1 h2 ?_
  refine s_istore (show decode (am_cc m9_meet) 75 = .ok (.istore 7, 2) by decide +kernel) (by decide) ?_
  refine s_iload (show decode (am_cc m9_meet) 77 = .ok (.iload 5, 2) by decide +kernel) rfl ?_
  refine s_bipush (show decode (am_cc m9_meet) 79 = .ok (.bipush (-9), 2) by decide +kernel) ⟨by decide, by decide⟩ (by decide) ?_
  exact s_icmp_ne (tgt := 103) (show decode (am_cc m9_meet) 81 = .ok (.if_icmp .ne 22, 3) by decide +kernel) (by decide) k1 k2
theorem g9_meet_84 {a1 a2 a3 a4 a5 a6 a7 : Int} {M : am_M} {Q : Option am_V → am_M → Prop} (k : am_CallN m9_isBad [vr 86, vi a7, vi a1, vi a2, vi a3, vi a4] KS M (fun r M' => am_AtN m9_meet 95 [some (vr 86), some (vi a1), some (vi a2), some (vi a3), some (vi a4), some (vi a5), some (vi a6), some (vi a7), none, none] (r.toList ++ []) KS M' Q)) : am_AtN m9_meet 84 [some (vr 86), some (vi a1), some (vi a2), some (vi a3), some (vi a4), some (vi a5), some (vi a6), some (vi a7), none, none] [] KS M Q := by
  refine s_aload_n (show decode (am_cc m9_meet) 84 = .ok (.aload_n 0, 1) by decide +kernel) rfl ?_
  refine s_iload (show decode (am_cc m9_meet) 85 = .ok (.iload 7, 2) by decide +kernel) rfl ?_
  refine s_iload_n (show decode (am_cc m9_meet) 87 = .ok (.iload_n 1, 1) by decide +kernel) rfl ?_
  refine s_iload_n (show decode (am_cc m9_meet) 88 = .ok (.iload_n 2, 1) by decide +kernel) rfl ?_
  refine s_iload_n (show decode (am_cc m9_meet) 89 = .ok (.iload_n 3, 1) by decide +kernel) rfl ?_
  refine s_iload (show decode (am_cc m9_meet) 90 = .ok (.iload 4, 2) by decide +kernel) rfl ?_
  exact n_callV (as := [vi a7, vi a1, vi a2, vi a3, vi a4]) (stk := []) (show decode (am_cc m9_meet) 92 = .ok (.invokevirtual 177, 3) by decide +kernel) lk_RX9_177 kd86 (by decide) rfl rfl (by decide) (Nat.le_of_ble_eq_true rfl) ⟨rfl, rfl⟩ k
theorem g9_meet_95 {a1 a2 a3 a4 a5 a6 a7 t0 : Int} {M : am_M} {Q : Option am_V → am_M → Prop} (k1 : t0 = 0 → am_AtN m9_meet 103 [some (vr 86), some (vi a1), some (vi a2), some (vi a3), some (vi a4), some (vi a5), some (vi a6), some (vi a7), none, none] [] KS M Q) (k2 : ¬ (t0 = 0) → am_AtN m9_meet 98 [some (vr 86), some (vi a1), some (vi a2), some (vi a3), some (vi a4), some (vi a5), some (vi a6), some (vi a7), none, none] [] KS M Q) : am_AtN m9_meet 95 [some (vr 86), some (vi a1), some (vi a2), some (vi a3), some (vi a4), some (vi a5), some (vi a6), some (vi a7), none, none] [vi t0] KS M Q := by
  exact s_if_eq (tgt := 103) (show decode (am_cc m9_meet) 95 = .ok (.ifCond .eq 8, 3) by decide +kernel) (by decide) k1 k2
theorem g9_meet_98 {a1 a2 a3 a4 a5 a6 a7 : Int} {M : am_M} {Q : Option am_V → am_M → Prop} (k : am_AtN m9_meet 105 [some (vr 86), some (vi a1), some (vi a2), some (vi a3), some (vi a4), some (vi a5), some (vi a6), some (vi a7), none, none] [vi a7] KS M Q) : am_AtN m9_meet 98 [some (vr 86), some (vi a1), some (vi a2), some (vi a3), some (vi a4), some (vi a5), some (vi a6), some (vi a7), none, none] [] KS M Q := by
  refine s_iload (show decode (am_cc m9_meet) 98 = .ok (.iload 7, 2) by decide +kernel) rfl ?_
  refine s_goto (tgt := 105) (show decode (am_cc m9_meet) 100 = .ok (.goto 5, 3) by decide +kernel) (by decide) ?_
  exact k
theorem g9_meet_103 {a1 a2 a3 a4 a5 a6 a7 : Int} {M : am_M} {Q : Option am_V → am_M → Prop} (k : am_AtN m9_meet 105 [some (vr 86), some (vi a1), some (vi a2), some (vi a3), some (vi a4), some (vi a5), some (vi a6), some (vi a7), none, none] [vi a5] KS M Q) : am_AtN m9_meet 103 [some (vr 86), some (vi a1), some (vi a2), some (vi a3), some (vi a4), some (vi a5), some (vi a6), some (vi a7), none, none] [] KS M Q := by
  refine s_iload (show decode (am_cc m9_meet) 103 = .ok (.iload 5, 2) by decide +kernel) rfl ?_
  exact k
theorem g9_meet_105 {a1 a2 a3 a4 a5 a6 a7 t0 : Int} {M : am_M} {Q : Option am_V → am_M → Prop} (k : am_AtN m9_meet 110 [some (vr 86), some (vi a1), some (vi a2), some (vi a3), some (vi a4), some (vi t0), some (vi a6), some (vi a7), some (vi 0), none] [] KS M Q) : am_AtN m9_meet 105 [some (vr 86), some (vi a1), some (vi a2), some (vi a3), some (vi a4), some (vi a5), some (vi a6), some (vi a7), none, none] [vi t0] KS M Q := by
  refine s_istore (show decode (am_cc m9_meet) 105 = .ok (.istore 5, 2) by decide +kernel) (by decide) ?_
  refine s_iconst (show decode (am_cc m9_meet) 107 = .ok (.iconst 0, 1) by decide +kernel) ⟨by decide, by decide⟩ ?_
  refine s_istore (show decode (am_cc m9_meet) 108 = .ok (.istore 8, 2) by decide +kernel) (by decide) ?_
  exact k
theorem g9_meet_110 {a1 a2 a3 a4 a5 a6 a7 a8 : Int} {M : am_M} {Q : Option am_V → am_M → Prop} (k1 : M 86 1 ≤ a8 → am_AtN m9_meet 197 [some (vr 86), some (vi a1), some (vi a2), some (vi a3), some (vi a4), some (vi a5), some (vi a6), some (vi a7), some (vi a8), none] [] KS M Q) (k2 : ¬ (M 86 1 ≤ a8) → am_AtN m9_meet 119 [some (vr 86), some (vi a1), some (vi a2), some (vi a3), some (vi a4), some (vi a5), some (vi a6), some (vi a7), some (vi a8), none] [] KS M Q) : am_AtN m9_meet 110 [some (vr 86), some (vi a1), some (vi a2), some (vi a3), some (vi a4), some (vi a5), some (vi a6), some (vi a7), some (vi a8), none] [] KS M Q := by
  refine s_iload (show decode (am_cc m9_meet) 110 = .ok (.iload 8, 2) by decide +kernel) rfl ?_
  refine s_aload_n (show decode (am_cc m9_meet) 112 = .ok (.aload_n 0, 1) by decide +kernel) rfl ?_
  refine s_getf (k := 1) (v := vi (M 86 1)) (show decode (am_cc m9_meet) 113 = .ok (.getfield 99, 3) by decide +kernel) kd86 (by decide) rfl jnX9 (by decide) lf_RX9_99 rfl ?_
  exact s_icmp_ge (tgt := 197) (show decode (am_cc m9_meet) 116 = .ok (.if_icmp .ge 81, 3) by decide +kernel) (by decide) k1 k2
theorem g9_meet_119 {a1 a2 a3 a4 a5 a6 a7 a8 : Int} {M : am_M} {Q : Option am_V → am_M → Prop} (k : am_CallN m9_leadsTo [vr 86, vi a7, vi a8, vi a1, vi a2, vi a3, vi a4] KS M (fun r M' => am_AtN m9_meet 132 [some (vr 86), some (vi a1), some (vi a2), some (vi a3), some (vi a4), some (vi a5), some (vi a6), some (vi a7), some (vi a8), none] (r.toList ++ []) KS M' Q)) : am_AtN m9_meet 119 [some (vr 86), some (vi a1), some (vi a2), some (vi a3), some (vi a4), some (vi a5), some (vi a6), some (vi a7), some (vi a8), none] [] KS M Q := by
  refine s_aload_n (show decode (am_cc m9_meet) 119 = .ok (.aload_n 0, 1) by decide +kernel) rfl ?_
  refine s_iload (show decode (am_cc m9_meet) 120 = .ok (.iload 7, 2) by decide +kernel) rfl ?_
  refine s_iload (show decode (am_cc m9_meet) 122 = .ok (.iload 8, 2) by decide +kernel) rfl ?_
  refine s_iload_n (show decode (am_cc m9_meet) 124 = .ok (.iload_n 1, 1) by decide +kernel) rfl ?_
  refine s_iload_n (show decode (am_cc m9_meet) 125 = .ok (.iload_n 2, 1) by decide +kernel) rfl ?_
  refine s_iload_n (show decode (am_cc m9_meet) 126 = .ok (.iload_n 3, 1) by decide +kernel) rfl ?_
  refine s_iload (show decode (am_cc m9_meet) 127 = .ok (.iload 4, 2) by decide +kernel) rfl ?_
  exact n_callV (as := [vi a7, vi a8, vi a1, vi a2, vi a3, vi a4]) (stk := []) (show decode (am_cc m9_meet) 129 = .ok (.invokevirtual 181, 3) by decide +kernel) lk_RX9_181 kd86 (by decide) rfl rfl (by decide) (Nat.le_of_ble_eq_true rfl) ⟨rfl, rfl⟩ k
theorem g9_meet_132 {a1 a2 a3 a4 a5 a6 a7 a8 t0 : Int} {M : am_M} {Q : Option am_V → am_M → Prop} (h1 : 0 ≤ t0) (h2 : t0 < 1296) (k1 : ¬ M 98 t0 = 0 → am_AtN m9_meet 191 [some (vr 86), some (vi a1), some (vi a2), some (vi a3), some (vi a4), some (vi a5), some (vi a6), some (vi a7), some (vi a8), some (vi t0)] [] KS M Q) (k2 : M 98 t0 = 0 → am_AtN m9_meet 144 [some (vr 86), some (vi a1), some (vi a2), some (vi a3), some (vi a4), some (vi a5), some (vi a6), some (vi a7), some (vi a8), some (vi t0)] [] KS M Q) : am_AtN m9_meet 132 [some (vr 86), some (vi a1), some (vi a2), some (vi a3), some (vi a4), some (vi a5), some (vi a6), some (vi a7), some (vi a8), none] [vi t0] KS M Q := by
  refine s_istore (show decode (am_cc m9_meet) 132 = .ok (.istore 9, 2) by decide +kernel) (by decide) ?_
  refine s_aload_n (show decode (am_cc m9_meet) 134 = .ok (.aload_n 0, 1) by decide +kernel) rfl ?_
  refine s_getf (k := 13) (v := vr 98) (show decode (am_cc m9_meet) 135 = .ok (.getfield 44, 3) by decide +kernel) kd86 (by decide) rfl jnX9 (by decide) lf_RX9_44 rfl ?_
  refine s_iload (show decode (am_cc m9_meet) 138 = .ok (.iload 9, 2) by decide +kernel) rfl ?_
  refine s_baload (show decode (am_cc m9_meet) 140 = .ok (.baload, 1) by decide +kernel) kd98 h1 h2 ?_
  exact s_if_ne (tgt := 191) (show decode (am_cc m9_meet) 141 = .ok (.ifCond .ne 50, 3) by decide +kernel) (by decide) k1 k2
theorem g9_meet_144 {a1 a2 a3 a4 a5 a6 a7 a8 a9 : Int} {M : am_M} {Q : Option am_V → am_M → Prop} (h1 : 0 ≤ a9) (h2 : a9 < 1296) (h3 : 0 ≤ a9) (h4 : a9 < 1296) (h5 : 0 ≤ a9) (h6 : a9 < 1296) (h7 : 0 ≤ (am_up (am_up (am_up M 98 a9 1) 96 a9 a7) 97 a9 a8) 86 15) (h8 : (am_up (am_up (am_up M 98 a9 1) 96 a9 a7) 97 a9 a8) 86 15 < 1296) (h9 : -2147483648 ≤ ((am_up (am_up (am_up (am_up M 98 a9 1) 96 a9 a7) 97 a9 a8) 95 ((am_up (am_up (am_up M 98 a9 1) 96 a9 a7) 97 a9 a8) 86 15) a9) 86 15) + 1 ∧ ((am_up (am_up (am_up (am_up M 98 a9 1) 96 a9 a7) 97 a9 a8) 95 ((am_up (am_up (am_up M 98 a9 1) 96 a9 a7) 97 a9 a8) 86 15) a9) 86 15) + 1 ≤ 2147483647) (k : am_AtN m9_meet 191 [some (vr 86), some (vi a1), some (vi a2), some (vi a3), some (vi a4), some (vi a5), some (vi a6), some (vi a7), some (vi a8), some (vi a9)] [] KS (am_up (am_up (am_up (am_up (am_up M 98 a9 1) 96 a9 a7) 97 a9 a8) 95 ((am_up (am_up (am_up M 98 a9 1) 96 a9 a7) 97 a9 a8) 86 15) a9) 86 15 (((am_up (am_up (am_up (am_up M 98 a9 1) 96 a9 a7) 97 a9 a8) 95 ((am_up (am_up (am_up M 98 a9 1) 96 a9 a7) 97 a9 a8) 86 15) a9) 86 15) + 1)) Q) : am_AtN m9_meet 144 [some (vr 86), some (vi a1), some (vi a2), some (vi a3), some (vi a4), some (vi a5), some (vi a6), some (vi a7), some (vi a8), some (vi a9)] [] KS M Q := by
  refine s_aload_n (show decode (am_cc m9_meet) 144 = .ok (.aload_n 0, 1) by decide +kernel) rfl ?_
  refine s_getf (k := 13) (v := vr 98) (show decode (am_cc m9_meet) 145 = .ok (.getfield 44, 3) by decide +kernel) kd86 (by decide) rfl jnX9 (by decide) lf_RX9_44 rfl ?_
  refine s_iload (show decode (am_cc m9_meet) 148 = .ok (.iload 9, 2) by decide +kernel) rfl ?_
  refine s_iconst (show decode (am_cc m9_meet) 150 = .ok (.iconst 1, 1) by decide +kernel) ⟨by decide, by decide⟩ ?_
  refine s_bastore (show decode (am_cc m9_meet) 151 = .ok (.bastore, 1) by decide +kernel) kd98 h1 h2 (by decide) ?_
  refine s_aload_n (show decode (am_cc m9_meet) 152 = .ok (.aload_n 0, 1) by decide +kernel) rfl ?_
  refine s_getf (k := 11) (v := vr 96) (show decode (am_cc m9_meet) 153 = .ok (.getfield 38, 3) by decide +kernel) kd86 (by decide) rfl jnX9 (by decide) lf_RX9_38 rfl ?_
  refine s_iload (show decode (am_cc m9_meet) 156 = .ok (.iload 9, 2) by decide +kernel) rfl ?_
  refine s_iload (show decode (am_cc m9_meet) 158 = .ok (.iload 7, 2) by decide +kernel) rfl ?_
  refine s_iastore (show decode (am_cc m9_meet) 160 = .ok (.iastore, 1) by decide +kernel) kd96 h3 h4 ?_
  refine s_aload_n (show decode (am_cc m9_meet) 161 = .ok (.aload_n 0, 1) by decide +kernel) rfl ?_
  refine s_getf (k := 12) (v := vr 97) (show decode (am_cc m9_meet) 162 = .ok (.getfield 41, 3) by decide +kernel) kd86 (by decide) rfl jnX9 (by decide) lf_RX9_41 rfl ?_
  refine s_iload (show decode (am_cc m9_meet) 165 = .ok (.iload 9, 2) by decide +kernel) rfl ?_
  refine s_iload (show decode (am_cc m9_meet) 167 = .ok (.iload 8, 2) by decide +kernel) rfl ?_
  refine s_iastore (show decode (am_cc m9_meet) 169 = .ok (.iastore, 1) by decide +kernel) kd97 h5 h6 ?_
  refine s_aload_n (show decode (am_cc m9_meet) 170 = .ok (.aload_n 0, 1) by decide +kernel) rfl ?_
  refine s_getf (k := 10) (v := vr 95) (show decode (am_cc m9_meet) 171 = .ok (.getfield 35, 3) by decide +kernel) kd86 (by decide) rfl jnX9 (by decide) lf_RX9_35 rfl ?_
  refine s_aload_n (show decode (am_cc m9_meet) 174 = .ok (.aload_n 0, 1) by decide +kernel) rfl ?_
  refine s_getf (k := 15) (v := vi ((am_up (am_up (am_up M 98 a9 1) 96 a9 a7) 97 a9 a8) 86 15)) (show decode (am_cc m9_meet) 175 = .ok (.getfield 174, 3) by decide +kernel) kd86 (by decide) rfl jnX9 (by decide) lf_RX9_174 rfl ?_
  refine s_iload (show decode (am_cc m9_meet) 178 = .ok (.iload 9, 2) by decide +kernel) rfl ?_
  refine s_iastore (show decode (am_cc m9_meet) 180 = .ok (.iastore, 1) by decide +kernel) kd95 h7 h8 ?_
  refine s_aload_n (show decode (am_cc m9_meet) 181 = .ok (.aload_n 0, 1) by decide +kernel) rfl ?_
  refine s_dupr (show decode (am_cc m9_meet) 182 = .ok (.dup, 1) by decide +kernel) ?_
  refine s_getf (k := 15) (v := vi ((am_up (am_up (am_up (am_up M 98 a9 1) 96 a9 a7) 97 a9 a8) 95 ((am_up (am_up (am_up M 98 a9 1) 96 a9 a7) 97 a9 a8) 86 15) a9) 86 15)) (show decode (am_cc m9_meet) 183 = .ok (.getfield 174, 3) by decide +kernel) kd86 (by decide) rfl jnX9 (by decide) lf_RX9_174 rfl ?_
  refine s_iconst (show decode (am_cc m9_meet) 186 = .ok (.iconst 1, 1) by decide +kernel) ⟨by decide, by decide⟩ ?_
  refine s_iadd (show decode (am_cc m9_meet) 187 = .ok (.iadd, 1) by decide +kernel) h9 ?_
  refine s_putf (k := 15) (x := ((am_up (am_up (am_up (am_up M 98 a9 1) 96 a9 a7) 97 a9 a8) 95 ((am_up (am_up (am_up M 98 a9 1) 96 a9 a7) 97 a9 a8) 86 15) a9) 86 15) + 1) (ty0 := tyX9) (show decode (am_cc m9_meet) 188 = .ok (.putfield 174, 3) by decide +kernel) kd86 (by decide) rfl jnX9 tyX9_ok nmX9 (by decide) lf_RX9_174 rfl (Or.inl ⟨rfl, rfl, rfl⟩) ?_
  exact k
theorem g9_meet_191 {a1 a2 a3 a4 a5 a6 a7 a8 a9 : Int} {M : am_M} {Q : Option am_V → am_M → Prop} (h1 : -2147483648 ≤ a8 + 1 ∧ a8 + 1 ≤ 2147483647) (k : am_AtN m9_meet 110 [some (vr 86), some (vi a1), some (vi a2), some (vi a3), some (vi a4), some (vi a5), some (vi a6), some (vi a7), some (vi (a8 + 1)), none] [] KS M Q) : am_AtN m9_meet 191 [some (vr 86), some (vi a1), some (vi a2), some (vi a3), some (vi a4), some (vi a5), some (vi a6), some (vi a7), some (vi a8), some (vi a9)] [] KS M Q := by
  refine s_iinc (show decode (am_cc m9_meet) 191 = .ok (.iinc 8 1, 3) by decide +kernel) rfl (by decide) h1 ?_
  refine s_goto (tgt := 110) (show decode (am_cc m9_meet) 194 = .ok (.goto (-84), 3) by decide +kernel) (by decide) ?_
  refine am_fg 9 ?_
  exact k
theorem g9_meet_197 {a1 a2 a3 a4 a5 a6 a7 a8 : Int} {M : am_M} {Q : Option am_V → am_M → Prop} (h1 : -2147483648 ≤ a6 + 1 ∧ a6 + 1 ≤ 2147483647) (k : am_AtN m9_meet 59 [some (vr 86), some (vi a1), some (vi a2), some (vi a3), some (vi a4), some (vi a5), some (vi (a6 + 1)), none, none, none] [] KS M Q) : am_AtN m9_meet 197 [some (vr 86), some (vi a1), some (vi a2), some (vi a3), some (vi a4), some (vi a5), some (vi a6), some (vi a7), some (vi a8), none] [] KS M Q := by
  refine s_iinc (show decode (am_cc m9_meet) 197 = .ok (.iinc 6 1, 3) by decide +kernel) rfl (by decide) h1 ?_
  refine s_goto (tgt := 59) (show decode (am_cc m9_meet) 200 = .ok (.goto (-141), 3) by decide +kernel) (by decide) ?_
  refine am_fg 7 ?_
  refine am_fg 8 ?_
  exact k
theorem g9_meet_203 {a1 a2 a3 a4 a5 a6 : Int} {M : am_M} {Q : Option am_V → am_M → Prop} (k : Q (some (vi a5)) M) : am_AtN m9_meet 203 [some (vr 86), some (vi a1), some (vi a2), some (vi a3), some (vi a4), some (vi a5), some (vi a6), none, none, none] [] KS M Q := by
  refine s_iload (show decode (am_cc m9_meet) 203 = .ok (.iload 5, 2) by decide +kernel) rfl ?_
  exact s_ireturn (show decode (am_cc m9_meet) 205 = .ok (.ireturn, 1) by decide +kernel) rfl k
theorem g9_claim_0 {a1 a2 a3 a4 : Int} {M : am_M} {Q : Option am_V → am_M → Prop} (k : am_CallN m9_noClaim [vi a1, vi a2, vi a3, vi a4] KS (am_up M 86 0 0) (fun r M' => am_AtN m9_claim 13 [some (vr 86), some (vi a1), some (vi a2), some (vi a3), some (vi a4)] (r.toList ++ []) KS M' Q)) : am_AtN m9_claim 0 [some (vr 86), some (vi a1), some (vi a2), some (vi a3), some (vi a4)] [] KS M Q := by
  refine s_aload_n (show decode (am_cc m9_claim) 0 = .ok (.aload_n 0, 1) by decide +kernel) rfl ?_
  refine s_iconst (show decode (am_cc m9_claim) 1 = .ok (.iconst 0, 1) by decide +kernel) ⟨by decide, by decide⟩ ?_
  refine s_putf (k := 0) (x := 0) (ty0 := tyX9) (show decode (am_cc m9_claim) 2 = .ok (.putfield 95, 3) by decide +kernel) kd86 (by decide) rfl jnX9 tyX9_ok nmX9 (by decide) lf_RX9_95 rfl (Or.inl ⟨rfl, rfl, rfl⟩) ?_
  refine s_iload_n (show decode (am_cc m9_claim) 5 = .ok (.iload_n 1, 1) by decide +kernel) rfl ?_
  refine s_iload_n (show decode (am_cc m9_claim) 6 = .ok (.iload_n 2, 1) by decide +kernel) rfl ?_
  refine s_iload_n (show decode (am_cc m9_claim) 7 = .ok (.iload_n 3, 1) by decide +kernel) rfl ?_
  refine s_iload (show decode (am_cc m9_claim) 8 = .ok (.iload 4, 2) by decide +kernel) rfl ?_
  exact n_callS (as := [vi a1, vi a2, vi a3, vi a4]) (stk := []) (show decode (am_cc m9_claim) 10 = .ok (.invokestatic 185, 3) by decide +kernel) lk_RX9_185 (by decide) (Nat.le_of_ble_eq_true rfl) ⟨rfl, rfl⟩ k
theorem g9_claim_13 {a1 a2 a3 a4 t0 : Int} {M : am_M} {Q : Option am_V → am_M → Prop} (k1 : t0 = 0 → am_AtN m9_claim 20 [some (vr 86), some (vi a1), some (vi a2), some (vi a3), some (vi a4)] [] KS M Q) (k2 : ¬ (t0 = 0) → am_AtN m9_claim 16 [some (vr 86), some (vi a1), some (vi a2), some (vi a3), some (vi a4)] [] KS M Q) : am_AtN m9_claim 13 [some (vr 86), some (vi a1), some (vi a2), some (vi a3), some (vi a4)] [vi t0] KS M Q := by
  exact s_if_eq (tgt := 20) (show decode (am_cc m9_claim) 13 = .ok (.ifCond .eq 7, 3) by decide +kernel) (by decide) k1 k2
theorem g9_claim_16 {a1 a2 a3 a4 : Int} {M : am_M} {Q : Option am_V → am_M → Prop} (k : am_AtN m9_claim 39 [some (vr 86), some (vi a1), some (vi a2), some (vi a3), some (vi a4)] [vi (-1)] KS M Q) : am_AtN m9_claim 16 [some (vr 86), some (vi a1), some (vi a2), some (vi a3), some (vi a4)] [] KS M Q := by
  refine s_iconst (show decode (am_cc m9_claim) 16 = .ok (.iconst (-1), 1) by decide +kernel) ⟨by decide, by decide⟩ ?_
  refine s_goto (tgt := 39) (show decode (am_cc m9_claim) 17 = .ok (.goto 22, 3) by decide +kernel) (by decide) ?_
  exact k
theorem g9_claim_20 {a1 a2 a3 a4 : Int} {M : am_M} {Q : Option am_V → am_M → Prop} (k : am_CallN m9_meet [vr 86, vi a1, vi a2, vi a3, vi a4] KS M (fun r M' => am_AtN m9_claim 29 [some (vr 86), some (vi a1), some (vi a2), some (vi a3), some (vi a4)] (r.toList ++ []) KS M' Q)) : am_AtN m9_claim 20 [some (vr 86), some (vi a1), some (vi a2), some (vi a3), some (vi a4)] [] KS M Q := by
  refine s_aload_n (show decode (am_cc m9_claim) 20 = .ok (.aload_n 0, 1) by decide +kernel) rfl ?_
  refine s_iload_n (show decode (am_cc m9_claim) 21 = .ok (.iload_n 1, 1) by decide +kernel) rfl ?_
  refine s_iload_n (show decode (am_cc m9_claim) 22 = .ok (.iload_n 2, 1) by decide +kernel) rfl ?_
  refine s_iload_n (show decode (am_cc m9_claim) 23 = .ok (.iload_n 3, 1) by decide +kernel) rfl ?_
  refine s_iload (show decode (am_cc m9_claim) 24 = .ok (.iload 4, 2) by decide +kernel) rfl ?_
  exact n_callV (as := [vi a1, vi a2, vi a3, vi a4]) (stk := []) (show decode (am_cc m9_claim) 26 = .ok (.invokevirtual 189, 3) by decide +kernel) lk_RX9_189 kd86 (by decide) rfl rfl (by decide) (Nat.le_of_ble_eq_true rfl) ⟨rfl, rfl⟩ k
theorem g9_claim_29 {a1 a2 a3 a4 t0 : Int} {M : am_M} {Q : Option am_V → am_M → Prop} (k1 : ¬ t0 = -9 → am_AtN m9_claim 38 [some (vr 86), some (vi a1), some (vi a2), some (vi a3), some (vi a4)] [] KS M Q) (k2 : t0 = -9 → am_AtN m9_claim 34 [some (vr 86), some (vi a1), some (vi a2), some (vi a3), some (vi a4)] [] KS M Q) : am_AtN m9_claim 29 [some (vr 86), some (vi a1), some (vi a2), some (vi a3), some (vi a4)] [vi t0] KS M Q := by
  refine s_bipush (show decode (am_cc m9_claim) 29 = .ok (.bipush (-9), 2) by decide +kernel) ⟨by decide, by decide⟩ (by decide) ?_
  exact s_icmp_ne (tgt := 38) (show decode (am_cc m9_claim) 31 = .ok (.if_icmp .ne 7, 3) by decide +kernel) (by decide) k1 k2
theorem g9_claim_34 {a1 a2 a3 a4 : Int} {M : am_M} {Q : Option am_V → am_M → Prop} (k : am_AtN m9_claim 39 [some (vr 86), some (vi a1), some (vi a2), some (vi a3), some (vi a4)] [vi 1] KS M Q) : am_AtN m9_claim 34 [some (vr 86), some (vi a1), some (vi a2), some (vi a3), some (vi a4)] [] KS M Q := by
  refine s_iconst (show decode (am_cc m9_claim) 34 = .ok (.iconst 1, 1) by decide +kernel) ⟨by decide, by decide⟩ ?_
  refine s_goto (tgt := 39) (show decode (am_cc m9_claim) 35 = .ok (.goto 4, 3) by decide +kernel) (by decide) ?_
  exact k
theorem g9_claim_38 {a1 a2 a3 a4 : Int} {M : am_M} {Q : Option am_V → am_M → Prop} (k : am_AtN m9_claim 39 [some (vr 86), some (vi a1), some (vi a2), some (vi a3), some (vi a4)] [vi 0] KS M Q) : am_AtN m9_claim 38 [some (vr 86), some (vi a1), some (vi a2), some (vi a3), some (vi a4)] [] KS M Q := by
  refine s_iconst (show decode (am_cc m9_claim) 38 = .ok (.iconst 0, 1) by decide +kernel) ⟨by decide, by decide⟩ ?_
  exact k
theorem g9_claim_39 {a1 a2 a3 a4 t0 : Int} {M : am_M} {Q : Option am_V → am_M → Prop} (k : Q (some (vi t0)) M) : am_AtN m9_claim 39 [some (vr 86), some (vi a1), some (vi a2), some (vi a3), some (vi a4)] [vi t0] KS M Q := by
  exact s_ireturn (show decode (am_cc m9_claim) 39 = .ok (.ireturn, 1) by decide +kernel) rfl k
theorem g9_told_0 {a1 a2 : Int} {M : am_M} {Q : Option am_V → am_M → Prop} (k : am_AtN m9_told 5 [some (vr 86), some (vi a1), some (vi a2), some (vi 0), some (vi a1)] [] KS M Q) : am_AtN m9_told 0 [some (vr 86), some (vi a1), some (vi a2), none, none] [] KS M Q := by
  refine s_iconst (show decode (am_cc m9_told) 0 = .ok (.iconst 0, 1) by decide +kernel) ⟨by decide, by decide⟩ ?_
  refine s_istore_n (show decode (am_cc m9_told) 1 = .ok (.istore_n 3, 1) by decide +kernel) (by decide) ?_
  refine s_iload_n (show decode (am_cc m9_told) 2 = .ok (.iload_n 1, 1) by decide +kernel) rfl ?_
  refine s_istore (show decode (am_cc m9_told) 3 = .ok (.istore 4, 2) by decide +kernel) (by decide) ?_
  exact k
theorem g9_told_5 {a1 a2 a3 a4 : Int} {M : am_M} {Q : Option am_V → am_M → Prop} (h1 : 0 ≤ a4) (h2 : a4 < 1296) (k1 : M 96 a4 = -9 → am_AtN m9_told 45 [some (vr 86), some (vi a1), some (vi a2), some (vi a3), some (vi a4)] [] KS M Q) (k2 : ¬ (M 96 a4 = -9) → am_AtN m9_told 17 [some (vr 86), some (vi a1), some (vi a2), some (vi a3), some (vi a4)] [] KS M Q) : am_AtN m9_told 5 [some (vr 86), some (vi a1), some (vi a2), some (vi a3), some (vi a4)] [] KS M Q := by
  refine s_aload_n (show decode (am_cc m9_told) 5 = .ok (.aload_n 0, 1) by decide +kernel) rfl ?_
  refine s_getf (k := 11) (v := vr 96) (show decode (am_cc m9_told) 6 = .ok (.getfield 38, 3) by decide +kernel) kd86 (by decide) rfl jnX9 (by decide) lf_RX9_38 rfl ?_
  refine s_iload (show decode (am_cc m9_told) 9 = .ok (.iload 4, 2) by decide +kernel) rfl ?_
  refine s_iaload (show decode (am_cc m9_told) 11 = .ok (.iaload, 1) by decide +kernel) kd96 h1 h2 ?_
  refine s_bipush (show decode (am_cc m9_told) 12 = .ok (.bipush (-9), 2) by decide +kernel) ⟨by decide, by decide⟩ (by decide) ?_
  exact s_icmp_eq (tgt := 45) (show decode (am_cc m9_told) 14 = .ok (.if_icmp .eq 31, 3) by decide +kernel) (by decide) k1 k2
theorem g9_told_17 {a1 a2 a3 a4 : Int} {M : am_M} {Q : Option am_V → am_M → Prop} (h1 : 0 ≤ a4) (h2 : a4 < 1296) (h3 : 0 ≤ a3) (h4 : a3 < 1296) (h5 : -2147483648 ≤ a3 + 1 ∧ a3 + 1 ≤ 2147483647) (h6 : 0 ≤ a4) (h7 : a4 < 1296) (k : am_AtN m9_told 5 [some (vr 86), some (vi a1), some (vi a2), some (vi (a3 + 1)), some (vi ((am_up M 112 a3 (M 97 a4)) 96 a4))] [] KS (am_up M 112 a3 (M 97 a4)) Q) : am_AtN m9_told 17 [some (vr 86), some (vi a1), some (vi a2), some (vi a3), some (vi a4)] [] KS M Q := by
  refine s_aload_n (show decode (am_cc m9_told) 17 = .ok (.aload_n 0, 1) by decide +kernel) rfl ?_
  refine s_getf (k := 35) (v := vr 112) (show decode (am_cc m9_told) 18 = .ok (.getfield 88, 3) by decide +kernel) kd86 (by decide) rfl jnX9 (by decide) lf_RX9_88 rfl ?_
  refine s_iload_n (show decode (am_cc m9_told) 21 = .ok (.iload_n 3, 1) by decide +kernel) rfl ?_
  refine s_aload_n (show decode (am_cc m9_told) 22 = .ok (.aload_n 0, 1) by decide +kernel) rfl ?_
  refine s_getf (k := 12) (v := vr 97) (show decode (am_cc m9_told) 23 = .ok (.getfield 41, 3) by decide +kernel) kd86 (by decide) rfl jnX9 (by decide) lf_RX9_41 rfl ?_
  refine s_iload (show decode (am_cc m9_told) 26 = .ok (.iload 4, 2) by decide +kernel) rfl ?_
  refine s_iaload (show decode (am_cc m9_told) 28 = .ok (.iaload, 1) by decide +kernel) kd97 h1 h2 ?_
  refine s_iastore (show decode (am_cc m9_told) 29 = .ok (.iastore, 1) by decide +kernel) kd112 h3 h4 ?_
  refine s_iinc (show decode (am_cc m9_told) 30 = .ok (.iinc 3 1, 3) by decide +kernel) rfl (by decide) h5 ?_
  refine s_aload_n (show decode (am_cc m9_told) 33 = .ok (.aload_n 0, 1) by decide +kernel) rfl ?_
  refine s_getf (k := 11) (v := vr 96) (show decode (am_cc m9_told) 34 = .ok (.getfield 38, 3) by decide +kernel) kd86 (by decide) rfl jnX9 (by decide) lf_RX9_38 rfl ?_
  refine s_iload (show decode (am_cc m9_told) 37 = .ok (.iload 4, 2) by decide +kernel) rfl ?_
  refine s_iaload (show decode (am_cc m9_told) 39 = .ok (.iaload, 1) by decide +kernel) kd96 h6 h7 ?_
  refine s_istore (show decode (am_cc m9_told) 40 = .ok (.istore 4, 2) by decide +kernel) (by decide) ?_
  refine s_goto (tgt := 5) (show decode (am_cc m9_told) 42 = .ok (.goto (-37), 3) by decide +kernel) (by decide) ?_
  exact k
theorem g9_told_45 {a1 a2 a3 a4 : Int} {M : am_M} {Q : Option am_V → am_M → Prop} (k1 : ¬ a2 = -1 → am_AtN m9_told 54 [some (vr 86), some (vi a1), some (vi a2), some (vi a3), some (vi a4)] [] KS M Q) (k2 : a2 = -1 → am_AtN m9_told 50 [some (vr 86), some (vi a1), some (vi a2), some (vi a3), some (vi a4)] [] KS M Q) : am_AtN m9_told 45 [some (vr 86), some (vi a1), some (vi a2), some (vi a3), some (vi a4)] [] KS M Q := by
  refine s_iload_n (show decode (am_cc m9_told) 45 = .ok (.iload_n 2, 1) by decide +kernel) rfl ?_
  refine s_iconst (show decode (am_cc m9_told) 46 = .ok (.iconst (-1), 1) by decide +kernel) ⟨by decide, by decide⟩ ?_
  exact s_icmp_ne (tgt := 54) (show decode (am_cc m9_told) 47 = .ok (.if_icmp .ne 7, 3) by decide +kernel) (by decide) k1 k2
theorem g9_told_50 {a1 a2 a3 a4 : Int} {M : am_M} {Q : Option am_V → am_M → Prop} (k : am_AtN m9_told 74 [some (vr 86), some (vi a1), some (vi a2), some (vi a3), some (vi a4)] [vi a3] KS M Q) : am_AtN m9_told 50 [some (vr 86), some (vi a1), some (vi a2), some (vi a3), some (vi a4)] [] KS M Q := by
  refine s_iload_n (show decode (am_cc m9_told) 50 = .ok (.iload_n 3, 1) by decide +kernel) rfl ?_
  refine s_goto (tgt := 74) (show decode (am_cc m9_told) 51 = .ok (.goto 23, 3) by decide +kernel) (by decide) ?_
  exact k
theorem g9_told_54 {a1 a2 a3 a4 : Int} {M : am_M} {Q : Option am_V → am_M → Prop} (k1 : a3 ≤ a2 → am_AtN m9_told 72 [some (vr 86), some (vi a1), some (vi a2), some (vi a3), some (vi a4)] [] KS M Q) (k2 : ¬ (a3 ≤ a2) → am_AtN m9_told 59 [some (vr 86), some (vi a1), some (vi a2), some (vi a3), some (vi a4)] [] KS M Q) : am_AtN m9_told 54 [some (vr 86), some (vi a1), some (vi a2), some (vi a3), some (vi a4)] [] KS M Q := by
  refine s_iload_n (show decode (am_cc m9_told) 54 = .ok (.iload_n 2, 1) by decide +kernel) rfl ?_
  refine s_iload_n (show decode (am_cc m9_told) 55 = .ok (.iload_n 3, 1) by decide +kernel) rfl ?_
  exact s_icmp_ge (tgt := 72) (show decode (am_cc m9_told) 56 = .ok (.if_icmp .ge 16, 3) by decide +kernel) (by decide) k1 k2
theorem g9_told_59 {a1 a2 a3 a4 : Int} {M : am_M} {Q : Option am_V → am_M → Prop} (h1 : -2147483648 ≤ a3 - 1 ∧ a3 - 1 ≤ 2147483647) (h2 : -2147483648 ≤ (a3 - 1) - a2 ∧ (a3 - 1) - a2 ≤ 2147483647) (h3 : 0 ≤ (a3 - 1) - a2) (h4 : (a3 - 1) - a2 < 1296) (k : am_AtN m9_told 74 [some (vr 86), some (vi a1), some (vi a2), some (vi a3), some (vi a4)] [vi (M 112 ((a3 - 1) - a2))] KS M Q) : am_AtN m9_told 59 [some (vr 86), some (vi a1), some (vi a2), some (vi a3), some (vi a4)] [] KS M Q := by
  refine s_aload_n (show decode (am_cc m9_told) 59 = .ok (.aload_n 0, 1) by decide +kernel) rfl ?_
  refine s_getf (k := 35) (v := vr 112) (show decode (am_cc m9_told) 60 = .ok (.getfield 88, 3) by decide +kernel) kd86 (by decide) rfl jnX9 (by decide) lf_RX9_88 rfl ?_
  refine s_iload_n (show decode (am_cc m9_told) 63 = .ok (.iload_n 3, 1) by decide +kernel) rfl ?_
  refine s_iconst (show decode (am_cc m9_told) 64 = .ok (.iconst 1, 1) by decide +kernel) ⟨by decide, by decide⟩ ?_
  refine s_isub (show decode (am_cc m9_told) 65 = .ok (.isub, 1) by decide +kernel) h1 ?_
  refine s_iload_n (show decode (am_cc m9_told) 66 = .ok (.iload_n 2, 1) by decide +kernel) rfl ?_
  refine s_isub (show decode (am_cc m9_told) 67 = .ok (.isub, 1) by decide +kernel) h2 ?_
  refine s_iaload (show decode (am_cc m9_told) 68 = .ok (.iaload, 1) by decide +kernel) kd112 h3 h4 ?_
  refine s_goto (tgt := 74) (show decode (am_cc m9_told) 69 = .ok (.goto 5, 3) by decide +kernel) (by decide) ?_
  exact k
theorem g9_told_72 {a1 a2 a3 a4 : Int} {M : am_M} {Q : Option am_V → am_M → Prop} (k : am_AtN m9_told 74 [some (vr 86), some (vi a1), some (vi a2), some (vi a3), some (vi a4)] [vi (-9)] KS M Q) : am_AtN m9_told 72 [some (vr 86), some (vi a1), some (vi a2), some (vi a3), some (vi a4)] [] KS M Q := by
  refine s_bipush (show decode (am_cc m9_told) 72 = .ok (.bipush (-9), 2) by decide +kernel) ⟨by decide, by decide⟩ (by decide) ?_
  exact k
theorem g9_told_74 {a1 a2 a3 a4 t0 : Int} {M : am_M} {Q : Option am_V → am_M → Prop} (k : Q (some (vi t0)) M) : am_AtN m9_told 74 [some (vr 86), some (vi a1), some (vi a2), some (vi a3), some (vi a4)] [vi t0] KS M Q := by
  exact s_ireturn (show decode (am_cc m9_told) 74 = .ok (.ireturn, 1) by decide +kernel) rfl k
theorem g9_picture_0 {a1 a2 a3 a4 a5 : Int} {M : am_M} {Q : Option am_V → am_M → Prop} (k : am_CallN m9_noClaim [vi a1, vi a2, vi a3, vi a4] KS (am_up M 86 0 0) (fun r M' => am_AtN m9_picture 13 [some (vr 86), some (vi a1), some (vi a2), some (vi a3), some (vi a4), some (vi a5), none] (r.toList ++ []) KS M' Q)) : am_AtN m9_picture 0 [some (vr 86), some (vi a1), some (vi a2), some (vi a3), some (vi a4), some (vi a5), none] [] KS M Q := by
  refine s_aload_n (show decode (am_cc m9_picture) 0 = .ok (.aload_n 0, 1) by decide +kernel) rfl ?_
  refine s_iconst (show decode (am_cc m9_picture) 1 = .ok (.iconst 0, 1) by decide +kernel) ⟨by decide, by decide⟩ ?_
  refine s_putf (k := 0) (x := 0) (ty0 := tyX9) (show decode (am_cc m9_picture) 2 = .ok (.putfield 95, 3) by decide +kernel) kd86 (by decide) rfl jnX9 tyX9_ok nmX9 (by decide) lf_RX9_95 rfl (Or.inl ⟨rfl, rfl, rfl⟩) ?_
  refine s_iload_n (show decode (am_cc m9_picture) 5 = .ok (.iload_n 1, 1) by decide +kernel) rfl ?_
  refine s_iload_n (show decode (am_cc m9_picture) 6 = .ok (.iload_n 2, 1) by decide +kernel) rfl ?_
  refine s_iload_n (show decode (am_cc m9_picture) 7 = .ok (.iload_n 3, 1) by decide +kernel) rfl ?_
  refine s_iload (show decode (am_cc m9_picture) 8 = .ok (.iload 4, 2) by decide +kernel) rfl ?_
  exact n_callS (as := [vi a1, vi a2, vi a3, vi a4]) (stk := []) (show decode (am_cc m9_picture) 10 = .ok (.invokestatic 185, 3) by decide +kernel) lk_RX9_185 (by decide) (Nat.le_of_ble_eq_true rfl) ⟨rfl, rfl⟩ k
theorem g9_picture_13 {a1 a2 a3 a4 a5 t0 : Int} {M : am_M} {Q : Option am_V → am_M → Prop} (k1 : t0 = 0 → am_AtN m9_picture 18 [some (vr 86), some (vi a1), some (vi a2), some (vi a3), some (vi a4), some (vi a5), none] [] KS M Q) (k2 : ¬ (t0 = 0) → am_AtN m9_picture 16 [some (vr 86), some (vi a1), some (vi a2), some (vi a3), some (vi a4), some (vi a5), none] [] KS M Q) : am_AtN m9_picture 13 [some (vr 86), some (vi a1), some (vi a2), some (vi a3), some (vi a4), some (vi a5), none] [vi t0] KS M Q := by
  exact s_if_eq (tgt := 18) (show decode (am_cc m9_picture) 13 = .ok (.ifCond .eq 5, 3) by decide +kernel) (by decide) k1 k2
theorem g9_picture_16 {a1 a2 a3 a4 a5 : Int} {M : am_M} {Q : Option am_V → am_M → Prop} (k : Q (some (vi (-1))) M) : am_AtN m9_picture 16 [some (vr 86), some (vi a1), some (vi a2), some (vi a3), some (vi a4), some (vi a5), none] [] KS M Q := by
  refine s_iconst (show decode (am_cc m9_picture) 16 = .ok (.iconst (-1), 1) by decide +kernel) ⟨by decide, by decide⟩ ?_
  exact s_ireturn (show decode (am_cc m9_picture) 17 = .ok (.ireturn, 1) by decide +kernel) rfl k
theorem g9_picture_18 {a1 a2 a3 a4 a5 : Int} {M : am_M} {Q : Option am_V → am_M → Prop} (k1 : -1 ≤ a5 → am_AtN m9_picture 27 [some (vr 86), some (vi a1), some (vi a2), some (vi a3), some (vi a4), some (vi a5), none] [] KS M Q) (k2 : ¬ (-1 ≤ a5) → am_AtN m9_picture 24 [some (vr 86), some (vi a1), some (vi a2), some (vi a3), some (vi a4), some (vi a5), none] [] KS M Q) : am_AtN m9_picture 18 [some (vr 86), some (vi a1), some (vi a2), some (vi a3), some (vi a4), some (vi a5), none] [] KS M Q := by
  refine s_iload (show decode (am_cc m9_picture) 18 = .ok (.iload 5, 2) by decide +kernel) rfl ?_
  refine s_iconst (show decode (am_cc m9_picture) 20 = .ok (.iconst (-1), 1) by decide +kernel) ⟨by decide, by decide⟩ ?_
  exact s_icmp_ge (tgt := 27) (show decode (am_cc m9_picture) 21 = .ok (.if_icmp .ge 6, 3) by decide +kernel) (by decide) k1 k2
theorem g9_picture_24 {a1 a2 a3 a4 a5 : Int} {M : am_M} {Q : Option am_V → am_M → Prop} (k : Q (some (vi (-2))) M) : am_AtN m9_picture 24 [some (vr 86), some (vi a1), some (vi a2), some (vi a3), some (vi a4), some (vi a5), none] [] KS M Q := by
  refine s_bipush (show decode (am_cc m9_picture) 24 = .ok (.bipush (-2), 2) by decide +kernel) ⟨by decide, by decide⟩ (by decide) ?_
  exact s_ireturn (show decode (am_cc m9_picture) 26 = .ok (.ireturn, 1) by decide +kernel) rfl k
theorem g9_picture_27 {a1 a2 a3 a4 a5 : Int} {M : am_M} {Q : Option am_V → am_M → Prop} (k : am_CallN m9_meet [vr 86, vi a1, vi a2, vi a3, vi a4] KS M (fun r M' => am_AtN m9_picture 36 [some (vr 86), some (vi a1), some (vi a2), some (vi a3), some (vi a4), some (vi a5), none] (r.toList ++ []) KS M' Q)) : am_AtN m9_picture 27 [some (vr 86), some (vi a1), some (vi a2), some (vi a3), some (vi a4), some (vi a5), none] [] KS M Q := by
  refine s_aload_n (show decode (am_cc m9_picture) 27 = .ok (.aload_n 0, 1) by decide +kernel) rfl ?_
  refine s_iload_n (show decode (am_cc m9_picture) 28 = .ok (.iload_n 1, 1) by decide +kernel) rfl ?_
  refine s_iload_n (show decode (am_cc m9_picture) 29 = .ok (.iload_n 2, 1) by decide +kernel) rfl ?_
  refine s_iload_n (show decode (am_cc m9_picture) 30 = .ok (.iload_n 3, 1) by decide +kernel) rfl ?_
  refine s_iload (show decode (am_cc m9_picture) 31 = .ok (.iload 4, 2) by decide +kernel) rfl ?_
  exact n_callV (as := [vi a1, vi a2, vi a3, vi a4]) (stk := []) (show decode (am_cc m9_picture) 33 = .ok (.invokevirtual 189, 3) by decide +kernel) lk_RX9_189 kd86 (by decide) rfl rfl (by decide) (Nat.le_of_ble_eq_true rfl) ⟨rfl, rfl⟩ k
theorem g9_picture_36 {a1 a2 a3 a4 a5 t0 : Int} {M : am_M} {Q : Option am_V → am_M → Prop} (k1 : ¬ t0 = -9 → am_AtN m9_picture 50 [some (vr 86), some (vi a1), some (vi a2), some (vi a3), some (vi a4), some (vi a5), some (vi t0)] [] KS M Q) (k2 : t0 = -9 → am_AtN m9_picture 45 [some (vr 86), some (vi a1), some (vi a2), some (vi a3), some (vi a4), some (vi a5), some (vi t0)] [] KS M Q) : am_AtN m9_picture 36 [some (vr 86), some (vi a1), some (vi a2), some (vi a3), some (vi a4), some (vi a5), none] [vi t0] KS M Q := by
  refine s_istore (show decode (am_cc m9_picture) 36 = .ok (.istore 6, 2) by decide +kernel) (by decide) ?_
  refine s_iload (show decode (am_cc m9_picture) 38 = .ok (.iload 6, 2) by decide +kernel) rfl ?_
  refine s_bipush (show decode (am_cc m9_picture) 40 = .ok (.bipush (-9), 2) by decide +kernel) ⟨by decide, by decide⟩ (by decide) ?_
  exact s_icmp_ne (tgt := 50) (show decode (am_cc m9_picture) 42 = .ok (.if_icmp .ne 8, 3) by decide +kernel) (by decide) k1 k2
theorem g9_picture_45 {a1 a2 a3 a4 a5 a6 : Int} {M : am_M} {Q : Option am_V → am_M → Prop} (k : am_AtN m9_picture 58 [some (vr 86), some (vi a1), some (vi a2), some (vi a3), some (vi a4), some (vi a5), some (vi a6)] [vi (-9)] KS M Q) : am_AtN m9_picture 45 [some (vr 86), some (vi a1), some (vi a2), some (vi a3), some (vi a4), some (vi a5), some (vi a6)] [] KS M Q := by
  refine s_bipush (show decode (am_cc m9_picture) 45 = .ok (.bipush (-9), 2) by decide +kernel) ⟨by decide, by decide⟩ (by decide) ?_
  refine s_goto (tgt := 58) (show decode (am_cc m9_picture) 47 = .ok (.goto 11, 3) by decide +kernel) (by decide) ?_
  exact k
theorem g9_picture_50 {a1 a2 a3 a4 a5 a6 : Int} {M : am_M} {Q : Option am_V → am_M → Prop} (k : am_CallN m9_told [vr 86, vi a6, vi a5] KS M (fun r M' => am_AtN m9_picture 58 [some (vr 86), some (vi a1), some (vi a2), some (vi a3), some (vi a4), some (vi a5), some (vi a6)] (r.toList ++ []) KS M' Q)) : am_AtN m9_picture 50 [some (vr 86), some (vi a1), some (vi a2), some (vi a3), some (vi a4), some (vi a5), some (vi a6)] [] KS M Q := by
  refine s_aload_n (show decode (am_cc m9_picture) 50 = .ok (.aload_n 0, 1) by decide +kernel) rfl ?_
  refine s_iload (show decode (am_cc m9_picture) 51 = .ok (.iload 6, 2) by decide +kernel) rfl ?_
  refine s_iload (show decode (am_cc m9_picture) 53 = .ok (.iload 5, 2) by decide +kernel) rfl ?_
  exact n_callV (as := [vi a6, vi a5]) (stk := []) (show decode (am_cc m9_picture) 55 = .ok (.invokevirtual 192, 3) by decide +kernel) lk_RX9_192 kd86 (by decide) rfl rfl (by decide) (Nat.le_of_ble_eq_true rfl) ⟨rfl, rfl⟩ k
theorem g9_picture_58 {a1 a2 a3 a4 a5 a6 t0 : Int} {M : am_M} {Q : Option am_V → am_M → Prop} (k : Q (some (vi t0)) M) : am_AtN m9_picture 58 [some (vr 86), some (vi a1), some (vi a2), some (vi a3), some (vi a4), some (vi a5), some (vi a6)] [vi t0] KS M Q := by
  exact s_ireturn (show decode (am_cc m9_picture) 58 = .ok (.ireturn, 1) by decide +kernel) rfl k
theorem g9_met_0 {a1 a2 a3 a4 : Int} {M : am_M} {Q : Option am_V → am_M → Prop} (k : am_CallN m9_noClaim [vi a1, vi a2, vi a3, vi a4] KS (am_up M 86 0 0) (fun r M' => am_AtN m9_met 13 [some (vr 86), some (vi a1), some (vi a2), some (vi a3), some (vi a4)] (r.toList ++ []) KS M' Q)) : am_AtN m9_met 0 [some (vr 86), some (vi a1), some (vi a2), some (vi a3), some (vi a4)] [] KS M Q := by
  refine s_aload_n (show decode (am_cc m9_met) 0 = .ok (.aload_n 0, 1) by decide +kernel) rfl ?_
  refine s_iconst (show decode (am_cc m9_met) 1 = .ok (.iconst 0, 1) by decide +kernel) ⟨by decide, by decide⟩ ?_
  refine s_putf (k := 0) (x := 0) (ty0 := tyX9) (show decode (am_cc m9_met) 2 = .ok (.putfield 95, 3) by decide +kernel) kd86 (by decide) rfl jnX9 tyX9_ok nmX9 (by decide) lf_RX9_95 rfl (Or.inl ⟨rfl, rfl, rfl⟩) ?_
  refine s_iload_n (show decode (am_cc m9_met) 5 = .ok (.iload_n 1, 1) by decide +kernel) rfl ?_
  refine s_iload_n (show decode (am_cc m9_met) 6 = .ok (.iload_n 2, 1) by decide +kernel) rfl ?_
  refine s_iload_n (show decode (am_cc m9_met) 7 = .ok (.iload_n 3, 1) by decide +kernel) rfl ?_
  refine s_iload (show decode (am_cc m9_met) 8 = .ok (.iload 4, 2) by decide +kernel) rfl ?_
  exact n_callS (as := [vi a1, vi a2, vi a3, vi a4]) (stk := []) (show decode (am_cc m9_met) 10 = .ok (.invokestatic 185, 3) by decide +kernel) lk_RX9_185 (by decide) (Nat.le_of_ble_eq_true rfl) ⟨rfl, rfl⟩ k
theorem g9_met_13 {a1 a2 a3 a4 t0 : Int} {M : am_M} {Q : Option am_V → am_M → Prop} (k1 : t0 = 0 → am_AtN m9_met 18 [some (vr 86), some (vi a1), some (vi a2), some (vi a3), some (vi a4)] [] KS M Q) (k2 : ¬ (t0 = 0) → am_AtN m9_met 16 [some (vr 86), some (vi a1), some (vi a2), some (vi a3), some (vi a4)] [] KS M Q) : am_AtN m9_met 13 [some (vr 86), some (vi a1), some (vi a2), some (vi a3), some (vi a4)] [vi t0] KS M Q := by
  exact s_if_eq (tgt := 18) (show decode (am_cc m9_met) 13 = .ok (.ifCond .eq 5, 3) by decide +kernel) (by decide) k1 k2
theorem g9_met_16 {a1 a2 a3 a4 : Int} {M : am_M} {Q : Option am_V → am_M → Prop} (k : Q (some (vi (-1))) M) : am_AtN m9_met 16 [some (vr 86), some (vi a1), some (vi a2), some (vi a3), some (vi a4)] [] KS M Q := by
  refine s_iconst (show decode (am_cc m9_met) 16 = .ok (.iconst (-1), 1) by decide +kernel) ⟨by decide, by decide⟩ ?_
  exact s_ireturn (show decode (am_cc m9_met) 17 = .ok (.ireturn, 1) by decide +kernel) rfl k
theorem g9_met_18 {a1 a2 a3 a4 : Int} {M : am_M} {Q : Option am_V → am_M → Prop} (k : am_CallN m9_meet [vr 86, vi a1, vi a2, vi a3, vi a4] KS M (fun r M' => am_AtN m9_met 27 [some (vr 86), some (vi a1), some (vi a2), some (vi a3), some (vi a4)] (r.toList ++ []) KS M' Q)) : am_AtN m9_met 18 [some (vr 86), some (vi a1), some (vi a2), some (vi a3), some (vi a4)] [] KS M Q := by
  refine s_aload_n (show decode (am_cc m9_met) 18 = .ok (.aload_n 0, 1) by decide +kernel) rfl ?_
  refine s_iload_n (show decode (am_cc m9_met) 19 = .ok (.iload_n 1, 1) by decide +kernel) rfl ?_
  refine s_iload_n (show decode (am_cc m9_met) 20 = .ok (.iload_n 2, 1) by decide +kernel) rfl ?_
  refine s_iload_n (show decode (am_cc m9_met) 21 = .ok (.iload_n 3, 1) by decide +kernel) rfl ?_
  refine s_iload (show decode (am_cc m9_met) 22 = .ok (.iload 4, 2) by decide +kernel) rfl ?_
  exact n_callV (as := [vi a1, vi a2, vi a3, vi a4]) (stk := []) (show decode (am_cc m9_met) 24 = .ok (.invokevirtual 189, 3) by decide +kernel) lk_RX9_189 kd86 (by decide) rfl rfl (by decide) (Nat.le_of_ble_eq_true rfl) ⟨rfl, rfl⟩ k
theorem g9_met_27 {a1 a2 a3 a4 t0 : Int} {M : am_M} {Q : Option am_V → am_M → Prop} (k : Q (some (vi (M 86 15))) M) : am_AtN m9_met 27 [some (vr 86), some (vi a1), some (vi a2), some (vi a3), some (vi a4)] [vi t0] KS M Q := by
  refine s_popi (show decode (am_cc m9_met) 27 = .ok (.pop, 1) by decide +kernel) ?_
  refine s_aload_n (show decode (am_cc m9_met) 28 = .ok (.aload_n 0, 1) by decide +kernel) rfl ?_
  refine s_getf (k := 15) (v := vi (M 86 15)) (show decode (am_cc m9_met) 29 = .ok (.getfield 174, 3) by decide +kernel) kd86 (by decide) rfl jnX9 (by decide) lf_RX9_174 rfl ?_
  exact s_ireturn (show decode (am_cc m9_met) 32 = .ok (.ireturn, 1) by decide +kernel) rfl k
